theorem dX9_setPaper_0 : decode cX9_setPaper 0 = .ok (.iload_n 1, 1) := by decide +kernel
theorem dX9_setPaper_1 : decode cX9_setPaper 1 = .ok (.iconst 1, 1) := by decide +kernel
theorem dX9_setPaper_2 : decode cX9_setPaper 2 = .ok (.if_icmp .lt 21, 3) := by decide +kernel
theorem dX9_setPaper_5 : decode cX9_setPaper 5 = .ok (.iload_n 1, 1) := by decide +kernel
theorem dX9_setPaper_6 : decode cX9_setPaper 6 = .ok (.sipush 150, 3) := by decide +kernel
theorem dX9_setPaper_9 : decode cX9_setPaper 9 = .ok (.if_icmp .gt 14, 3) := by decide +kernel
theorem dX9_setPaper_12 : decode cX9_setPaper 12 = .ok (.iload_n 2, 1) := by decide +kernel
theorem dX9_setPaper_13 : decode cX9_setPaper 13 = .ok (.iconst 1, 1) := by decide +kernel
theorem dX9_setPaper_14 : decode cX9_setPaper 14 = .ok (.if_icmp .lt 9, 3) := by decide +kernel
theorem dX9_setPaper_17 : decode cX9_setPaper 17 = .ok (.iload_n 2, 1) := by decide +kernel
theorem dX9_setPaper_18 : decode cX9_setPaper 18 = .ok (.bipush 100, 2) := by decide +kernel
theorem dX9_setPaper_20 : decode cX9_setPaper 20 = .ok (.if_icmp .le 13, 3) := by decide +kernel
theorem dX9_setPaper_23 : decode cX9_setPaper 23 = .ok (.new 69, 3) := by decide +kernel
theorem dX9_setPaper_26 : decode cX9_setPaper 26 = .ok (.dup, 1) := by decide +kernel
theorem dX9_setPaper_27 : decode cX9_setPaper 27 = .ok (.ldc 201, 2) := by decide +kernel
theorem dX9_setPaper_29 : decode cX9_setPaper 29 = .ok (.invokespecial 73, 3) := by decide +kernel
theorem dX9_setPaper_32 : decode cX9_setPaper 32 = .ok (.athrow, 1) := by decide +kernel
theorem dX9_setPaper_33 : decode cX9_setPaper 33 = .ok (.aload_n 0, 1) := by decide +kernel
theorem dX9_setPaper_34 : decode cX9_setPaper 34 = .ok (.iconst 1, 1) := by decide +kernel
theorem dX9_setPaper_35 : decode cX9_setPaper 35 = .ok (.putfield 65, 3) := by decide +kernel
theorem dX9_setPaper_38 : decode cX9_setPaper 38 = .ok (.aload_n 0, 1) := by decide +kernel
theorem dX9_setPaper_39 : decode cX9_setPaper 39 = .ok (.iload_n 1, 1) := by decide +kernel
theorem dX9_setPaper_40 : decode cX9_setPaper 40 = .ok (.putfield 58, 3) := by decide +kernel
theorem dX9_setPaper_43 : decode cX9_setPaper 43 = .ok (.aload_n 0, 1) := by decide +kernel
theorem dX9_setPaper_44 : decode cX9_setPaper 44 = .ok (.iload_n 2, 1) := by decide +kernel
theorem dX9_setPaper_45 : decode cX9_setPaper 45 = .ok (.putfield 62, 3) := by decide +kernel
theorem dX9_setPaper_48 : decode cX9_setPaper 48 = .ok (.return_, 1) := by decide +kernel
theorem dX9_requireSheets_0 : decode cX9_requireSheets 0 = .ok (.aload_n 0, 1) := by decide +kernel
theorem dX9_requireSheets_1 : decode cX9_requireSheets 1 = .ok (.getfield 42, 3) := by decide +kernel
theorem dX9_requireSheets_4 : decode cX9_requireSheets 4 = .ok (.getfield 417, 3) := by decide +kernel
theorem dX9_requireSheets_7 : decode cX9_requireSheets 7 = .ok (.ifCond .ne 14, 3) := by decide +kernel
theorem dX9_requireSheets_10 : decode cX9_requireSheets 10 = .ok (.new 93, 3) := by decide +kernel
theorem dX9_requireSheets_13 : decode cX9_requireSheets 13 = .ok (.dup, 1) := by decide +kernel
theorem dX9_requireSheets_14 : decode cX9_requireSheets 14 = .ok (.ldc_w 420, 3) := by decide +kernel
theorem dX9_requireSheets_17 : decode cX9_requireSheets 17 = .ok (.invokespecial 97, 3) := by decide +kernel
theorem dX9_requireSheets_20 : decode cX9_requireSheets 20 = .ok (.athrow, 1) := by decide +kernel
theorem dX9_requireSheets_21 : decode cX9_requireSheets 21 = .ok (.return_, 1) := by decide +kernel
theorem dX9_requireColumn_0 : decode cX9_requireColumn 0 = .ok (.aload_n 0, 1) := by decide +kernel
theorem dX9_requireColumn_1 : decode cX9_requireColumn 1 = .ok (.getfield 12, 3) := by decide +kernel
theorem dX9_requireColumn_4 : decode cX9_requireColumn 4 = .ok (.iload_n 1, 1) := by decide +kernel
theorem dX9_requireColumn_5 : decode cX9_requireColumn 5 = .ok (.invokevirtual 402, 3) := by decide +kernel
theorem dX9_requireColumn_8 : decode cX9_requireColumn 8 = .ok (.ifCond .ne 14, 3) := by decide +kernel
theorem dX9_requireColumn_11 : decode cX9_requireColumn 11 = .ok (.new 299, 3) := by decide +kernel
theorem dX9_requireColumn_14 : decode cX9_requireColumn 14 = .ok (.dup, 1) := by decide +kernel
theorem dX9_requireColumn_15 : decode cX9_requireColumn 15 = .ok (.ldc_w 405, 3) := by decide +kernel
theorem dX9_requireColumn_18 : decode cX9_requireColumn 18 = .ok (.invokespecial 303, 3) := by decide +kernel
theorem dX9_requireColumn_21 : decode cX9_requireColumn 21 = .ok (.athrow, 1) := by decide +kernel
theorem dX9_requireColumn_22 : decode cX9_requireColumn 22 = .ok (.return_, 1) := by decide +kernel
theorem dX9_requireRow_0 : decode cX9_requireRow 0 = .ok (.aload_n 0, 1) := by decide +kernel
theorem dX9_requireRow_1 : decode cX9_requireRow 1 = .ok (.getfield 12, 3) := by decide +kernel
theorem dX9_requireRow_4 : decode cX9_requireRow 4 = .ok (.iload_n 1, 1) := by decide +kernel
theorem dX9_requireRow_5 : decode cX9_requireRow 5 = .ok (.invokevirtual 407, 3) := by decide +kernel
theorem dX9_requireRow_8 : decode cX9_requireRow 8 = .ok (.ifCond .ne 14, 3) := by decide +kernel
theorem dX9_requireRow_11 : decode cX9_requireRow 11 = .ok (.new 299, 3) := by decide +kernel
theorem dX9_requireRow_14 : decode cX9_requireRow 14 = .ok (.dup, 1) := by decide +kernel
theorem dX9_requireRow_15 : decode cX9_requireRow 15 = .ok (.ldc_w 410, 3) := by decide +kernel
theorem dX9_requireRow_18 : decode cX9_requireRow 18 = .ok (.invokespecial 303, 3) := by decide +kernel
theorem dX9_requireRow_21 : decode cX9_requireRow 21 = .ok (.athrow, 1) := by decide +kernel
theorem dX9_requireRow_22 : decode cX9_requireRow 22 = .ok (.return_, 1) := by decide +kernel
theorem dX9_requireCell_0 : decode cX9_requireCell 0 = .ok (.aload_n 0, 1) := by decide +kernel
theorem dX9_requireCell_1 : decode cX9_requireCell 1 = .ok (.getfield 12, 3) := by decide +kernel
theorem dX9_requireCell_4 : decode cX9_requireCell 4 = .ok (.iload_n 1, 1) := by decide +kernel
theorem dX9_requireCell_5 : decode cX9_requireCell 5 = .ok (.invokevirtual 412, 3) := by decide +kernel
theorem dX9_requireCell_8 : decode cX9_requireCell 8 = .ok (.ifCond .ne 14, 3) := by decide +kernel
theorem dX9_requireCell_11 : decode cX9_requireCell 11 = .ok (.new 299, 3) := by decide +kernel
theorem dX9_requireCell_14 : decode cX9_requireCell 14 = .ok (.dup, 1) := by decide +kernel
theorem dX9_requireCell_15 : decode cX9_requireCell 15 = .ok (.ldc_w 415, 3) := by decide +kernel
theorem dX9_requireCell_18 : decode cX9_requireCell 18 = .ok (.invokespecial 303, 3) := by decide +kernel
theorem dX9_requireCell_21 : decode cX9_requireCell 21 = .ok (.athrow, 1) := by decide +kernel
theorem dX9_requireCell_22 : decode cX9_requireCell 22 = .ok (.return_, 1) := by decide +kernel
theorem dX9_requirePage_0 : decode cX9_requirePage 0 = .ok (.aload_n 0, 1) := by decide +kernel
theorem dX9_requirePage_1 : decode cX9_requirePage 1 = .ok (.getfield 42, 3) := by decide +kernel
theorem dX9_requirePage_4 : decode cX9_requirePage 4 = .ok (.iload_n 1, 1) := by decide +kernel
theorem dX9_requirePage_5 : decode cX9_requirePage 5 = .ok (.invokevirtual 422, 3) := by decide +kernel
theorem dX9_requirePage_8 : decode cX9_requirePage 8 = .ok (.ifCond .ne 14, 3) := by decide +kernel
theorem dX9_requirePage_11 : decode cX9_requirePage 11 = .ok (.new 69, 3) := by decide +kernel
theorem dX9_requirePage_14 : decode cX9_requirePage 14 = .ok (.dup, 1) := by decide +kernel
theorem dX9_requirePage_15 : decode cX9_requirePage 15 = .ok (.ldc_w 425, 3) := by decide +kernel
theorem dX9_requirePage_18 : decode cX9_requirePage 18 = .ok (.invokespecial 73, 3) := by decide +kernel
theorem dX9_requirePage_21 : decode cX9_requirePage 21 = .ok (.athrow, 1) := by decide +kernel
theorem dX9_requirePage_22 : decode cX9_requirePage 22 = .ok (.return_, 1) := by decide +kernel
theorem dX9_word_0 : decode cX9_word 0 = .ok (.aload_n 0, 1) := by decide +kernel
theorem dX9_word_1 : decode cX9_word 1 = .ok (.iload_n 1, 1) := by decide +kernel
theorem dX9_word_2 : decode cX9_word 2 = .ok (.invokevirtual 147, 3) := by decide +kernel
theorem dX9_word_5 : decode cX9_word 5 = .ok (.iload_n 2, 1) := by decide +kernel
theorem dX9_word_6 : decode cX9_word 6 = .ok (.iconst 1, 1) := by decide +kernel
theorem dX9_word_7 : decode cX9_word 7 = .ok (.if_icmp .lt 20, 3) := by decide +kernel
theorem dX9_word_10 : decode cX9_word 10 = .ok (.iload_n 2, 1) := by decide +kernel
theorem dX9_word_11 : decode cX9_word 11 = .ok (.bipush 20, 2) := by decide +kernel
theorem dX9_word_13 : decode cX9_word 13 = .ok (.if_icmp .gt 14, 3) := by decide +kernel
theorem dX9_word_16 : decode cX9_word 16 = .ok (.iload_n 3, 1) := by decide +kernel
theorem dX9_word_17 : decode cX9_word 17 = .ok (.ifCond .lt 10, 3) := by decide +kernel
theorem dX9_word_20 : decode cX9_word 20 = .ok (.iload_n 3, 1) := by decide +kernel
theorem dX9_word_21 : decode cX9_word 21 = .ok (.iload_n 2, 1) := by decide +kernel
theorem dX9_word_22 : decode cX9_word 22 = .ok (.iconst 1, 1) := by decide +kernel
theorem dX9_word_23 : decode cX9_word 23 = .ok (.isub, 1) := by decide +kernel
theorem dX9_word_24 : decode cX9_word 24 = .ok (.if_icmp .le 13, 3) := by decide +kernel
theorem dX9_word_27 : decode cX9_word 27 = .ok (.new 69, 3) := by decide +kernel
theorem dX9_word_30 : decode cX9_word 30 = .ok (.dup, 1) := by decide +kernel
theorem dX9_word_31 : decode cX9_word 31 = .ok (.ldc 150, 2) := by decide +kernel
theorem dX9_word_33 : decode cX9_word 33 = .ok (.invokespecial 73, 3) := by decide +kernel
theorem dX9_word_36 : decode cX9_word 36 = .ok (.athrow, 1) := by decide +kernel
theorem dX9_word_37 : decode cX9_word 37 = .ok (.aload_n 0, 1) := by decide +kernel
theorem dX9_word_38 : decode cX9_word 38 = .ok (.getfield 12, 3) := by decide +kernel
theorem dX9_word_41 : decode cX9_word 41 = .ok (.getfield 129, 3) := by decide +kernel
theorem dX9_word_44 : decode cX9_word 44 = .ok (.iload_n 1, 1) := by decide +kernel
theorem dX9_word_45 : decode cX9_word 45 = .ok (.invokevirtual 123, 3) := by decide +kernel
theorem dX9_word_48 : decode cX9_word 48 = .ok (.checkcast 138, 3) := by decide +kernel
theorem dX9_word_51 : decode cX9_word 51 = .ok (.astore 4, 2) := by decide +kernel
theorem dX9_word_53 : decode cX9_word 53 = .ok (.aload 4, 2) := by decide +kernel
theorem dX9_word_55 : decode cX9_word 55 = .ok (.getfield 152, 3) := by decide +kernel
theorem dX9_word_58 : decode cX9_word 58 = .ok (.ifCond .ne 13, 3) := by decide +kernel
theorem dX9_word_61 : decode cX9_word 61 = .ok (.aload 4, 2) := by decide +kernel
theorem dX9_word_63 : decode cX9_word 63 = .ok (.getfield 155, 3) := by decide +kernel
theorem dX9_word_66 : decode cX9_word 66 = .ok (.bipush 12, 2) := by decide +kernel
theorem dX9_word_68 : decode cX9_word 68 = .ok (.if_icmp .lt 13, 3) := by decide +kernel
theorem dX9_word_71 : decode cX9_word 71 = .ok (.new 93, 3) := by decide +kernel
theorem dX9_word_74 : decode cX9_word 74 = .ok (.dup, 1) := by decide +kernel
theorem dX9_word_75 : decode cX9_word 75 = .ok (.ldc 158, 2) := by decide +kernel
theorem dX9_word_77 : decode cX9_word 77 = .ok (.invokespecial 97, 3) := by decide +kernel
theorem dX9_word_80 : decode cX9_word 80 = .ok (.athrow, 1) := by decide +kernel
theorem dX9_word_81 : decode cX9_word 81 = .ok (.aload_n 0, 1) := by decide +kernel
theorem dX9_word_82 : decode cX9_word 82 = .ok (.iconst 1, 1) := by decide +kernel
theorem dX9_word_83 : decode cX9_word 83 = .ok (.putfield 65, 3) := by decide +kernel
theorem dX9_word_86 : decode cX9_word 86 = .ok (.aload 4, 2) := by decide +kernel
theorem dX9_word_88 : decode cX9_word 88 = .ok (.iload_n 2, 1) := by decide +kernel
theorem dX9_word_89 : decode cX9_word 89 = .ok (.iload_n 3, 1) := by decide +kernel
theorem dX9_word_90 : decode cX9_word 90 = .ok (.invokevirtual 160, 3) := by decide +kernel
theorem dX9_word_93 : decode cX9_word 93 = .ok (.aload 4, 2) := by decide +kernel
theorem dX9_word_95 : decode cX9_word 95 = .ok (.getfield 155, 3) := by decide +kernel
theorem dX9_word_98 : decode cX9_word 98 = .ok (.ireturn, 1) := by decide +kernel
theorem dX9_figure_0 : decode cX9_figure 0 = .ok (.aload_n 0, 1) := by decide +kernel
theorem dX9_figure_1 : decode cX9_figure 1 = .ok (.iload_n 1, 1) := by decide +kernel
theorem dX9_figure_2 : decode cX9_figure 2 = .ok (.invokevirtual 147, 3) := by decide +kernel
theorem dX9_figure_5 : decode cX9_figure 5 = .ok (.iload_n 2, 1) := by decide +kernel
theorem dX9_figure_6 : decode cX9_figure 6 = .ok (.iload_n 3, 1) := by decide +kernel
theorem dX9_figure_7 : decode cX9_figure 7 = .ok (.invokestatic 164, 3) := by decide +kernel
theorem dX9_figure_10 : decode cX9_figure 10 = .ok (.ifCond .ne 13, 3) := by decide +kernel
theorem dX9_figure_13 : decode cX9_figure 13 = .ok (.new 69, 3) := by decide +kernel
theorem dX9_figure_16 : decode cX9_figure 16 = .ok (.dup, 1) := by decide +kernel
theorem dX9_figure_17 : decode cX9_figure 17 = .ok (.ldc 168, 2) := by decide +kernel
theorem dX9_figure_19 : decode cX9_figure 19 = .ok (.invokespecial 73, 3) := by decide +kernel
theorem dX9_figure_22 : decode cX9_figure 22 = .ok (.athrow, 1) := by decide +kernel
theorem dX9_figure_23 : decode cX9_figure 23 = .ok (.aload_n 0, 1) := by decide +kernel
theorem dX9_figure_24 : decode cX9_figure 24 = .ok (.getfield 12, 3) := by decide +kernel
theorem dX9_figure_27 : decode cX9_figure 27 = .ok (.getfield 129, 3) := by decide +kernel
theorem dX9_figure_30 : decode cX9_figure 30 = .ok (.iload_n 1, 1) := by decide +kernel
theorem dX9_figure_31 : decode cX9_figure 31 = .ok (.invokevirtual 123, 3) := by decide +kernel
theorem dX9_figure_34 : decode cX9_figure 34 = .ok (.checkcast 138, 3) := by decide +kernel
theorem dX9_figure_37 : decode cX9_figure 37 = .ok (.astore 4, 2) := by decide +kernel
theorem dX9_figure_39 : decode cX9_figure 39 = .ok (.aload 4, 2) := by decide +kernel
theorem dX9_figure_41 : decode cX9_figure 41 = .ok (.getfield 155, 3) := by decide +kernel
theorem dX9_figure_44 : decode cX9_figure 44 = .ok (.ifCond .gt 21, 3) := by decide +kernel
theorem dX9_figure_47 : decode cX9_figure 47 = .ok (.aload 4, 2) := by decide +kernel
theorem dX9_figure_49 : decode cX9_figure 49 = .ok (.getfield 170, 3) := by decide +kernel
theorem dX9_figure_52 : decode cX9_figure 52 = .ok (.iconst 1, 1) := by decide +kernel
theorem dX9_figure_53 : decode cX9_figure 53 = .ok (.if_icmp .gt 12, 3) := by decide +kernel
theorem dX9_figure_56 : decode cX9_figure 56 = .ok (.aload 4, 2) := by decide +kernel
theorem dX9_figure_58 : decode cX9_figure 58 = .ok (.getfield 173, 3) := by decide +kernel
theorem dX9_figure_61 : decode cX9_figure 61 = .ok (.iconst 1, 1) := by decide +kernel
theorem dX9_figure_62 : decode cX9_figure 62 = .ok (.if_icmp .le 13, 3) := by decide +kernel
theorem dX9_figure_65 : decode cX9_figure 65 = .ok (.new 93, 3) := by decide +kernel
theorem dX9_figure_68 : decode cX9_figure 68 = .ok (.dup, 1) := by decide +kernel
theorem dX9_figure_69 : decode cX9_figure 69 = .ok (.ldc 176, 2) := by decide +kernel
theorem dX9_figure_71 : decode cX9_figure 71 = .ok (.invokespecial 97, 3) := by decide +kernel
theorem dX9_figure_74 : decode cX9_figure 74 = .ok (.athrow, 1) := by decide +kernel
theorem dX9_figure_75 : decode cX9_figure 75 = .ok (.aload_n 0, 1) := by decide +kernel
theorem dX9_figure_76 : decode cX9_figure 76 = .ok (.iconst 1, 1) := by decide +kernel
theorem dX9_figure_77 : decode cX9_figure 77 = .ok (.putfield 65, 3) := by decide +kernel
theorem dX9_figure_80 : decode cX9_figure 80 = .ok (.aload 4, 2) := by decide +kernel
theorem dX9_figure_82 : decode cX9_figure 82 = .ok (.iconst 1, 1) := by decide +kernel
theorem dX9_figure_83 : decode cX9_figure 83 = .ok (.putfield 152, 3) := by decide +kernel
theorem dX9_figure_86 : decode cX9_figure 86 = .ok (.aload 4, 2) := by decide +kernel
theorem dX9_figure_88 : decode cX9_figure 88 = .ok (.iload_n 2, 1) := by decide +kernel
theorem dX9_figure_89 : decode cX9_figure 89 = .ok (.putfield 178, 3) := by decide +kernel
theorem dX9_figure_92 : decode cX9_figure 92 = .ok (.aload 4, 2) := by decide +kernel
theorem dX9_figure_94 : decode cX9_figure 94 = .ok (.iload_n 3, 1) := by decide +kernel
theorem dX9_figure_95 : decode cX9_figure 95 = .ok (.putfield 181, 3) := by decide +kernel
theorem dX9_figure_98 : decode cX9_figure 98 = .ok (.return_, 1) := by decide +kernel
theorem dX9_empty_0 : decode cX9_empty 0 = .ok (.aload_n 0, 1) := by decide +kernel
theorem dX9_empty_1 : decode cX9_empty 1 = .ok (.iload_n 1, 1) := by decide +kernel
theorem dX9_empty_2 : decode cX9_empty 2 = .ok (.invokevirtual 147, 3) := by decide +kernel
theorem dX9_empty_5 : decode cX9_empty 5 = .ok (.aload_n 0, 1) := by decide +kernel
theorem dX9_empty_6 : decode cX9_empty 6 = .ok (.iconst 1, 1) := by decide +kernel
theorem dX9_empty_7 : decode cX9_empty 7 = .ok (.putfield 65, 3) := by decide +kernel
theorem dX9_empty_10 : decode cX9_empty 10 = .ok (.aload_n 0, 1) := by decide +kernel
theorem dX9_empty_11 : decode cX9_empty 11 = .ok (.getfield 12, 3) := by decide +kernel
theorem dX9_empty_14 : decode cX9_empty 14 = .ok (.getfield 129, 3) := by decide +kernel
theorem dX9_empty_17 : decode cX9_empty 17 = .ok (.iload_n 1, 1) := by decide +kernel
theorem dX9_empty_18 : decode cX9_empty 18 = .ok (.invokevirtual 123, 3) := by decide +kernel
theorem dX9_empty_21 : decode cX9_empty 21 = .ok (.checkcast 138, 3) := by decide +kernel
theorem dX9_empty_24 : decode cX9_empty 24 = .ok (.astore_n 2, 1) := by decide +kernel
theorem dX9_empty_25 : decode cX9_empty 25 = .ok (.aload_n 2, 1) := by decide +kernel
theorem dX9_empty_26 : decode cX9_empty 26 = .ok (.getfield 155, 3) := by decide +kernel
theorem dX9_empty_29 : decode cX9_empty 29 = .ok (.istore_n 3, 1) := by decide +kernel
theorem dX9_empty_30 : decode cX9_empty 30 = .ok (.aload_n 2, 1) := by decide +kernel
theorem dX9_empty_31 : decode cX9_empty 31 = .ok (.iconst 0, 1) := by decide +kernel
theorem dX9_empty_32 : decode cX9_empty 32 = .ok (.putfield 155, 3) := by decide +kernel
theorem dX9_empty_35 : decode cX9_empty 35 = .ok (.aload_n 2, 1) := by decide +kernel
theorem dX9_empty_36 : decode cX9_empty 36 = .ok (.iconst 0, 1) := by decide +kernel
theorem dX9_empty_37 : decode cX9_empty 37 = .ok (.putfield 152, 3) := by decide +kernel
theorem dX9_empty_40 : decode cX9_empty 40 = .ok (.iload_n 3, 1) := by decide +kernel
theorem dX9_empty_41 : decode cX9_empty 41 = .ok (.ireturn, 1) := by decide +kernel
theorem dX9_note_0 : decode cX9_note 0 = .ok (.aload_n 0, 1) := by decide +kernel
theorem dX9_note_1 : decode cX9_note 1 = .ok (.iload_n 1, 1) := by decide +kernel
theorem dX9_note_2 : decode cX9_note 2 = .ok (.invokevirtual 147, 3) := by decide +kernel
theorem dX9_note_5 : decode cX9_note 5 = .ok (.iload_n 2, 1) := by decide +kernel
theorem dX9_note_6 : decode cX9_note 6 = .ok (.ifCond .lt 8, 3) := by decide +kernel
theorem dX9_note_9 : decode cX9_note 9 = .ok (.iload_n 2, 1) := by decide +kernel
theorem dX9_note_10 : decode cX9_note 10 = .ok (.iconst 3, 1) := by decide +kernel
theorem dX9_note_11 : decode cX9_note 11 = .ok (.if_icmp .le 13, 3) := by decide +kernel
theorem dX9_note_14 : decode cX9_note 14 = .ok (.new 69, 3) := by decide +kernel
theorem dX9_note_17 : decode cX9_note 17 = .ok (.dup, 1) := by decide +kernel
theorem dX9_note_18 : decode cX9_note 18 = .ok (.ldc 184, 2) := by decide +kernel
theorem dX9_note_20 : decode cX9_note 20 = .ok (.invokespecial 73, 3) := by decide +kernel
theorem dX9_note_23 : decode cX9_note 23 = .ok (.athrow, 1) := by decide +kernel
theorem dX9_note_24 : decode cX9_note 24 = .ok (.aload_n 0, 1) := by decide +kernel
theorem dX9_note_25 : decode cX9_note 25 = .ok (.getfield 12, 3) := by decide +kernel
theorem dX9_note_28 : decode cX9_note 28 = .ok (.getfield 129, 3) := by decide +kernel
theorem dX9_note_31 : decode cX9_note 31 = .ok (.iload_n 1, 1) := by decide +kernel
theorem dX9_note_32 : decode cX9_note 32 = .ok (.invokevirtual 123, 3) := by decide +kernel
theorem dX9_note_35 : decode cX9_note 35 = .ok (.checkcast 138, 3) := by decide +kernel
theorem dX9_note_38 : decode cX9_note 38 = .ok (.astore_n 3, 1) := by decide +kernel
theorem dX9_note_39 : decode cX9_note 39 = .ok (.aload_n 3, 1) := by decide +kernel
theorem dX9_note_40 : decode cX9_note 40 = .ok (.getfield 186, 3) := by decide +kernel
theorem dX9_note_43 : decode cX9_note 43 = .ok (.getfield 190, 3) := by decide +kernel
theorem dX9_note_46 : decode cX9_note 46 = .ok (.iconst 1, 1) := by decide +kernel
theorem dX9_note_47 : decode cX9_note 47 = .ok (.if_icmp .eq 13, 3) := by decide +kernel
theorem dX9_note_50 : decode cX9_note 50 = .ok (.new 93, 3) := by decide +kernel
theorem dX9_note_53 : decode cX9_note 53 = .ok (.dup, 1) := by decide +kernel
theorem dX9_note_54 : decode cX9_note 54 = .ok (.ldc 193, 2) := by decide +kernel
theorem dX9_note_56 : decode cX9_note 56 = .ok (.invokespecial 97, 3) := by decide +kernel
theorem dX9_note_59 : decode cX9_note 59 = .ok (.athrow, 1) := by decide +kernel
theorem dX9_note_60 : decode cX9_note 60 = .ok (.aload_n 0, 1) := by decide +kernel
theorem dX9_note_61 : decode cX9_note 61 = .ok (.iconst 1, 1) := by decide +kernel
theorem dX9_note_62 : decode cX9_note 62 = .ok (.putfield 65, 3) := by decide +kernel
theorem dX9_note_65 : decode cX9_note 65 = .ok (.aload_n 3, 1) := by decide +kernel
theorem dX9_note_66 : decode cX9_note 66 = .ok (.getfield 195, 3) := by decide +kernel
theorem dX9_note_69 : decode cX9_note 69 = .ok (.istore 4, 2) := by decide +kernel
theorem dX9_note_71 : decode cX9_note 71 = .ok (.aload_n 3, 1) := by decide +kernel
theorem dX9_note_72 : decode cX9_note 72 = .ok (.iload_n 2, 1) := by decide +kernel
theorem dX9_note_73 : decode cX9_note 73 = .ok (.putfield 195, 3) := by decide +kernel
theorem dX9_note_76 : decode cX9_note 76 = .ok (.iload 4, 2) := by decide +kernel
theorem dX9_note_78 : decode cX9_note 78 = .ok (.ireturn, 1) := by decide +kernel
theorem dX9_at_0 : decode cX9_at 0 = .ok (.aload_n 0, 1) := by decide +kernel
theorem dX9_at_1 : decode cX9_at 1 = .ok (.iload_n 1, 1) := by decide +kernel
theorem dX9_at_2 : decode cX9_at 2 = .ok (.invokevirtual 114, 3) := by decide +kernel
theorem dX9_at_5 : decode cX9_at 5 = .ok (.aload_n 0, 1) := by decide +kernel
theorem dX9_at_6 : decode cX9_at 6 = .ok (.iload_n 2, 1) := by decide +kernel
theorem dX9_at_7 : decode cX9_at 7 = .ok (.invokevirtual 118, 3) := by decide +kernel
theorem dX9_at_10 : decode cX9_at 10 = .ok (.aload_n 0, 1) := by decide +kernel
theorem dX9_at_11 : decode cX9_at 11 = .ok (.getfield 12, 3) := by decide +kernel
theorem dX9_at_14 : decode cX9_at 14 = .ok (.iload_n 1, 1) := by decide +kernel
theorem dX9_at_15 : decode cX9_at 15 = .ok (.iload_n 2, 1) := by decide +kernel
theorem dX9_at_16 : decode cX9_at 16 = .ok (.invokevirtual 198, 3) := by decide +kernel
theorem dX9_at_19 : decode cX9_at 19 = .ok (.ireturn, 1) := by decide +kernel
theorem dX9_totalled_0 : decode cX9_totalled 0 = .ok (.aload_n 0, 1) := by decide +kernel
theorem dX9_totalled_1 : decode cX9_totalled 1 = .ok (.iload_n 1, 1) := by decide +kernel
theorem dX9_totalled_2 : decode cX9_totalled 2 = .ok (.invokevirtual 118, 3) := by decide +kernel
theorem dX9_totalled_5 : decode cX9_totalled 5 = .ok (.aload_n 0, 1) := by decide +kernel
theorem dX9_totalled_6 : decode cX9_totalled 6 = .ok (.iconst 1, 1) := by decide +kernel
theorem dX9_totalled_7 : decode cX9_totalled 7 = .ok (.putfield 65, 3) := by decide +kernel
theorem dX9_totalled_10 : decode cX9_totalled 10 = .ok (.aload_n 0, 1) := by decide +kernel
theorem dX9_totalled_11 : decode cX9_totalled 11 = .ok (.getfield 12, 3) := by decide +kernel
theorem dX9_totalled_14 : decode cX9_totalled 14 = .ok (.getfield 76, 3) := by decide +kernel
theorem dX9_totalled_17 : decode cX9_totalled 17 = .ok (.iload_n 1, 1) := by decide +kernel
theorem dX9_totalled_18 : decode cX9_totalled 18 = .ok (.invokevirtual 123, 3) := by decide +kernel
theorem dX9_totalled_21 : decode cX9_totalled 21 = .ok (.checkcast 206, 3) := by decide +kernel
theorem dX9_totalled_24 : decode cX9_totalled 24 = .ok (.astore_n 2, 1) := by decide +kernel
theorem dX9_totalled_25 : decode cX9_totalled 25 = .ok (.aload_n 2, 1) := by decide +kernel
theorem dX9_totalled_26 : decode cX9_totalled 26 = .ok (.aload_n 2, 1) := by decide +kernel
theorem dX9_totalled_27 : decode cX9_totalled 27 = .ok (.getfield 208, 3) := by decide +kernel
theorem dX9_totalled_30 : decode cX9_totalled 30 = .ok (.ifCond .ne 7, 3) := by decide +kernel
theorem dX9_totalled_33 : decode cX9_totalled 33 = .ok (.iconst 1, 1) := by decide +kernel
theorem dX9_totalled_34 : decode cX9_totalled 34 = .ok (.goto 4, 3) := by decide +kernel
theorem dX9_totalled_37 : decode cX9_totalled 37 = .ok (.iconst 0, 1) := by decide +kernel
theorem dX9_totalled_38 : decode cX9_totalled 38 = .ok (.putfield 208, 3) := by decide +kernel
theorem dX9_totalled_41 : decode cX9_totalled 41 = .ok (.aload_n 2, 1) := by decide +kernel
theorem dX9_totalled_42 : decode cX9_totalled 42 = .ok (.getfield 208, 3) := by decide +kernel
theorem dX9_totalled_45 : decode cX9_totalled 45 = .ok (.ireturn, 1) := by decide +kernel
theorem dX9_hide_0 : decode cX9_hide 0 = .ok (.aload_n 0, 1) := by decide +kernel
theorem dX9_hide_1 : decode cX9_hide 1 = .ok (.iload_n 1, 1) := by decide +kernel
theorem dX9_hide_2 : decode cX9_hide 2 = .ok (.invokevirtual 118, 3) := by decide +kernel
theorem dX9_hide_5 : decode cX9_hide 5 = .ok (.aload_n 0, 1) := by decide +kernel
theorem dX9_hide_6 : decode cX9_hide 6 = .ok (.getfield 12, 3) := by decide +kernel
theorem dX9_hide_9 : decode cX9_hide 9 = .ok (.iload_n 1, 1) := by decide +kernel
theorem dX9_hide_10 : decode cX9_hide 10 = .ok (.invokevirtual 211, 3) := by decide +kernel
theorem dX9_hide_13 : decode cX9_hide 13 = .ok (.ifCond .eq 24, 3) := by decide +kernel
theorem dX9_hide_16 : decode cX9_hide 16 = .ok (.aload_n 0, 1) := by decide +kernel
theorem dX9_hide_17 : decode cX9_hide 17 = .ok (.getfield 12, 3) := by decide +kernel
theorem dX9_hide_20 : decode cX9_hide 20 = .ok (.invokevirtual 214, 3) := by decide +kernel
theorem dX9_hide_23 : decode cX9_hide 23 = .ok (.iconst 1, 1) := by decide +kernel
theorem dX9_hide_24 : decode cX9_hide 24 = .ok (.if_icmp .ne 13, 3) := by decide +kernel
theorem dX9_hide_27 : decode cX9_hide 27 = .ok (.new 93, 3) := by decide +kernel
theorem dX9_hide_30 : decode cX9_hide 30 = .ok (.dup, 1) := by decide +kernel
theorem dX9_hide_31 : decode cX9_hide 31 = .ok (.ldc 217, 2) := by decide +kernel
theorem dX9_hide_33 : decode cX9_hide 33 = .ok (.invokespecial 97, 3) := by decide +kernel
theorem dX9_hide_36 : decode cX9_hide 36 = .ok (.athrow, 1) := by decide +kernel
theorem dX9_hide_37 : decode cX9_hide 37 = .ok (.aload_n 0, 1) := by decide +kernel
theorem dX9_hide_38 : decode cX9_hide 38 = .ok (.iconst 1, 1) := by decide +kernel
theorem dX9_hide_39 : decode cX9_hide 39 = .ok (.putfield 65, 3) := by decide +kernel
theorem dX9_hide_42 : decode cX9_hide 42 = .ok (.aload_n 0, 1) := by decide +kernel
theorem dX9_hide_43 : decode cX9_hide 43 = .ok (.getfield 12, 3) := by decide +kernel
theorem dX9_hide_46 : decode cX9_hide 46 = .ok (.iload_n 1, 1) := by decide +kernel
theorem dX9_hide_47 : decode cX9_hide 47 = .ok (.invokevirtual 219, 3) := by decide +kernel
theorem dX9_hide_50 : decode cX9_hide 50 = .ok (.ireturn, 1) := by decide +kernel
theorem dX9_sort_0 : decode cX9_sort 0 = .ok (.aload_n 0, 1) := by decide +kernel
theorem dX9_sort_1 : decode cX9_sort 1 = .ok (.iload_n 1, 1) := by decide +kernel
theorem dX9_sort_2 : decode cX9_sort 2 = .ok (.invokevirtual 118, 3) := by decide +kernel
theorem dX9_sort_5 : decode cX9_sort 5 = .ok (.aload_n 0, 1) := by decide +kernel
theorem dX9_sort_6 : decode cX9_sort 6 = .ok (.getfield 12, 3) := by decide +kernel
theorem dX9_sort_9 : decode cX9_sort 9 = .ok (.invokevirtual 222, 3) := by decide +kernel
theorem dX9_sort_12 : decode cX9_sort 12 = .ok (.ifCond .eq 13, 3) := by decide +kernel
theorem dX9_sort_15 : decode cX9_sort 15 = .ok (.new 93, 3) := by decide +kernel
theorem dX9_sort_18 : decode cX9_sort 18 = .ok (.dup, 1) := by decide +kernel
theorem dX9_sort_19 : decode cX9_sort 19 = .ok (.ldc 225, 2) := by decide +kernel
theorem dX9_sort_21 : decode cX9_sort 21 = .ok (.invokespecial 97, 3) := by decide +kernel
theorem dX9_sort_24 : decode cX9_sort 24 = .ok (.athrow, 1) := by decide +kernel
theorem dX9_sort_25 : decode cX9_sort 25 = .ok (.aload_n 0, 1) := by decide +kernel
theorem dX9_sort_26 : decode cX9_sort 26 = .ok (.iconst 1, 1) := by decide +kernel
theorem dX9_sort_27 : decode cX9_sort 27 = .ok (.putfield 65, 3) := by decide +kernel
theorem dX9_sort_30 : decode cX9_sort 30 = .ok (.aload_n 0, 1) := by decide +kernel
theorem dX9_sort_31 : decode cX9_sort 31 = .ok (.getfield 12, 3) := by decide +kernel
theorem dX9_sort_34 : decode cX9_sort 34 = .ok (.iload_n 1, 1) := by decide +kernel
theorem dX9_sort_35 : decode cX9_sort 35 = .ok (.iload_n 2, 1) := by decide +kernel
theorem dX9_sort_36 : decode cX9_sort 36 = .ok (.invokevirtual 227, 3) := by decide +kernel
theorem dX9_sort_39 : decode cX9_sort 39 = .ok (.aload_n 0, 1) := by decide +kernel
theorem dX9_sort_40 : decode cX9_sort 40 = .ok (.getfield 12, 3) := by decide +kernel
theorem dX9_sort_43 : decode cX9_sort 43 = .ok (.invokevirtual 231, 3) := by decide +kernel
theorem dX9_sort_46 : decode cX9_sort 46 = .ok (.ireturn, 1) := by decide +kernel
theorem dX9_border_0 : decode cX9_border 0 = .ok (.iload_n 1, 1) := by decide +kernel
theorem dX9_border_1 : decode cX9_border 1 = .ok (.iload_n 3, 1) := by decide +kernel
theorem dX9_border_2 : decode cX9_border 2 = .ok (.invokestatic 291, 3) := by decide +kernel
theorem dX9_border_5 : decode cX9_border 5 = .ok (.ifCond .eq 14, 3) := by decide +kernel
theorem dX9_border_8 : decode cX9_border 8 = .ok (.iload 4, 2) := by decide +kernel
theorem dX9_border_10 : decode cX9_border 10 = .ok (.ifCond .lt 9, 3) := by decide +kernel
theorem dX9_border_13 : decode cX9_border 13 = .ok (.iload 4, 2) := by decide +kernel
theorem dX9_border_15 : decode cX9_border 15 = .ok (.iconst 5, 1) := by decide +kernel
theorem dX9_border_16 : decode cX9_border 16 = .ok (.if_icmp .le 14, 3) := by decide +kernel
theorem dX9_border_19 : decode cX9_border 19 = .ok (.new 69, 3) := by decide +kernel
theorem dX9_border_22 : decode cX9_border 22 = .ok (.dup, 1) := by decide +kernel
theorem dX9_border_23 : decode cX9_border 23 = .ok (.ldc_w 294, 3) := by decide +kernel
theorem dX9_border_26 : decode cX9_border 26 = .ok (.invokespecial 73, 3) := by decide +kernel
theorem dX9_border_29 : decode cX9_border 29 = .ok (.athrow, 1) := by decide +kernel
theorem dX9_border_30 : decode cX9_border 30 = .ok (.aload_n 0, 1) := by decide +kernel
theorem dX9_border_31 : decode cX9_border 31 = .ok (.getfield 12, 3) := by decide +kernel
theorem dX9_border_34 : decode cX9_border 34 = .ok (.iload_n 1, 1) := by decide +kernel
theorem dX9_border_35 : decode cX9_border 35 = .ok (.iload_n 2, 1) := by decide +kernel
theorem dX9_border_36 : decode cX9_border 36 = .ok (.invokevirtual 296, 3) := by decide +kernel
theorem dX9_border_39 : decode cX9_border 39 = .ok (.ifCond .ne 14, 3) := by decide +kernel
theorem dX9_border_42 : decode cX9_border 42 = .ok (.new 299, 3) := by decide +kernel
theorem dX9_border_45 : decode cX9_border 45 = .ok (.dup, 1) := by decide +kernel
theorem dX9_border_46 : decode cX9_border 46 = .ok (.ldc_w 301, 3) := by decide +kernel
theorem dX9_border_49 : decode cX9_border 49 = .ok (.invokespecial 303, 3) := by decide +kernel
theorem dX9_border_52 : decode cX9_border 52 = .ok (.athrow, 1) := by decide +kernel
theorem dX9_border_53 : decode cX9_border 53 = .ok (.aload_n 0, 1) := by decide +kernel
theorem dX9_border_54 : decode cX9_border 54 = .ok (.getfield 12, 3) := by decide +kernel
theorem dX9_border_57 : decode cX9_border 57 = .ok (.iload_n 1, 1) := by decide +kernel
theorem dX9_border_58 : decode cX9_border 58 = .ok (.iload_n 2, 1) := by decide +kernel
theorem dX9_border_59 : decode cX9_border 59 = .ok (.iload_n 3, 1) := by decide +kernel
theorem dX9_border_60 : decode cX9_border 60 = .ok (.iload 4, 2) := by decide +kernel
theorem dX9_border_62 : decode cX9_border 62 = .ok (.invokevirtual 304, 3) := by decide +kernel
theorem dX9_border_65 : decode cX9_border 65 = .ok (.ireturn, 1) := by decide +kernel
theorem dX9_edge_0 : decode cX9_edge 0 = .ok (.aload_n 0, 1) := by decide +kernel
theorem dX9_edge_1 : decode cX9_edge 1 = .ok (.iload_n 1, 1) := by decide +kernel
theorem dX9_edge_2 : decode cX9_edge 2 = .ok (.invokevirtual 114, 3) := by decide +kernel
theorem dX9_edge_5 : decode cX9_edge 5 = .ok (.aload_n 0, 1) := by decide +kernel
theorem dX9_edge_6 : decode cX9_edge 6 = .ok (.iload_n 2, 1) := by decide +kernel
theorem dX9_edge_7 : decode cX9_edge 7 = .ok (.invokevirtual 118, 3) := by decide +kernel
theorem dX9_edge_10 : decode cX9_edge 10 = .ok (.iload_n 3, 1) := by decide +kernel
theorem dX9_edge_11 : decode cX9_edge 11 = .ok (.ifCond .lt 8, 3) := by decide +kernel
theorem dX9_edge_14 : decode cX9_edge 14 = .ok (.iload_n 3, 1) := by decide +kernel
theorem dX9_edge_15 : decode cX9_edge 15 = .ok (.iconst 3, 1) := by decide +kernel
theorem dX9_edge_16 : decode cX9_edge 16 = .ok (.if_icmp .le 14, 3) := by decide +kernel
theorem dX9_edge_19 : decode cX9_edge 19 = .ok (.new 69, 3) := by decide +kernel
theorem dX9_edge_22 : decode cX9_edge 22 = .ok (.dup, 1) := by decide +kernel
theorem dX9_edge_23 : decode cX9_edge 23 = .ok (.ldc_w 308, 3) := by decide +kernel
theorem dX9_edge_26 : decode cX9_edge 26 = .ok (.invokespecial 73, 3) := by decide +kernel
theorem dX9_edge_29 : decode cX9_edge 29 = .ok (.athrow, 1) := by decide +kernel
theorem dX9_edge_30 : decode cX9_edge 30 = .ok (.aload_n 0, 1) := by decide +kernel
theorem dX9_edge_31 : decode cX9_edge 31 = .ok (.getfield 12, 3) := by decide +kernel
theorem dX9_edge_34 : decode cX9_edge 34 = .ok (.iload_n 2, 1) := by decide +kernel
theorem dX9_edge_35 : decode cX9_edge 35 = .ok (.invokevirtual 211, 3) := by decide +kernel
theorem dX9_edge_38 : decode cX9_edge 38 = .ok (.ifCond .ne 14, 3) := by decide +kernel
theorem dX9_edge_41 : decode cX9_edge 41 = .ok (.new 93, 3) := by decide +kernel
theorem dX9_edge_44 : decode cX9_edge 44 = .ok (.dup, 1) := by decide +kernel
theorem dX9_edge_45 : decode cX9_edge 45 = .ok (.ldc_w 310, 3) := by decide +kernel
theorem dX9_edge_48 : decode cX9_edge 48 = .ok (.invokespecial 97, 3) := by decide +kernel
theorem dX9_edge_51 : decode cX9_edge 51 = .ok (.athrow, 1) := by decide +kernel
theorem dX9_edge_52 : decode cX9_edge 52 = .ok (.iload_n 3, 1) := by decide +kernel
theorem dX9_edge_53 : decode cX9_edge 53 = .ok (.iconst 1, 1) := by decide +kernel
theorem dX9_edge_54 : decode cX9_edge 54 = .ok (.if_icmp .eq 8, 3) := by decide +kernel
theorem dX9_edge_57 : decode cX9_edge 57 = .ok (.iload_n 3, 1) := by decide +kernel
theorem dX9_edge_58 : decode cX9_edge 58 = .ok (.iconst 3, 1) := by decide +kernel
theorem dX9_edge_59 : decode cX9_edge 59 = .ok (.if_icmp .ne 7, 3) := by decide +kernel
theorem dX9_edge_62 : decode cX9_edge 62 = .ok (.iconst 1, 1) := by decide +kernel
theorem dX9_edge_63 : decode cX9_edge 63 = .ok (.goto 4, 3) := by decide +kernel
theorem dX9_edge_66 : decode cX9_edge 66 = .ok (.iconst 0, 1) := by decide +kernel
theorem dX9_edge_67 : decode cX9_edge 67 = .ok (.istore 4, 2) := by decide +kernel
theorem dX9_edge_69 : decode cX9_edge 69 = .ok (.iload_n 3, 1) := by decide +kernel
theorem dX9_edge_70 : decode cX9_edge 70 = .ok (.ifCond .eq 8, 3) := by decide +kernel
theorem dX9_edge_73 : decode cX9_edge 73 = .ok (.iload_n 3, 1) := by decide +kernel
theorem dX9_edge_74 : decode cX9_edge 74 = .ok (.iconst 3, 1) := by decide +kernel
theorem dX9_edge_75 : decode cX9_edge 75 = .ok (.if_icmp .ne 7, 3) := by decide +kernel
theorem dX9_edge_78 : decode cX9_edge 78 = .ok (.iconst (-1), 1) := by decide +kernel
theorem dX9_edge_79 : decode cX9_edge 79 = .ok (.goto 4, 3) := by decide +kernel
theorem dX9_edge_82 : decode cX9_edge 82 = .ok (.iconst 1, 1) := by decide +kernel
theorem dX9_edge_83 : decode cX9_edge 83 = .ok (.istore 5, 2) := by decide +kernel
theorem dX9_edge_85 : decode cX9_edge 85 = .ok (.iload 4, 2) := by decide +kernel
theorem dX9_edge_87 : decode cX9_edge 87 = .ok (.ifCond .eq 7, 3) := by decide +kernel
theorem dX9_edge_90 : decode cX9_edge 90 = .ok (.iload_n 1, 1) := by decide +kernel
theorem dX9_edge_91 : decode cX9_edge 91 = .ok (.goto 13, 3) := by decide +kernel
theorem dX9_edge_94 : decode cX9_edge 94 = .ok (.aload_n 0, 1) := by decide +kernel
theorem dX9_edge_95 : decode cX9_edge 95 = .ok (.getfield 12, 3) := by decide +kernel
theorem dX9_edge_98 : decode cX9_edge 98 = .ok (.iload_n 1, 1) := by decide +kernel
theorem dX9_edge_99 : decode cX9_edge 99 = .ok (.iload 5, 2) := by decide +kernel
theorem dX9_edge_101 : decode cX9_edge 101 = .ok (.invokevirtual 312, 3) := by decide +kernel
theorem dX9_edge_104 : decode cX9_edge 104 = .ok (.istore 6, 2) := by decide +kernel
theorem dX9_edge_106 : decode cX9_edge 106 = .ok (.iload 4, 2) := by decide +kernel
theorem dX9_edge_108 : decode cX9_edge 108 = .ok (.ifCond .eq 16, 3) := by decide +kernel
theorem dX9_edge_111 : decode cX9_edge 111 = .ok (.aload_n 0, 1) := by decide +kernel
theorem dX9_edge_112 : decode cX9_edge 112 = .ok (.getfield 12, 3) := by decide +kernel
theorem dX9_edge_115 : decode cX9_edge 115 = .ok (.iload_n 2, 1) := by decide +kernel
theorem dX9_edge_116 : decode cX9_edge 116 = .ok (.iload 5, 2) := by decide +kernel
theorem dX9_edge_118 : decode cX9_edge 118 = .ok (.invokevirtual 315, 3) := by decide +kernel
theorem dX9_edge_121 : decode cX9_edge 121 = .ok (.goto 4, 3) := by decide +kernel
theorem dX9_edge_124 : decode cX9_edge 124 = .ok (.iload_n 2, 1) := by decide +kernel
theorem dX9_edge_125 : decode cX9_edge 125 = .ok (.istore 7, 2) := by decide +kernel
theorem dX9_edge_127 : decode cX9_edge 127 = .ok (.aload_n 0, 1) := by decide +kernel
theorem dX9_edge_128 : decode cX9_edge 128 = .ok (.getfield 12, 3) := by decide +kernel
theorem dX9_edge_131 : decode cX9_edge 131 = .ok (.iload_n 1, 1) := by decide +kernel
theorem dX9_edge_132 : decode cX9_edge 132 = .ok (.iload_n 2, 1) := by decide +kernel
theorem dX9_edge_133 : decode cX9_edge 133 = .ok (.invokevirtual 198, 3) := by decide +kernel
theorem dX9_edge_136 : decode cX9_edge 136 = .ok (.istore 8, 2) := by decide +kernel
theorem dX9_edge_138 : decode cX9_edge 138 = .ok (.aload_n 0, 1) := by decide +kernel
theorem dX9_edge_139 : decode cX9_edge 139 = .ok (.getfield 12, 3) := by decide +kernel
theorem dX9_edge_142 : decode cX9_edge 142 = .ok (.iload 6, 2) := by decide +kernel
theorem dX9_edge_144 : decode cX9_edge 144 = .ok (.iload 7, 2) := by decide +kernel
theorem dX9_edge_146 : decode cX9_edge 146 = .ok (.invokevirtual 198, 3) := by decide +kernel
theorem dX9_edge_149 : decode cX9_edge 149 = .ok (.istore 9, 2) := by decide +kernel
theorem dX9_edge_151 : decode cX9_edge 151 = .ok (.iload 8, 2) := by decide +kernel
theorem dX9_edge_153 : decode cX9_edge 153 = .ok (.iconst (-1), 1) := by decide +kernel
theorem dX9_edge_154 : decode cX9_edge 154 = .ok (.if_icmp .eq 12, 3) := by decide +kernel
theorem dX9_edge_157 : decode cX9_edge 157 = .ok (.iload 8, 2) := by decide +kernel
theorem dX9_edge_159 : decode cX9_edge 159 = .ok (.iload 9, 2) := by decide +kernel
theorem dX9_edge_161 : decode cX9_edge 161 = .ok (.if_icmp .ne 5, 3) := by decide +kernel
theorem dX9_edge_164 : decode cX9_edge 164 = .ok (.iconst 0, 1) := by decide +kernel
theorem dX9_edge_165 : decode cX9_edge 165 = .ok (.ireturn, 1) := by decide +kernel
theorem dX9_edge_166 : decode cX9_edge 166 = .ok (.iload 6, 2) := by decide +kernel
theorem dX9_edge_168 : decode cX9_edge 168 = .ok (.iconst (-1), 1) := by decide +kernel
theorem dX9_edge_169 : decode cX9_edge 169 = .ok (.if_icmp .eq 9, 3) := by decide +kernel
theorem dX9_edge_172 : decode cX9_edge 172 = .ok (.iload 7, 2) := by decide +kernel
theorem dX9_edge_174 : decode cX9_edge 174 = .ok (.iconst (-1), 1) := by decide +kernel
theorem dX9_edge_175 : decode cX9_edge 175 = .ok (.if_icmp .ne 7, 3) := by decide +kernel
theorem dX9_edge_178 : decode cX9_edge 178 = .ok (.iconst 1, 1) := by decide +kernel
theorem dX9_edge_179 : decode cX9_edge 179 = .ok (.goto 4, 3) := by decide +kernel
theorem dX9_edge_182 : decode cX9_edge 182 = .ok (.iconst 0, 1) := by decide +kernel
theorem dX9_edge_183 : decode cX9_edge 183 = .ok (.istore 10, 2) := by decide +kernel
theorem dX9_edge_185 : decode cX9_edge 185 = .ok (.aload_n 0, 1) := by decide +kernel
theorem dX9_edge_186 : decode cX9_edge 186 = .ok (.getfield 12, 3) := by decide +kernel
theorem dX9_edge_189 : decode cX9_edge 189 = .ok (.iconst 0, 1) := by decide +kernel
theorem dX9_edge_190 : decode cX9_edge 190 = .ok (.iload 8, 2) := by decide +kernel
theorem dX9_edge_192 : decode cX9_edge 192 = .ok (.iload 9, 2) := by decide +kernel
theorem dX9_edge_194 : decode cX9_edge 194 = .ok (.iload_n 3, 1) := by decide +kernel
theorem dX9_edge_195 : decode cX9_edge 195 = .ok (.invokevirtual 318, 3) := by decide +kernel
theorem dX9_edge_198 : decode cX9_edge 198 = .ok (.istore 11, 2) := by decide +kernel
theorem dX9_edge_200 : decode cX9_edge 200 = .ok (.iload 4, 2) := by decide +kernel
theorem dX9_edge_202 : decode cX9_edge 202 = .ok (.ifCond .eq 7, 3) := by decide +kernel
theorem dX9_edge_205 : decode cX9_edge 205 = .ok (.iconst 0, 1) := by decide +kernel
theorem dX9_edge_206 : decode cX9_edge 206 = .ok (.goto 15, 3) := by decide +kernel
theorem dX9_edge_209 : decode cX9_edge 209 = .ok (.aload_n 0, 1) := by decide +kernel
theorem dX9_edge_210 : decode cX9_edge 210 = .ok (.getfield 12, 3) := by decide +kernel
theorem dX9_edge_213 : decode cX9_edge 213 = .ok (.iconst 1, 1) := by decide +kernel
theorem dX9_edge_214 : decode cX9_edge 214 = .ok (.iload_n 1, 1) := by decide +kernel
theorem dX9_edge_215 : decode cX9_edge 215 = .ok (.iload 6, 2) := by decide +kernel
theorem dX9_edge_217 : decode cX9_edge 217 = .ok (.iload_n 3, 1) := by decide +kernel
theorem dX9_edge_218 : decode cX9_edge 218 = .ok (.invokevirtual 318, 3) := by decide +kernel
theorem dX9_edge_221 : decode cX9_edge 221 = .ok (.istore 12, 2) := by decide +kernel
theorem dX9_edge_223 : decode cX9_edge 223 = .ok (.iload 4, 2) := by decide +kernel
theorem dX9_edge_225 : decode cX9_edge 225 = .ok (.ifCond .eq 18, 3) := by decide +kernel
theorem dX9_edge_228 : decode cX9_edge 228 = .ok (.aload_n 0, 1) := by decide +kernel
theorem dX9_edge_229 : decode cX9_edge 229 = .ok (.getfield 12, 3) := by decide +kernel
theorem dX9_edge_232 : decode cX9_edge 232 = .ok (.iconst 2, 1) := by decide +kernel
theorem dX9_edge_233 : decode cX9_edge 233 = .ok (.iload_n 2, 1) := by decide +kernel
theorem dX9_edge_234 : decode cX9_edge 234 = .ok (.iload 7, 2) := by decide +kernel
theorem dX9_edge_236 : decode cX9_edge 236 = .ok (.iload_n 3, 1) := by decide +kernel
theorem dX9_edge_237 : decode cX9_edge 237 = .ok (.invokevirtual 318, 3) := by decide +kernel
theorem dX9_edge_240 : decode cX9_edge 240 = .ok (.goto 4, 3) := by decide +kernel
theorem dX9_edge_243 : decode cX9_edge 243 = .ok (.iconst 0, 1) := by decide +kernel
theorem dX9_edge_244 : decode cX9_edge 244 = .ok (.istore 13, 2) := by decide +kernel
theorem dX9_edge_246 : decode cX9_edge 246 = .ok (.iload 11, 2) := by decide +kernel
theorem dX9_edge_248 : decode cX9_edge 248 = .ok (.iload 12, 2) := by decide +kernel
theorem dX9_edge_250 : decode cX9_edge 250 = .ok (.iload 13, 2) := by decide +kernel
theorem dX9_edge_252 : decode cX9_edge 252 = .ok (.iload 10, 2) := by decide +kernel
theorem dX9_edge_254 : decode cX9_edge 254 = .ok (.ifCond .eq 13, 3) := by decide +kernel
theorem dX9_edge_257 : decode cX9_edge 257 = .ok (.aload_n 0, 1) := by decide +kernel
theorem dX9_edge_258 : decode cX9_edge 258 = .ok (.getfield 12, 3) := by decide +kernel
theorem dX9_edge_261 : decode cX9_edge 261 = .ok (.getfield 321, 3) := by decide +kernel
theorem dX9_edge_264 : decode cX9_edge 264 = .ok (.goto 4, 3) := by decide +kernel
theorem dX9_edge_267 : decode cX9_edge 267 = .ok (.iconst 0, 1) := by decide +kernel
theorem dX9_edge_268 : decode cX9_edge 268 = .ok (.invokestatic 324, 3) := by decide +kernel
theorem dX9_edge_271 : decode cX9_edge 271 = .ok (.ireturn, 1) := by decide +kernel
theorem dX9_total_0 : decode cX9_total 0 = .ok (.aload_n 0, 1) := by decide +kernel
theorem dX9_total_1 : decode cX9_total 1 = .ok (.iload_n 1, 1) := by decide +kernel
theorem dX9_total_2 : decode cX9_total 2 = .ok (.invokevirtual 118, 3) := by decide +kernel
theorem dX9_total_5 : decode cX9_total 5 = .ok (.aload_n 0, 1) := by decide +kernel
theorem dX9_total_6 : decode cX9_total 6 = .ok (.getfield 12, 3) := by decide +kernel
theorem dX9_total_9 : decode cX9_total 9 = .ok (.iconst 0, 1) := by decide +kernel
theorem dX9_total_10 : decode cX9_total 10 = .ok (.aload_n 0, 1) := by decide +kernel
theorem dX9_total_11 : decode cX9_total 11 = .ok (.getfield 12, 3) := by decide +kernel
theorem dX9_total_14 : decode cX9_total 14 = .ok (.getfield 379, 3) := by decide +kernel
theorem dX9_total_17 : decode cX9_total 17 = .ok (.invokevirtual 80, 3) := by decide +kernel
theorem dX9_total_20 : decode cX9_total 20 = .ok (.iload_n 1, 1) := by decide +kernel
theorem dX9_total_21 : decode cX9_total 21 = .ok (.invokevirtual 382, 3) := by decide +kernel
theorem dX9_total_24 : decode cX9_total 24 = .ok (.ireturn, 1) := by decide +kernel
theorem dX9_heightByCells_0 : decode cX9_heightByCells 0 = .ok (.aload_n 0, 1) := by decide +kernel
theorem dX9_heightByCells_1 : decode cX9_heightByCells 1 = .ok (.iload_n 1, 1) := by decide +kernel
theorem dX9_heightByCells_2 : decode cX9_heightByCells 2 = .ok (.invokevirtual 114, 3) := by decide +kernel
theorem dX9_heightByCells_5 : decode cX9_heightByCells 5 = .ok (.aload_n 0, 1) := by decide +kernel
theorem dX9_heightByCells_6 : decode cX9_heightByCells 6 = .ok (.getfield 35, 3) := by decide +kernel
theorem dX9_heightByCells_9 : decode cX9_heightByCells 9 = .ok (.iload_n 1, 1) := by decide +kernel
theorem dX9_heightByCells_10 : decode cX9_heightByCells 10 = .ok (.aload_n 0, 1) := by decide +kernel
theorem dX9_heightByCells_11 : decode cX9_heightByCells 11 = .ok (.getfield 58, 3) := by decide +kernel
theorem dX9_heightByCells_14 : decode cX9_heightByCells 14 = .ok (.invokevirtual 277, 3) := by decide +kernel
theorem dX9_heightByCells_17 : decode cX9_heightByCells 17 = .ok (.ireturn, 1) := by decide +kernel
theorem dX9_least_0 : decode cX9_least 0 = .ok (.aload_n 0, 1) := by decide +kernel
theorem dX9_least_1 : decode cX9_least 1 = .ok (.iload_n 1, 1) := by decide +kernel
theorem dX9_least_2 : decode cX9_least 2 = .ok (.invokevirtual 118, 3) := by decide +kernel
theorem dX9_least_5 : decode cX9_least 5 = .ok (.aload_n 0, 1) := by decide +kernel
theorem dX9_least_6 : decode cX9_least 6 = .ok (.invokevirtual 234, 3) := by decide +kernel
theorem dX9_least_9 : decode cX9_least 9 = .ok (.aload_n 0, 1) := by decide +kernel
theorem dX9_least_10 : decode cX9_least 10 = .ok (.getfield 21, 3) := by decide +kernel
theorem dX9_least_13 : decode cX9_least 13 = .ok (.getfield 237, 3) := by decide +kernel
theorem dX9_least_16 : decode cX9_least 16 = .ok (.iload_n 1, 1) := by decide +kernel
theorem dX9_least_17 : decode cX9_least 17 = .ok (.iaload, 1) := by decide +kernel
theorem dX9_least_18 : decode cX9_least 18 = .ok (.ireturn, 1) := by decide +kernel
theorem dX9_most_0 : decode cX9_most 0 = .ok (.aload_n 0, 1) := by decide +kernel
theorem dX9_most_1 : decode cX9_most 1 = .ok (.iload_n 1, 1) := by decide +kernel
theorem dX9_most_2 : decode cX9_most 2 = .ok (.invokevirtual 118, 3) := by decide +kernel
theorem dX9_most_5 : decode cX9_most 5 = .ok (.aload_n 0, 1) := by decide +kernel
theorem dX9_most_6 : decode cX9_most 6 = .ok (.invokevirtual 234, 3) := by decide +kernel
theorem dX9_most_9 : decode cX9_most 9 = .ok (.aload_n 0, 1) := by decide +kernel
theorem dX9_most_10 : decode cX9_most 10 = .ok (.getfield 21, 3) := by decide +kernel
theorem dX9_most_13 : decode cX9_most 13 = .ok (.getfield 241, 3) := by decide +kernel
theorem dX9_most_16 : decode cX9_most 16 = .ok (.iload_n 1, 1) := by decide +kernel
theorem dX9_most_17 : decode cX9_most 17 = .ok (.iaload, 1) := by decide +kernel
theorem dX9_most_18 : decode cX9_most 18 = .ok (.ireturn, 1) := by decide +kernel
theorem dX9_width_0 : decode cX9_width 0 = .ok (.aload_n 0, 1) := by decide +kernel
theorem dX9_width_1 : decode cX9_width 1 = .ok (.iload_n 1, 1) := by decide +kernel
theorem dX9_width_2 : decode cX9_width 2 = .ok (.invokevirtual 118, 3) := by decide +kernel
theorem dX9_width_5 : decode cX9_width 5 = .ok (.aload_n 0, 1) := by decide +kernel
theorem dX9_width_6 : decode cX9_width 6 = .ok (.invokevirtual 234, 3) := by decide +kernel
theorem dX9_width_9 : decode cX9_width 9 = .ok (.aload_n 0, 1) := by decide +kernel
theorem dX9_width_10 : decode cX9_width 10 = .ok (.getfield 21, 3) := by decide +kernel
theorem dX9_width_13 : decode cX9_width 13 = .ok (.getfield 244, 3) := by decide +kernel
theorem dX9_width_16 : decode cX9_width 16 = .ok (.iload_n 1, 1) := by decide +kernel
theorem dX9_width_17 : decode cX9_width 17 = .ok (.iaload, 1) := by decide +kernel
theorem dX9_width_18 : decode cX9_width 18 = .ok (.ireturn, 1) := by decide +kernel
theorem dX9_point_0 : decode cX9_point 0 = .ok (.aload_n 0, 1) := by decide +kernel
theorem dX9_point_1 : decode cX9_point 1 = .ok (.iload_n 1, 1) := by decide +kernel
theorem dX9_point_2 : decode cX9_point 2 = .ok (.invokevirtual 147, 3) := by decide +kernel
theorem dX9_point_5 : decode cX9_point 5 = .ok (.aload_n 0, 1) := by decide +kernel
theorem dX9_point_6 : decode cX9_point 6 = .ok (.getfield 12, 3) := by decide +kernel
theorem dX9_point_9 : decode cX9_point 9 = .ok (.getfield 129, 3) := by decide +kernel
theorem dX9_point_12 : decode cX9_point 12 = .ok (.iload_n 1, 1) := by decide +kernel
theorem dX9_point_13 : decode cX9_point 13 = .ok (.invokevirtual 123, 3) := by decide +kernel
theorem dX9_point_16 : decode cX9_point 16 = .ok (.checkcast 138, 3) := by decide +kernel
theorem dX9_point_19 : decode cX9_point 19 = .ok (.astore_n 2, 1) := by decide +kernel
theorem dX9_point_20 : decode cX9_point 20 = .ok (.aload_n 2, 1) := by decide +kernel
theorem dX9_point_21 : decode cX9_point 21 = .ok (.invokevirtual 256, 3) := by decide +kernel
theorem dX9_point_24 : decode cX9_point 24 = .ok (.ifCond .ne 14, 3) := by decide +kernel
theorem dX9_point_27 : decode cX9_point 27 = .ok (.new 93, 3) := by decide +kernel
theorem dX9_point_30 : decode cX9_point 30 = .ok (.dup, 1) := by decide +kernel
theorem dX9_point_31 : decode cX9_point 31 = .ok (.ldc_w 259, 3) := by decide +kernel
theorem dX9_point_34 : decode cX9_point 34 = .ok (.invokespecial 97, 3) := by decide +kernel
theorem dX9_point_37 : decode cX9_point 37 = .ok (.athrow, 1) := by decide +kernel
theorem dX9_point_38 : decode cX9_point 38 = .ok (.aload_n 0, 1) := by decide +kernel
theorem dX9_point_39 : decode cX9_point 39 = .ok (.invokevirtual 234, 3) := by decide +kernel
theorem dX9_point_42 : decode cX9_point 42 = .ok (.aload_n 0, 1) := by decide +kernel
theorem dX9_point_43 : decode cX9_point 43 = .ok (.getfield 21, 3) := by decide +kernel
theorem dX9_point_46 : decode cX9_point 46 = .ok (.aload_n 2, 1) := by decide +kernel
theorem dX9_point_47 : decode cX9_point 47 = .ok (.getfield 261, 3) := by decide +kernel
theorem dX9_point_50 : decode cX9_point 50 = .ok (.invokevirtual 264, 3) := by decide +kernel
theorem dX9_point_53 : decode cX9_point 53 = .ok (.ireturn, 1) := by decide +kernel
theorem dX9_begins_0 : decode cX9_begins 0 = .ok (.aload_n 0, 1) := by decide +kernel
theorem dX9_begins_1 : decode cX9_begins 1 = .ok (.iload_n 1, 1) := by decide +kernel
theorem dX9_begins_2 : decode cX9_begins 2 = .ok (.invokevirtual 147, 3) := by decide +kernel
theorem dX9_begins_5 : decode cX9_begins 5 = .ok (.aload_n 0, 1) := by decide +kernel
theorem dX9_begins_6 : decode cX9_begins 6 = .ok (.getfield 12, 3) := by decide +kernel
theorem dX9_begins_9 : decode cX9_begins 9 = .ok (.getfield 129, 3) := by decide +kernel
theorem dX9_begins_12 : decode cX9_begins 12 = .ok (.iload_n 1, 1) := by decide +kernel
theorem dX9_begins_13 : decode cX9_begins 13 = .ok (.invokevirtual 123, 3) := by decide +kernel
theorem dX9_begins_16 : decode cX9_begins 16 = .ok (.checkcast 138, 3) := by decide +kernel
theorem dX9_begins_19 : decode cX9_begins 19 = .ok (.astore_n 2, 1) := by decide +kernel
theorem dX9_begins_20 : decode cX9_begins 20 = .ok (.aload_n 2, 1) := by decide +kernel
theorem dX9_begins_21 : decode cX9_begins 21 = .ok (.invokevirtual 256, 3) := by decide +kernel
theorem dX9_begins_24 : decode cX9_begins 24 = .ok (.ifCond .ne 14, 3) := by decide +kernel
theorem dX9_begins_27 : decode cX9_begins 27 = .ok (.new 93, 3) := by decide +kernel
theorem dX9_begins_30 : decode cX9_begins 30 = .ok (.dup, 1) := by decide +kernel
theorem dX9_begins_31 : decode cX9_begins 31 = .ok (.ldc_w 259, 3) := by decide +kernel
theorem dX9_begins_34 : decode cX9_begins 34 = .ok (.invokespecial 97, 3) := by decide +kernel
theorem dX9_begins_37 : decode cX9_begins 37 = .ok (.athrow, 1) := by decide +kernel
theorem dX9_begins_38 : decode cX9_begins 38 = .ok (.aload_n 0, 1) := by decide +kernel
theorem dX9_begins_39 : decode cX9_begins 39 = .ok (.invokevirtual 234, 3) := by decide +kernel
theorem dX9_begins_42 : decode cX9_begins 42 = .ok (.aload_n 0, 1) := by decide +kernel
theorem dX9_begins_43 : decode cX9_begins 43 = .ok (.getfield 21, 3) := by decide +kernel
theorem dX9_begins_46 : decode cX9_begins 46 = .ok (.aload_n 2, 1) := by decide +kernel
theorem dX9_begins_47 : decode cX9_begins 47 = .ok (.getfield 261, 3) := by decide +kernel
theorem dX9_begins_50 : decode cX9_begins 50 = .ok (.invokevirtual 264, 3) := by decide +kernel
theorem dX9_begins_53 : decode cX9_begins 53 = .ok (.aload_n 2, 1) := by decide +kernel
theorem dX9_begins_54 : decode cX9_begins 54 = .ok (.getfield 178, 3) := by decide +kernel
theorem dX9_begins_57 : decode cX9_begins 57 = .ok (.invokestatic 268, 3) := by decide +kernel
theorem dX9_begins_60 : decode cX9_begins 60 = .ok (.isub, 1) := by decide +kernel
theorem dX9_begins_61 : decode cX9_begins 61 = .ok (.ireturn, 1) := by decide +kernel
theorem dX9_lines_0 : decode cX9_lines 0 = .ok (.aload_n 0, 1) := by decide +kernel
theorem dX9_lines_1 : decode cX9_lines 1 = .ok (.iload_n 1, 1) := by decide +kernel
theorem dX9_lines_2 : decode cX9_lines 2 = .ok (.invokevirtual 147, 3) := by decide +kernel
theorem dX9_lines_5 : decode cX9_lines 5 = .ok (.aload_n 0, 1) := by decide +kernel
theorem dX9_lines_6 : decode cX9_lines 6 = .ok (.invokevirtual 234, 3) := by decide +kernel
theorem dX9_lines_9 : decode cX9_lines 9 = .ok (.aload_n 0, 1) := by decide +kernel
theorem dX9_lines_10 : decode cX9_lines 10 = .ok (.getfield 28, 3) := by decide +kernel
theorem dX9_lines_13 : decode cX9_lines 13 = .ok (.getfield 271, 3) := by decide +kernel
theorem dX9_lines_16 : decode cX9_lines 16 = .ok (.iload_n 1, 1) := by decide +kernel
theorem dX9_lines_17 : decode cX9_lines 17 = .ok (.iaload, 1) := by decide +kernel
theorem dX9_lines_18 : decode cX9_lines 18 = .ok (.ireturn, 1) := by decide +kernel
theorem dX9_height_0 : decode cX9_height 0 = .ok (.aload_n 0, 1) := by decide +kernel
theorem dX9_height_1 : decode cX9_height 1 = .ok (.iload_n 1, 1) := by decide +kernel
theorem dX9_height_2 : decode cX9_height 2 = .ok (.invokevirtual 114, 3) := by decide +kernel
theorem dX9_height_5 : decode cX9_height 5 = .ok (.aload_n 0, 1) := by decide +kernel
theorem dX9_height_6 : decode cX9_height 6 = .ok (.invokevirtual 234, 3) := by decide +kernel
theorem dX9_height_9 : decode cX9_height 9 = .ok (.aload_n 0, 1) := by decide +kernel
theorem dX9_height_10 : decode cX9_height 10 = .ok (.getfield 28, 3) := by decide +kernel
theorem dX9_height_13 : decode cX9_height 13 = .ok (.getfield 274, 3) := by decide +kernel
theorem dX9_height_16 : decode cX9_height 16 = .ok (.iload_n 1, 1) := by decide +kernel
theorem dX9_height_17 : decode cX9_height 17 = .ok (.iaload, 1) := by decide +kernel
theorem dX9_height_18 : decode cX9_height 18 = .ok (.ireturn, 1) := by decide +kernel
theorem dX9_pages_0 : decode cX9_pages 0 = .ok (.aload_n 0, 1) := by decide +kernel
theorem dX9_pages_1 : decode cX9_pages 1 = .ok (.invokevirtual 234, 3) := by decide +kernel
theorem dX9_pages_4 : decode cX9_pages 4 = .ok (.aload_n 0, 1) := by decide +kernel
theorem dX9_pages_5 : decode cX9_pages 5 = .ok (.invokevirtual 327, 3) := by decide +kernel
theorem dX9_pages_8 : decode cX9_pages 8 = .ok (.aload_n 0, 1) := by decide +kernel
theorem dX9_pages_9 : decode cX9_pages 9 = .ok (.getfield 42, 3) := by decide +kernel
theorem dX9_pages_12 : decode cX9_pages 12 = .ok (.getfield 330, 3) := by decide +kernel
theorem dX9_pages_15 : decode cX9_pages 15 = .ok (.ireturn, 1) := by decide +kernel
theorem dX9_pageOf_0 : decode cX9_pageOf 0 = .ok (.aload_n 0, 1) := by decide +kernel
theorem dX9_pageOf_1 : decode cX9_pageOf 1 = .ok (.iload_n 1, 1) := by decide +kernel
theorem dX9_pageOf_2 : decode cX9_pageOf 2 = .ok (.invokevirtual 114, 3) := by decide +kernel
theorem dX9_pageOf_5 : decode cX9_pageOf 5 = .ok (.aload_n 0, 1) := by decide +kernel
theorem dX9_pageOf_6 : decode cX9_pageOf 6 = .ok (.getfield 12, 3) := by decide +kernel
theorem dX9_pageOf_9 : decode cX9_pageOf 9 = .ok (.iload_n 1, 1) := by decide +kernel
theorem dX9_pageOf_10 : decode cX9_pageOf 10 = .ok (.invokevirtual 333, 3) := by decide +kernel
theorem dX9_pageOf_13 : decode cX9_pageOf 13 = .ok (.ifCond .ne 14, 3) := by decide +kernel
theorem dX9_pageOf_16 : decode cX9_pageOf 16 = .ok (.new 69, 3) := by decide +kernel
theorem dX9_pageOf_19 : decode cX9_pageOf 19 = .ok (.dup, 1) := by decide +kernel
theorem dX9_pageOf_20 : decode cX9_pageOf 20 = .ok (.ldc_w 336, 3) := by decide +kernel
theorem dX9_pageOf_23 : decode cX9_pageOf 23 = .ok (.invokespecial 73, 3) := by decide +kernel
theorem dX9_pageOf_26 : decode cX9_pageOf 26 = .ok (.athrow, 1) := by decide +kernel
theorem dX9_pageOf_27 : decode cX9_pageOf 27 = .ok (.aload_n 0, 1) := by decide +kernel
theorem dX9_pageOf_28 : decode cX9_pageOf 28 = .ok (.invokevirtual 234, 3) := by decide +kernel
theorem dX9_pageOf_31 : decode cX9_pageOf 31 = .ok (.aload_n 0, 1) := by decide +kernel
theorem dX9_pageOf_32 : decode cX9_pageOf 32 = .ok (.invokevirtual 327, 3) := by decide +kernel
theorem dX9_pageOf_35 : decode cX9_pageOf 35 = .ok (.aload_n 0, 1) := by decide +kernel
theorem dX9_pageOf_36 : decode cX9_pageOf 36 = .ok (.getfield 42, 3) := by decide +kernel
theorem dX9_pageOf_39 : decode cX9_pageOf 39 = .ok (.getfield 338, 3) := by decide +kernel
theorem dX9_pageOf_42 : decode cX9_pageOf 42 = .ok (.iload_n 1, 1) := by decide +kernel
theorem dX9_pageOf_43 : decode cX9_pageOf 43 = .ok (.iaload, 1) := by decide +kernel
theorem dX9_pageOf_44 : decode cX9_pageOf 44 = .ok (.ireturn, 1) := by decide +kernel
theorem dX9_linesOn_0 : decode cX9_linesOn 0 = .ok (.aload_n 0, 1) := by decide +kernel
theorem dX9_linesOn_1 : decode cX9_linesOn 1 = .ok (.iload_n 1, 1) := by decide +kernel
theorem dX9_linesOn_2 : decode cX9_linesOn 2 = .ok (.invokevirtual 114, 3) := by decide +kernel
theorem dX9_linesOn_5 : decode cX9_linesOn 5 = .ok (.aload_n 0, 1) := by decide +kernel
theorem dX9_linesOn_6 : decode cX9_linesOn 6 = .ok (.getfield 12, 3) := by decide +kernel
theorem dX9_linesOn_9 : decode cX9_linesOn 9 = .ok (.iload_n 1, 1) := by decide +kernel
theorem dX9_linesOn_10 : decode cX9_linesOn 10 = .ok (.invokevirtual 333, 3) := by decide +kernel
theorem dX9_linesOn_13 : decode cX9_linesOn 13 = .ok (.ifCond .eq 7, 3) := by decide +kernel
theorem dX9_linesOn_16 : decode cX9_linesOn 16 = .ok (.iload_n 2, 1) := by decide +kernel
theorem dX9_linesOn_17 : decode cX9_linesOn 17 = .ok (.ifCond .ge 14, 3) := by decide +kernel
theorem dX9_linesOn_20 : decode cX9_linesOn 20 = .ok (.new 69, 3) := by decide +kernel
theorem dX9_linesOn_23 : decode cX9_linesOn 23 = .ok (.dup, 1) := by decide +kernel
theorem dX9_linesOn_24 : decode cX9_linesOn 24 = .ok (.ldc_w 341, 3) := by decide +kernel
theorem dX9_linesOn_27 : decode cX9_linesOn 27 = .ok (.invokespecial 73, 3) := by decide +kernel
theorem dX9_linesOn_30 : decode cX9_linesOn 30 = .ok (.athrow, 1) := by decide +kernel
theorem dX9_linesOn_31 : decode cX9_linesOn 31 = .ok (.aload_n 0, 1) := by decide +kernel
theorem dX9_linesOn_32 : decode cX9_linesOn 32 = .ok (.invokevirtual 234, 3) := by decide +kernel
theorem dX9_linesOn_35 : decode cX9_linesOn 35 = .ok (.aload_n 0, 1) := by decide +kernel
theorem dX9_linesOn_36 : decode cX9_linesOn 36 = .ok (.invokevirtual 327, 3) := by decide +kernel
theorem dX9_linesOn_39 : decode cX9_linesOn 39 = .ok (.aload_n 0, 1) := by decide +kernel
theorem dX9_linesOn_40 : decode cX9_linesOn 40 = .ok (.getfield 42, 3) := by decide +kernel
theorem dX9_linesOn_43 : decode cX9_linesOn 43 = .ok (.iload_n 1, 1) := by decide +kernel
theorem dX9_linesOn_44 : decode cX9_linesOn 44 = .ok (.aload_n 0, 1) := by decide +kernel
theorem dX9_linesOn_45 : decode cX9_linesOn 45 = .ok (.getfield 42, 3) := by decide +kernel
theorem dX9_linesOn_48 : decode cX9_linesOn 48 = .ok (.iload_n 2, 1) := by decide +kernel
theorem dX9_linesOn_49 : decode cX9_linesOn 49 = .ok (.invokevirtual 343, 3) := by decide +kernel
theorem dX9_linesOn_52 : decode cX9_linesOn 52 = .ok (.aload_n 0, 1) := by decide +kernel
theorem dX9_linesOn_53 : decode cX9_linesOn 53 = .ok (.getfield 42, 3) := by decide +kernel
theorem dX9_linesOn_56 : decode cX9_linesOn 56 = .ok (.iload_n 2, 1) := by decide +kernel
theorem dX9_linesOn_57 : decode cX9_linesOn 57 = .ok (.invokevirtual 346, 3) := by decide +kernel
theorem dX9_linesOn_60 : decode cX9_linesOn 60 = .ok (.invokevirtual 349, 3) := by decide +kernel
theorem dX9_linesOn_63 : decode cX9_linesOn 63 = .ok (.ireturn, 1) := by decide +kernel
theorem dX9_shown_0 : decode cX9_shown 0 = .ok (.aload_n 0, 1) := by decide +kernel
theorem dX9_shown_1 : decode cX9_shown 1 = .ok (.iload_n 1, 1) := by decide +kernel
theorem dX9_shown_2 : decode cX9_shown 2 = .ok (.invokevirtual 147, 3) := by decide +kernel
theorem dX9_shown_5 : decode cX9_shown 5 = .ok (.aload_n 0, 1) := by decide +kernel
theorem dX9_shown_6 : decode cX9_shown 6 = .ok (.getfield 12, 3) := by decide +kernel
theorem dX9_shown_9 : decode cX9_shown 9 = .ok (.getfield 129, 3) := by decide +kernel
theorem dX9_shown_12 : decode cX9_shown 12 = .ok (.iload_n 1, 1) := by decide +kernel
theorem dX9_shown_13 : decode cX9_shown 13 = .ok (.invokevirtual 123, 3) := by decide +kernel
theorem dX9_shown_16 : decode cX9_shown 16 = .ok (.checkcast 138, 3) := by decide +kernel
theorem dX9_shown_19 : decode cX9_shown 19 = .ok (.astore_n 3, 1) := by decide +kernel
theorem dX9_shown_20 : decode cX9_shown 20 = .ok (.aload_n 3, 1) := by decide +kernel
theorem dX9_shown_21 : decode cX9_shown 21 = .ok (.getfield 186, 3) := by decide +kernel
theorem dX9_shown_24 : decode cX9_shown 24 = .ok (.getfield 190, 3) := by decide +kernel
theorem dX9_shown_27 : decode cX9_shown 27 = .ok (.iconst 1, 1) := by decide +kernel
theorem dX9_shown_28 : decode cX9_shown 28 = .ok (.if_icmp .ne 7, 3) := by decide +kernel
theorem dX9_shown_31 : decode cX9_shown 31 = .ok (.iload_n 2, 1) := by decide +kernel
theorem dX9_shown_32 : decode cX9_shown 32 = .ok (.ifCond .ge 14, 3) := by decide +kernel
theorem dX9_shown_35 : decode cX9_shown 35 = .ok (.new 69, 3) := by decide +kernel
theorem dX9_shown_38 : decode cX9_shown 38 = .ok (.dup, 1) := by decide +kernel
theorem dX9_shown_39 : decode cX9_shown 39 = .ok (.ldc_w 353, 3) := by decide +kernel
theorem dX9_shown_42 : decode cX9_shown 42 = .ok (.invokespecial 73, 3) := by decide +kernel
theorem dX9_shown_45 : decode cX9_shown 45 = .ok (.athrow, 1) := by decide +kernel
theorem dX9_shown_46 : decode cX9_shown 46 = .ok (.aload_n 0, 1) := by decide +kernel
theorem dX9_shown_47 : decode cX9_shown 47 = .ok (.invokevirtual 234, 3) := by decide +kernel
theorem dX9_shown_50 : decode cX9_shown 50 = .ok (.aload_n 0, 1) := by decide +kernel
theorem dX9_shown_51 : decode cX9_shown 51 = .ok (.invokevirtual 327, 3) := by decide +kernel
theorem dX9_shown_54 : decode cX9_shown 54 = .ok (.aload_n 0, 1) := by decide +kernel
theorem dX9_shown_55 : decode cX9_shown 55 = .ok (.getfield 42, 3) := by decide +kernel
theorem dX9_shown_58 : decode cX9_shown 58 = .ok (.iload_n 2, 1) := by decide +kernel
theorem dX9_shown_59 : decode cX9_shown 59 = .ok (.invokevirtual 343, 3) := by decide +kernel
theorem dX9_shown_62 : decode cX9_shown 62 = .ok (.istore 4, 2) := by decide +kernel
theorem dX9_shown_64 : decode cX9_shown 64 = .ok (.aload_n 0, 1) := by decide +kernel
theorem dX9_shown_65 : decode cX9_shown 65 = .ok (.aload_n 3, 1) := by decide +kernel
theorem dX9_shown_66 : decode cX9_shown 66 = .ok (.iconst 0, 1) := by decide +kernel
theorem dX9_shown_67 : decode cX9_shown 67 = .ok (.iload 4, 2) := by decide +kernel
theorem dX9_shown_69 : decode cX9_shown 69 = .ok (.invokevirtual 355, 3) := by decide +kernel
theorem dX9_shown_72 : decode cX9_shown 72 = .ok (.istore 5, 2) := by decide +kernel
theorem dX9_shown_74 : decode cX9_shown 74 = .ok (.aload_n 0, 1) := by decide +kernel
theorem dX9_shown_75 : decode cX9_shown 75 = .ok (.aload_n 3, 1) := by decide +kernel
theorem dX9_shown_76 : decode cX9_shown 76 = .ok (.iload 4, 2) := by decide +kernel
theorem dX9_shown_78 : decode cX9_shown 78 = .ok (.aload_n 0, 1) := by decide +kernel
theorem dX9_shown_79 : decode cX9_shown 79 = .ok (.getfield 42, 3) := by decide +kernel
theorem dX9_shown_82 : decode cX9_shown 82 = .ok (.iload_n 2, 1) := by decide +kernel
theorem dX9_shown_83 : decode cX9_shown 83 = .ok (.invokevirtual 346, 3) := by decide +kernel
theorem dX9_shown_86 : decode cX9_shown 86 = .ok (.invokevirtual 355, 3) := by decide +kernel
theorem dX9_shown_89 : decode cX9_shown 89 = .ok (.istore 6, 2) := by decide +kernel
theorem dX9_shown_91 : decode cX9_shown 91 = .ok (.iconst 0, 1) := by decide +kernel
theorem dX9_shown_92 : decode cX9_shown 92 = .ok (.iload 6, 2) := by decide +kernel
theorem dX9_shown_94 : decode cX9_shown 94 = .ok (.aload_n 0, 1) := by decide +kernel
theorem dX9_shown_95 : decode cX9_shown 95 = .ok (.getfield 28, 3) := by decide +kernel
theorem dX9_shown_98 : decode cX9_shown 98 = .ok (.getfield 271, 3) := by decide +kernel
theorem dX9_shown_101 : decode cX9_shown 101 = .ok (.iload_n 1, 1) := by decide +kernel
theorem dX9_shown_102 : decode cX9_shown 102 = .ok (.iaload, 1) := by decide +kernel
theorem dX9_shown_103 : decode cX9_shown 103 = .ok (.iload 5, 2) := by decide +kernel
theorem dX9_shown_105 : decode cX9_shown 105 = .ok (.isub, 1) := by decide +kernel
theorem dX9_shown_106 : decode cX9_shown 106 = .ok (.invokestatic 359, 3) := by decide +kernel
theorem dX9_shown_109 : decode cX9_shown 109 = .ok (.invokestatic 251, 3) := by decide +kernel
theorem dX9_shown_112 : decode cX9_shown 112 = .ok (.ireturn, 1) := by decide +kernel
section
variable {p : Program} {l : Launch} {e : Env} {s : State} {m : MethodId} {args : Array Value} {below : List Frame} {meth : Method} {c : Code} {G : Gx} {e0 : Nat} {α : Ax} {κ : Nat → Int} {B : Nat}
def wp_X9_setPaper_23 (p1 : Int) (p2 : Int) (Xm : String → Mem → Prop) (Qm : Mem → Prop) (M : Mem) : Prop := Xm xIAE M
def wp_X9_setPaper (p1 : Int) (p2 : Int) (M : Mem) (Xm : String → Mem → Prop) (Qm : Mem → Prop) : Prop := ((p1 < 1 → wp_X9_setPaper_23 p1 p2 Xm Qm M) ∧ (1 ≤ p1 → ((150 < p1 → wp_X9_setPaper_23 p1 p2 Xm Qm M) ∧ (p1 ≤ 150 → ((p2 < 1 → wp_X9_setPaper_23 p1 p2 Xm Qm M) ∧ (1 ≤ p2 → ((p2 ≤ 100 → ∀ M1 : Mem, M1 = up M 10 0 10 1 → ∀ M3 : Mem, M3 = up M1 10 0 7 p1 → ∀ M5 : Mem, M5 = up M3 10 0 8 p2 → Qm M5) ∧ (100 < p2 → wp_X9_setPaper_23 p1 p2 Xm Qm M))))))))
set_option maxHeartbeats 4000000 in
set_option maxRecDepth 100000 in
theorem t_X9_setPaper_23 {p1 : Int} {p2 : Int} (X : CX p m c cX9_setPaper 3 s args RX9 G B κ meth none) (T : XT l c) (hp1 : inR p1) (hp2 : inR p2) {Xm : String → Mem → Prop} {Qm : Mem → Prop} : ∀ M : Mem, wp_X9_setPaper_23 p1 p2 Xm Qm M → ∀ (H : Heap) (locs : List Loc), Rp G e0 α κ B M H → va_S (fun q => B ≤ q) s.heap H locs → ∀ (ls : Array Slot), lv_has ls 3 [] → WXV p l e 6 1 6 s m args below meth c G e0 α κ B Qm Xm H locs 0 0 23 ls [] := by
  intro M hw H locs hR hS ls hl
  have hw : Xm xIAE M := hw
  exact sx_throw (text := "width or lines is out of range") X T xw_IAE (by decide +kernel) hR hS hl.1 dX9_setPaper_23 dX9_setPaper_26 dX9_setPaper_27 dX9_setPaper_29 dX9_setPaper_32 (by decide) (by decide) (by decide) hw
set_option maxHeartbeats 4000000 in
set_option maxRecDepth 100000 in
theorem t_X9_setPaper {p1 : Int} {p2 : Int} (X : CX p m c cX9_setPaper 3 s args RX9 G B κ meth none) (T : XT l c) (hp1 : inR p1) (hp2 : inR p2) {M : Mem} {Xm : String → Mem → Prop} {Qm : Mem → Prop} (hw : wp_X9_setPaper p1 p2 M Xm Qm) (H : Heap) (locs : List Loc) (hR : Rp G e0 α κ B M H) (hS : va_S (fun q => B ≤ q) s.heap H locs) (ls : Array Slot) (hl : lv_has ls 3 [(0, .ref (α 10 0)), (1, .int (Int32.ofInt p1)), (2, .int (Int32.ofInt p2))]) : WXV p l e 6 1 6 s m args below meth c G e0 α κ B Qm Xm H locs 0 0 0 ls [] := by
  have hw : ((p1 < 1 → wp_X9_setPaper_23 p1 p2 Xm Qm M) ∧ (1 ≤ p1 → ((150 < p1 → wp_X9_setPaper_23 p1 p2 Xm Qm M) ∧ (p1 ≤ 150 → ((p2 < 1 → wp_X9_setPaper_23 p1 p2 Xm Qm M) ∧ (1 ≤ p2 → ((p2 ≤ 100 → ∀ M1 : Mem, M1 = up M 10 0 10 1 → ∀ M3 : Mem, M3 = up M1 10 0 7 p1 → ∀ M5 : Mem, M5 = up M3 10 0 8 p2 → Qm M5) ∧ (100 < p2 → wp_X9_setPaper_23 p1 p2 Xm Qm M)))))))) := hw
  refine lv_iload_n X.1.1 X.1.2.1 dX9_setPaper_0 rfl (lv_at hl 1 rfl) ?_
  refine sa_const X.1 dX9_setPaper_1 ?_
  refine sa_icmp_lt (tgt := 23) X.1 hp1 (inR_c (a := 1) rfl) dX9_setPaper_2 (by decide) (fun hc => ?_) (fun hc => ?_)
  · have hw := hw.1 hc
    exact t_X9_setPaper_23 X T hp1 hp2 _ hw _ _ hR hS _ (lv_sub hl [] rfl)
  · have hw := hw.2 hc
    refine lv_iload_n X.1.1 X.1.2.1 dX9_setPaper_5 rfl (lv_at hl 1 rfl) ?_
    refine sa_sipush X.1 dX9_setPaper_6 (by decide) ?_
    refine sa_icmp_gt (tgt := 23) X.1 hp1 (inR_c (a := 150) rfl) dX9_setPaper_9 (by decide) (fun hc => ?_) (fun hc => ?_)
    · have hw := hw.1 hc
      exact t_X9_setPaper_23 X T hp1 hp2 _ hw _ _ hR hS _ (lv_sub hl [] rfl)
    · have hw := hw.2 hc
      refine lv_iload_n X.1.1 X.1.2.1 dX9_setPaper_12 rfl (lv_at hl 2 rfl) ?_
      refine sa_const X.1 dX9_setPaper_13 ?_
      refine sa_icmp_lt (tgt := 23) X.1 hp2 (inR_c (a := 1) rfl) dX9_setPaper_14 (by decide) (fun hc => ?_) (fun hc => ?_)
      · have hw := hw.1 hc
        exact t_X9_setPaper_23 X T hp1 hp2 _ hw _ _ hR hS _ (lv_sub hl [] rfl)
      · have hw := hw.2 hc
        refine lv_iload_n X.1.1 X.1.2.1 dX9_setPaper_17 rfl (lv_at hl 2 rfl) ?_
        refine sa_bipush X.1 dX9_setPaper_18 (by decide) ?_
        refine sa_icmp_le (tgt := 33) X.1 hp2 (inR_c (a := 100) rfl) dX9_setPaper_20 (by decide) (fun hc => ?_) (fun hc => ?_)
        · have hw := hw.1 hc
          refine lv_aload_n X.1.1 X.1.2.1 dX9_setPaper_33 rfl (lv_at hl 0 rfl) ?_
          refine sa_const X.1 dX9_setPaper_34 ?_
          refine pt_10_10 X hR hS (okf X.2.2.1 rfl) (Or.inr rfl) kw_342 dX9_setPaper_35 (fun H locs hR hS => ?_)
          obtain ⟨M1, e2⟩ : ∃ z : Mem, z = up M 10 0 10 1 := ⟨_, rfl⟩
          rw [← e2] at hR
          have hw := hw M1 e2
          refine lv_aload_n X.1.1 X.1.2.1 dX9_setPaper_38 rfl (lv_at hl 0 rfl) ?_
          refine lv_iload_n X.1.1 X.1.2.1 dX9_setPaper_39 rfl (lv_at hl 1 rfl) ?_
          refine pt_10_7 X hR hS (okf X.2.2.1 rfl) hp1 kw_339 dX9_setPaper_40 (fun H locs hR hS => ?_)
          obtain ⟨M3, e4⟩ : ∃ z : Mem, z = up M1 10 0 7 p1 := ⟨_, rfl⟩
          rw [← e4] at hR
          have hw := hw M3 e4
          refine lv_aload_n X.1.1 X.1.2.1 dX9_setPaper_43 rfl (lv_at hl 0 rfl) ?_
          refine lv_iload_n X.1.1 X.1.2.1 dX9_setPaper_44 rfl (lv_at hl 2 rfl) ?_
          refine pt_10_8 X hR hS (okf X.2.2.1 rfl) hp2 kw_340 dX9_setPaper_45 (fun H locs hR hS => ?_)
          obtain ⟨M5, e6⟩ : ∃ z : Mem, z = up M3 10 0 8 p2 := ⟨_, rfl⟩
          rw [← e6] at hR
          have hw := hw M5 e6
          exact sx_vret X hR hS hw dX9_setPaper_48 (by decide) (by decide)
        · have hw := hw.2 hc
          exact t_X9_setPaper_23 X T hp1 hp2 _ hw _ _ hR hS _ (lv_sub hl [] rfl)
theorem m_X9_setPaper {l : Launch} {G : Gx} {e0 : Nat} {α : Ax} {κ : Nat → Int} {B : Nat} {p1 : Int} {p2 : Int} (hlt : l.stackTraces = false) (hκ : kOK κ) (hp1 : inR p1) (hp2 : inR p2) {M : Mem} {Qm : Mem → Prop} {Xm : String → Mem → Prop} (hw : wp_X9_setPaper p1 p2 M Xm Qm) : XV l yX9_setPaper (Cond.code yX9_setPaper cX9_setPaper 3 none) 6 1 6 G e0 α κ B [.ref (α 10 0), .int (Int32.ofInt p1), .int (Int32.ofInt p2)] M Qm Xm :=
  XV.mk hlt hκ (by decide +kernel) rfl (Nat.le_of_ble_eq_true rfl) (lv := [(0, .ref (α 10 0)), (1, .int (Int32.ofInt p1)), (2, .int (Int32.ofInt p2))]) rfl (fun p e s m args below meth c ls X T hR hS hl => t_X9_setPaper X T hp1 hp2 hw _ _ hR hS ls hl)
theorem cx_X9_setPaper {cc : ByteArray} {nL : Nat} {own : String} {ret : Option FieldType} {idx pc : Nat} {p1 : Int} {p2 : Int} (X : CX p m c cc nL s args own G B κ meth ret) (T : XT l c) (hp1 : inR p1) (hp2 : inR p2) {k mc ms cells slots : Nat} (hk : 6 + 1 ≤ k) (hcel : cells + 1 ≤ mc ∧ slots + 6 ≤ ms) {M : Mem} {H : Heap} {locs : List Loc} (hR : Rp G e0 α κ B M H) (hS : va_S (fun q => B ≤ q) s.heap H locs) (k1 : Cond.methodLink own idx yX9_setPaper ∈ gw) {ls : Array Slot} (hml : ls.size = nL) {rest : List Value} (hd : decode cc pc = .ok (.invokevirtual idx, 3)) (hrest : (rest.map fun v => v.category).sum ≤ 8) {Qc : Array Value → State → Outcome → State → Prop} {Qm : Mem → Prop} {Xm : String → Mem → Prop} (hw : wp_X9_setPaper p1 p2 M Xm Qm) (kk : ∀ (M1 : Mem) (H1 : Heap) (locs1 : List Loc), Qm M1 → Rp G e0 α κ B M1 H1 → va_S (fun q => B ≤ q) s.heap H1 locs1 → W p l e (rmX k mc ms) s m args below meth c H1 locs1 (cells + 1) (slots + 6) (vx_MQ below Qc (XQ G e0 α κ B Xm) args s mc ms (fun q => B ≤ q)) (F0 m (pc + 3) ls (rest))) : W p l e (rmX k mc ms) s m args below meth c H locs cells slots (vx_MQ below Qc (XQ G e0 α κ B Xm) args s mc ms (fun q => B ≤ q)) (F0 m pc ls (.int (Int32.ofInt p2) :: .int (Int32.ofInt p1) :: .ref (α 10 0) :: rest)) :=
  sx_callVV 6 (n := 2) (As := [.int (Int32.ofInt p1), .int (Int32.ofInt p2)]) (rest := rest) X T hR hS (m_X9_setPaper T.1 X.2.2.1 hp1 hp2 hw) k1 kw_1166 kw_1167 kw_38 kw_1168 ⟨rfl, by decide +kernel, by decide +kernel, by decide +kernel⟩ (rm_ok rmX_ok hk (by decide)) (rc_10 X hR (okf X.2.2.1 rfl)) rfl rfl hrest hml hd hcel kk
def wp_X9_requireSheets (M : Mem) (Xm : String → Mem → Prop) (Qm : Mem → Prop) : Prop := ((¬ (M 7 0 0) = 0 → Qm M) ∧ ((M 7 0 0) = 0 → Xm xISE M))
set_option maxHeartbeats 4000000 in
set_option maxRecDepth 100000 in
theorem t_X9_requireSheets (X : CX p m c cX9_requireSheets 1 s args RX9 G B κ meth none) (T : XT l c) {M : Mem} {Xm : String → Mem → Prop} {Qm : Mem → Prop} (hw : wp_X9_requireSheets M Xm Qm) (H : Heap) (locs : List Loc) (hR : Rp G e0 α κ B M H) (hS : va_S (fun q => B ≤ q) s.heap H locs) (ls : Array Slot) (hl : lv_has ls 1 [(0, .ref (α 10 0))]) : WXV p l e 6 1 6 s m args below meth c G e0 α κ B Qm Xm H locs 0 0 0 ls [] := by
  have hw : ((¬ (M 7 0 0) = 0 → Qm M) ∧ ((M 7 0 0) = 0 → Xm xISE M)) := hw
  refine lv_aload_n X.1.1 X.1.2.1 dX9_requireSheets_0 rfl (lv_at hl 0 rfl) ?_
  refine gt_10_5 X hR (okf X.2.2.1 rfl) kw_337 dX9_requireSheets_1 ?_
  refine gt_7_0 X hR (okp X.2.2.1 rfl (by decide)) kw_241 dX9_requireSheets_4 ?_
  have r1 := hR.r 7 0 0
  refine sa_if_ne (tgt := 21) X.1 r1 dX9_requireSheets_7 (by decide) (fun hc => ?_) (fun hc => ?_)
  · have hw := hw.1 hc
    exact sx_vret X hR hS hw dX9_requireSheets_21 (by decide) (by decide)
  · have hw := hw.2 hc
    exact sx_throwW (text := "the table cannot be set") X T xw_ISE (by decide +kernel) hR hS hl.1 dX9_requireSheets_10 dX9_requireSheets_13 dX9_requireSheets_14 dX9_requireSheets_17 dX9_requireSheets_20 (by decide) (by decide) (by decide) hw
theorem m_X9_requireSheets {l : Launch} {G : Gx} {e0 : Nat} {α : Ax} {κ : Nat → Int} {B : Nat} (hlt : l.stackTraces = false) (hκ : kOK κ) {M : Mem} {Qm : Mem → Prop} {Xm : String → Mem → Prop} (hw : wp_X9_requireSheets M Xm Qm) : XV l yX9_requireSheets (Cond.code yX9_requireSheets cX9_requireSheets 1 none) 6 1 6 G e0 α κ B [.ref (α 10 0)] M Qm Xm :=
  XV.mk hlt hκ (by decide +kernel) rfl (Nat.le_of_ble_eq_true rfl) (lv := [(0, .ref (α 10 0))]) rfl (fun p e s m args below meth c ls X T hR hS hl => t_X9_requireSheets X T hw _ _ hR hS ls hl)
theorem cx_X9_requireSheets {cc : ByteArray} {nL : Nat} {own : String} {ret : Option FieldType} {idx pc : Nat} (X : CX p m c cc nL s args own G B κ meth ret) (T : XT l c) {k mc ms cells slots : Nat} (hk : 6 + 1 ≤ k) (hcel : cells + 1 ≤ mc ∧ slots + 6 ≤ ms) {M : Mem} {H : Heap} {locs : List Loc} (hR : Rp G e0 α κ B M H) (hS : va_S (fun q => B ≤ q) s.heap H locs) (k1 : Cond.methodLink own idx yX9_requireSheets ∈ gw) {ls : Array Slot} (hml : ls.size = nL) {rest : List Value} (hd : decode cc pc = .ok (.invokevirtual idx, 3)) (hrest : (rest.map fun v => v.category).sum ≤ 8) {Qc : Array Value → State → Outcome → State → Prop} {Qm : Mem → Prop} {Xm : String → Mem → Prop} (hw : wp_X9_requireSheets M Xm Qm) (kk : ∀ (M1 : Mem) (H1 : Heap) (locs1 : List Loc), Qm M1 → Rp G e0 α κ B M1 H1 → va_S (fun q => B ≤ q) s.heap H1 locs1 → W p l e (rmX k mc ms) s m args below meth c H1 locs1 (cells + 1) (slots + 6) (vx_MQ below Qc (XQ G e0 α κ B Xm) args s mc ms (fun q => B ≤ q)) (F0 m (pc + 3) ls (rest))) : W p l e (rmX k mc ms) s m args below meth c H locs cells slots (vx_MQ below Qc (XQ G e0 α κ B Xm) args s mc ms (fun q => B ≤ q)) (F0 m pc ls (.ref (α 10 0) :: rest)) :=
  sx_callVV 6 (n := 0) (As := []) (rest := rest) X T hR hS (m_X9_requireSheets T.1 X.2.2.1 hw) k1 kw_1345 kw_33 kw_38 kw_1346 ⟨rfl, by decide +kernel, by decide +kernel, by decide +kernel⟩ (rm_ok rmX_ok hk (by decide)) (rc_10 X hR (okf X.2.2.1 rfl)) rfl rfl hrest hml hd hcel kk
def wp_X9_requireColumn (p1 : Int) (M : Mem) (Xm : String → Mem → Prop) (Qm : Mem → Prop) : Prop := wp_X3_hasColumn p1 M fun (x2 : Int) (M1 : Mem) => ((¬ x2 = 0 → Qm M1) ∧ (x2 = 0 → Xm xIOB M1))
set_option maxHeartbeats 4000000 in
set_option maxRecDepth 100000 in
theorem t_X9_requireColumn {p1 : Int} (X : CX p m c cX9_requireColumn 2 s args RX9 G B κ meth none) (T : XT l c) (hp1 : inR p1) {M : Mem} {Xm : String → Mem → Prop} {Qm : Mem → Prop} (hw : wp_X9_requireColumn p1 M Xm Qm) (H : Heap) (locs : List Loc) (hR : Rp G e0 α κ B M H) (hS : va_S (fun q => B ≤ q) s.heap H locs) (ls : Array Slot) (hl : lv_has ls 2 [(0, .ref (α 10 0)), (1, .int (Int32.ofInt p1))]) : WXV p l e 6 1 6 s m args below meth c G e0 α κ B Qm Xm H locs 0 0 0 ls [] := by
  have hw : wp_X3_hasColumn p1 M fun (x2 : Int) (M1 : Mem) => ((¬ x2 = 0 → Qm M1) ∧ (x2 = 0 → Xm xIOB M1)) := hw
  refine lv_aload_n X.1.1 X.1.2.1 dX9_requireColumn_0 rfl (lv_at hl 0 rfl) ?_
  refine gt_10_0 X hR (okf X.2.2.1 rfl) kw_332 dX9_requireColumn_1 ?_
  refine lv_iload_n X.1.1 X.1.2.1 dX9_requireColumn_4 rfl (lv_at hl 1 rfl) ?_
  refine cs_X3_hasColumn X hp1 (kc := 6) rmX_ok ⟨by decide, by decide⟩ (by decide) hR hS kw_963 hl.1 dX9_requireColumn_5 (Nat.le_of_ble_eq_true rfl) hw (fun x2 M1 H locs hw r3 hR hS => ?_)
  refine sa_if_ne (tgt := 22) X.1 r3 dX9_requireColumn_8 (by decide) (fun hc => ?_) (fun hc => ?_)
  · have hw := hw.1 hc
    exact sx_vret X hR hS hw dX9_requireColumn_22 (by decide) (by decide)
  · have hw := hw.2 hc
    exact sx_throwW (text := "no such column") X T xw_IOB (by decide +kernel) hR hS hl.1 dX9_requireColumn_11 dX9_requireColumn_14 dX9_requireColumn_15 dX9_requireColumn_18 dX9_requireColumn_21 (by decide) (by decide) (by decide) hw
theorem m_X9_requireColumn {l : Launch} {G : Gx} {e0 : Nat} {α : Ax} {κ : Nat → Int} {B : Nat} {p1 : Int} (hlt : l.stackTraces = false) (hκ : kOK κ) (hp1 : inR p1) {M : Mem} {Qm : Mem → Prop} {Xm : String → Mem → Prop} (hw : wp_X9_requireColumn p1 M Xm Qm) : XV l yX9_requireColumn (Cond.code yX9_requireColumn cX9_requireColumn 2 none) 6 1 6 G e0 α κ B [.ref (α 10 0), .int (Int32.ofInt p1)] M Qm Xm :=
  XV.mk hlt hκ (by decide +kernel) rfl (Nat.le_of_ble_eq_true rfl) (lv := [(0, .ref (α 10 0)), (1, .int (Int32.ofInt p1))]) rfl (fun p e s m args below meth c ls X T hR hS hl => t_X9_requireColumn X T hp1 hw _ _ hR hS ls hl)
theorem cx_X9_requireColumn {cc : ByteArray} {nL : Nat} {own : String} {ret : Option FieldType} {idx pc : Nat} {p1 : Int} (X : CX p m c cc nL s args own G B κ meth ret) (T : XT l c) (hp1 : inR p1) {k mc ms cells slots : Nat} (hk : 6 + 1 ≤ k) (hcel : cells + 1 ≤ mc ∧ slots + 6 ≤ ms) {M : Mem} {H : Heap} {locs : List Loc} (hR : Rp G e0 α κ B M H) (hS : va_S (fun q => B ≤ q) s.heap H locs) (k1 : Cond.methodLink own idx yX9_requireColumn ∈ gw) {ls : Array Slot} (hml : ls.size = nL) {rest : List Value} (hd : decode cc pc = .ok (.invokevirtual idx, 3)) (hrest : (rest.map fun v => v.category).sum ≤ 8) {Qc : Array Value → State → Outcome → State → Prop} {Qm : Mem → Prop} {Xm : String → Mem → Prop} (hw : wp_X9_requireColumn p1 M Xm Qm) (kk : ∀ (M1 : Mem) (H1 : Heap) (locs1 : List Loc), Qm M1 → Rp G e0 α κ B M1 H1 → va_S (fun q => B ≤ q) s.heap H1 locs1 → W p l e (rmX k mc ms) s m args below meth c H1 locs1 (cells + 1) (slots + 6) (vx_MQ below Qc (XQ G e0 α κ B Xm) args s mc ms (fun q => B ≤ q)) (F0 m (pc + 3) ls (rest))) : W p l e (rmX k mc ms) s m args below meth c H locs cells slots (vx_MQ below Qc (XQ G e0 α κ B Xm) args s mc ms (fun q => B ≤ q)) (F0 m pc ls (.int (Int32.ofInt p1) :: .ref (α 10 0) :: rest)) :=
  sx_callVV 6 (n := 1) (As := [.int (Int32.ofInt p1)]) (rest := rest) X T hR hS (m_X9_requireColumn T.1 X.2.2.1 hp1 hw) k1 kw_961 kw_27 kw_38 kw_962 ⟨rfl, by decide +kernel, by decide +kernel, by decide +kernel⟩ (rm_ok rmX_ok hk (by decide)) (rc_10 X hR (okf X.2.2.1 rfl)) rfl rfl hrest hml hd hcel kk
def wp_X9_requireRow (p1 : Int) (M : Mem) (Xm : String → Mem → Prop) (Qm : Mem → Prop) : Prop := wp_X3_hasRow p1 M fun (x2 : Int) (M1 : Mem) => ((¬ x2 = 0 → Qm M1) ∧ (x2 = 0 → Xm xIOB M1))
set_option maxHeartbeats 4000000 in
set_option maxRecDepth 100000 in
theorem t_X9_requireRow {p1 : Int} (X : CX p m c cX9_requireRow 2 s args RX9 G B κ meth none) (T : XT l c) (hp1 : inR p1) {M : Mem} {Xm : String → Mem → Prop} {Qm : Mem → Prop} (hw : wp_X9_requireRow p1 M Xm Qm) (H : Heap) (locs : List Loc) (hR : Rp G e0 α κ B M H) (hS : va_S (fun q => B ≤ q) s.heap H locs) (ls : Array Slot) (hl : lv_has ls 2 [(0, .ref (α 10 0)), (1, .int (Int32.ofInt p1))]) : WXV p l e 6 1 6 s m args below meth c G e0 α κ B Qm Xm H locs 0 0 0 ls [] := by
  have hw : wp_X3_hasRow p1 M fun (x2 : Int) (M1 : Mem) => ((¬ x2 = 0 → Qm M1) ∧ (x2 = 0 → Xm xIOB M1)) := hw
  refine lv_aload_n X.1.1 X.1.2.1 dX9_requireRow_0 rfl (lv_at hl 0 rfl) ?_
  refine gt_10_0 X hR (okf X.2.2.1 rfl) kw_332 dX9_requireRow_1 ?_
  refine lv_iload_n X.1.1 X.1.2.1 dX9_requireRow_4 rfl (lv_at hl 1 rfl) ?_
  refine cs_X3_hasRow X hp1 (kc := 6) rmX_ok ⟨by decide, by decide⟩ (by decide) hR hS kw_942 hl.1 dX9_requireRow_5 (Nat.le_of_ble_eq_true rfl) hw (fun x2 M1 H locs hw r3 hR hS => ?_)
  refine sa_if_ne (tgt := 22) X.1 r3 dX9_requireRow_8 (by decide) (fun hc => ?_) (fun hc => ?_)
  · have hw := hw.1 hc
    exact sx_vret X hR hS hw dX9_requireRow_22 (by decide) (by decide)
  · have hw := hw.2 hc
    exact sx_throwW (text := "no such row") X T xw_IOB (by decide +kernel) hR hS hl.1 dX9_requireRow_11 dX9_requireRow_14 dX9_requireRow_15 dX9_requireRow_18 dX9_requireRow_21 (by decide) (by decide) (by decide) hw
theorem m_X9_requireRow {l : Launch} {G : Gx} {e0 : Nat} {α : Ax} {κ : Nat → Int} {B : Nat} {p1 : Int} (hlt : l.stackTraces = false) (hκ : kOK κ) (hp1 : inR p1) {M : Mem} {Qm : Mem → Prop} {Xm : String → Mem → Prop} (hw : wp_X9_requireRow p1 M Xm Qm) : XV l yX9_requireRow (Cond.code yX9_requireRow cX9_requireRow 2 none) 6 1 6 G e0 α κ B [.ref (α 10 0), .int (Int32.ofInt p1)] M Qm Xm :=
  XV.mk hlt hκ (by decide +kernel) rfl (Nat.le_of_ble_eq_true rfl) (lv := [(0, .ref (α 10 0)), (1, .int (Int32.ofInt p1))]) rfl (fun p e s m args below meth c ls X T hR hS hl => t_X9_requireRow X T hp1 hw _ _ hR hS ls hl)
theorem cx_X9_requireRow {cc : ByteArray} {nL : Nat} {own : String} {ret : Option FieldType} {idx pc : Nat} {p1 : Int} (X : CX p m c cc nL s args own G B κ meth ret) (T : XT l c) (hp1 : inR p1) {k mc ms cells slots : Nat} (hk : 6 + 1 ≤ k) (hcel : cells + 1 ≤ mc ∧ slots + 6 ≤ ms) {M : Mem} {H : Heap} {locs : List Loc} (hR : Rp G e0 α κ B M H) (hS : va_S (fun q => B ≤ q) s.heap H locs) (k1 : Cond.methodLink own idx yX9_requireRow ∈ gw) {ls : Array Slot} (hml : ls.size = nL) {rest : List Value} (hd : decode cc pc = .ok (.invokevirtual idx, 3)) (hrest : (rest.map fun v => v.category).sum ≤ 8) {Qc : Array Value → State → Outcome → State → Prop} {Qm : Mem → Prop} {Xm : String → Mem → Prop} (hw : wp_X9_requireRow p1 M Xm Qm) (kk : ∀ (M1 : Mem) (H1 : Heap) (locs1 : List Loc), Qm M1 → Rp G e0 α κ B M1 H1 → va_S (fun q => B ≤ q) s.heap H1 locs1 → W p l e (rmX k mc ms) s m args below meth c H1 locs1 (cells + 1) (slots + 6) (vx_MQ below Qc (XQ G e0 α κ B Xm) args s mc ms (fun q => B ≤ q)) (F0 m (pc + 3) ls (rest))) : W p l e (rmX k mc ms) s m args below meth c H locs cells slots (vx_MQ below Qc (XQ G e0 α κ B Xm) args s mc ms (fun q => B ≤ q)) (F0 m pc ls (.int (Int32.ofInt p1) :: .ref (α 10 0) :: rest)) :=
  sx_callVV 6 (n := 1) (As := [.int (Int32.ofInt p1)]) (rest := rest) X T hR hS (m_X9_requireRow T.1 X.2.2.1 hp1 hw) k1 kw_940 kw_26 kw_38 kw_941 ⟨rfl, by decide +kernel, by decide +kernel, by decide +kernel⟩ (rm_ok rmX_ok hk (by decide)) (rc_10 X hR (okf X.2.2.1 rfl)) rfl rfl hrest hml hd hcel kk
def wp_X9_requireCell (p1 : Int) (M : Mem) (Xm : String → Mem → Prop) (Qm : Mem → Prop) : Prop := wp_X3_hasCell p1 M fun (x2 : Int) (M1 : Mem) => ((¬ x2 = 0 → Qm M1) ∧ (x2 = 0 → Xm xIOB M1))
set_option maxHeartbeats 4000000 in
set_option maxRecDepth 100000 in
theorem t_X9_requireCell {p1 : Int} (X : CX p m c cX9_requireCell 2 s args RX9 G B κ meth none) (T : XT l c) (hp1 : inR p1) {M : Mem} {Xm : String → Mem → Prop} {Qm : Mem → Prop} (hw : wp_X9_requireCell p1 M Xm Qm) (H : Heap) (locs : List Loc) (hR : Rp G e0 α κ B M H) (hS : va_S (fun q => B ≤ q) s.heap H locs) (ls : Array Slot) (hl : lv_has ls 2 [(0, .ref (α 10 0)), (1, .int (Int32.ofInt p1))]) : WXV p l e 6 1 6 s m args below meth c G e0 α κ B Qm Xm H locs 0 0 0 ls [] := by
  have hw : wp_X3_hasCell p1 M fun (x2 : Int) (M1 : Mem) => ((¬ x2 = 0 → Qm M1) ∧ (x2 = 0 → Xm xIOB M1)) := hw
  refine lv_aload_n X.1.1 X.1.2.1 dX9_requireCell_0 rfl (lv_at hl 0 rfl) ?_
  refine gt_10_0 X hR (okf X.2.2.1 rfl) kw_332 dX9_requireCell_1 ?_
  refine lv_iload_n X.1.1 X.1.2.1 dX9_requireCell_4 rfl (lv_at hl 1 rfl) ?_
  refine cs_X3_hasCell X hp1 (kc := 6) rmX_ok ⟨by decide, by decide⟩ (by decide) hR hS kw_1081 hl.1 dX9_requireCell_5 (Nat.le_of_ble_eq_true rfl) hw (fun x2 M1 H locs hw r3 hR hS => ?_)
  refine sa_if_ne (tgt := 22) X.1 r3 dX9_requireCell_8 (by decide) (fun hc => ?_) (fun hc => ?_)
  · have hw := hw.1 hc
    exact sx_vret X hR hS hw dX9_requireCell_22 (by decide) (by decide)
  · have hw := hw.2 hc
    exact sx_throwW (text := "no such cell") X T xw_IOB (by decide +kernel) hR hS hl.1 dX9_requireCell_11 dX9_requireCell_14 dX9_requireCell_15 dX9_requireCell_18 dX9_requireCell_21 (by decide) (by decide) (by decide) hw
theorem m_X9_requireCell {l : Launch} {G : Gx} {e0 : Nat} {α : Ax} {κ : Nat → Int} {B : Nat} {p1 : Int} (hlt : l.stackTraces = false) (hκ : kOK κ) (hp1 : inR p1) {M : Mem} {Qm : Mem → Prop} {Xm : String → Mem → Prop} (hw : wp_X9_requireCell p1 M Xm Qm) : XV l yX9_requireCell (Cond.code yX9_requireCell cX9_requireCell 2 none) 6 1 6 G e0 α κ B [.ref (α 10 0), .int (Int32.ofInt p1)] M Qm Xm :=
  XV.mk hlt hκ (by decide +kernel) rfl (Nat.le_of_ble_eq_true rfl) (lv := [(0, .ref (α 10 0)), (1, .int (Int32.ofInt p1))]) rfl (fun p e s m args below meth c ls X T hR hS hl => t_X9_requireCell X T hp1 hw _ _ hR hS ls hl)
theorem cx_X9_requireCell {cc : ByteArray} {nL : Nat} {own : String} {ret : Option FieldType} {idx pc : Nat} {p1 : Int} (X : CX p m c cc nL s args own G B κ meth ret) (T : XT l c) (hp1 : inR p1) {k mc ms cells slots : Nat} (hk : 6 + 1 ≤ k) (hcel : cells + 1 ≤ mc ∧ slots + 6 ≤ ms) {M : Mem} {H : Heap} {locs : List Loc} (hR : Rp G e0 α κ B M H) (hS : va_S (fun q => B ≤ q) s.heap H locs) (k1 : Cond.methodLink own idx yX9_requireCell ∈ gw) {ls : Array Slot} (hml : ls.size = nL) {rest : List Value} (hd : decode cc pc = .ok (.invokevirtual idx, 3)) (hrest : (rest.map fun v => v.category).sum ≤ 8) {Qc : Array Value → State → Outcome → State → Prop} {Qm : Mem → Prop} {Xm : String → Mem → Prop} (hw : wp_X9_requireCell p1 M Xm Qm) (kk : ∀ (M1 : Mem) (H1 : Heap) (locs1 : List Loc), Qm M1 → Rp G e0 α κ B M1 H1 → va_S (fun q => B ≤ q) s.heap H1 locs1 → W p l e (rmX k mc ms) s m args below meth c H1 locs1 (cells + 1) (slots + 6) (vx_MQ below Qc (XQ G e0 α κ B Xm) args s mc ms (fun q => B ≤ q)) (F0 m (pc + 3) ls (rest))) : W p l e (rmX k mc ms) s m args below meth c H locs cells slots (vx_MQ below Qc (XQ G e0 α κ B Xm) args s mc ms (fun q => B ≤ q)) (F0 m pc ls (.int (Int32.ofInt p1) :: .ref (α 10 0) :: rest)) :=
  sx_callVV 6 (n := 1) (As := [.int (Int32.ofInt p1)]) (rest := rest) X T hR hS (m_X9_requireCell T.1 X.2.2.1 hp1 hw) k1 kw_1079 kw_29 kw_38 kw_1080 ⟨rfl, by decide +kernel, by decide +kernel, by decide +kernel⟩ (rm_ok rmX_ok hk (by decide)) (rc_10 X hR (okf X.2.2.1 rfl)) rfl rfl hrest hml hd hcel kk
def wp_X9_requirePage (p1 : Int) (M : Mem) (Xm : String → Mem → Prop) (Qm : Mem → Prop) : Prop := wp_X6_hasPage 0 p1 M fun (x2 : Int) (M1 : Mem) => ((¬ x2 = 0 → Qm M1) ∧ (x2 = 0 → Xm xIAE M1))
set_option maxHeartbeats 4000000 in
set_option maxRecDepth 100000 in
theorem t_X9_requirePage {p1 : Int} (X : CX p m c cX9_requirePage 2 s args RX9 G B κ meth none) (T : XT l c) (hp1 : inR p1) {M : Mem} {Xm : String → Mem → Prop} {Qm : Mem → Prop} (hw : wp_X9_requirePage p1 M Xm Qm) (H : Heap) (locs : List Loc) (hR : Rp G e0 α κ B M H) (hS : va_S (fun q => B ≤ q) s.heap H locs) (ls : Array Slot) (hl : lv_has ls 2 [(0, .ref (α 10 0)), (1, .int (Int32.ofInt p1))]) : WXV p l e 6 1 6 s m args below meth c G e0 α κ B Qm Xm H locs 0 0 0 ls [] := by
  have hw : wp_X6_hasPage 0 p1 M fun (x2 : Int) (M1 : Mem) => ((¬ x2 = 0 → Qm M1) ∧ (x2 = 0 → Xm xIAE M1)) := hw
  refine lv_aload_n X.1.1 X.1.2.1 dX9_requirePage_0 rfl (lv_at hl 0 rfl) ?_
  refine gt_10_5 X hR (okf X.2.2.1 rfl) kw_337 dX9_requirePage_1 ?_
  refine lv_iload_n X.1.1 X.1.2.1 dX9_requirePage_4 rfl (lv_at hl 1 rfl) ?_
  refine cs_X6_hasPage X (okp X.2.2.1 rfl (by decide)) hp1 (kc := 6) rmX_ok ⟨by decide, by decide⟩ (by decide) hR hS kw_1384 hl.1 dX9_requirePage_5 (Nat.le_of_ble_eq_true rfl) hw (fun x2 M1 H locs hw r3 hR hS => ?_)
  refine sa_if_ne (tgt := 22) X.1 r3 dX9_requirePage_8 (by decide) (fun hc => ?_) (fun hc => ?_)
  · have hw := hw.1 hc
    exact sx_vret X hR hS hw dX9_requirePage_22 (by decide) (by decide)
  · have hw := hw.2 hc
    exact sx_throwW (text := "no such page") X T xw_IAE (by decide +kernel) hR hS hl.1 dX9_requirePage_11 dX9_requirePage_14 dX9_requirePage_15 dX9_requirePage_18 dX9_requirePage_21 (by decide) (by decide) (by decide) hw
theorem m_X9_requirePage {l : Launch} {G : Gx} {e0 : Nat} {α : Ax} {κ : Nat → Int} {B : Nat} {p1 : Int} (hlt : l.stackTraces = false) (hκ : kOK κ) (hp1 : inR p1) {M : Mem} {Qm : Mem → Prop} {Xm : String → Mem → Prop} (hw : wp_X9_requirePage p1 M Xm Qm) : XV l yX9_requirePage (Cond.code yX9_requirePage cX9_requirePage 2 none) 6 1 6 G e0 α κ B [.ref (α 10 0), .int (Int32.ofInt p1)] M Qm Xm :=
  XV.mk hlt hκ (by decide +kernel) rfl (Nat.le_of_ble_eq_true rfl) (lv := [(0, .ref (α 10 0)), (1, .int (Int32.ofInt p1))]) rfl (fun p e s m args below meth c ls X T hR hS hl => t_X9_requirePage X T hp1 hw _ _ hR hS ls hl)
theorem cx_X9_requirePage {cc : ByteArray} {nL : Nat} {own : String} {ret : Option FieldType} {idx pc : Nat} {p1 : Int} (X : CX p m c cc nL s args own G B κ meth ret) (T : XT l c) (hp1 : inR p1) {k mc ms cells slots : Nat} (hk : 6 + 1 ≤ k) (hcel : cells + 1 ≤ mc ∧ slots + 6 ≤ ms) {M : Mem} {H : Heap} {locs : List Loc} (hR : Rp G e0 α κ B M H) (hS : va_S (fun q => B ≤ q) s.heap H locs) (k1 : Cond.methodLink own idx yX9_requirePage ∈ gw) {ls : Array Slot} (hml : ls.size = nL) {rest : List Value} (hd : decode cc pc = .ok (.invokevirtual idx, 3)) (hrest : (rest.map fun v => v.category).sum ≤ 8) {Qc : Array Value → State → Outcome → State → Prop} {Qm : Mem → Prop} {Xm : String → Mem → Prop} (hw : wp_X9_requirePage p1 M Xm Qm) (kk : ∀ (M1 : Mem) (H1 : Heap) (locs1 : List Loc), Qm M1 → Rp G e0 α κ B M1 H1 → va_S (fun q => B ≤ q) s.heap H1 locs1 → W p l e (rmX k mc ms) s m args below meth c H1 locs1 (cells + 1) (slots + 6) (vx_MQ below Qc (XQ G e0 α κ B Xm) args s mc ms (fun q => B ≤ q)) (F0 m (pc + 3) ls (rest))) : W p l e (rmX k mc ms) s m args below meth c H locs cells slots (vx_MQ below Qc (XQ G e0 α κ B Xm) args s mc ms (fun q => B ≤ q)) (F0 m pc ls (.int (Int32.ofInt p1) :: .ref (α 10 0) :: rest)) :=
  sx_callVV 6 (n := 1) (As := [.int (Int32.ofInt p1)]) (rest := rest) X T hR hS (m_X9_requirePage T.1 X.2.2.1 hp1 hw) k1 kw_1382 kw_34 kw_38 kw_1383 ⟨rfl, by decide +kernel, by decide +kernel, by decide +kernel⟩ (rm_ok rmX_ok hk (by decide)) (rc_10 X hR (okf X.2.2.1 rfl)) rfl rfl hrest hml hd hcel kk
def wp_X9_word_27 (p1 : Int) (p2 : Int) (p3 : Int) (Xm : String → Mem → Prop) (Qm : Int → Mem → Prop) (M : Mem) : Prop := Xm xIAE M
def wp_X9_word_71 (p1 : Int) (p2 : Int) (p3 : Int) (Xm : String → Mem → Prop) (Qm : Int → Mem → Prop) (M : Mem) : Prop := Xm xISE M
def wp_X9_word (p1 : Int) (p2 : Int) (p3 : Int) (M : Mem) (Xm : String → Mem → Prop) (Qm : Int → Mem → Prop) : Prop := wp_X9_requireCell p1 M Xm fun (M1 : Mem) => ((p2 < 1 → wp_X9_word_27 p1 p2 p3 Xm Qm M1) ∧ (1 ≤ p2 → ((20 < p2 → wp_X9_word_27 p1 p2 p3 Xm Qm M1) ∧ (p2 ≤ 20 → ((p3 < 0 → wp_X9_word_27 p1 p2 p3 Xm Qm M1) ∧ (0 ≤ p3 → (inR (p2 - 1)) ∧ ((p3 ≤ (p2 - 1) → (0 ≤ p1 ∧ p1 < M1 14 0 (-1)) ∧ ((¬ (M1 1 (M1 14 0 p1) 8) = 0 → wp_X9_word_71 p1 p2 p3 Xm Qm M1) ∧ ((M1 1 (M1 14 0 p1) 8) = 0 → (((M1 1 (M1 14 0 p1) 7) < 12 → ∀ M7 : Mem, M7 = up M1 10 0 10 1 → wp_X0_addWord (M1 14 0 p1) p2 p3 M7 fun (M9 : Mem) => Qm (M9 1 (M1 14 0 p1) 7) M9) ∧ (12 ≤ (M1 1 (M1 14 0 p1) 7) → wp_X9_word_71 p1 p2 p3 Xm Qm M1))))) ∧ ((p2 - 1) < p3 → wp_X9_word_27 p1 p2 p3 Xm Qm M1))))))))
set_option maxHeartbeats 4000000 in
set_option maxRecDepth 100000 in
theorem t_X9_word_27 {p1 : Int} {p2 : Int} {p3 : Int} (X : CX p m c cX9_word 5 s args RX9 G B κ meth (some .int)) (T : XT l c) (hp1 : inR p1) (hp2 : inR p2) (hp3 : inR p3) {Xm : String → Mem → Prop} {Qm : Int → Mem → Prop} : ∀ M : Mem, wp_X9_word_27 p1 p2 p3 Xm Qm M → ∀ (H : Heap) (locs : List Loc), Rp G e0 α κ B M H → va_S (fun q => B ≤ q) s.heap H locs → ∀ (ls : Array Slot), lv_has ls 5 [] → WXI p l e 7 2 12 s m args below meth c G e0 α κ B Qm Xm H locs 1 6 27 ls [] := by
  intro M hw H locs hR hS ls hl
  have hw : Xm xIAE M := hw
  exact sx_throw (text := "length or cut is out of range") X T xw_IAE (by decide +kernel) hR hS hl.1 dX9_word_27 dX9_word_30 dX9_word_31 dX9_word_33 dX9_word_36 (by decide) (by decide) (by decide) hw
set_option maxHeartbeats 4000000 in
set_option maxRecDepth 100000 in
theorem t_X9_word_71 {p1 : Int} {p2 : Int} {p3 : Int} (X : CX p m c cX9_word 5 s args RX9 G B κ meth (some .int)) (T : XT l c) (hp1 : inR p1) (hp2 : inR p2) (hp3 : inR p3) {Xm : String → Mem → Prop} {Qm : Int → Mem → Prop} : ∀ M : Mem, wp_X9_word_71 p1 p2 p3 Xm Qm M → ∀ (H : Heap) (locs : List Loc), Rp G e0 α κ B M H → va_S (fun q => B ≤ q) s.heap H locs → ∀ (ls : Array Slot), lv_has ls 5 [] → WXI p l e 7 2 12 s m args below meth c G e0 α κ B Qm Xm H locs 1 6 71 ls [] := by
  intro M hw H locs hR hS ls hl
  have hw : Xm xISE M := hw
  exact sx_throw (text := "the cell has a figure, or 12 words") X T xw_ISE (by decide +kernel) hR hS hl.1 dX9_word_71 dX9_word_74 dX9_word_75 dX9_word_77 dX9_word_80 (by decide) (by decide) (by decide) hw
set_option maxHeartbeats 4000000 in
set_option maxRecDepth 100000 in
theorem t_X9_word {p1 : Int} {p2 : Int} {p3 : Int} (X : CX p m c cX9_word 5 s args RX9 G B κ meth (some .int)) (T : XT l c) (hp1 : inR p1) (hp2 : inR p2) (hp3 : inR p3) {M : Mem} {Xm : String → Mem → Prop} {Qm : Int → Mem → Prop} (hw : wp_X9_word p1 p2 p3 M Xm Qm) (H : Heap) (locs : List Loc) (hR : Rp G e0 α κ B M H) (hS : va_S (fun q => B ≤ q) s.heap H locs) (ls : Array Slot) (hl : lv_has ls 5 [(0, .ref (α 10 0)), (1, .int (Int32.ofInt p1)), (2, .int (Int32.ofInt p2)), (3, .int (Int32.ofInt p3))]) : WXI p l e 7 2 12 s m args below meth c G e0 α κ B Qm Xm H locs 0 0 0 ls [] := by
  have hw : wp_X9_requireCell p1 M Xm fun (M1 : Mem) => ((p2 < 1 → wp_X9_word_27 p1 p2 p3 Xm Qm M1) ∧ (1 ≤ p2 → ((20 < p2 → wp_X9_word_27 p1 p2 p3 Xm Qm M1) ∧ (p2 ≤ 20 → ((p3 < 0 → wp_X9_word_27 p1 p2 p3 Xm Qm M1) ∧ (0 ≤ p3 → (inR (p2 - 1)) ∧ ((p3 ≤ (p2 - 1) → (0 ≤ p1 ∧ p1 < M1 14 0 (-1)) ∧ ((¬ (M1 1 (M1 14 0 p1) 8) = 0 → wp_X9_word_71 p1 p2 p3 Xm Qm M1) ∧ ((M1 1 (M1 14 0 p1) 8) = 0 → (((M1 1 (M1 14 0 p1) 7) < 12 → ∀ M7 : Mem, M7 = up M1 10 0 10 1 → wp_X0_addWord (M1 14 0 p1) p2 p3 M7 fun (M9 : Mem) => Qm (M9 1 (M1 14 0 p1) 7) M9) ∧ (12 ≤ (M1 1 (M1 14 0 p1) 7) → wp_X9_word_71 p1 p2 p3 Xm Qm M1))))) ∧ ((p2 - 1) < p3 → wp_X9_word_27 p1 p2 p3 Xm Qm M1)))))))) := hw
  refine lv_aload_n X.1.1 X.1.2.1 dX9_word_0 rfl (lv_at hl 0 rfl) ?_
  refine lv_iload_n X.1.1 X.1.2.1 dX9_word_1 rfl (lv_at hl 1 rfl) ?_
  refine cx_X9_requireCell X T hp1 (by decide) ⟨by decide, by decide⟩ hR hS kw_1077 hl.1 dX9_word_2 (Nat.le_of_ble_eq_true rfl) hw (fun M1 H locs hw hR hS => ?_)
  refine W.widen (k := 1) (n := 6) (by decide) (by decide) ?_
  refine lv_iload_n X.1.1 X.1.2.1 dX9_word_5 rfl (lv_at hl 2 rfl) ?_
  refine sa_const X.1 dX9_word_6 ?_
  refine sa_icmp_lt (tgt := 27) X.1 hp2 (inR_c (a := 1) rfl) dX9_word_7 (by decide) (fun hc => ?_) (fun hc => ?_)
  · have hw := hw.1 hc
    exact t_X9_word_27 X T hp1 hp2 hp3 _ hw _ _ hR hS _ (lv_sub hl [] rfl)
  · have hw := hw.2 hc
    refine lv_iload_n X.1.1 X.1.2.1 dX9_word_10 rfl (lv_at hl 2 rfl) ?_
    refine sa_bipush X.1 dX9_word_11 (by decide) ?_
    refine sa_icmp_gt (tgt := 27) X.1 hp2 (inR_c (a := 20) rfl) dX9_word_13 (by decide) (fun hc => ?_) (fun hc => ?_)
    · have hw := hw.1 hc
      exact t_X9_word_27 X T hp1 hp2 hp3 _ hw _ _ hR hS _ (lv_sub hl [] rfl)
    · have hw := hw.2 hc
      refine lv_iload_n X.1.1 X.1.2.1 dX9_word_16 rfl (lv_at hl 3 rfl) ?_
      refine sa_if_lt (tgt := 27) X.1 hp3 dX9_word_17 (by decide) (fun hc => ?_) (fun hc => ?_)
      · have hw := hw.1 hc
        exact t_X9_word_27 X T hp1 hp2 hp3 _ hw _ _ hR hS _ (lv_sub hl [] rfl)
      · have hw := hw.2 hc
        refine lv_iload_n X.1.1 X.1.2.1 dX9_word_20 rfl (lv_at hl 3 rfl) ?_
        refine lv_iload_n X.1.1 X.1.2.1 dX9_word_21 rfl (lv_at hl 2 rfl) ?_
        refine sa_const X.1 dX9_word_22 ?_
        have c2 := hw.1
        have hw := hw.2
        refine sa_isub X.1 dX9_word_23 ?_
        refine sa_icmp_le (tgt := 37) X.1 hp3 c2 dX9_word_24 (by decide) (fun hc => ?_) (fun hc => ?_)
        · have hw := hw.1 hc
          refine lv_aload_n X.1.1 X.1.2.1 dX9_word_37 rfl (lv_at hl 0 rfl) ?_
          refine gt_10_0 X hR (okf X.2.2.1 rfl) kw_332 dX9_word_38 ?_
          refine gt_4_2 X hR (okf X.2.2.1 rfl) kw_121 dX9_word_41 ?_
          refine lv_iload_n X.1.1 X.1.2.1 dX9_word_44 rfl (lv_at hl 1 rfl) ?_
          have c3 := hw.1
          have hw := hw.2
          refine ls_get (ci := 1) (by decide) (by decide) rfl X c3 (kc := 7) rmX_ok ⟨by decide, by decide⟩ (by decide) hR hS kw_969 hl.1 dX9_word_45 (Nat.le_of_ble_eq_true rfl) (fun H locs o4 hR hS => ?_)
          refine ck_1 X hR o4 kw_976 dX9_word_48 ?_
          refine lv_astore (lv' := [(4, .ref (α 1 (M1 14 0 p1))), (0, .ref (α 10 0)), (1, .int (Int32.ofInt p1)), (2, .int (Int32.ofInt p2)), (3, .int (Int32.ofInt p3))]) X.1.1 X.1.2.1 dX9_word_51 hl (by decide) rfl (fun ls hl => ?_)
          refine lv_aload X.1.1 X.1.2.1 dX9_word_53 (lv_at hl 0 rfl) ?_
          refine gt_1_8 X hR o4 kw_1006 dX9_word_55 ?_
          have r5 := hR.r 1 (M1 14 0 p1) 8
          refine sa_if_ne (tgt := 71) X.1 r5 dX9_word_58 (by decide) (fun hc => ?_) (fun hc => ?_)
          · have hw := hw.1 hc
            exact t_X9_word_71 X T hp1 hp2 hp3 _ hw _ _ hR hS _ (lv_sub hl [] rfl)
          · have hw := hw.2 hc
            refine lv_aload X.1.1 X.1.2.1 dX9_word_61 (lv_at hl 0 rfl) ?_
            refine gt_1_7 X hR o4 kw_1004 dX9_word_63 ?_
            have r6 := hR.r 1 (M1 14 0 p1) 7
            refine sa_bipush X.1 dX9_word_66 (by decide) ?_
            refine sa_icmp_lt (tgt := 81) X.1 r6 (inR_c (a := 12) rfl) dX9_word_68 (by decide) (fun hc => ?_) (fun hc => ?_)
            · have hw := hw.1 hc
              refine lv_aload_n X.1.1 X.1.2.1 dX9_word_81 rfl (lv_at hl 1 rfl) ?_
              refine sa_const X.1 dX9_word_82 ?_
              refine pt_10_10 X hR hS (okf X.2.2.1 rfl) (Or.inr rfl) kw_342 dX9_word_83 (fun H locs hR hS => ?_)
              obtain ⟨M7, e8⟩ : ∃ z : Mem, z = up M1 10 0 10 1 := ⟨_, rfl⟩
              rw [← e8] at hR
              have hw := hw M7 e8
              refine lv_aload X.1.1 X.1.2.1 dX9_word_86 (lv_at hl 0 rfl) ?_
              refine lv_iload_n X.1.1 X.1.2.1 dX9_word_88 rfl (lv_at hl 3 rfl) ?_
              refine lv_iload_n X.1.1 X.1.2.1 dX9_word_89 rfl (lv_at hl 4 rfl) ?_
              refine cs_X0_addWord X o4 hp2 hp3 (kc := 7) rmX_ok ⟨by decide, by decide⟩ (by decide) hR hS kw_1088 hl.1 dX9_word_90 (Nat.le_of_ble_eq_true rfl) hw (fun M9 H locs hw hR hS => ?_)
              refine lv_aload X.1.1 X.1.2.1 dX9_word_93 (lv_at hl 0 rfl) ?_
              refine gt_1_7 X hR o4 kw_1004 dX9_word_95 ?_
              have r10 := hR.r 1 (M1 14 0 p1) 7
              exact sx_iret X hR hS r10 hw dX9_word_98 (by decide) (by decide)
            · have hw := hw.2 hc
              exact t_X9_word_71 X T hp1 hp2 hp3 _ hw _ _ hR hS _ (lv_sub hl [] rfl)
        · have hw := hw.2 hc
          exact t_X9_word_27 X T hp1 hp2 hp3 _ hw _ _ hR hS _ (lv_sub hl [] rfl)
theorem m_X9_word {l : Launch} {G : Gx} {e0 : Nat} {α : Ax} {κ : Nat → Int} {B : Nat} {p1 : Int} {p2 : Int} {p3 : Int} (hlt : l.stackTraces = false) (hκ : kOK κ) (hp1 : inR p1) (hp2 : inR p2) (hp3 : inR p3) {M : Mem} {Qm : Int → Mem → Prop} {Xm : String → Mem → Prop} (hw : wp_X9_word p1 p2 p3 M Xm Qm) : XI l yX9_word (Cond.code yX9_word cX9_word 5 (some .int)) 7 2 12 G e0 α κ B [.ref (α 10 0), .int (Int32.ofInt p1), .int (Int32.ofInt p2), .int (Int32.ofInt p3)] M Qm Xm :=
  XI.mk hlt hκ (by decide +kernel) rfl (Nat.le_of_ble_eq_true rfl) (lv := [(0, .ref (α 10 0)), (1, .int (Int32.ofInt p1)), (2, .int (Int32.ofInt p2)), (3, .int (Int32.ofInt p3))]) rfl (fun p e s m args below meth c ls X T hR hS hl => t_X9_word X T hp1 hp2 hp3 hw _ _ hR hS ls hl)
theorem cx_X9_word {cc : ByteArray} {nL : Nat} {own : String} {ret : Option FieldType} {idx pc : Nat} {p1 : Int} {p2 : Int} {p3 : Int} (X : CX p m c cc nL s args own G B κ meth ret) (T : XT l c) (hp1 : inR p1) (hp2 : inR p2) (hp3 : inR p3) {k mc ms cells slots : Nat} (hk : 7 + 1 ≤ k) (hcel : cells + 2 ≤ mc ∧ slots + 12 ≤ ms) {M : Mem} {H : Heap} {locs : List Loc} (hR : Rp G e0 α κ B M H) (hS : va_S (fun q => B ≤ q) s.heap H locs) (k1 : Cond.methodLink own idx yX9_word ∈ gw) {ls : Array Slot} (hml : ls.size = nL) {rest : List Value} (hd : decode cc pc = .ok (.invokevirtual idx, 3)) (hrest : (rest.map fun v => v.category).sum ≤ 8) {Qc : Array Value → State → Outcome → State → Prop} {Qm : Int → Mem → Prop} {Xm : String → Mem → Prop} (hw : wp_X9_word p1 p2 p3 M Xm Qm) (kk : ∀ (r : Int) (M1 : Mem) (H1 : Heap) (locs1 : List Loc), Qm r M1 → inR r → Rp G e0 α κ B M1 H1 → va_S (fun q => B ≤ q) s.heap H1 locs1 → W p l e (rmX k mc ms) s m args below meth c H1 locs1 (cells + 2) (slots + 12) (vx_MQ below Qc (XQ G e0 α κ B Xm) args s mc ms (fun q => B ≤ q)) (F0 m (pc + 3) ls (.int (Int32.ofInt r) :: rest))) : W p l e (rmX k mc ms) s m args below meth c H locs cells slots (vx_MQ below Qc (XQ G e0 α κ B Xm) args s mc ms (fun q => B ≤ q)) (F0 m pc ls (.int (Int32.ofInt p3) :: .int (Int32.ofInt p2) :: .int (Int32.ofInt p1) :: .ref (α 10 0) :: rest)) :=
  sx_callVI 7 (n := 3) (As := [.int (Int32.ofInt p1), .int (Int32.ofInt p2), .int (Int32.ofInt p3)]) (rest := rest) X T hR hS (m_X9_word T.1 X.2.2.1 hp1 hp2 hp3 hw) k1 kw_1074 kw_1075 kw_38 kw_1076 ⟨rfl, by decide +kernel, by decide +kernel, by decide +kernel⟩ (rm_ok rmX_ok hk (by decide)) (rc_10 X hR (okf X.2.2.1 rfl)) rfl rfl hrest hml hd hcel kk
def wp_X9_figure_65 (p1 : Int) (p2 : Int) (p3 : Int) (Xm : String → Mem → Prop) (Qm : Mem → Prop) (M : Mem) : Prop := Xm xISE M
def wp_X9_figure (p1 : Int) (p2 : Int) (p3 : Int) (M : Mem) (Xm : String → Mem → Prop) (Qm : Mem → Prop) : Prop := wp_X9_requireCell p1 M Xm fun (M1 : Mem) => wp_X9_isFigure p2 p3 M1 fun (x3 : Int) (M2 : Mem) => ((¬ x3 = 0 → (0 ≤ p1 ∧ p1 < M2 14 0 (-1)) ∧ ((0 < (M2 1 (M2 14 0 p1) 7) → wp_X9_figure_65 p1 p2 p3 Xm Qm M2) ∧ ((M2 1 (M2 14 0 p1) 7) ≤ 0 → ((1 < (M2 1 (M2 14 0 p1) 2) → wp_X9_figure_65 p1 p2 p3 Xm Qm M2) ∧ ((M2 1 (M2 14 0 p1) 2) ≤ 1 → (((M2 1 (M2 14 0 p1) 3) ≤ 1 → ∀ M10 : Mem, M10 = up M2 10 0 10 1 → ∀ M12 : Mem, M12 = up M10 1 (M2 14 0 p1) 8 1 → ∀ M14 : Mem, M14 = up M12 1 (M2 14 0 p1) 9 p2 → ∀ M16 : Mem, M16 = up M14 1 (M2 14 0 p1) 10 p3 → Qm M16) ∧ (1 < (M2 1 (M2 14 0 p1) 3) → wp_X9_figure_65 p1 p2 p3 Xm Qm M2))))))) ∧ (x3 = 0 → Xm xIAE M2))
set_option maxHeartbeats 4000000 in
set_option maxRecDepth 100000 in
theorem t_X9_figure_65 {p1 : Int} {p2 : Int} {p3 : Int} (X : CX p m c cX9_figure 5 s args RX9 G B κ meth none) (T : XT l c) (hp1 : inR p1) (hp2 : inR p2) (hp3 : inR p3) {Xm : String → Mem → Prop} {Qm : Mem → Prop} : ∀ M : Mem, wp_X9_figure_65 p1 p2 p3 Xm Qm M → ∀ (H : Heap) (locs : List Loc), Rp G e0 α κ B M H → va_S (fun q => B ≤ q) s.heap H locs → ∀ (ls : Array Slot), lv_has ls 5 [] → WXV p l e 7 2 12 s m args below meth c G e0 α κ B Qm Xm H locs 1 6 65 ls [] := by
  intro M hw H locs hR hS ls hl
  have hw : Xm xISE M := hw
  exact sx_throw (text := "the cell has words, or spans several rows or columns") X T xw_ISE (by decide +kernel) hR hS hl.1 dX9_figure_65 dX9_figure_68 dX9_figure_69 dX9_figure_71 dX9_figure_74 (by decide) (by decide) (by decide) hw
set_option maxHeartbeats 4000000 in
set_option maxRecDepth 100000 in
theorem t_X9_figure {p1 : Int} {p2 : Int} {p3 : Int} (X : CX p m c cX9_figure 5 s args RX9 G B κ meth none) (T : XT l c) (hp1 : inR p1) (hp2 : inR p2) (hp3 : inR p3) {M : Mem} {Xm : String → Mem → Prop} {Qm : Mem → Prop} (hw : wp_X9_figure p1 p2 p3 M Xm Qm) (H : Heap) (locs : List Loc) (hR : Rp G e0 α κ B M H) (hS : va_S (fun q => B ≤ q) s.heap H locs) (ls : Array Slot) (hl : lv_has ls 5 [(0, .ref (α 10 0)), (1, .int (Int32.ofInt p1)), (2, .int (Int32.ofInt p2)), (3, .int (Int32.ofInt p3))]) : WXV p l e 7 2 12 s m args below meth c G e0 α κ B Qm Xm H locs 0 0 0 ls [] := by
  have hw : wp_X9_requireCell p1 M Xm fun (M1 : Mem) => wp_X9_isFigure p2 p3 M1 fun (x3 : Int) (M2 : Mem) => ((¬ x3 = 0 → (0 ≤ p1 ∧ p1 < M2 14 0 (-1)) ∧ ((0 < (M2 1 (M2 14 0 p1) 7) → wp_X9_figure_65 p1 p2 p3 Xm Qm M2) ∧ ((M2 1 (M2 14 0 p1) 7) ≤ 0 → ((1 < (M2 1 (M2 14 0 p1) 2) → wp_X9_figure_65 p1 p2 p3 Xm Qm M2) ∧ ((M2 1 (M2 14 0 p1) 2) ≤ 1 → (((M2 1 (M2 14 0 p1) 3) ≤ 1 → ∀ M10 : Mem, M10 = up M2 10 0 10 1 → ∀ M12 : Mem, M12 = up M10 1 (M2 14 0 p1) 8 1 → ∀ M14 : Mem, M14 = up M12 1 (M2 14 0 p1) 9 p2 → ∀ M16 : Mem, M16 = up M14 1 (M2 14 0 p1) 10 p3 → Qm M16) ∧ (1 < (M2 1 (M2 14 0 p1) 3) → wp_X9_figure_65 p1 p2 p3 Xm Qm M2))))))) ∧ (x3 = 0 → Xm xIAE M2)) := hw
  refine lv_aload_n X.1.1 X.1.2.1 dX9_figure_0 rfl (lv_at hl 0 rfl) ?_
  refine lv_iload_n X.1.1 X.1.2.1 dX9_figure_1 rfl (lv_at hl 1 rfl) ?_
  refine cx_X9_requireCell X T hp1 (by decide) ⟨by decide, by decide⟩ hR hS kw_1077 hl.1 dX9_figure_2 (Nat.le_of_ble_eq_true rfl) hw (fun M1 H locs hw hR hS => ?_)
  refine W.widen (k := 1) (n := 6) (by decide) (by decide) ?_
  refine lv_iload_n X.1.1 X.1.2.1 dX9_figure_5 rfl (lv_at hl 2 rfl) ?_
  refine lv_iload_n X.1.1 X.1.2.1 dX9_figure_6 rfl (lv_at hl 3 rfl) ?_
  refine cs_X9_isFigure X hp2 hp3 (kc := 7) rmX_ok ⟨by decide, by decide⟩ (by decide) hR hS kw_1099 hl.1 dX9_figure_7 (Nat.le_of_ble_eq_true rfl) hw (fun x3 M2 H locs hw r4 hR hS => ?_)
  refine sa_if_ne (tgt := 23) X.1 r4 dX9_figure_10 (by decide) (fun hc => ?_) (fun hc => ?_)
  · have hw := hw.1 hc
    refine lv_aload_n X.1.1 X.1.2.1 dX9_figure_23 rfl (lv_at hl 0 rfl) ?_
    refine gt_10_0 X hR (okf X.2.2.1 rfl) kw_332 dX9_figure_24 ?_
    refine gt_4_2 X hR (okf X.2.2.1 rfl) kw_121 dX9_figure_27 ?_
    refine lv_iload_n X.1.1 X.1.2.1 dX9_figure_30 rfl (lv_at hl 1 rfl) ?_
    have c5 := hw.1
    have hw := hw.2
    refine ls_get (ci := 1) (by decide) (by decide) rfl X c5 (kc := 7) rmX_ok ⟨by decide, by decide⟩ (by decide) hR hS kw_969 hl.1 dX9_figure_31 (Nat.le_of_ble_eq_true rfl) (fun H locs o6 hR hS => ?_)
    refine ck_1 X hR o6 kw_976 dX9_figure_34 ?_
    refine lv_astore (lv' := [(4, .ref (α 1 (M2 14 0 p1))), (0, .ref (α 10 0)), (1, .int (Int32.ofInt p1)), (2, .int (Int32.ofInt p2)), (3, .int (Int32.ofInt p3))]) X.1.1 X.1.2.1 dX9_figure_37 hl (by decide) rfl (fun ls hl => ?_)
    refine lv_aload X.1.1 X.1.2.1 dX9_figure_39 (lv_at hl 0 rfl) ?_
    refine gt_1_7 X hR o6 kw_1004 dX9_figure_41 ?_
    have r7 := hR.r 1 (M2 14 0 p1) 7
    refine sa_if_gt (tgt := 65) X.1 r7 dX9_figure_44 (by decide) (fun hc => ?_) (fun hc => ?_)
    · have hw := hw.1 hc
      exact t_X9_figure_65 X T hp1 hp2 hp3 _ hw _ _ hR hS _ (lv_sub hl [] rfl)
    · have hw := hw.2 hc
      refine lv_aload X.1.1 X.1.2.1 dX9_figure_47 (lv_at hl 0 rfl) ?_
      refine gt_1_2 X hR o6 kw_993 dX9_figure_49 ?_
      have r8 := hR.r 1 (M2 14 0 p1) 2
      refine sa_const X.1 dX9_figure_52 ?_
      refine sa_icmp_gt (tgt := 65) X.1 r8 (inR_c (a := 1) rfl) dX9_figure_53 (by decide) (fun hc => ?_) (fun hc => ?_)
      · have hw := hw.1 hc
        exact t_X9_figure_65 X T hp1 hp2 hp3 _ hw _ _ hR hS _ (lv_sub hl [] rfl)
      · have hw := hw.2 hc
        refine lv_aload X.1.1 X.1.2.1 dX9_figure_56 (lv_at hl 0 rfl) ?_
        refine gt_1_3 X hR o6 kw_996 dX9_figure_58 ?_
        have r9 := hR.r 1 (M2 14 0 p1) 3
        refine sa_const X.1 dX9_figure_61 ?_
        refine sa_icmp_le (tgt := 75) X.1 r9 (inR_c (a := 1) rfl) dX9_figure_62 (by decide) (fun hc => ?_) (fun hc => ?_)
        · have hw := hw.1 hc
          refine lv_aload_n X.1.1 X.1.2.1 dX9_figure_75 rfl (lv_at hl 1 rfl) ?_
          refine sa_const X.1 dX9_figure_76 ?_
          refine pt_10_10 X hR hS (okf X.2.2.1 rfl) (Or.inr rfl) kw_342 dX9_figure_77 (fun H locs hR hS => ?_)
          obtain ⟨M10, e11⟩ : ∃ z : Mem, z = up M2 10 0 10 1 := ⟨_, rfl⟩
          rw [← e11] at hR
          have hw := hw M10 e11
          refine lv_aload X.1.1 X.1.2.1 dX9_figure_80 (lv_at hl 0 rfl) ?_
          refine sa_const X.1 dX9_figure_82 ?_
          refine pt_1_8 X hR hS o6 (Or.inr rfl) kw_1006 dX9_figure_83 (fun H locs hR hS => ?_)
          obtain ⟨M12, e13⟩ : ∃ z : Mem, z = up M10 1 (M2 14 0 p1) 8 1 := ⟨_, rfl⟩
          rw [← e13] at hR
          have hw := hw M12 e13
          refine lv_aload X.1.1 X.1.2.1 dX9_figure_86 (lv_at hl 0 rfl) ?_
          refine lv_iload_n X.1.1 X.1.2.1 dX9_figure_88 rfl (lv_at hl 3 rfl) ?_
          refine pt_1_9 X hR hS o6 hp2 kw_1009 dX9_figure_89 (fun H locs hR hS => ?_)
          obtain ⟨M14, e15⟩ : ∃ z : Mem, z = up M12 1 (M2 14 0 p1) 9 p2 := ⟨_, rfl⟩
          rw [← e15] at hR
          have hw := hw M14 e15
          refine lv_aload X.1.1 X.1.2.1 dX9_figure_92 (lv_at hl 0 rfl) ?_
          refine lv_iload_n X.1.1 X.1.2.1 dX9_figure_94 rfl (lv_at hl 4 rfl) ?_
          refine pt_1_10 X hR hS o6 hp3 kw_1012 dX9_figure_95 (fun H locs hR hS => ?_)
          obtain ⟨M16, e17⟩ : ∃ z : Mem, z = up M14 1 (M2 14 0 p1) 10 p3 := ⟨_, rfl⟩
          rw [← e17] at hR
          have hw := hw M16 e17
          exact sx_vret X hR hS hw dX9_figure_98 (by decide) (by decide)
        · have hw := hw.2 hc
          exact t_X9_figure_65 X T hp1 hp2 hp3 _ hw _ _ hR hS _ (lv_sub hl [] rfl)
  · have hw := hw.2 hc
    exact sx_throw (text := "hundredths or decimals is out of range, or they do not agree") X T xw_IAE (by decide +kernel) hR hS hl.1 dX9_figure_13 dX9_figure_16 dX9_figure_17 dX9_figure_19 dX9_figure_22 (by decide) (by decide) (by decide) hw
theorem m_X9_figure {l : Launch} {G : Gx} {e0 : Nat} {α : Ax} {κ : Nat → Int} {B : Nat} {p1 : Int} {p2 : Int} {p3 : Int} (hlt : l.stackTraces = false) (hκ : kOK κ) (hp1 : inR p1) (hp2 : inR p2) (hp3 : inR p3) {M : Mem} {Qm : Mem → Prop} {Xm : String → Mem → Prop} (hw : wp_X9_figure p1 p2 p3 M Xm Qm) : XV l yX9_figure (Cond.code yX9_figure cX9_figure 5 none) 7 2 12 G e0 α κ B [.ref (α 10 0), .int (Int32.ofInt p1), .int (Int32.ofInt p2), .int (Int32.ofInt p3)] M Qm Xm :=
  XV.mk hlt hκ (by decide +kernel) rfl (Nat.le_of_ble_eq_true rfl) (lv := [(0, .ref (α 10 0)), (1, .int (Int32.ofInt p1)), (2, .int (Int32.ofInt p2)), (3, .int (Int32.ofInt p3))]) rfl (fun p e s m args below meth c ls X T hR hS hl => t_X9_figure X T hp1 hp2 hp3 hw _ _ hR hS ls hl)
theorem cx_X9_figure {cc : ByteArray} {nL : Nat} {own : String} {ret : Option FieldType} {idx pc : Nat} {p1 : Int} {p2 : Int} {p3 : Int} (X : CX p m c cc nL s args own G B κ meth ret) (T : XT l c) (hp1 : inR p1) (hp2 : inR p2) (hp3 : inR p3) {k mc ms cells slots : Nat} (hk : 7 + 1 ≤ k) (hcel : cells + 2 ≤ mc ∧ slots + 12 ≤ ms) {M : Mem} {H : Heap} {locs : List Loc} (hR : Rp G e0 α κ B M H) (hS : va_S (fun q => B ≤ q) s.heap H locs) (k1 : Cond.methodLink own idx yX9_figure ∈ gw) {ls : Array Slot} (hml : ls.size = nL) {rest : List Value} (hd : decode cc pc = .ok (.invokevirtual idx, 3)) (hrest : (rest.map fun v => v.category).sum ≤ 8) {Qc : Array Value → State → Outcome → State → Prop} {Qm : Mem → Prop} {Xm : String → Mem → Prop} (hw : wp_X9_figure p1 p2 p3 M Xm Qm) (kk : ∀ (M1 : Mem) (H1 : Heap) (locs1 : List Loc), Qm M1 → Rp G e0 α κ B M1 H1 → va_S (fun q => B ≤ q) s.heap H1 locs1 → W p l e (rmX k mc ms) s m args below meth c H1 locs1 (cells + 2) (slots + 12) (vx_MQ below Qc (XQ G e0 α κ B Xm) args s mc ms (fun q => B ≤ q)) (F0 m (pc + 3) ls (rest))) : W p l e (rmX k mc ms) s m args below meth c H locs cells slots (vx_MQ below Qc (XQ G e0 α κ B Xm) args s mc ms (fun q => B ≤ q)) (F0 m pc ls (.int (Int32.ofInt p3) :: .int (Int32.ofInt p2) :: .int (Int32.ofInt p1) :: .ref (α 10 0) :: rest)) :=
  sx_callVV 7 (n := 3) (As := [.int (Int32.ofInt p1), .int (Int32.ofInt p2), .int (Int32.ofInt p3)]) (rest := rest) X T hR hS (m_X9_figure T.1 X.2.2.1 hp1 hp2 hp3 hw) k1 kw_1096 kw_1097 kw_38 kw_1098 ⟨rfl, by decide +kernel, by decide +kernel, by decide +kernel⟩ (rm_ok rmX_ok hk (by decide)) (rc_10 X hR (okf X.2.2.1 rfl)) rfl rfl hrest hml hd hcel kk
def wp_X9_empty (p1 : Int) (M : Mem) (Xm : String → Mem → Prop) (Qm : Int → Mem → Prop) : Prop := wp_X9_requireCell p1 M Xm fun (M1 : Mem) => ∀ M2 : Mem, M2 = up M1 10 0 10 1 → (0 ≤ p1 ∧ p1 < M2 14 0 (-1)) ∧ ∀ M7 : Mem, M7 = up M2 1 (M2 14 0 p1) 7 0 → ∀ M9 : Mem, M9 = up M7 1 (M2 14 0 p1) 8 0 → Qm (M2 1 (M2 14 0 p1) 7) M9
set_option maxHeartbeats 4000000 in
set_option maxRecDepth 100000 in
theorem t_X9_empty {p1 : Int} (X : CX p m c cX9_empty 4 s args RX9 G B κ meth (some .int)) (T : XT l c) (hp1 : inR p1) {M : Mem} {Xm : String → Mem → Prop} {Qm : Int → Mem → Prop} (hw : wp_X9_empty p1 M Xm Qm) (H : Heap) (locs : List Loc) (hR : Rp G e0 α κ B M H) (hS : va_S (fun q => B ≤ q) s.heap H locs) (ls : Array Slot) (hl : lv_has ls 4 [(0, .ref (α 10 0)), (1, .int (Int32.ofInt p1))]) : WXI p l e 7 1 6 s m args below meth c G e0 α κ B Qm Xm H locs 0 0 0 ls [] := by
  have hw : wp_X9_requireCell p1 M Xm fun (M1 : Mem) => ∀ M2 : Mem, M2 = up M1 10 0 10 1 → (0 ≤ p1 ∧ p1 < M2 14 0 (-1)) ∧ ∀ M7 : Mem, M7 = up M2 1 (M2 14 0 p1) 7 0 → ∀ M9 : Mem, M9 = up M7 1 (M2 14 0 p1) 8 0 → Qm (M2 1 (M2 14 0 p1) 7) M9 := hw
  refine lv_aload_n X.1.1 X.1.2.1 dX9_empty_0 rfl (lv_at hl 0 rfl) ?_
  refine lv_iload_n X.1.1 X.1.2.1 dX9_empty_1 rfl (lv_at hl 1 rfl) ?_
  refine cx_X9_requireCell X T hp1 (by decide) ⟨by decide, by decide⟩ hR hS kw_1077 hl.1 dX9_empty_2 (Nat.le_of_ble_eq_true rfl) hw (fun M1 H locs hw hR hS => ?_)
  refine W.widen (k := 1) (n := 6) (by decide) (by decide) ?_
  refine lv_aload_n X.1.1 X.1.2.1 dX9_empty_5 rfl (lv_at hl 0 rfl) ?_
  refine sa_const X.1 dX9_empty_6 ?_
  refine pt_10_10 X hR hS (okf X.2.2.1 rfl) (Or.inr rfl) kw_342 dX9_empty_7 (fun H locs hR hS => ?_)
  obtain ⟨M2, e3⟩ : ∃ z : Mem, z = up M1 10 0 10 1 := ⟨_, rfl⟩
  rw [← e3] at hR
  have hw := hw M2 e3
  refine lv_aload_n X.1.1 X.1.2.1 dX9_empty_10 rfl (lv_at hl 0 rfl) ?_
  refine gt_10_0 X hR (okf X.2.2.1 rfl) kw_332 dX9_empty_11 ?_
  refine gt_4_2 X hR (okf X.2.2.1 rfl) kw_121 dX9_empty_14 ?_
  refine lv_iload_n X.1.1 X.1.2.1 dX9_empty_17 rfl (lv_at hl 1 rfl) ?_
  have c4 := hw.1
  have hw := hw.2
  refine ls_get (ci := 1) (by decide) (by decide) rfl X c4 (kc := 7) rmX_ok ⟨by decide, by decide⟩ (by decide) hR hS kw_969 hl.1 dX9_empty_18 (Nat.le_of_ble_eq_true rfl) (fun H locs o5 hR hS => ?_)
  refine ck_1 X hR o5 kw_976 dX9_empty_21 ?_
  refine lv_astore_n (lv' := [(2, .ref (α 1 (M2 14 0 p1))), (0, .ref (α 10 0)), (1, .int (Int32.ofInt p1))]) X.1.1 X.1.2.1 dX9_empty_24 rfl hl (by decide) rfl (fun ls hl => ?_)
  refine lv_aload_n X.1.1 X.1.2.1 dX9_empty_25 rfl (lv_at hl 0 rfl) ?_
  refine gt_1_7 X hR o5 kw_1004 dX9_empty_26 ?_
  have r6 := hR.r 1 (M2 14 0 p1) 7
  refine lv_istore_n (lv' := [(3, .int (Int32.ofInt (M2 1 (M2 14 0 p1) 7))), (2, .ref (α 1 (M2 14 0 p1))), (0, .ref (α 10 0)), (1, .int (Int32.ofInt p1))]) X.1.1 X.1.2.1 dX9_empty_29 rfl hl (by decide) rfl (fun ls hl => ?_)
  refine lv_aload_n X.1.1 X.1.2.1 dX9_empty_30 rfl (lv_at hl 1 rfl) ?_
  refine sa_const X.1 dX9_empty_31 ?_
  refine pt_1_7 X hR hS o5 (inR_c (a := 0) rfl) kw_1004 dX9_empty_32 (fun H locs hR hS => ?_)
  obtain ⟨M7, e8⟩ : ∃ z : Mem, z = up M2 1 (M2 14 0 p1) 7 0 := ⟨_, rfl⟩
  rw [← e8] at hR
  have hw := hw M7 e8
  refine lv_aload_n X.1.1 X.1.2.1 dX9_empty_35 rfl (lv_at hl 1 rfl) ?_
  refine sa_const X.1 dX9_empty_36 ?_
  refine pt_1_8 X hR hS o5 (Or.inl rfl) kw_1006 dX9_empty_37 (fun H locs hR hS => ?_)
  obtain ⟨M9, e10⟩ : ∃ z : Mem, z = up M7 1 (M2 14 0 p1) 8 0 := ⟨_, rfl⟩
  rw [← e10] at hR
  have hw := hw M9 e10
  refine lv_iload_n X.1.1 X.1.2.1 dX9_empty_40 rfl (lv_at hl 0 rfl) ?_
  exact sx_iret X hR hS r6 hw dX9_empty_41 (by decide) (by decide)
theorem m_X9_empty {l : Launch} {G : Gx} {e0 : Nat} {α : Ax} {κ : Nat → Int} {B : Nat} {p1 : Int} (hlt : l.stackTraces = false) (hκ : kOK κ) (hp1 : inR p1) {M : Mem} {Qm : Int → Mem → Prop} {Xm : String → Mem → Prop} (hw : wp_X9_empty p1 M Xm Qm) : XI l yX9_empty (Cond.code yX9_empty cX9_empty 4 (some .int)) 7 1 6 G e0 α κ B [.ref (α 10 0), .int (Int32.ofInt p1)] M Qm Xm :=
  XI.mk hlt hκ (by decide +kernel) rfl (Nat.le_of_ble_eq_true rfl) (lv := [(0, .ref (α 10 0)), (1, .int (Int32.ofInt p1))]) rfl (fun p e s m args below meth c ls X T hR hS hl => t_X9_empty X T hp1 hw _ _ hR hS ls hl)
theorem cx_X9_empty {cc : ByteArray} {nL : Nat} {own : String} {ret : Option FieldType} {idx pc : Nat} {p1 : Int} (X : CX p m c cc nL s args own G B κ meth ret) (T : XT l c) (hp1 : inR p1) {k mc ms cells slots : Nat} (hk : 7 + 1 ≤ k) (hcel : cells + 1 ≤ mc ∧ slots + 6 ≤ ms) {M : Mem} {H : Heap} {locs : List Loc} (hR : Rp G e0 α κ B M H) (hS : va_S (fun q => B ≤ q) s.heap H locs) (k1 : Cond.methodLink own idx yX9_empty ∈ gw) {ls : Array Slot} (hml : ls.size = nL) {rest : List Value} (hd : decode cc pc = .ok (.invokevirtual idx, 3)) (hrest : (rest.map fun v => v.category).sum ≤ 8) {Qc : Array Value → State → Outcome → State → Prop} {Qm : Int → Mem → Prop} {Xm : String → Mem → Prop} (hw : wp_X9_empty p1 M Xm Qm) (kk : ∀ (r : Int) (M1 : Mem) (H1 : Heap) (locs1 : List Loc), Qm r M1 → inR r → Rp G e0 α κ B M1 H1 → va_S (fun q => B ≤ q) s.heap H1 locs1 → W p l e (rmX k mc ms) s m args below meth c H1 locs1 (cells + 1) (slots + 6) (vx_MQ below Qc (XQ G e0 α κ B Xm) args s mc ms (fun q => B ≤ q)) (F0 m (pc + 3) ls (.int (Int32.ofInt r) :: rest))) : W p l e (rmX k mc ms) s m args below meth c H locs cells slots (vx_MQ below Qc (XQ G e0 α κ B Xm) args s mc ms (fun q => B ≤ q)) (F0 m pc ls (.int (Int32.ofInt p1) :: .ref (α 10 0) :: rest)) :=
  sx_callVI 7 (n := 1) (As := [.int (Int32.ofInt p1)]) (rest := rest) X T hR hS (m_X9_empty T.1 X.2.2.1 hp1 hw) k1 kw_1107 kw_1108 kw_38 kw_1109 ⟨rfl, by decide +kernel, by decide +kernel, by decide +kernel⟩ (rm_ok rmX_ok hk (by decide)) (rc_10 X hR (okf X.2.2.1 rfl)) rfl rfl hrest hml hd hcel kk
def wp_X9_note_14 (p1 : Int) (p2 : Int) (Xm : String → Mem → Prop) (Qm : Int → Mem → Prop) (M : Mem) : Prop := Xm xIAE M
def wp_X9_note (p1 : Int) (p2 : Int) (M : Mem) (Xm : String → Mem → Prop) (Qm : Int → Mem → Prop) : Prop := wp_X9_requireCell p1 M Xm fun (M1 : Mem) => ((p2 < 0 → wp_X9_note_14 p1 p2 Xm Qm M1) ∧ (0 ≤ p2 → ((p2 ≤ 3 → (0 ≤ p1 ∧ p1 < M1 14 0 (-1)) ∧ (((M1 6 (M1 1 (M1 14 0 p1) 0) 1) = 1 → ∀ M6 : Mem, M6 = up M1 10 0 10 1 → ∀ M9 : Mem, M9 = up M6 1 (M1 14 0 p1) 11 p2 → Qm (M6 1 (M1 14 0 p1) 11) M9) ∧ (¬ (M1 6 (M1 1 (M1 14 0 p1) 0) 1) = 1 → Xm xISE M1))) ∧ (3 < p2 → wp_X9_note_14 p1 p2 Xm Qm M1))))
set_option maxHeartbeats 4000000 in
set_option maxRecDepth 100000 in
theorem t_X9_note_14 {p1 : Int} {p2 : Int} (X : CX p m c cX9_note 5 s args RX9 G B κ meth (some .int)) (T : XT l c) (hp1 : inR p1) (hp2 : inR p2) {Xm : String → Mem → Prop} {Qm : Int → Mem → Prop} : ∀ M : Mem, wp_X9_note_14 p1 p2 Xm Qm M → ∀ (H : Heap) (locs : List Loc), Rp G e0 α κ B M H → va_S (fun q => B ≤ q) s.heap H locs → ∀ (ls : Array Slot), lv_has ls 5 [] → WXI p l e 7 2 12 s m args below meth c G e0 α κ B Qm Xm H locs 1 6 14 ls [] := by
  intro M hw H locs hR hS ls hl
  have hw : Xm xIAE M := hw
  exact sx_throw (text := "lines is out of range") X T xw_IAE (by decide +kernel) hR hS hl.1 dX9_note_14 dX9_note_17 dX9_note_18 dX9_note_20 dX9_note_23 (by decide) (by decide) (by decide) hw
set_option maxHeartbeats 4000000 in
set_option maxRecDepth 100000 in
theorem t_X9_note {p1 : Int} {p2 : Int} (X : CX p m c cX9_note 5 s args RX9 G B κ meth (some .int)) (T : XT l c) (hp1 : inR p1) (hp2 : inR p2) {M : Mem} {Xm : String → Mem → Prop} {Qm : Int → Mem → Prop} (hw : wp_X9_note p1 p2 M Xm Qm) (H : Heap) (locs : List Loc) (hR : Rp G e0 α κ B M H) (hS : va_S (fun q => B ≤ q) s.heap H locs) (ls : Array Slot) (hl : lv_has ls 5 [(0, .ref (α 10 0)), (1, .int (Int32.ofInt p1)), (2, .int (Int32.ofInt p2))]) : WXI p l e 7 2 12 s m args below meth c G e0 α κ B Qm Xm H locs 0 0 0 ls [] := by
  have hw : wp_X9_requireCell p1 M Xm fun (M1 : Mem) => ((p2 < 0 → wp_X9_note_14 p1 p2 Xm Qm M1) ∧ (0 ≤ p2 → ((p2 ≤ 3 → (0 ≤ p1 ∧ p1 < M1 14 0 (-1)) ∧ (((M1 6 (M1 1 (M1 14 0 p1) 0) 1) = 1 → ∀ M6 : Mem, M6 = up M1 10 0 10 1 → ∀ M9 : Mem, M9 = up M6 1 (M1 14 0 p1) 11 p2 → Qm (M6 1 (M1 14 0 p1) 11) M9) ∧ (¬ (M1 6 (M1 1 (M1 14 0 p1) 0) 1) = 1 → Xm xISE M1))) ∧ (3 < p2 → wp_X9_note_14 p1 p2 Xm Qm M1)))) := hw
  refine lv_aload_n X.1.1 X.1.2.1 dX9_note_0 rfl (lv_at hl 0 rfl) ?_
  refine lv_iload_n X.1.1 X.1.2.1 dX9_note_1 rfl (lv_at hl 1 rfl) ?_
  refine cx_X9_requireCell X T hp1 (by decide) ⟨by decide, by decide⟩ hR hS kw_1077 hl.1 dX9_note_2 (Nat.le_of_ble_eq_true rfl) hw (fun M1 H locs hw hR hS => ?_)
  refine W.widen (k := 1) (n := 6) (by decide) (by decide) ?_
  refine lv_iload_n X.1.1 X.1.2.1 dX9_note_5 rfl (lv_at hl 2 rfl) ?_
  refine sa_if_lt (tgt := 14) X.1 hp2 dX9_note_6 (by decide) (fun hc => ?_) (fun hc => ?_)
  · have hw := hw.1 hc
    exact t_X9_note_14 X T hp1 hp2 _ hw _ _ hR hS _ (lv_sub hl [] rfl)
  · have hw := hw.2 hc
    refine lv_iload_n X.1.1 X.1.2.1 dX9_note_9 rfl (lv_at hl 2 rfl) ?_
    refine sa_const X.1 dX9_note_10 ?_
    refine sa_icmp_le (tgt := 24) X.1 hp2 (inR_c (a := 3) rfl) dX9_note_11 (by decide) (fun hc => ?_) (fun hc => ?_)
    · have hw := hw.1 hc
      refine lv_aload_n X.1.1 X.1.2.1 dX9_note_24 rfl (lv_at hl 0 rfl) ?_
      refine gt_10_0 X hR (okf X.2.2.1 rfl) kw_332 dX9_note_25 ?_
      refine gt_4_2 X hR (okf X.2.2.1 rfl) kw_121 dX9_note_28 ?_
      refine lv_iload_n X.1.1 X.1.2.1 dX9_note_31 rfl (lv_at hl 1 rfl) ?_
      have c2 := hw.1
      have hw := hw.2
      refine ls_get (ci := 1) (by decide) (by decide) rfl X c2 (kc := 7) rmX_ok ⟨by decide, by decide⟩ (by decide) hR hS kw_969 hl.1 dX9_note_32 (Nat.le_of_ble_eq_true rfl) (fun H locs o3 hR hS => ?_)
      refine ck_1 X hR o3 kw_976 dX9_note_35 ?_
      refine lv_astore_n (lv' := [(3, .ref (α 1 (M1 14 0 p1))), (0, .ref (α 10 0)), (1, .int (Int32.ofInt p1)), (2, .int (Int32.ofInt p2))]) X.1.1 X.1.2.1 dX9_note_38 rfl hl (by decide) rfl (fun ls hl => ?_)
      refine lv_aload_n X.1.1 X.1.2.1 dX9_note_39 rfl (lv_at hl 0 rfl) ?_
      refine gt_1_0 X hR o3 kw_985 dX9_note_40 ?_
      have o4 := hR.2.2.2.1 _ o3
      refine gt_6_1 X hR o4 kw_895 dX9_note_43 ?_
      have r5 := hR.r 6 (M1 1 (M1 14 0 p1) 0) 1
      refine sa_const X.1 dX9_note_46 ?_
      refine sa_icmp_eq (tgt := 60) X.1 r5 (inR_c (a := 1) rfl) dX9_note_47 (by decide) (fun hc => ?_) (fun hc => ?_)
      · have hw := hw.1 hc
        refine lv_aload_n X.1.1 X.1.2.1 dX9_note_60 rfl (lv_at hl 1 rfl) ?_
        refine sa_const X.1 dX9_note_61 ?_
        refine pt_10_10 X hR hS (okf X.2.2.1 rfl) (Or.inr rfl) kw_342 dX9_note_62 (fun H locs hR hS => ?_)
        obtain ⟨M6, e7⟩ : ∃ z : Mem, z = up M1 10 0 10 1 := ⟨_, rfl⟩
        rw [← e7] at hR
        have hw := hw M6 e7
        refine lv_aload_n X.1.1 X.1.2.1 dX9_note_65 rfl (lv_at hl 0 rfl) ?_
        refine gt_1_11 X hR o3 kw_1015 dX9_note_66 ?_
        have r8 := hR.r 1 (M1 14 0 p1) 11
        refine lv_istore (lv' := [(4, .int (Int32.ofInt (M6 1 (M1 14 0 p1) 11))), (3, .ref (α 1 (M1 14 0 p1))), (0, .ref (α 10 0)), (1, .int (Int32.ofInt p1)), (2, .int (Int32.ofInt p2))]) X.1.1 X.1.2.1 dX9_note_69 hl (by decide) rfl (fun ls hl => ?_)
        refine lv_aload_n X.1.1 X.1.2.1 dX9_note_71 rfl (lv_at hl 1 rfl) ?_
        refine lv_iload_n X.1.1 X.1.2.1 dX9_note_72 rfl (lv_at hl 4 rfl) ?_
        refine pt_1_11 X hR hS o3 hp2 kw_1015 dX9_note_73 (fun H locs hR hS => ?_)
        obtain ⟨M9, e10⟩ : ∃ z : Mem, z = up M6 1 (M1 14 0 p1) 11 p2 := ⟨_, rfl⟩
        rw [← e10] at hR
        have hw := hw M9 e10
        refine lv_iload X.1.1 X.1.2.1 dX9_note_76 (lv_at hl 0 rfl) ?_
        exact sx_iret X hR hS r8 hw dX9_note_78 (by decide) (by decide)
      · have hw := hw.2 hc
        exact sx_throw (text := "the cell begins in a head or foot row") X T xw_ISE (by decide +kernel) hR hS hl.1 dX9_note_50 dX9_note_53 dX9_note_54 dX9_note_56 dX9_note_59 (by decide) (by decide) (by decide) hw
    · have hw := hw.2 hc
      exact t_X9_note_14 X T hp1 hp2 _ hw _ _ hR hS _ (lv_sub hl [] rfl)
theorem m_X9_note {l : Launch} {G : Gx} {e0 : Nat} {α : Ax} {κ : Nat → Int} {B : Nat} {p1 : Int} {p2 : Int} (hlt : l.stackTraces = false) (hκ : kOK κ) (hp1 : inR p1) (hp2 : inR p2) {M : Mem} {Qm : Int → Mem → Prop} {Xm : String → Mem → Prop} (hw : wp_X9_note p1 p2 M Xm Qm) : XI l yX9_note (Cond.code yX9_note cX9_note 5 (some .int)) 7 2 12 G e0 α κ B [.ref (α 10 0), .int (Int32.ofInt p1), .int (Int32.ofInt p2)] M Qm Xm :=
  XI.mk hlt hκ (by decide +kernel) rfl (Nat.le_of_ble_eq_true rfl) (lv := [(0, .ref (α 10 0)), (1, .int (Int32.ofInt p1)), (2, .int (Int32.ofInt p2))]) rfl (fun p e s m args below meth c ls X T hR hS hl => t_X9_note X T hp1 hp2 hw _ _ hR hS ls hl)
theorem cx_X9_note {cc : ByteArray} {nL : Nat} {own : String} {ret : Option FieldType} {idx pc : Nat} {p1 : Int} {p2 : Int} (X : CX p m c cc nL s args own G B κ meth ret) (T : XT l c) (hp1 : inR p1) (hp2 : inR p2) {k mc ms cells slots : Nat} (hk : 7 + 1 ≤ k) (hcel : cells + 2 ≤ mc ∧ slots + 12 ≤ ms) {M : Mem} {H : Heap} {locs : List Loc} (hR : Rp G e0 α κ B M H) (hS : va_S (fun q => B ≤ q) s.heap H locs) (k1 : Cond.methodLink own idx yX9_note ∈ gw) {ls : Array Slot} (hml : ls.size = nL) {rest : List Value} (hd : decode cc pc = .ok (.invokevirtual idx, 3)) (hrest : (rest.map fun v => v.category).sum ≤ 8) {Qc : Array Value → State → Outcome → State → Prop} {Qm : Int → Mem → Prop} {Xm : String → Mem → Prop} (hw : wp_X9_note p1 p2 M Xm Qm) (kk : ∀ (r : Int) (M1 : Mem) (H1 : Heap) (locs1 : List Loc), Qm r M1 → inR r → Rp G e0 α κ B M1 H1 → va_S (fun q => B ≤ q) s.heap H1 locs1 → W p l e (rmX k mc ms) s m args below meth c H1 locs1 (cells + 2) (slots + 12) (vx_MQ below Qc (XQ G e0 α κ B Xm) args s mc ms (fun q => B ≤ q)) (F0 m (pc + 3) ls (.int (Int32.ofInt r) :: rest))) : W p l e (rmX k mc ms) s m args below meth c H locs cells slots (vx_MQ below Qc (XQ G e0 α κ B Xm) args s mc ms (fun q => B ≤ q)) (F0 m pc ls (.int (Int32.ofInt p2) :: .int (Int32.ofInt p1) :: .ref (α 10 0) :: rest)) :=
  sx_callVI 7 (n := 2) (As := [.int (Int32.ofInt p1), .int (Int32.ofInt p2)]) (rest := rest) X T hR hS (m_X9_note T.1 X.2.2.1 hp1 hp2 hw) k1 kw_1114 kw_1115 kw_38 kw_1116 ⟨rfl, by decide +kernel, by decide +kernel, by decide +kernel⟩ (rm_ok rmX_ok hk (by decide)) (rc_10 X hR (okf X.2.2.1 rfl)) rfl rfl hrest hml hd hcel kk
def wp_X9_at (p1 : Int) (p2 : Int) (M : Mem) (Xm : String → Mem → Prop) (Qm : Int → Mem → Prop) : Prop := wp_X9_requireRow p1 M Xm fun (M1 : Mem) => wp_X9_requireColumn p2 M1 Xm fun (M2 : Mem) => wp_X3_cellNumberAt p1 p2 M2 fun (x4 : Int) (M3 : Mem) => Qm x4 M3
set_option maxHeartbeats 4000000 in
set_option maxRecDepth 100000 in
theorem t_X9_at {p1 : Int} {p2 : Int} (X : CX p m c cX9_at 3 s args RX9 G B κ meth (some .int)) (T : XT l c) (hp1 : inR p1) (hp2 : inR p2) {M : Mem} {Xm : String → Mem → Prop} {Qm : Int → Mem → Prop} (hw : wp_X9_at p1 p2 M Xm Qm) (H : Heap) (locs : List Loc) (hR : Rp G e0 α κ B M H) (hS : va_S (fun q => B ≤ q) s.heap H locs) (ls : Array Slot) (hl : lv_has ls 3 [(0, .ref (α 10 0)), (1, .int (Int32.ofInt p1)), (2, .int (Int32.ofInt p2))]) : WXI p l e 7 2 12 s m args below meth c G e0 α κ B Qm Xm H locs 0 0 0 ls [] := by
  have hw : wp_X9_requireRow p1 M Xm fun (M1 : Mem) => wp_X9_requireColumn p2 M1 Xm fun (M2 : Mem) => wp_X3_cellNumberAt p1 p2 M2 fun (x4 : Int) (M3 : Mem) => Qm x4 M3 := hw
  refine lv_aload_n X.1.1 X.1.2.1 dX9_at_0 rfl (lv_at hl 0 rfl) ?_
  refine lv_iload_n X.1.1 X.1.2.1 dX9_at_1 rfl (lv_at hl 1 rfl) ?_
  refine cx_X9_requireRow X T hp1 (by decide) ⟨by decide, by decide⟩ hR hS kw_938 hl.1 dX9_at_2 (Nat.le_of_ble_eq_true rfl) hw (fun M1 H locs hw hR hS => ?_)
  refine W.widen (k := 1) (n := 6) (by decide) (by decide) ?_
  refine lv_aload_n X.1.1 X.1.2.1 dX9_at_5 rfl (lv_at hl 0 rfl) ?_
  refine lv_iload_n X.1.1 X.1.2.1 dX9_at_6 rfl (lv_at hl 2 rfl) ?_
  refine cx_X9_requireColumn X T hp2 (by decide) ⟨by decide, by decide⟩ hR hS kw_959 hl.1 dX9_at_7 (Nat.le_of_ble_eq_true rfl) hw (fun M2 H locs hw hR hS => ?_)
  refine W.widen (k := 2) (n := 12) (by decide) (by decide) ?_
  refine lv_aload_n X.1.1 X.1.2.1 dX9_at_10 rfl (lv_at hl 0 rfl) ?_
  refine gt_10_0 X hR (okf X.2.2.1 rfl) kw_332 dX9_at_11 ?_
  refine lv_iload_n X.1.1 X.1.2.1 dX9_at_14 rfl (lv_at hl 1 rfl) ?_
  refine lv_iload_n X.1.1 X.1.2.1 dX9_at_15 rfl (lv_at hl 2 rfl) ?_
  refine cs_X3_cellNumberAt X hp1 hp2 (kc := 7) rmX_ok ⟨by decide, by decide⟩ (by decide) hR hS kw_1058 hl.1 dX9_at_16 (Nat.le_of_ble_eq_true rfl) hw (fun x4 M3 H locs hw r5 hR hS => ?_)
  exact sx_iret X hR hS r5 hw dX9_at_19 (by decide) (by decide)
theorem m_X9_at {l : Launch} {G : Gx} {e0 : Nat} {α : Ax} {κ : Nat → Int} {B : Nat} {p1 : Int} {p2 : Int} (hlt : l.stackTraces = false) (hκ : kOK κ) (hp1 : inR p1) (hp2 : inR p2) {M : Mem} {Qm : Int → Mem → Prop} {Xm : String → Mem → Prop} (hw : wp_X9_at p1 p2 M Xm Qm) : XI l yX9_at (Cond.code yX9_at cX9_at 3 (some .int)) 7 2 12 G e0 α κ B [.ref (α 10 0), .int (Int32.ofInt p1), .int (Int32.ofInt p2)] M Qm Xm :=
  XI.mk hlt hκ (by decide +kernel) rfl (Nat.le_of_ble_eq_true rfl) (lv := [(0, .ref (α 10 0)), (1, .int (Int32.ofInt p1)), (2, .int (Int32.ofInt p2))]) rfl (fun p e s m args below meth c ls X T hR hS hl => t_X9_at X T hp1 hp2 hw _ _ hR hS ls hl)
theorem cx_X9_at {cc : ByteArray} {nL : Nat} {own : String} {ret : Option FieldType} {idx pc : Nat} {p1 : Int} {p2 : Int} (X : CX p m c cc nL s args own G B κ meth ret) (T : XT l c) (hp1 : inR p1) (hp2 : inR p2) {k mc ms cells slots : Nat} (hk : 7 + 1 ≤ k) (hcel : cells + 2 ≤ mc ∧ slots + 12 ≤ ms) {M : Mem} {H : Heap} {locs : List Loc} (hR : Rp G e0 α κ B M H) (hS : va_S (fun q => B ≤ q) s.heap H locs) (k1 : Cond.methodLink own idx yX9_at ∈ gw) {ls : Array Slot} (hml : ls.size = nL) {rest : List Value} (hd : decode cc pc = .ok (.invokevirtual idx, 3)) (hrest : (rest.map fun v => v.category).sum ≤ 8) {Qc : Array Value → State → Outcome → State → Prop} {Qm : Int → Mem → Prop} {Xm : String → Mem → Prop} (hw : wp_X9_at p1 p2 M Xm Qm) (kk : ∀ (r : Int) (M1 : Mem) (H1 : Heap) (locs1 : List Loc), Qm r M1 → inR r → Rp G e0 α κ B M1 H1 → va_S (fun q => B ≤ q) s.heap H1 locs1 → W p l e (rmX k mc ms) s m args below meth c H1 locs1 (cells + 2) (slots + 12) (vx_MQ below Qc (XQ G e0 α κ B Xm) args s mc ms (fun q => B ≤ q)) (F0 m (pc + 3) ls (.int (Int32.ofInt r) :: rest))) : W p l e (rmX k mc ms) s m args below meth c H locs cells slots (vx_MQ below Qc (XQ G e0 α κ B Xm) args s mc ms (fun q => B ≤ q)) (F0 m pc ls (.int (Int32.ofInt p2) :: .int (Int32.ofInt p1) :: .ref (α 10 0) :: rest)) :=
  sx_callVI 7 (n := 2) (As := [.int (Int32.ofInt p1), .int (Int32.ofInt p2)]) (rest := rest) X T hR hS (m_X9_at T.1 X.2.2.1 hp1 hp2 hw) k1 kw_1055 kw_1056 kw_38 kw_1057 ⟨rfl, by decide +kernel, by decide +kernel, by decide +kernel⟩ (rm_ok rmX_ok hk (by decide)) (rc_10 X hR (okf X.2.2.1 rfl)) rfl rfl hrest hml hd hcel kk
def wp_X9_totalled (p1 : Int) (M : Mem) (Xm : String → Mem → Prop) (Qm : Int → Mem → Prop) : Prop := wp_X9_requireColumn p1 M Xm fun (M1 : Mem) => ∀ M2 : Mem, M2 = up M1 10 0 10 1 → (0 ≤ p1 ∧ p1 < M2 12 0 (-1)) ∧ (bit (if ¬ (M2 2 (M2 12 0 p1) 3) = 0 then (0 : Int) else 1)) ∧ ∀ M11 : Mem, M11 = up M2 2 (M2 12 0 p1) 3 (if ¬ (M2 2 (M2 12 0 p1) 3) = 0 then (0 : Int) else 1) → (bit (M11 2 (M2 12 0 p1) 3)) ∧ Qm (M11 2 (M2 12 0 p1) 3) M11
set_option maxHeartbeats 4000000 in
set_option maxRecDepth 100000 in
theorem t_X9_totalled {p1 : Int} (X : CX p m c cX9_totalled 3 s args RX9 G B κ meth (some .boolean)) (T : XT l c) (hp1 : inR p1) {M : Mem} {Xm : String → Mem → Prop} {Qm : Int → Mem → Prop} (hw : wp_X9_totalled p1 M Xm Qm) (H : Heap) (locs : List Loc) (hR : Rp G e0 α κ B M H) (hS : va_S (fun q => B ≤ q) s.heap H locs) (ls : Array Slot) (hl : lv_has ls 3 [(0, .ref (α 10 0)), (1, .int (Int32.ofInt p1))]) : WXI p l e 7 1 6 s m args below meth c G e0 α κ B Qm Xm H locs 0 0 0 ls [] := by
  have hw : wp_X9_requireColumn p1 M Xm fun (M1 : Mem) => ∀ M2 : Mem, M2 = up M1 10 0 10 1 → (0 ≤ p1 ∧ p1 < M2 12 0 (-1)) ∧ (bit (if ¬ (M2 2 (M2 12 0 p1) 3) = 0 then (0 : Int) else 1)) ∧ ∀ M11 : Mem, M11 = up M2 2 (M2 12 0 p1) 3 (if ¬ (M2 2 (M2 12 0 p1) 3) = 0 then (0 : Int) else 1) → (bit (M11 2 (M2 12 0 p1) 3)) ∧ Qm (M11 2 (M2 12 0 p1) 3) M11 := hw
  refine lv_aload_n X.1.1 X.1.2.1 dX9_totalled_0 rfl (lv_at hl 0 rfl) ?_
  refine lv_iload_n X.1.1 X.1.2.1 dX9_totalled_1 rfl (lv_at hl 1 rfl) ?_
  refine cx_X9_requireColumn X T hp1 (by decide) ⟨by decide, by decide⟩ hR hS kw_959 hl.1 dX9_totalled_2 (Nat.le_of_ble_eq_true rfl) hw (fun M1 H locs hw hR hS => ?_)
  refine W.widen (k := 1) (n := 6) (by decide) (by decide) ?_
  refine lv_aload_n X.1.1 X.1.2.1 dX9_totalled_5 rfl (lv_at hl 0 rfl) ?_
  refine sa_const X.1 dX9_totalled_6 ?_
  refine pt_10_10 X hR hS (okf X.2.2.1 rfl) (Or.inr rfl) kw_342 dX9_totalled_7 (fun H locs hR hS => ?_)
  obtain ⟨M2, e3⟩ : ∃ z : Mem, z = up M1 10 0 10 1 := ⟨_, rfl⟩
  rw [← e3] at hR
  have hw := hw M2 e3
  refine lv_aload_n X.1.1 X.1.2.1 dX9_totalled_10 rfl (lv_at hl 0 rfl) ?_
  refine gt_10_0 X hR (okf X.2.2.1 rfl) kw_332 dX9_totalled_11 ?_
  refine gt_4_0 X hR (okf X.2.2.1 rfl) kw_113 dX9_totalled_14 ?_
  refine lv_iload_n X.1.1 X.1.2.1 dX9_totalled_17 rfl (lv_at hl 1 rfl) ?_
  have c4 := hw.1
  have hw := hw.2
  refine ls_get (ci := 2) (by decide) (by decide) rfl X c4 (kc := 7) rmX_ok ⟨by decide, by decide⟩ (by decide) hR hS kw_969 hl.1 dX9_totalled_18 (Nat.le_of_ble_eq_true rfl) (fun H locs o5 hR hS => ?_)
  refine ck_2 X hR o5 kw_1178 dX9_totalled_21 ?_
  refine lv_astore_n (lv' := [(2, .ref (α 2 (M2 12 0 p1))), (0, .ref (α 10 0)), (1, .int (Int32.ofInt p1))]) X.1.1 X.1.2.1 dX9_totalled_24 rfl hl (by decide) rfl (fun ls hl => ?_)
  refine lv_aload_n X.1.1 X.1.2.1 dX9_totalled_25 rfl (lv_at hl 0 rfl) ?_
  refine lv_aload_n X.1.1 X.1.2.1 dX9_totalled_26 rfl (lv_at hl 0 rfl) ?_
  refine gt_2_3 X hR o5 kw_790 dX9_totalled_27 ?_
  have r6 := hR.r 2 (M2 12 0 p1) 3
  have r7 := inR_ite (c := ¬ (M2 2 (M2 12 0 p1) 3) = 0) (inR_c (a := 0) rfl) (inR_c (a := 1) rfl)
  refine cut_j (A := ∀ v8 : Int, v8 = (if ¬ (M2 2 (M2 12 0 p1) 3) = 0 then (0 : Int) else 1) → WXI p l e 7 1 6 s m args below meth c G e0 α κ B Qm Xm H locs 1 6 38 ls [.int (Int32.ofInt v8), .ref (α 2 (M2 12 0 p1))]) (fun J9 => ?_) ?_
  · refine sa_if_ne (tgt := 37) X.1 r6 dX9_totalled_30 (by decide) (fun hc => ?_) (fun hc => ?_)
    · skip
      refine sa_const X.1 dX9_totalled_37 ?_
      exact J9 (0) (if_pos (c := ¬ (M2 2 (M2 12 0 p1) 3) = 0) hc).symm
    · skip
      refine sa_const X.1 dX9_totalled_33 ?_
      refine lv_goto (tgt := 38) X.1.1 X.1.2.1 dX9_totalled_34 (by decide) ?_
      exact J9 (1) (if_neg (c := ¬ (M2 2 (M2 12 0 p1) 3) = 0) (fun z => z hc)).symm
  intro v8 hv8
  subst hv8
  have c10 := hw.1
  have hw := hw.2
  refine pt_2_3 X hR hS o5 c10 kw_790 dX9_totalled_38 (fun H locs hR hS => ?_)
  obtain ⟨M11, e12⟩ : ∃ z : Mem, z = up M2 2 (M2 12 0 p1) 3 (if ¬ (M2 2 (M2 12 0 p1) 3) = 0 then (0 : Int) else 1) := ⟨_, rfl⟩
  rw [← e12] at hR
  have hw := hw M11 e12
  refine lv_aload_n X.1.1 X.1.2.1 dX9_totalled_41 rfl (lv_at hl 0 rfl) ?_
  refine gt_2_3 X hR o5 kw_790 dX9_totalled_42 ?_
  have r13 := hR.r 2 (M2 12 0 p1) 3
  have c14 := hw.1
  have hw := hw.2
  exact sx_zret X hR hS c14 hw dX9_totalled_45 (by decide) (by decide)
theorem m_X9_totalled {l : Launch} {G : Gx} {e0 : Nat} {α : Ax} {κ : Nat → Int} {B : Nat} {p1 : Int} (hlt : l.stackTraces = false) (hκ : kOK κ) (hp1 : inR p1) {M : Mem} {Qm : Int → Mem → Prop} {Xm : String → Mem → Prop} (hw : wp_X9_totalled p1 M Xm Qm) : XI l yX9_totalled (Cond.code yX9_totalled cX9_totalled 3 (some .boolean)) 7 1 6 G e0 α κ B [.ref (α 10 0), .int (Int32.ofInt p1)] M Qm Xm :=
  XI.mk hlt hκ (by decide +kernel) rfl (Nat.le_of_ble_eq_true rfl) (lv := [(0, .ref (α 10 0)), (1, .int (Int32.ofInt p1))]) rfl (fun p e s m args below meth c ls X T hR hS hl => t_X9_totalled X T hp1 hw _ _ hR hS ls hl)
theorem cx_X9_totalled {cc : ByteArray} {nL : Nat} {own : String} {ret : Option FieldType} {idx pc : Nat} {p1 : Int} (X : CX p m c cc nL s args own G B κ meth ret) (T : XT l c) (hp1 : inR p1) {k mc ms cells slots : Nat} (hk : 7 + 1 ≤ k) (hcel : cells + 1 ≤ mc ∧ slots + 6 ≤ ms) {M : Mem} {H : Heap} {locs : List Loc} (hR : Rp G e0 α κ B M H) (hS : va_S (fun q => B ≤ q) s.heap H locs) (k1 : Cond.methodLink own idx yX9_totalled ∈ gw) {ls : Array Slot} (hml : ls.size = nL) {rest : List Value} (hd : decode cc pc = .ok (.invokevirtual idx, 3)) (hrest : (rest.map fun v => v.category).sum ≤ 8) {Qc : Array Value → State → Outcome → State → Prop} {Qm : Int → Mem → Prop} {Xm : String → Mem → Prop} (hw : wp_X9_totalled p1 M Xm Qm) (kk : ∀ (r : Int) (M1 : Mem) (H1 : Heap) (locs1 : List Loc), Qm r M1 → inR r → Rp G e0 α κ B M1 H1 → va_S (fun q => B ≤ q) s.heap H1 locs1 → W p l e (rmX k mc ms) s m args below meth c H1 locs1 (cells + 1) (slots + 6) (vx_MQ below Qc (XQ G e0 α κ B Xm) args s mc ms (fun q => B ≤ q)) (F0 m (pc + 3) ls (.int (Int32.ofInt r) :: rest))) : W p l e (rmX k mc ms) s m args below meth c H locs cells slots (vx_MQ below Qc (XQ G e0 α κ B Xm) args s mc ms (fun q => B ≤ q)) (F0 m pc ls (.int (Int32.ofInt p1) :: .ref (α 10 0) :: rest)) :=
  sx_callVI 7 (n := 1) (As := [.int (Int32.ofInt p1)]) (rest := rest) X T hR hS (m_X9_totalled T.1 X.2.2.1 hp1 hw) k1 kw_1175 kw_1176 kw_38 kw_1177 ⟨rfl, by decide +kernel, by decide +kernel, by decide +kernel⟩ (rm_ok rmX_ok hk (by decide)) (rc_10 X hR (okf X.2.2.1 rfl)) rfl rfl hrest hml hd hcel kk
def wp_X9_hide_37 (p1 : Int) (Xm : String → Mem → Prop) (Qm : Int → Mem → Prop) (M : Mem) : Prop := ∀ M5 : Mem, M5 = up M 10 0 10 1 → wp_X3_hideOrShow p1 M5 fun (x8 : Int) (M7 : Mem) => (bit x8) ∧ Qm x8 M7
def wp_X9_hide (p1 : Int) (M : Mem) (Xm : String → Mem → Prop) (Qm : Int → Mem → Prop) : Prop := wp_X9_requireColumn p1 M Xm fun (M1 : Mem) => wp_X3_isShown p1 M1 fun (x3 : Int) (M2 : Mem) => ((x3 = 0 → wp_X9_hide_37 p1 Xm Qm M2) ∧ (¬ x3 = 0 → wp_X3_countShownColumns M2 fun (x12 : Int) (M11 : Mem) => ((¬ x12 = 1 → wp_X9_hide_37 p1 Xm Qm M11) ∧ (x12 = 1 → Xm xISE M11))))
set_option maxHeartbeats 4000000 in
set_option maxRecDepth 100000 in
theorem t_X9_hide_37 {p1 : Int} (X : CX p m c cX9_hide 2 s args RX9 G B κ meth (some .boolean)) (T : XT l c) (hp1 : inR p1) {Xm : String → Mem → Prop} {Qm : Int → Mem → Prop} : ∀ M : Mem, wp_X9_hide_37 p1 Xm Qm M → ∀ (H : Heap) (locs : List Loc), Rp G e0 α κ B M H → va_S (fun q => B ≤ q) s.heap H locs → ∀ (ls : Array Slot), lv_has ls 2 [(0, .ref (α 10 0)), (1, .int (Int32.ofInt p1))] → WXI p l e 7 2 12 s m args below meth c G e0 α κ B Qm Xm H locs 1 6 37 ls [] := by
  intro M hw H locs hR hS ls hl
  have hw : ∀ M5 : Mem, M5 = up M 10 0 10 1 → wp_X3_hideOrShow p1 M5 fun (x8 : Int) (M7 : Mem) => (bit x8) ∧ Qm x8 M7 := hw
  refine lv_aload_n X.1.1 X.1.2.1 dX9_hide_37 rfl (lv_at hl 0 rfl) ?_
  refine sa_const X.1 dX9_hide_38 ?_
  refine pt_10_10 X hR hS (okf X.2.2.1 rfl) (Or.inr rfl) kw_342 dX9_hide_39 (fun H locs hR hS => ?_)
  obtain ⟨M5, e6⟩ : ∃ z : Mem, z = up M 10 0 10 1 := ⟨_, rfl⟩
  rw [← e6] at hR
  have hw := hw M5 e6
  refine lv_aload_n X.1.1 X.1.2.1 dX9_hide_42 rfl (lv_at hl 0 rfl) ?_
  refine gt_10_0 X hR (okf X.2.2.1 rfl) kw_332 dX9_hide_43 ?_
  refine lv_iload_n X.1.1 X.1.2.1 dX9_hide_46 rfl (lv_at hl 1 rfl) ?_
  refine cs_X3_hideOrShow X hp1 (kc := 7) rmX_ok ⟨by decide, by decide⟩ (by decide) hR hS kw_1192 hl.1 dX9_hide_47 (Nat.le_of_ble_eq_true rfl) hw (fun x8 M7 H locs hw r9 hR hS => ?_)
  have c10 := hw.1
  have hw := hw.2
  exact sx_zret X hR hS c10 hw dX9_hide_50 (by decide) (by decide)
set_option maxHeartbeats 4000000 in
set_option maxRecDepth 100000 in
theorem t_X9_hide {p1 : Int} (X : CX p m c cX9_hide 2 s args RX9 G B κ meth (some .boolean)) (T : XT l c) (hp1 : inR p1) {M : Mem} {Xm : String → Mem → Prop} {Qm : Int → Mem → Prop} (hw : wp_X9_hide p1 M Xm Qm) (H : Heap) (locs : List Loc) (hR : Rp G e0 α κ B M H) (hS : va_S (fun q => B ≤ q) s.heap H locs) (ls : Array Slot) (hl : lv_has ls 2 [(0, .ref (α 10 0)), (1, .int (Int32.ofInt p1))]) : WXI p l e 7 2 12 s m args below meth c G e0 α κ B Qm Xm H locs 0 0 0 ls [] := by
  have hw : wp_X9_requireColumn p1 M Xm fun (M1 : Mem) => wp_X3_isShown p1 M1 fun (x3 : Int) (M2 : Mem) => ((x3 = 0 → wp_X9_hide_37 p1 Xm Qm M2) ∧ (¬ x3 = 0 → wp_X3_countShownColumns M2 fun (x12 : Int) (M11 : Mem) => ((¬ x12 = 1 → wp_X9_hide_37 p1 Xm Qm M11) ∧ (x12 = 1 → Xm xISE M11)))) := hw
  refine lv_aload_n X.1.1 X.1.2.1 dX9_hide_0 rfl (lv_at hl 0 rfl) ?_
  refine lv_iload_n X.1.1 X.1.2.1 dX9_hide_1 rfl (lv_at hl 1 rfl) ?_
  refine cx_X9_requireColumn X T hp1 (by decide) ⟨by decide, by decide⟩ hR hS kw_959 hl.1 dX9_hide_2 (Nat.le_of_ble_eq_true rfl) hw (fun M1 H locs hw hR hS => ?_)
  refine W.widen (k := 1) (n := 6) (by decide) (by decide) ?_
  refine lv_aload_n X.1.1 X.1.2.1 dX9_hide_5 rfl (lv_at hl 0 rfl) ?_
  refine gt_10_0 X hR (okf X.2.2.1 rfl) kw_332 dX9_hide_6 ?_
  refine lv_iload_n X.1.1 X.1.2.1 dX9_hide_9 rfl (lv_at hl 1 rfl) ?_
  refine cs_X3_isShown X hp1 (kc := 7) rmX_ok ⟨by decide, by decide⟩ (by decide) hR hS kw_1189 hl.1 dX9_hide_10 (Nat.le_of_ble_eq_true rfl) hw (fun x3 M2 H locs hw r4 hR hS => ?_)
  refine sa_if_eq (tgt := 37) X.1 r4 dX9_hide_13 (by decide) (fun hc => ?_) (fun hc => ?_)
  · have hw := hw.1 hc
    exact t_X9_hide_37 X T hp1 _ hw _ _ hR hS _ (lv_sub hl [0, 1] rfl)
  · have hw := hw.2 hc
    refine lv_aload_n X.1.1 X.1.2.1 dX9_hide_16 rfl (lv_at hl 0 rfl) ?_
    refine gt_10_0 X hR (okf X.2.2.1 rfl) kw_332 dX9_hide_17 ?_
    refine cs_X3_countShownColumns X  (kc := 7) rmX_ok ⟨by decide, by decide⟩ (by decide) hR hS kw_1190 hl.1 dX9_hide_20 (Nat.le_of_ble_eq_true rfl) hw (fun x12 M11 H locs hw r13 hR hS => ?_)
    refine sa_const X.1 dX9_hide_23 ?_
    refine sa_icmp_ne (tgt := 37) X.1 r13 (inR_c (a := 1) rfl) dX9_hide_24 (by decide) (fun hc => ?_) (fun hc => ?_)
    · have hw := hw.1 hc
      exact t_X9_hide_37 X T hp1 _ hw _ _ hR hS _ (lv_sub hl [0, 1] rfl)
    · have hw := hw.2 hc
      exact sx_throw (text := "all columns would be hidden") X T xw_ISE (by decide +kernel) hR hS hl.1 dX9_hide_27 dX9_hide_30 dX9_hide_31 dX9_hide_33 dX9_hide_36 (by decide) (by decide) (by decide) hw
theorem m_X9_hide {l : Launch} {G : Gx} {e0 : Nat} {α : Ax} {κ : Nat → Int} {B : Nat} {p1 : Int} (hlt : l.stackTraces = false) (hκ : kOK κ) (hp1 : inR p1) {M : Mem} {Qm : Int → Mem → Prop} {Xm : String → Mem → Prop} (hw : wp_X9_hide p1 M Xm Qm) : XI l yX9_hide (Cond.code yX9_hide cX9_hide 2 (some .boolean)) 7 2 12 G e0 α κ B [.ref (α 10 0), .int (Int32.ofInt p1)] M Qm Xm :=
  XI.mk hlt hκ (by decide +kernel) rfl (Nat.le_of_ble_eq_true rfl) (lv := [(0, .ref (α 10 0)), (1, .int (Int32.ofInt p1))]) rfl (fun p e s m args below meth c ls X T hR hS hl => t_X9_hide X T hp1 hw _ _ hR hS ls hl)
theorem cx_X9_hide {cc : ByteArray} {nL : Nat} {own : String} {ret : Option FieldType} {idx pc : Nat} {p1 : Int} (X : CX p m c cc nL s args own G B κ meth ret) (T : XT l c) (hp1 : inR p1) {k mc ms cells slots : Nat} (hk : 7 + 1 ≤ k) (hcel : cells + 2 ≤ mc ∧ slots + 12 ≤ ms) {M : Mem} {H : Heap} {locs : List Loc} (hR : Rp G e0 α κ B M H) (hS : va_S (fun q => B ≤ q) s.heap H locs) (k1 : Cond.methodLink own idx yX9_hide ∈ gw) {ls : Array Slot} (hml : ls.size = nL) {rest : List Value} (hd : decode cc pc = .ok (.invokevirtual idx, 3)) (hrest : (rest.map fun v => v.category).sum ≤ 8) {Qc : Array Value → State → Outcome → State → Prop} {Qm : Int → Mem → Prop} {Xm : String → Mem → Prop} (hw : wp_X9_hide p1 M Xm Qm) (kk : ∀ (r : Int) (M1 : Mem) (H1 : Heap) (locs1 : List Loc), Qm r M1 → inR r → Rp G e0 α κ B M1 H1 → va_S (fun q => B ≤ q) s.heap H1 locs1 → W p l e (rmX k mc ms) s m args below meth c H1 locs1 (cells + 2) (slots + 12) (vx_MQ below Qc (XQ G e0 α κ B Xm) args s mc ms (fun q => B ≤ q)) (F0 m (pc + 3) ls (.int (Int32.ofInt r) :: rest))) : W p l e (rmX k mc ms) s m args below meth c H locs cells slots (vx_MQ below Qc (XQ G e0 α κ B Xm) args s mc ms (fun q => B ≤ q)) (F0 m pc ls (.int (Int32.ofInt p1) :: .ref (α 10 0) :: rest)) :=
  sx_callVI 7 (n := 1) (As := [.int (Int32.ofInt p1)]) (rest := rest) X T hR hS (m_X9_hide T.1 X.2.2.1 hp1 hw) k1 kw_1186 kw_1187 kw_38 kw_1188 ⟨rfl, by decide +kernel, by decide +kernel, by decide +kernel⟩ (rm_ok rmX_ok hk (by decide)) (rc_10 X hR (okf X.2.2.1 rfl)) rfl rfl hrest hml hd hcel kk
def wp_X9_sort (p1 : Int) (p2 : Int) (M : Mem) (Xm : String → Mem → Prop) (Qm : Int → Mem → Prop) : Prop := wp_X9_requireColumn p1 M Xm fun (M1 : Mem) => wp_X3_hasBodyCellOfSeveralRows M1 fun (x3 : Int) (M2 : Mem) => ((x3 = 0 → ∀ M5 : Mem, M5 = up M2 10 0 10 1 → wp_X3_putBodyInOrder p1 p2 M5 fun (M7 : Mem) => wp_X3_numberBodyAnew M7 fun (x9 : Int) (M8 : Mem) => Qm x9 M8) ∧ (¬ x3 = 0 → Xm xISE M2))
set_option maxHeartbeats 4000000 in
set_option maxRecDepth 100000 in
theorem t_X9_sort {p1 : Int} {p2 : Int} (X : CX p m c cX9_sort 3 s args RX9 G B κ meth (some .int)) (T : XT l c) (hp1 : inR p1) (hp2 : inR p2) {M : Mem} {Xm : String → Mem → Prop} {Qm : Int → Mem → Prop} (hw : wp_X9_sort p1 p2 M Xm Qm) (H : Heap) (locs : List Loc) (hR : Rp G e0 α κ B M H) (hS : va_S (fun q => B ≤ q) s.heap H locs) (ls : Array Slot) (hl : lv_has ls 3 [(0, .ref (α 10 0)), (1, .int (Int32.ofInt p1)), (2, .int (Int32.ofInt p2))]) : WXI p l e 7 2 12 s m args below meth c G e0 α κ B Qm Xm H locs 0 0 0 ls [] := by
  have hw : wp_X9_requireColumn p1 M Xm fun (M1 : Mem) => wp_X3_hasBodyCellOfSeveralRows M1 fun (x3 : Int) (M2 : Mem) => ((x3 = 0 → ∀ M5 : Mem, M5 = up M2 10 0 10 1 → wp_X3_putBodyInOrder p1 p2 M5 fun (M7 : Mem) => wp_X3_numberBodyAnew M7 fun (x9 : Int) (M8 : Mem) => Qm x9 M8) ∧ (¬ x3 = 0 → Xm xISE M2)) := hw
  refine lv_aload_n X.1.1 X.1.2.1 dX9_sort_0 rfl (lv_at hl 0 rfl) ?_
  refine lv_iload_n X.1.1 X.1.2.1 dX9_sort_1 rfl (lv_at hl 1 rfl) ?_
  refine cx_X9_requireColumn X T hp1 (by decide) ⟨by decide, by decide⟩ hR hS kw_959 hl.1 dX9_sort_2 (Nat.le_of_ble_eq_true rfl) hw (fun M1 H locs hw hR hS => ?_)
  refine W.widen (k := 1) (n := 6) (by decide) (by decide) ?_
  refine lv_aload_n X.1.1 X.1.2.1 dX9_sort_5 rfl (lv_at hl 0 rfl) ?_
  refine gt_10_0 X hR (okf X.2.2.1 rfl) kw_332 dX9_sort_6 ?_
  refine cs_X3_hasBodyCellOfSeveralRows X  (kc := 7) rmX_ok ⟨by decide, by decide⟩ (by decide) hR hS kw_1136 hl.1 dX9_sort_9 (Nat.le_of_ble_eq_true rfl) hw (fun x3 M2 H locs hw r4 hR hS => ?_)
  refine sa_if_eq (tgt := 25) X.1 r4 dX9_sort_12 (by decide) (fun hc => ?_) (fun hc => ?_)
  · have hw := hw.1 hc
    refine lv_aload_n X.1.1 X.1.2.1 dX9_sort_25 rfl (lv_at hl 0 rfl) ?_
    refine sa_const X.1 dX9_sort_26 ?_
    refine pt_10_10 X hR hS (okf X.2.2.1 rfl) (Or.inr rfl) kw_342 dX9_sort_27 (fun H locs hR hS => ?_)
    obtain ⟨M5, e6⟩ : ∃ z : Mem, z = up M2 10 0 10 1 := ⟨_, rfl⟩
    rw [← e6] at hR
    have hw := hw M5 e6
    refine lv_aload_n X.1.1 X.1.2.1 dX9_sort_30 rfl (lv_at hl 0 rfl) ?_
    refine gt_10_0 X hR (okf X.2.2.1 rfl) kw_332 dX9_sort_31 ?_
    refine lv_iload_n X.1.1 X.1.2.1 dX9_sort_34 rfl (lv_at hl 1 rfl) ?_
    refine lv_iload_n X.1.1 X.1.2.1 dX9_sort_35 rfl (lv_at hl 2 rfl) ?_
    refine cs_X3_putBodyInOrder X hp1 hp2 (kc := 7) rmX_ok ⟨by decide, by decide⟩ (by decide) hR hS kw_1141 hl.1 dX9_sort_36 (Nat.le_of_ble_eq_true rfl) hw (fun M7 H locs hw hR hS => ?_)
    refine lv_aload_n X.1.1 X.1.2.1 dX9_sort_39 rfl (lv_at hl 0 rfl) ?_
    refine gt_10_0 X hR (okf X.2.2.1 rfl) kw_332 dX9_sort_40 ?_
    refine cs_X3_numberBodyAnew X  (kc := 7) rmX_ok ⟨by decide, by decide⟩ (by decide) hR hS kw_1158 hl.1 dX9_sort_43 (Nat.le_of_ble_eq_true rfl) hw (fun x9 M8 H locs hw r10 hR hS => ?_)
    exact sx_iret X hR hS r10 hw dX9_sort_46 (by decide) (by decide)
  · have hw := hw.2 hc
    exact sx_throw (text := "a cell of the body spans several rows") X T xw_ISE (by decide +kernel) hR hS hl.1 dX9_sort_15 dX9_sort_18 dX9_sort_19 dX9_sort_21 dX9_sort_24 (by decide) (by decide) (by decide) hw
theorem m_X9_sort {l : Launch} {G : Gx} {e0 : Nat} {α : Ax} {κ : Nat → Int} {B : Nat} {p1 : Int} {p2 : Int} (hlt : l.stackTraces = false) (hκ : kOK κ) (hp1 : inR p1) (hp2 : inR p2) {M : Mem} {Qm : Int → Mem → Prop} {Xm : String → Mem → Prop} (hw : wp_X9_sort p1 p2 M Xm Qm) : XI l yX9_sort (Cond.code yX9_sort cX9_sort 3 (some .int)) 7 2 12 G e0 α κ B [.ref (α 10 0), .int (Int32.ofInt p1), .int (Int32.ofInt p2)] M Qm Xm :=
  XI.mk hlt hκ (by decide +kernel) rfl (Nat.le_of_ble_eq_true rfl) (lv := [(0, .ref (α 10 0)), (1, .int (Int32.ofInt p1)), (2, .int (Int32.ofInt p2))]) rfl (fun p e s m args below meth c ls X T hR hS hl => t_X9_sort X T hp1 hp2 hw _ _ hR hS ls hl)
theorem cx_X9_sort {cc : ByteArray} {nL : Nat} {own : String} {ret : Option FieldType} {idx pc : Nat} {p1 : Int} {p2 : Int} (X : CX p m c cc nL s args own G B κ meth ret) (T : XT l c) (hp1 : inR p1) (hp2 : inR p2) {k mc ms cells slots : Nat} (hk : 7 + 1 ≤ k) (hcel : cells + 2 ≤ mc ∧ slots + 12 ≤ ms) {M : Mem} {H : Heap} {locs : List Loc} (hR : Rp G e0 α κ B M H) (hS : va_S (fun q => B ≤ q) s.heap H locs) (k1 : Cond.methodLink own idx yX9_sort ∈ gw) {ls : Array Slot} (hml : ls.size = nL) {rest : List Value} (hd : decode cc pc = .ok (.invokevirtual idx, 3)) (hrest : (rest.map fun v => v.category).sum ≤ 8) {Qc : Array Value → State → Outcome → State → Prop} {Qm : Int → Mem → Prop} {Xm : String → Mem → Prop} (hw : wp_X9_sort p1 p2 M Xm Qm) (kk : ∀ (r : Int) (M1 : Mem) (H1 : Heap) (locs1 : List Loc), Qm r M1 → inR r → Rp G e0 α κ B M1 H1 → va_S (fun q => B ≤ q) s.heap H1 locs1 → W p l e (rmX k mc ms) s m args below meth c H1 locs1 (cells + 2) (slots + 12) (vx_MQ below Qc (XQ G e0 α κ B Xm) args s mc ms (fun q => B ≤ q)) (F0 m (pc + 3) ls (.int (Int32.ofInt r) :: rest))) : W p l e (rmX k mc ms) s m args below meth c H locs cells slots (vx_MQ below Qc (XQ G e0 α κ B Xm) args s mc ms (fun q => B ≤ q)) (F0 m pc ls (.int (Int32.ofInt p2) :: .int (Int32.ofInt p1) :: .ref (α 10 0) :: rest)) :=
  sx_callVI 7 (n := 2) (As := [.int (Int32.ofInt p1), .int (Int32.ofInt p2)]) (rest := rest) X T hR hS (m_X9_sort T.1 X.2.2.1 hp1 hp2 hw) k1 kw_1133 kw_1134 kw_38 kw_1135 ⟨rfl, by decide +kernel, by decide +kernel, by decide +kernel⟩ (rm_ok rmX_ok hk (by decide)) (rc_10 X hR (okf X.2.2.1 rfl)) rfl rfl hrest hml hd hcel kk
def wp_X9_border_19 (p1 : Int) (p2 : Int) (p3 : Int) (p4 : Int) (Xm : String → Mem → Prop) (Qm : Int → Mem → Prop) (M : Mem) : Prop := Xm xIAE M
def wp_X9_border (p1 : Int) (p2 : Int) (p3 : Int) (p4 : Int) (M : Mem) (Xm : String → Mem → Prop) (Qm : Int → Mem → Prop) : Prop := wp_X9_hasSide p1 p3 M fun (x2 : Int) (M1 : Mem) => ((x2 = 0 → wp_X9_border_19 p1 p2 p3 p4 Xm Qm M1) ∧ (¬ x2 = 0 → ((p4 < 0 → wp_X9_border_19 p1 p2 p3 p4 Xm Qm M1) ∧ (0 ≤ p4 → ((p4 ≤ 5 → wp_X3_hasBordered p1 p2 M1 fun (x5 : Int) (M4 : Mem) => ((¬ x5 = 0 → wp_X3_setWeight p1 p2 p3 p4 M4 fun (x8 : Int) (M7 : Mem) => Qm x8 M7) ∧ (x5 = 0 → Xm xIOB M4))) ∧ (5 < p4 → wp_X9_border_19 p1 p2 p3 p4 Xm Qm M1))))))
set_option maxHeartbeats 4000000 in
set_option maxRecDepth 100000 in
theorem t_X9_border_19 {p1 : Int} {p2 : Int} {p3 : Int} {p4 : Int} (X : CX p m c cX9_border 5 s args RX9 G B κ meth (some .int)) (T : XT l c) (hp1 : inR p1) (hp2 : inR p2) (hp3 : inR p3) (hp4 : inR p4) {Xm : String → Mem → Prop} {Qm : Int → Mem → Prop} : ∀ M : Mem, wp_X9_border_19 p1 p2 p3 p4 Xm Qm M → ∀ (H : Heap) (locs : List Loc), Rp G e0 α κ B M H → va_S (fun q => B ≤ q) s.heap H locs → ∀ (ls : Array Slot), lv_has ls 5 [] → WXI p l e 6 1 6 s m args below meth c G e0 α κ B Qm Xm H locs 0 0 19 ls [] := by
  intro M hw H locs hR hS ls hl
  have hw : Xm xIAE M := hw
  exact sx_throwW (text := "kind, side or weight is out of range") X T xw_IAE (by decide +kernel) hR hS hl.1 dX9_border_19 dX9_border_22 dX9_border_23 dX9_border_26 dX9_border_29 (by decide) (by decide) (by decide) hw
set_option maxHeartbeats 4000000 in
set_option maxRecDepth 100000 in
theorem t_X9_border {p1 : Int} {p2 : Int} {p3 : Int} {p4 : Int} (X : CX p m c cX9_border 5 s args RX9 G B κ meth (some .int)) (T : XT l c) (hp1 : inR p1) (hp2 : inR p2) (hp3 : inR p3) (hp4 : inR p4) {M : Mem} {Xm : String → Mem → Prop} {Qm : Int → Mem → Prop} (hw : wp_X9_border p1 p2 p3 p4 M Xm Qm) (H : Heap) (locs : List Loc) (hR : Rp G e0 α κ B M H) (hS : va_S (fun q => B ≤ q) s.heap H locs) (ls : Array Slot) (hl : lv_has ls 5 [(0, .ref (α 10 0)), (1, .int (Int32.ofInt p1)), (2, .int (Int32.ofInt p2)), (3, .int (Int32.ofInt p3)), (4, .int (Int32.ofInt p4))]) : WXI p l e 6 1 6 s m args below meth c G e0 α κ B Qm Xm H locs 0 0 0 ls [] := by
  have hw : wp_X9_hasSide p1 p3 M fun (x2 : Int) (M1 : Mem) => ((x2 = 0 → wp_X9_border_19 p1 p2 p3 p4 Xm Qm M1) ∧ (¬ x2 = 0 → ((p4 < 0 → wp_X9_border_19 p1 p2 p3 p4 Xm Qm M1) ∧ (0 ≤ p4 → ((p4 ≤ 5 → wp_X3_hasBordered p1 p2 M1 fun (x5 : Int) (M4 : Mem) => ((¬ x5 = 0 → wp_X3_setWeight p1 p2 p3 p4 M4 fun (x8 : Int) (M7 : Mem) => Qm x8 M7) ∧ (x5 = 0 → Xm xIOB M4))) ∧ (5 < p4 → wp_X9_border_19 p1 p2 p3 p4 Xm Qm M1)))))) := hw
  refine lv_iload_n X.1.1 X.1.2.1 dX9_border_0 rfl (lv_at hl 1 rfl) ?_
  refine lv_iload_n X.1.1 X.1.2.1 dX9_border_1 rfl (lv_at hl 3 rfl) ?_
  refine cs_X9_hasSide X hp1 hp3 (kc := 6) rmX_ok ⟨by decide, by decide⟩ (by decide) hR hS kw_1200 hl.1 dX9_border_2 (Nat.le_of_ble_eq_true rfl) hw (fun x2 M1 H locs hw r3 hR hS => ?_)
  refine sa_if_eq (tgt := 19) X.1 r3 dX9_border_5 (by decide) (fun hc => ?_) (fun hc => ?_)
  · have hw := hw.1 hc
    exact t_X9_border_19 X T hp1 hp2 hp3 hp4 _ hw _ _ hR hS _ (lv_sub hl [] rfl)
  · have hw := hw.2 hc
    refine lv_iload X.1.1 X.1.2.1 dX9_border_8 (lv_at hl 4 rfl) ?_
    refine sa_if_lt (tgt := 19) X.1 hp4 dX9_border_10 (by decide) (fun hc => ?_) (fun hc => ?_)
    · have hw := hw.1 hc
      exact t_X9_border_19 X T hp1 hp2 hp3 hp4 _ hw _ _ hR hS _ (lv_sub hl [] rfl)
    · have hw := hw.2 hc
      refine lv_iload X.1.1 X.1.2.1 dX9_border_13 (lv_at hl 4 rfl) ?_
      refine sa_const X.1 dX9_border_15 ?_
      refine sa_icmp_le (tgt := 30) X.1 hp4 (inR_c (a := 5) rfl) dX9_border_16 (by decide) (fun hc => ?_) (fun hc => ?_)
      · have hw := hw.1 hc
        refine lv_aload_n X.1.1 X.1.2.1 dX9_border_30 rfl (lv_at hl 0 rfl) ?_
        refine gt_10_0 X hR (okf X.2.2.1 rfl) kw_332 dX9_border_31 ?_
        refine lv_iload_n X.1.1 X.1.2.1 dX9_border_34 rfl (lv_at hl 1 rfl) ?_
        refine lv_iload_n X.1.1 X.1.2.1 dX9_border_35 rfl (lv_at hl 2 rfl) ?_
        refine cs_X3_hasBordered X hp1 hp2 (kc := 6) rmX_ok ⟨by decide, by decide⟩ (by decide) hR hS kw_1204 hl.1 dX9_border_36 (Nat.le_of_ble_eq_true rfl) hw (fun x5 M4 H locs hw r6 hR hS => ?_)
        refine sa_if_ne (tgt := 53) X.1 r6 dX9_border_39 (by decide) (fun hc => ?_) (fun hc => ?_)
        · have hw := hw.1 hc
          refine lv_aload_n X.1.1 X.1.2.1 dX9_border_53 rfl (lv_at hl 0 rfl) ?_
          refine gt_10_0 X hR (okf X.2.2.1 rfl) kw_332 dX9_border_54 ?_
          refine lv_iload_n X.1.1 X.1.2.1 dX9_border_57 rfl (lv_at hl 1 rfl) ?_
          refine lv_iload_n X.1.1 X.1.2.1 dX9_border_58 rfl (lv_at hl 2 rfl) ?_
          refine lv_iload_n X.1.1 X.1.2.1 dX9_border_59 rfl (lv_at hl 3 rfl) ?_
          refine lv_iload X.1.1 X.1.2.1 dX9_border_60 (lv_at hl 4 rfl) ?_
          refine cs_X3_setWeight X hp1 hp2 hp3 hp4 (kc := 6) rmX_ok ⟨by decide, by decide⟩ (by decide) hR hS kw_1210 hl.1 dX9_border_62 (Nat.le_of_ble_eq_true rfl) hw (fun x8 M7 H locs hw r9 hR hS => ?_)
          exact sx_iret X hR hS r9 hw dX9_border_65 (by decide) (by decide)
        · have hw := hw.2 hc
          exact sx_throwW (text := "no such cell, row or column") X T xw_IOB (by decide +kernel) hR hS hl.1 dX9_border_42 dX9_border_45 dX9_border_46 dX9_border_49 dX9_border_52 (by decide) (by decide) (by decide) hw
      · have hw := hw.2 hc
        exact t_X9_border_19 X T hp1 hp2 hp3 hp4 _ hw _ _ hR hS _ (lv_sub hl [] rfl)
theorem m_X9_border {l : Launch} {G : Gx} {e0 : Nat} {α : Ax} {κ : Nat → Int} {B : Nat} {p1 : Int} {p2 : Int} {p3 : Int} {p4 : Int} (hlt : l.stackTraces = false) (hκ : kOK κ) (hp1 : inR p1) (hp2 : inR p2) (hp3 : inR p3) (hp4 : inR p4) {M : Mem} {Qm : Int → Mem → Prop} {Xm : String → Mem → Prop} (hw : wp_X9_border p1 p2 p3 p4 M Xm Qm) : XI l yX9_border (Cond.code yX9_border cX9_border 5 (some .int)) 6 1 6 G e0 α κ B [.ref (α 10 0), .int (Int32.ofInt p1), .int (Int32.ofInt p2), .int (Int32.ofInt p3), .int (Int32.ofInt p4)] M Qm Xm :=
  XI.mk hlt hκ (by decide +kernel) rfl (Nat.le_of_ble_eq_true rfl) (lv := [(0, .ref (α 10 0)), (1, .int (Int32.ofInt p1)), (2, .int (Int32.ofInt p2)), (3, .int (Int32.ofInt p3)), (4, .int (Int32.ofInt p4))]) rfl (fun p e s m args below meth c ls X T hR hS hl => t_X9_border X T hp1 hp2 hp3 hp4 hw _ _ hR hS ls hl)
theorem cx_X9_border {cc : ByteArray} {nL : Nat} {own : String} {ret : Option FieldType} {idx pc : Nat} {p1 : Int} {p2 : Int} {p3 : Int} {p4 : Int} (X : CX p m c cc nL s args own G B κ meth ret) (T : XT l c) (hp1 : inR p1) (hp2 : inR p2) (hp3 : inR p3) (hp4 : inR p4) {k mc ms cells slots : Nat} (hk : 6 + 1 ≤ k) (hcel : cells + 1 ≤ mc ∧ slots + 6 ≤ ms) {M : Mem} {H : Heap} {locs : List Loc} (hR : Rp G e0 α κ B M H) (hS : va_S (fun q => B ≤ q) s.heap H locs) (k1 : Cond.methodLink own idx yX9_border ∈ gw) {ls : Array Slot} (hml : ls.size = nL) {rest : List Value} (hd : decode cc pc = .ok (.invokevirtual idx, 3)) (hrest : (rest.map fun v => v.category).sum ≤ 8) {Qc : Array Value → State → Outcome → State → Prop} {Qm : Int → Mem → Prop} {Xm : String → Mem → Prop} (hw : wp_X9_border p1 p2 p3 p4 M Xm Qm) (kk : ∀ (r : Int) (M1 : Mem) (H1 : Heap) (locs1 : List Loc), Qm r M1 → inR r → Rp G e0 α κ B M1 H1 → va_S (fun q => B ≤ q) s.heap H1 locs1 → W p l e (rmX k mc ms) s m args below meth c H1 locs1 (cells + 1) (slots + 6) (vx_MQ below Qc (XQ G e0 α κ B Xm) args s mc ms (fun q => B ≤ q)) (F0 m (pc + 3) ls (.int (Int32.ofInt r) :: rest))) : W p l e (rmX k mc ms) s m args below meth c H locs cells slots (vx_MQ below Qc (XQ G e0 α κ B Xm) args s mc ms (fun q => B ≤ q)) (F0 m pc ls (.int (Int32.ofInt p4) :: .int (Int32.ofInt p3) :: .int (Int32.ofInt p2) :: .int (Int32.ofInt p1) :: .ref (α 10 0) :: rest)) :=
  sx_callVI 6 (n := 4) (As := [.int (Int32.ofInt p1), .int (Int32.ofInt p2), .int (Int32.ofInt p3), .int (Int32.ofInt p4)]) (rest := rest) X T hR hS (m_X9_border T.1 X.2.2.1 hp1 hp2 hp3 hp4 hw) k1 kw_1197 kw_1198 kw_38 kw_1199 ⟨rfl, by decide +kernel, by decide +kernel, by decide +kernel⟩ (rm_ok rmX_ok hk (by decide)) (rc_10 X hR (okf X.2.2.1 rfl)) rfl rfl hrest hml hd hcel kk
def wp_X9_edge_19 (p1 : Int) (p2 : Int) (p3 : Int) (Xm : String → Mem → Prop) (Qm : Int → Mem → Prop) (M : Mem) : Prop := Xm xIAE M
def wp_X9_edge_244 (p1 : Int) (p2 : Int) (p3 : Int) (Xm : String → Mem → Prop) (Qm : Int → Mem → Prop) (y10 : Int) (y11 : Int) (y12 : Int) (z0 : Int) (M : Mem) : Prop := wp_X9_strongest y11 y12 z0 (if y10 = 0 then (0 : Int) else (M 4 0 7)) M fun (x40 : Int) (M39 : Mem) => Qm x40 M39
def wp_X9_edge_221 (p1 : Int) (p2 : Int) (p3 : Int) (Xm : String → Mem → Prop) (Qm : Int → Mem → Prop) (y4 : Int) (y7 : Int) (y10 : Int) (y11 : Int) (z0 : Int) (M : Mem) : Prop := ((y4 = 0 → wp_X9_edge_244 p1 p2 p3 Xm Qm y10 y11 z0 0 M) ∧ (¬ y4 = 0 → wp_X3_greaterWeight 2 p2 y7 p3 M fun (x43 : Int) (M42 : Mem) => wp_X9_edge_244 p1 p2 p3 Xm Qm y10 y11 z0 x43 M42))
def wp_X9_edge_166 (p1 : Int) (p2 : Int) (p3 : Int) (Xm : String → Mem → Prop) (Qm : Int → Mem → Prop) (y4 : Int) (y6 : Int) (y7 : Int) (y8 : Int) (y9 : Int) (M : Mem) : Prop := wp_X3_greaterWeight 0 y8 y9 p3 M fun (x31 : Int) (M30 : Mem) => ((y4 = 0 → wp_X3_greaterWeight 1 p1 y6 p3 M30 fun (x34 : Int) (M33 : Mem) => wp_X9_edge_221 p1 p2 p3 Xm Qm y4 y7 (if y6 = (-1) then (1 : Int) else (if ¬ y7 = (-1) then (0 : Int) else 1)) x31 x34 M33) ∧ (¬ y4 = 0 → wp_X9_edge_221 p1 p2 p3 Xm Qm y4 y7 (if y6 = (-1) then (1 : Int) else (if ¬ y7 = (-1) then (0 : Int) else 1)) x31 0 M30))
def wp_X9_edge_125 (p1 : Int) (p2 : Int) (p3 : Int) (Xm : String → Mem → Prop) (Qm : Int → Mem → Prop) (y4 : Int) (y6 : Int) (z0 : Int) (M : Mem) : Prop := wp_X3_cellNumberAt p1 p2 M fun (x20 : Int) (M19 : Mem) => wp_X3_cellNumberAt y6 z0 M19 fun (x23 : Int) (M22 : Mem) => ((x20 = (-1) → wp_X9_edge_166 p1 p2 p3 Xm Qm y4 y6 z0 x20 x23 M22) ∧ (¬ x20 = (-1) → ((¬ x20 = x23 → wp_X9_edge_166 p1 p2 p3 Xm Qm y4 y6 z0 x20 x23 M22) ∧ (x20 = x23 → Qm 0 M22))))
def wp_X9_edge_104 (p1 : Int) (p2 : Int) (p3 : Int) (Xm : String → Mem → Prop) (Qm : Int → Mem → Prop) (y4 : Int) (y5 : Int) (z0 : Int) (M : Mem) : Prop := ((y4 = 0 → wp_X9_edge_125 p1 p2 p3 Xm Qm y4 z0 p2 M) ∧ (¬ y4 = 0 → wp_X3_columnBeside p2 y5 M fun (x46 : Int) (M45 : Mem) => wp_X9_edge_125 p1 p2 p3 Xm Qm y4 z0 x46 M45))
def wp_X9_edge (p1 : Int) (p2 : Int) (p3 : Int) (M : Mem) (Xm : String → Mem → Prop) (Qm : Int → Mem → Prop) : Prop := wp_X9_requireRow p1 M Xm fun (M1 : Mem) => wp_X9_requireColumn p2 M1 Xm fun (M2 : Mem) => ((p3 < 0 → wp_X9_edge_19 p1 p2 p3 Xm Qm M2) ∧ (0 ≤ p3 → ((p3 ≤ 3 → wp_X3_isShown p2 M2 fun (x4 : Int) (M3 : Mem) => ((¬ x4 = 0 → (((if p3 = 1 then (1 : Int) else (if ¬ p3 = 3 then (0 : Int) else 1)) = 0 → wp_X3_rowBeside p1 (if p3 = 0 then ((-1) : Int) else (if ¬ p3 = 3 then (1 : Int) else (-1))) M3 fun (x17 : Int) (M16 : Mem) => wp_X9_edge_104 p1 p2 p3 Xm Qm (if p3 = 1 then (1 : Int) else (if ¬ p3 = 3 then (0 : Int) else 1)) (if p3 = 0 then ((-1) : Int) else (if ¬ p3 = 3 then (1 : Int) else (-1))) x17 M16) ∧ (¬ (if p3 = 1 then (1 : Int) else (if ¬ p3 = 3 then (0 : Int) else 1)) = 0 → wp_X9_edge_104 p1 p2 p3 Xm Qm (if p3 = 1 then (1 : Int) else (if ¬ p3 = 3 then (0 : Int) else 1)) (if p3 = 0 then ((-1) : Int) else (if ¬ p3 = 3 then (1 : Int) else (-1))) p1 M3))) ∧ (x4 = 0 → Xm xISE M3))) ∧ (3 < p3 → wp_X9_edge_19 p1 p2 p3 Xm Qm M2))))
set_option maxHeartbeats 4000000 in
set_option maxRecDepth 100000 in
theorem t_X9_edge_19 {p1 : Int} {p2 : Int} {p3 : Int} (X : CX p m c cX9_edge 14 s args RX9 G B κ meth (some .int)) (T : XT l c) (hp1 : inR p1) (hp2 : inR p2) (hp3 : inR p3) {Xm : String → Mem → Prop} {Qm : Int → Mem → Prop} : ∀ M : Mem, wp_X9_edge_19 p1 p2 p3 Xm Qm M → ∀ (H : Heap) (locs : List Loc), Rp G e0 α κ B M H → va_S (fun q => B ≤ q) s.heap H locs → ∀ (ls : Array Slot), lv_has ls 14 [] → WXI p l e 7 3 18 s m args below meth c G e0 α κ B Qm Xm H locs 2 12 19 ls [] := by
  intro M hw H locs hR hS ls hl
  have hw : Xm xIAE M := hw
  exact sx_throwW (text := "side is out of range") X T xw_IAE (by decide +kernel) hR hS hl.1 dX9_edge_19 dX9_edge_22 dX9_edge_23 dX9_edge_26 dX9_edge_29 (by decide) (by decide) (by decide) hw
set_option maxHeartbeats 4000000 in
set_option maxRecDepth 100000 in
theorem t_X9_edge_244 {p1 : Int} {p2 : Int} {p3 : Int} (X : CX p m c cX9_edge 14 s args RX9 G B κ meth (some .int)) (T : XT l c) (hp1 : inR p1) (hp2 : inR p2) (hp3 : inR p3) {Xm : String → Mem → Prop} {Qm : Int → Mem → Prop} : ∀ y10 : Int, ∀ y11 : Int, ∀ y12 : Int, ∀ z0 : Int, ∀ M : Mem, wp_X9_edge_244 p1 p2 p3 Xm Qm y10 y11 y12 z0 M → inR y10 → inR y11 → inR y12 → inR z0 → ∀ (H : Heap) (locs : List Loc), Rp G e0 α κ B M H → va_S (fun q => B ≤ q) s.heap H locs → ∀ (ls : Array Slot), lv_has ls 14 [(0, .ref (α 10 0)), (10, .int (Int32.ofInt y10)), (11, .int (Int32.ofInt y11)), (12, .int (Int32.ofInt y12))] → WXI p l e 7 3 18 s m args below meth c G e0 α κ B Qm Xm H locs 2 12 244 ls [.int (Int32.ofInt z0)] := by
  intro y10 y11 y12 z0 M hw hy10 hy11 hy12 hz0 H locs hR hS ls hl
  have hw : wp_X9_strongest y11 y12 z0 (if y10 = 0 then (0 : Int) else (M 4 0 7)) M fun (x40 : Int) (M39 : Mem) => Qm x40 M39 := hw
  refine lv_istore (lv' := [(13, .int (Int32.ofInt z0)), (0, .ref (α 10 0)), (10, .int (Int32.ofInt y10)), (11, .int (Int32.ofInt y11)), (12, .int (Int32.ofInt y12))]) X.1.1 X.1.2.1 dX9_edge_244 hl (by decide) rfl (fun ls hl => ?_)
  refine lv_iload X.1.1 X.1.2.1 dX9_edge_246 (lv_at hl 3 rfl) ?_
  refine lv_iload X.1.1 X.1.2.1 dX9_edge_248 (lv_at hl 4 rfl) ?_
  refine lv_iload X.1.1 X.1.2.1 dX9_edge_250 (lv_at hl 0 rfl) ?_
  refine lv_iload X.1.1 X.1.2.1 dX9_edge_252 (lv_at hl 2 rfl) ?_
  have r36 := inR_ite (c := y10 = 0) (inR_c (a := 0) rfl) (hR.r 4 0 7)
  refine cut_j (A := ∀ v37 : Int, v37 = (if y10 = 0 then (0 : Int) else (M 4 0 7)) → WXI p l e 7 3 18 s m args below meth c G e0 α κ B Qm Xm H locs 2 12 268 ls [.int (Int32.ofInt v37), .int (Int32.ofInt z0), .int (Int32.ofInt y12), .int (Int32.ofInt y11)]) (fun J38 => ?_) ?_
  · refine sa_if_eq (tgt := 267) X.1 hy10 dX9_edge_254 (by decide) (fun hc => ?_) (fun hc => ?_)
    · skip
      refine sa_const X.1 dX9_edge_267 ?_
      exact J38 (0) (if_pos (c := y10 = 0) hc).symm
    · skip
      refine lv_aload_n X.1.1 X.1.2.1 dX9_edge_257 rfl (lv_at hl 1 rfl) ?_
      refine gt_10_0 X hR (okf X.2.2.1 rfl) kw_332 dX9_edge_258 ?_
      refine gt_4_7 X hR (okf X.2.2.1 rfl) kw_129 dX9_edge_261 ?_
      refine lv_goto (tgt := 268) X.1.1 X.1.2.1 dX9_edge_264 (by decide) ?_
      exact J38 ((M 4 0 7)) (if_neg (c := y10 = 0) hc).symm
  intro v37 hv37
  subst hv37
  refine cs_X9_strongest X hy11 hy12 hz0 r36 (kc := 7) rmX_ok ⟨by decide, by decide⟩ (by decide) hR hS kw_1431 hl.1 dX9_edge_268 (Nat.le_of_ble_eq_true rfl) hw (fun x40 M39 H locs hw r41 hR hS => ?_)
  exact sx_iret X hR hS r41 hw dX9_edge_271 (by decide) (by decide)
set_option maxHeartbeats 4000000 in
set_option maxRecDepth 100000 in
theorem t_X9_edge_221 {p1 : Int} {p2 : Int} {p3 : Int} (X : CX p m c cX9_edge 14 s args RX9 G B κ meth (some .int)) (T : XT l c) (hp1 : inR p1) (hp2 : inR p2) (hp3 : inR p3) {Xm : String → Mem → Prop} {Qm : Int → Mem → Prop} : ∀ y4 : Int, ∀ y7 : Int, ∀ y10 : Int, ∀ y11 : Int, ∀ z0 : Int, ∀ M : Mem, wp_X9_edge_221 p1 p2 p3 Xm Qm y4 y7 y10 y11 z0 M → inR y4 → inR y7 → inR y10 → inR y11 → inR z0 → ∀ (H : Heap) (locs : List Loc), Rp G e0 α κ B M H → va_S (fun q => B ≤ q) s.heap H locs → ∀ (ls : Array Slot), lv_has ls 14 [(0, .ref (α 10 0)), (2, .int (Int32.ofInt p2)), (3, .int (Int32.ofInt p3)), (4, .int (Int32.ofInt y4)), (7, .int (Int32.ofInt y7)), (10, .int (Int32.ofInt y10)), (11, .int (Int32.ofInt y11))] → WXI p l e 7 3 18 s m args below meth c G e0 α κ B Qm Xm H locs 2 12 221 ls [.int (Int32.ofInt z0)] := by
  intro y4 y7 y10 y11 z0 M hw hy4 hy7 hy10 hy11 hz0 H locs hR hS ls hl
  have hw : ((y4 = 0 → wp_X9_edge_244 p1 p2 p3 Xm Qm y10 y11 z0 0 M) ∧ (¬ y4 = 0 → wp_X3_greaterWeight 2 p2 y7 p3 M fun (x43 : Int) (M42 : Mem) => wp_X9_edge_244 p1 p2 p3 Xm Qm y10 y11 z0 x43 M42)) := hw
  refine lv_istore (lv' := [(12, .int (Int32.ofInt z0)), (0, .ref (α 10 0)), (2, .int (Int32.ofInt p2)), (3, .int (Int32.ofInt p3)), (4, .int (Int32.ofInt y4)), (7, .int (Int32.ofInt y7)), (10, .int (Int32.ofInt y10)), (11, .int (Int32.ofInt y11))]) X.1.1 X.1.2.1 dX9_edge_221 hl (by decide) rfl (fun ls hl => ?_)
  refine lv_iload X.1.1 X.1.2.1 dX9_edge_223 (lv_at hl 4 rfl) ?_
  refine sa_if_eq (tgt := 243) X.1 hy4 dX9_edge_225 (by decide) (fun hc => ?_) (fun hc => ?_)
  · have hw := hw.1 hc
    refine sa_const X.1 dX9_edge_243 ?_
    exact t_X9_edge_244 X T hp1 hp2 hp3 _ _ _ _ _ hw hy10 hy11 hz0 (inR_c (a := 0) rfl) _ _ hR hS _ (lv_sub hl [1, 6, 7, 0] rfl)
  · have hw := hw.2 hc
    refine lv_aload_n X.1.1 X.1.2.1 dX9_edge_228 rfl (lv_at hl 1 rfl) ?_
    refine gt_10_0 X hR (okf X.2.2.1 rfl) kw_332 dX9_edge_229 ?_
    refine sa_const X.1 dX9_edge_232 ?_
    refine lv_iload_n X.1.1 X.1.2.1 dX9_edge_233 rfl (lv_at hl 2 rfl) ?_
    refine lv_iload X.1.1 X.1.2.1 dX9_edge_234 (lv_at hl 5 rfl) ?_
    refine lv_iload_n X.1.1 X.1.2.1 dX9_edge_236 rfl (lv_at hl 3 rfl) ?_
    refine cs_X3_greaterWeight X (inR_c (a := 2) rfl) hp2 hy7 hp3 (kc := 7) rmX_ok ⟨by decide, by decide⟩ (by decide) hR hS kw_1427 hl.1 dX9_edge_237 (Nat.le_of_ble_eq_true rfl) hw (fun x43 M42 H locs hw r44 hR hS => ?_)
    refine lv_goto (tgt := 244) X.1.1 X.1.2.1 dX9_edge_240 (by decide) ?_
    exact t_X9_edge_244 X T hp1 hp2 hp3 _ _ _ _ _ hw hy10 hy11 hz0 r44 _ _ hR hS _ (lv_sub hl [1, 6, 7, 0] rfl)
set_option maxHeartbeats 4000000 in
set_option maxRecDepth 100000 in
theorem t_X9_edge_166 {p1 : Int} {p2 : Int} {p3 : Int} (X : CX p m c cX9_edge 14 s args RX9 G B κ meth (some .int)) (T : XT l c) (hp1 : inR p1) (hp2 : inR p2) (hp3 : inR p3) {Xm : String → Mem → Prop} {Qm : Int → Mem → Prop} : ∀ y4 : Int, ∀ y6 : Int, ∀ y7 : Int, ∀ y8 : Int, ∀ y9 : Int, ∀ M : Mem, wp_X9_edge_166 p1 p2 p3 Xm Qm y4 y6 y7 y8 y9 M → inR y4 → inR y6 → inR y7 → inR y8 → inR y9 → ∀ (H : Heap) (locs : List Loc), Rp G e0 α κ B M H → va_S (fun q => B ≤ q) s.heap H locs → ∀ (ls : Array Slot), lv_has ls 14 [(0, .ref (α 10 0)), (1, .int (Int32.ofInt p1)), (2, .int (Int32.ofInt p2)), (3, .int (Int32.ofInt p3)), (4, .int (Int32.ofInt y4)), (6, .int (Int32.ofInt y6)), (7, .int (Int32.ofInt y7)), (8, .int (Int32.ofInt y8)), (9, .int (Int32.ofInt y9))] → WXI p l e 7 3 18 s m args below meth c G e0 α κ B Qm Xm H locs 2 12 166 ls [] := by
  intro y4 y6 y7 y8 y9 M hw hy4 hy6 hy7 hy8 hy9 H locs hR hS ls hl
  have hw : wp_X3_greaterWeight 0 y8 y9 p3 M fun (x31 : Int) (M30 : Mem) => ((y4 = 0 → wp_X3_greaterWeight 1 p1 y6 p3 M30 fun (x34 : Int) (M33 : Mem) => wp_X9_edge_221 p1 p2 p3 Xm Qm y4 y7 (if y6 = (-1) then (1 : Int) else (if ¬ y7 = (-1) then (0 : Int) else 1)) x31 x34 M33) ∧ (¬ y4 = 0 → wp_X9_edge_221 p1 p2 p3 Xm Qm y4 y7 (if y6 = (-1) then (1 : Int) else (if ¬ y7 = (-1) then (0 : Int) else 1)) x31 0 M30)) := hw
  refine lv_iload X.1.1 X.1.2.1 dX9_edge_166 (lv_at hl 5 rfl) ?_
  refine sa_const X.1 dX9_edge_168 ?_
  have r27 := inR_ite (c := y6 = (-1)) (inR_c (a := 1) rfl) (inR_ite (c := ¬ y7 = (-1)) (inR_c (a := 0) rfl) (inR_c (a := 1) rfl))
  refine cut_j (A := ∀ v28 : Int, v28 = (if y6 = (-1) then (1 : Int) else (if ¬ y7 = (-1) then (0 : Int) else 1)) → WXI p l e 7 3 18 s m args below meth c G e0 α κ B Qm Xm H locs 2 12 183 ls [.int (Int32.ofInt v28)]) (fun J29 => ?_) ?_
  · refine sa_icmp_eq (tgt := 178) X.1 hy6 (inR_c (a := -1) rfl) dX9_edge_169 (by decide) (fun hc => ?_) (fun hc => ?_)
    · skip
      refine sa_const X.1 dX9_edge_178 ?_
      refine lv_goto (tgt := 183) X.1.1 X.1.2.1 dX9_edge_179 (by decide) ?_
      exact J29 (1) (if_pos (c := y6 = (-1)) hc).symm
    · skip
      refine lv_iload X.1.1 X.1.2.1 dX9_edge_172 (lv_at hl 6 rfl) ?_
      refine sa_const X.1 dX9_edge_174 ?_
      refine cut_j (A := ∀ v25 : Int, v25 = (if ¬ y7 = (-1) then (0 : Int) else 1) → WXI p l e 7 3 18 s m args below meth c G e0 α κ B Qm Xm H locs 2 12 183 ls [.int (Int32.ofInt v25)]) (fun J26 => ?_) ?_
      · refine sa_icmp_ne (tgt := 182) X.1 hy7 (inR_c (a := -1) rfl) dX9_edge_175 (by decide) (fun hc => ?_) (fun hc => ?_)
        · skip
          refine sa_const X.1 dX9_edge_182 ?_
          exact J26 (0) (if_pos (c := ¬ y7 = (-1)) hc).symm
        · skip
          refine sa_const X.1 dX9_edge_178 ?_
          refine lv_goto (tgt := 183) X.1.1 X.1.2.1 dX9_edge_179 (by decide) ?_
          exact J26 (1) (if_neg (c := ¬ y7 = (-1)) (fun z => z hc)).symm
      intro v25 hv25
      subst hv25
      exact J29 ((if ¬ y7 = (-1) then (0 : Int) else 1)) (if_neg (c := y6 = (-1)) hc).symm
  intro v28 hv28
  subst hv28
  refine lv_istore (lv' := [(10, .int (Int32.ofInt (if y6 = (-1) then (1 : Int) else (if ¬ y7 = (-1) then (0 : Int) else 1)))), (0, .ref (α 10 0)), (1, .int (Int32.ofInt p1)), (2, .int (Int32.ofInt p2)), (3, .int (Int32.ofInt p3)), (4, .int (Int32.ofInt y4)), (6, .int (Int32.ofInt y6)), (7, .int (Int32.ofInt y7)), (8, .int (Int32.ofInt y8)), (9, .int (Int32.ofInt y9))]) X.1.1 X.1.2.1 dX9_edge_183 hl (by decide) rfl (fun ls hl => ?_)
  refine lv_aload_n X.1.1 X.1.2.1 dX9_edge_185 rfl (lv_at hl 1 rfl) ?_
  refine gt_10_0 X hR (okf X.2.2.1 rfl) kw_332 dX9_edge_186 ?_
  refine sa_const X.1 dX9_edge_189 ?_
  refine lv_iload X.1.1 X.1.2.1 dX9_edge_190 (lv_at hl 8 rfl) ?_
  refine lv_iload X.1.1 X.1.2.1 dX9_edge_192 (lv_at hl 9 rfl) ?_
  refine lv_iload_n X.1.1 X.1.2.1 dX9_edge_194 rfl (lv_at hl 4 rfl) ?_
  refine cs_X3_greaterWeight X (inR_c (a := 0) rfl) hy8 hy9 hp3 (kc := 7) rmX_ok ⟨by decide, by decide⟩ (by decide) hR hS kw_1427 hl.1 dX9_edge_195 (Nat.le_of_ble_eq_true rfl) hw (fun x31 M30 H locs hw r32 hR hS => ?_)
  refine lv_istore (lv' := [(11, .int (Int32.ofInt x31)), (10, .int (Int32.ofInt (if y6 = (-1) then (1 : Int) else (if ¬ y7 = (-1) then (0 : Int) else 1)))), (0, .ref (α 10 0)), (1, .int (Int32.ofInt p1)), (2, .int (Int32.ofInt p2)), (3, .int (Int32.ofInt p3)), (4, .int (Int32.ofInt y4)), (6, .int (Int32.ofInt y6)), (7, .int (Int32.ofInt y7)), (8, .int (Int32.ofInt y8)), (9, .int (Int32.ofInt y9))]) X.1.1 X.1.2.1 dX9_edge_198 hl (by decide) rfl (fun ls hl => ?_)
  refine lv_iload X.1.1 X.1.2.1 dX9_edge_200 (lv_at hl 6 rfl) ?_
  refine sa_if_eq (tgt := 209) X.1 hy4 dX9_edge_202 (by decide) (fun hc => ?_) (fun hc => ?_)
  · have hw := hw.1 hc
    refine lv_aload_n X.1.1 X.1.2.1 dX9_edge_209 rfl (lv_at hl 2 rfl) ?_
    refine gt_10_0 X hR (okf X.2.2.1 rfl) kw_332 dX9_edge_210 ?_
    refine sa_const X.1 dX9_edge_213 ?_
    refine lv_iload_n X.1.1 X.1.2.1 dX9_edge_214 rfl (lv_at hl 3 rfl) ?_
    refine lv_iload X.1.1 X.1.2.1 dX9_edge_215 (lv_at hl 7 rfl) ?_
    refine lv_iload_n X.1.1 X.1.2.1 dX9_edge_217 rfl (lv_at hl 5 rfl) ?_
    refine cs_X3_greaterWeight X (inR_c (a := 1) rfl) hp1 hy6 hp3 (kc := 7) rmX_ok ⟨by decide, by decide⟩ (by decide) hR hS kw_1427 hl.1 dX9_edge_218 (Nat.le_of_ble_eq_true rfl) hw (fun x34 M33 H locs hw r35 hR hS => ?_)
    exact t_X9_edge_221 X T hp1 hp2 hp3 _ _ _ _ _ _ hw hy4 hy7 r27 r32 r35 _ _ hR hS _ (lv_sub hl [2, 4, 5, 6, 8, 1, 0] rfl)
  · have hw := hw.2 hc
    refine sa_const X.1 dX9_edge_205 ?_
    refine lv_goto (tgt := 221) X.1.1 X.1.2.1 dX9_edge_206 (by decide) ?_
    exact t_X9_edge_221 X T hp1 hp2 hp3 _ _ _ _ _ _ hw hy4 hy7 r27 r32 (inR_c (a := 0) rfl) _ _ hR hS _ (lv_sub hl [2, 4, 5, 6, 8, 1, 0] rfl)
set_option maxHeartbeats 4000000 in
set_option maxRecDepth 100000 in
theorem t_X9_edge_125 {p1 : Int} {p2 : Int} {p3 : Int} (X : CX p m c cX9_edge 14 s args RX9 G B κ meth (some .int)) (T : XT l c) (hp1 : inR p1) (hp2 : inR p2) (hp3 : inR p3) {Xm : String → Mem → Prop} {Qm : Int → Mem → Prop} : ∀ y4 : Int, ∀ y6 : Int, ∀ z0 : Int, ∀ M : Mem, wp_X9_edge_125 p1 p2 p3 Xm Qm y4 y6 z0 M → inR y4 → inR y6 → inR z0 → ∀ (H : Heap) (locs : List Loc), Rp G e0 α κ B M H → va_S (fun q => B ≤ q) s.heap H locs → ∀ (ls : Array Slot), lv_has ls 14 [(0, .ref (α 10 0)), (1, .int (Int32.ofInt p1)), (2, .int (Int32.ofInt p2)), (3, .int (Int32.ofInt p3)), (4, .int (Int32.ofInt y4)), (6, .int (Int32.ofInt y6))] → WXI p l e 7 3 18 s m args below meth c G e0 α κ B Qm Xm H locs 2 12 125 ls [.int (Int32.ofInt z0)] := by
  intro y4 y6 z0 M hw hy4 hy6 hz0 H locs hR hS ls hl
  have hw : wp_X3_cellNumberAt p1 p2 M fun (x20 : Int) (M19 : Mem) => wp_X3_cellNumberAt y6 z0 M19 fun (x23 : Int) (M22 : Mem) => ((x20 = (-1) → wp_X9_edge_166 p1 p2 p3 Xm Qm y4 y6 z0 x20 x23 M22) ∧ (¬ x20 = (-1) → ((¬ x20 = x23 → wp_X9_edge_166 p1 p2 p3 Xm Qm y4 y6 z0 x20 x23 M22) ∧ (x20 = x23 → Qm 0 M22)))) := hw
  refine lv_istore (lv' := [(7, .int (Int32.ofInt z0)), (0, .ref (α 10 0)), (1, .int (Int32.ofInt p1)), (2, .int (Int32.ofInt p2)), (3, .int (Int32.ofInt p3)), (4, .int (Int32.ofInt y4)), (6, .int (Int32.ofInt y6))]) X.1.1 X.1.2.1 dX9_edge_125 hl (by decide) rfl (fun ls hl => ?_)
  refine lv_aload_n X.1.1 X.1.2.1 dX9_edge_127 rfl (lv_at hl 1 rfl) ?_
  refine gt_10_0 X hR (okf X.2.2.1 rfl) kw_332 dX9_edge_128 ?_
  refine lv_iload_n X.1.1 X.1.2.1 dX9_edge_131 rfl (lv_at hl 2 rfl) ?_
  refine lv_iload_n X.1.1 X.1.2.1 dX9_edge_132 rfl (lv_at hl 3 rfl) ?_
  refine cs_X3_cellNumberAt X hp1 hp2 (kc := 7) rmX_ok ⟨by decide, by decide⟩ (by decide) hR hS kw_1058 hl.1 dX9_edge_133 (Nat.le_of_ble_eq_true rfl) hw (fun x20 M19 H locs hw r21 hR hS => ?_)
  refine lv_istore (lv' := [(8, .int (Int32.ofInt x20)), (7, .int (Int32.ofInt z0)), (0, .ref (α 10 0)), (1, .int (Int32.ofInt p1)), (2, .int (Int32.ofInt p2)), (3, .int (Int32.ofInt p3)), (4, .int (Int32.ofInt y4)), (6, .int (Int32.ofInt y6))]) X.1.1 X.1.2.1 dX9_edge_136 hl (by decide) rfl (fun ls hl => ?_)
  refine lv_aload_n X.1.1 X.1.2.1 dX9_edge_138 rfl (lv_at hl 2 rfl) ?_
  refine gt_10_0 X hR (okf X.2.2.1 rfl) kw_332 dX9_edge_139 ?_
  refine lv_iload X.1.1 X.1.2.1 dX9_edge_142 (lv_at hl 7 rfl) ?_
  refine lv_iload X.1.1 X.1.2.1 dX9_edge_144 (lv_at hl 1 rfl) ?_
  refine cs_X3_cellNumberAt X hy6 hz0 (kc := 7) rmX_ok ⟨by decide, by decide⟩ (by decide) hR hS kw_1058 hl.1 dX9_edge_146 (Nat.le_of_ble_eq_true rfl) hw (fun x23 M22 H locs hw r24 hR hS => ?_)
  refine lv_istore (lv' := [(9, .int (Int32.ofInt x23)), (8, .int (Int32.ofInt x20)), (7, .int (Int32.ofInt z0)), (0, .ref (α 10 0)), (1, .int (Int32.ofInt p1)), (2, .int (Int32.ofInt p2)), (3, .int (Int32.ofInt p3)), (4, .int (Int32.ofInt y4)), (6, .int (Int32.ofInt y6))]) X.1.1 X.1.2.1 dX9_edge_149 hl (by decide) rfl (fun ls hl => ?_)
  refine lv_iload X.1.1 X.1.2.1 dX9_edge_151 (lv_at hl 1 rfl) ?_
  refine sa_const X.1 dX9_edge_153 ?_
  refine sa_icmp_eq (tgt := 166) X.1 r21 (inR_c (a := -1) rfl) dX9_edge_154 (by decide) (fun hc => ?_) (fun hc => ?_)
  · have hw := hw.1 hc
    exact t_X9_edge_166 X T hp1 hp2 hp3 _ _ _ _ _ _ hw hy4 hy6 hz0 r21 r24 _ _ hR hS _ (lv_sub hl [3, 4, 5, 6, 7, 8, 2, 1, 0] rfl)
  · have hw := hw.2 hc
    refine lv_iload X.1.1 X.1.2.1 dX9_edge_157 (lv_at hl 1 rfl) ?_
    refine lv_iload X.1.1 X.1.2.1 dX9_edge_159 (lv_at hl 0 rfl) ?_
    refine sa_icmp_ne (tgt := 166) X.1 r21 r24 dX9_edge_161 (by decide) (fun hc => ?_) (fun hc => ?_)
    · have hw := hw.1 hc
      exact t_X9_edge_166 X T hp1 hp2 hp3 _ _ _ _ _ _ hw hy4 hy6 hz0 r21 r24 _ _ hR hS _ (lv_sub hl [3, 4, 5, 6, 7, 8, 2, 1, 0] rfl)
    · have hw := hw.2 hc
      refine sa_const X.1 dX9_edge_164 ?_
      exact sx_iret X hR hS (inR_c (a := 0) rfl) hw dX9_edge_165 (by decide) (by decide)
set_option maxHeartbeats 4000000 in
set_option maxRecDepth 100000 in
theorem t_X9_edge_104 {p1 : Int} {p2 : Int} {p3 : Int} (X : CX p m c cX9_edge 14 s args RX9 G B κ meth (some .int)) (T : XT l c) (hp1 : inR p1) (hp2 : inR p2) (hp3 : inR p3) {Xm : String → Mem → Prop} {Qm : Int → Mem → Prop} : ∀ y4 : Int, ∀ y5 : Int, ∀ z0 : Int, ∀ M : Mem, wp_X9_edge_104 p1 p2 p3 Xm Qm y4 y5 z0 M → inR y4 → inR y5 → inR z0 → ∀ (H : Heap) (locs : List Loc), Rp G e0 α κ B M H → va_S (fun q => B ≤ q) s.heap H locs → ∀ (ls : Array Slot), lv_has ls 14 [(0, .ref (α 10 0)), (1, .int (Int32.ofInt p1)), (2, .int (Int32.ofInt p2)), (3, .int (Int32.ofInt p3)), (4, .int (Int32.ofInt y4)), (5, .int (Int32.ofInt y5))] → WXI p l e 7 3 18 s m args below meth c G e0 α κ B Qm Xm H locs 2 12 104 ls [.int (Int32.ofInt z0)] := by
  intro y4 y5 z0 M hw hy4 hy5 hz0 H locs hR hS ls hl
  have hw : ((y4 = 0 → wp_X9_edge_125 p1 p2 p3 Xm Qm y4 z0 p2 M) ∧ (¬ y4 = 0 → wp_X3_columnBeside p2 y5 M fun (x46 : Int) (M45 : Mem) => wp_X9_edge_125 p1 p2 p3 Xm Qm y4 z0 x46 M45)) := hw
  refine lv_istore (lv' := [(6, .int (Int32.ofInt z0)), (0, .ref (α 10 0)), (1, .int (Int32.ofInt p1)), (2, .int (Int32.ofInt p2)), (3, .int (Int32.ofInt p3)), (4, .int (Int32.ofInt y4)), (5, .int (Int32.ofInt y5))]) X.1.1 X.1.2.1 dX9_edge_104 hl (by decide) rfl (fun ls hl => ?_)
  refine lv_iload X.1.1 X.1.2.1 dX9_edge_106 (lv_at hl 5 rfl) ?_
  refine sa_if_eq (tgt := 124) X.1 hy4 dX9_edge_108 (by decide) (fun hc => ?_) (fun hc => ?_)
  · have hw := hw.1 hc
    refine lv_iload_n X.1.1 X.1.2.1 dX9_edge_124 rfl (lv_at hl 3 rfl) ?_
    exact t_X9_edge_125 X T hp1 hp2 hp3 _ _ _ _ hw hy4 hz0 hp2 _ _ hR hS _ (lv_sub hl [1, 2, 3, 4, 5, 0] rfl)
  · have hw := hw.2 hc
    refine lv_aload_n X.1.1 X.1.2.1 dX9_edge_111 rfl (lv_at hl 1 rfl) ?_
    refine gt_10_0 X hR (okf X.2.2.1 rfl) kw_332 dX9_edge_112 ?_
    refine lv_iload_n X.1.1 X.1.2.1 dX9_edge_115 rfl (lv_at hl 3 rfl) ?_
    refine lv_iload X.1.1 X.1.2.1 dX9_edge_116 (lv_at hl 6 rfl) ?_
    refine cs_X3_columnBeside X hp2 hy5 (kc := 7) rmX_ok ⟨by decide, by decide⟩ (by decide) hR hS kw_1423 hl.1 dX9_edge_118 (Nat.le_of_ble_eq_true rfl) hw (fun x46 M45 H locs hw r47 hR hS => ?_)
    refine lv_goto (tgt := 125) X.1.1 X.1.2.1 dX9_edge_121 (by decide) ?_
    exact t_X9_edge_125 X T hp1 hp2 hp3 _ _ _ _ hw hy4 hz0 r47 _ _ hR hS _ (lv_sub hl [1, 2, 3, 4, 5, 0] rfl)
set_option maxHeartbeats 4000000 in
set_option maxRecDepth 100000 in
theorem t_X9_edge {p1 : Int} {p2 : Int} {p3 : Int} (X : CX p m c cX9_edge 14 s args RX9 G B κ meth (some .int)) (T : XT l c) (hp1 : inR p1) (hp2 : inR p2) (hp3 : inR p3) {M : Mem} {Xm : String → Mem → Prop} {Qm : Int → Mem → Prop} (hw : wp_X9_edge p1 p2 p3 M Xm Qm) (H : Heap) (locs : List Loc) (hR : Rp G e0 α κ B M H) (hS : va_S (fun q => B ≤ q) s.heap H locs) (ls : Array Slot) (hl : lv_has ls 14 [(0, .ref (α 10 0)), (1, .int (Int32.ofInt p1)), (2, .int (Int32.ofInt p2)), (3, .int (Int32.ofInt p3))]) : WXI p l e 7 3 18 s m args below meth c G e0 α κ B Qm Xm H locs 0 0 0 ls [] := by
  have hw : wp_X9_requireRow p1 M Xm fun (M1 : Mem) => wp_X9_requireColumn p2 M1 Xm fun (M2 : Mem) => ((p3 < 0 → wp_X9_edge_19 p1 p2 p3 Xm Qm M2) ∧ (0 ≤ p3 → ((p3 ≤ 3 → wp_X3_isShown p2 M2 fun (x4 : Int) (M3 : Mem) => ((¬ x4 = 0 → (((if p3 = 1 then (1 : Int) else (if ¬ p3 = 3 then (0 : Int) else 1)) = 0 → wp_X3_rowBeside p1 (if p3 = 0 then ((-1) : Int) else (if ¬ p3 = 3 then (1 : Int) else (-1))) M3 fun (x17 : Int) (M16 : Mem) => wp_X9_edge_104 p1 p2 p3 Xm Qm (if p3 = 1 then (1 : Int) else (if ¬ p3 = 3 then (0 : Int) else 1)) (if p3 = 0 then ((-1) : Int) else (if ¬ p3 = 3 then (1 : Int) else (-1))) x17 M16) ∧ (¬ (if p3 = 1 then (1 : Int) else (if ¬ p3 = 3 then (0 : Int) else 1)) = 0 → wp_X9_edge_104 p1 p2 p3 Xm Qm (if p3 = 1 then (1 : Int) else (if ¬ p3 = 3 then (0 : Int) else 1)) (if p3 = 0 then ((-1) : Int) else (if ¬ p3 = 3 then (1 : Int) else (-1))) p1 M3))) ∧ (x4 = 0 → Xm xISE M3))) ∧ (3 < p3 → wp_X9_edge_19 p1 p2 p3 Xm Qm M2)))) := hw
  refine lv_aload_n X.1.1 X.1.2.1 dX9_edge_0 rfl (lv_at hl 0 rfl) ?_
  refine lv_iload_n X.1.1 X.1.2.1 dX9_edge_1 rfl (lv_at hl 1 rfl) ?_
  refine cx_X9_requireRow X T hp1 (by decide) ⟨by decide, by decide⟩ hR hS kw_938 hl.1 dX9_edge_2 (Nat.le_of_ble_eq_true rfl) hw (fun M1 H locs hw hR hS => ?_)
  refine W.widen (k := 1) (n := 6) (by decide) (by decide) ?_
  refine lv_aload_n X.1.1 X.1.2.1 dX9_edge_5 rfl (lv_at hl 0 rfl) ?_
  refine lv_iload_n X.1.1 X.1.2.1 dX9_edge_6 rfl (lv_at hl 2 rfl) ?_
  refine cx_X9_requireColumn X T hp2 (by decide) ⟨by decide, by decide⟩ hR hS kw_959 hl.1 dX9_edge_7 (Nat.le_of_ble_eq_true rfl) hw (fun M2 H locs hw hR hS => ?_)
  refine W.widen (k := 2) (n := 12) (by decide) (by decide) ?_
  refine lv_iload_n X.1.1 X.1.2.1 dX9_edge_10 rfl (lv_at hl 3 rfl) ?_
  refine sa_if_lt (tgt := 19) X.1 hp3 dX9_edge_11 (by decide) (fun hc => ?_) (fun hc => ?_)
  · have hw := hw.1 hc
    exact t_X9_edge_19 X T hp1 hp2 hp3 _ hw _ _ hR hS _ (lv_sub hl [] rfl)
  · have hw := hw.2 hc
    refine lv_iload_n X.1.1 X.1.2.1 dX9_edge_14 rfl (lv_at hl 3 rfl) ?_
    refine sa_const X.1 dX9_edge_15 ?_
    refine sa_icmp_le (tgt := 30) X.1 hp3 (inR_c (a := 3) rfl) dX9_edge_16 (by decide) (fun hc => ?_) (fun hc => ?_)
    · have hw := hw.1 hc
      refine lv_aload_n X.1.1 X.1.2.1 dX9_edge_30 rfl (lv_at hl 0 rfl) ?_
      refine gt_10_0 X hR (okf X.2.2.1 rfl) kw_332 dX9_edge_31 ?_
      refine lv_iload_n X.1.1 X.1.2.1 dX9_edge_34 rfl (lv_at hl 2 rfl) ?_
      refine cs_X3_isShown X hp2 (kc := 7) rmX_ok ⟨by decide, by decide⟩ (by decide) hR hS kw_1189 hl.1 dX9_edge_35 (Nat.le_of_ble_eq_true rfl) hw (fun x4 M3 H locs hw r5 hR hS => ?_)
      refine sa_if_ne (tgt := 52) X.1 r5 dX9_edge_38 (by decide) (fun hc => ?_) (fun hc => ?_)
      · have hw := hw.1 hc
        refine lv_iload_n X.1.1 X.1.2.1 dX9_edge_52 rfl (lv_at hl 3 rfl) ?_
        refine sa_const X.1 dX9_edge_53 ?_
        have r8 := inR_ite (c := p3 = 1) (inR_c (a := 1) rfl) (inR_ite (c := ¬ p3 = 3) (inR_c (a := 0) rfl) (inR_c (a := 1) rfl))
        refine cut_j (A := ∀ v9 : Int, v9 = (if p3 = 1 then (1 : Int) else (if ¬ p3 = 3 then (0 : Int) else 1)) → WXI p l e 7 3 18 s m args below meth c G e0 α κ B Qm Xm H locs 2 12 67 ls [.int (Int32.ofInt v9)]) (fun J10 => ?_) ?_
        · refine sa_icmp_eq (tgt := 62) X.1 hp3 (inR_c (a := 1) rfl) dX9_edge_54 (by decide) (fun hc => ?_) (fun hc => ?_)
          · skip
            refine sa_const X.1 dX9_edge_62 ?_
            refine lv_goto (tgt := 67) X.1.1 X.1.2.1 dX9_edge_63 (by decide) ?_
            exact J10 (1) (if_pos (c := p3 = 1) hc).symm
          · skip
            refine lv_iload_n X.1.1 X.1.2.1 dX9_edge_57 rfl (lv_at hl 3 rfl) ?_
            refine sa_const X.1 dX9_edge_58 ?_
            refine cut_j (A := ∀ v6 : Int, v6 = (if ¬ p3 = 3 then (0 : Int) else 1) → WXI p l e 7 3 18 s m args below meth c G e0 α κ B Qm Xm H locs 2 12 67 ls [.int (Int32.ofInt v6)]) (fun J7 => ?_) ?_
            · refine sa_icmp_ne (tgt := 66) X.1 hp3 (inR_c (a := 3) rfl) dX9_edge_59 (by decide) (fun hc => ?_) (fun hc => ?_)
              · skip
                refine sa_const X.1 dX9_edge_66 ?_
                exact J7 (0) (if_pos (c := ¬ p3 = 3) hc).symm
              · skip
                refine sa_const X.1 dX9_edge_62 ?_
                refine lv_goto (tgt := 67) X.1.1 X.1.2.1 dX9_edge_63 (by decide) ?_
                exact J7 (1) (if_neg (c := ¬ p3 = 3) (fun z => z hc)).symm
            intro v6 hv6
            subst hv6
            exact J10 ((if ¬ p3 = 3 then (0 : Int) else 1)) (if_neg (c := p3 = 1) hc).symm
        intro v9 hv9
        subst hv9
        refine lv_istore (lv' := [(4, .int (Int32.ofInt (if p3 = 1 then (1 : Int) else (if ¬ p3 = 3 then (0 : Int) else 1)))), (0, .ref (α 10 0)), (1, .int (Int32.ofInt p1)), (2, .int (Int32.ofInt p2)), (3, .int (Int32.ofInt p3))]) X.1.1 X.1.2.1 dX9_edge_67 hl (by decide) rfl (fun ls hl => ?_)
        refine lv_iload_n X.1.1 X.1.2.1 dX9_edge_69 rfl (lv_at hl 4 rfl) ?_
        have r13 := inR_ite (c := p3 = 0) (inR_c (a := -1) rfl) (inR_ite (c := ¬ p3 = 3) (inR_c (a := 1) rfl) (inR_c (a := -1) rfl))
        refine cut_j (A := ∀ v14 : Int, v14 = (if p3 = 0 then ((-1) : Int) else (if ¬ p3 = 3 then (1 : Int) else (-1))) → WXI p l e 7 3 18 s m args below meth c G e0 α κ B Qm Xm H locs 2 12 83 ls [.int (Int32.ofInt v14)]) (fun J15 => ?_) ?_
        · refine sa_if_eq (tgt := 78) X.1 hp3 dX9_edge_70 (by decide) (fun hc => ?_) (fun hc => ?_)
          · skip
            refine sa_const X.1 dX9_edge_78 ?_
            refine lv_goto (tgt := 83) X.1.1 X.1.2.1 dX9_edge_79 (by decide) ?_
            exact J15 ((-1)) (if_pos (c := p3 = 0) hc).symm
          · skip
            refine lv_iload_n X.1.1 X.1.2.1 dX9_edge_73 rfl (lv_at hl 4 rfl) ?_
            refine sa_const X.1 dX9_edge_74 ?_
            refine cut_j (A := ∀ v11 : Int, v11 = (if ¬ p3 = 3 then (1 : Int) else (-1)) → WXI p l e 7 3 18 s m args below meth c G e0 α κ B Qm Xm H locs 2 12 83 ls [.int (Int32.ofInt v11)]) (fun J12 => ?_) ?_
            · refine sa_icmp_ne (tgt := 82) X.1 hp3 (inR_c (a := 3) rfl) dX9_edge_75 (by decide) (fun hc => ?_) (fun hc => ?_)
              · skip
                refine sa_const X.1 dX9_edge_82 ?_
                exact J12 (1) (if_pos (c := ¬ p3 = 3) hc).symm
              · skip
                refine sa_const X.1 dX9_edge_78 ?_
                refine lv_goto (tgt := 83) X.1.1 X.1.2.1 dX9_edge_79 (by decide) ?_
                exact J12 ((-1)) (if_neg (c := ¬ p3 = 3) (fun z => z hc)).symm
            intro v11 hv11
            subst hv11
            exact J15 ((if ¬ p3 = 3 then (1 : Int) else (-1))) (if_neg (c := p3 = 0) hc).symm
        intro v14 hv14
        subst hv14
        refine lv_istore (lv' := [(5, .int (Int32.ofInt (if p3 = 0 then ((-1) : Int) else (if ¬ p3 = 3 then (1 : Int) else (-1))))), (4, .int (Int32.ofInt (if p3 = 1 then (1 : Int) else (if ¬ p3 = 3 then (0 : Int) else 1)))), (0, .ref (α 10 0)), (1, .int (Int32.ofInt p1)), (2, .int (Int32.ofInt p2)), (3, .int (Int32.ofInt p3))]) X.1.1 X.1.2.1 dX9_edge_83 hl (by decide) rfl (fun ls hl => ?_)
        refine lv_iload X.1.1 X.1.2.1 dX9_edge_85 (lv_at hl 1 rfl) ?_
        refine sa_if_eq (tgt := 94) X.1 r8 dX9_edge_87 (by decide) (fun hc => ?_) (fun hc => ?_)
        · have hw := hw.1 hc
          refine lv_aload_n X.1.1 X.1.2.1 dX9_edge_94 rfl (lv_at hl 2 rfl) ?_
          refine gt_10_0 X hR (okf X.2.2.1 rfl) kw_332 dX9_edge_95 ?_
          refine lv_iload_n X.1.1 X.1.2.1 dX9_edge_98 rfl (lv_at hl 3 rfl) ?_
          refine lv_iload X.1.1 X.1.2.1 dX9_edge_99 (lv_at hl 0 rfl) ?_
          refine cs_X3_rowBeside X hp1 r13 (kc := 7) rmX_ok ⟨by decide, by decide⟩ (by decide) hR hS kw_1415 hl.1 dX9_edge_101 (Nat.le_of_ble_eq_true rfl) hw (fun x17 M16 H locs hw r18 hR hS => ?_)
          exact t_X9_edge_104 X T hp1 hp2 hp3 _ _ _ _ hw r8 r13 r18 _ _ hR hS _ (lv_sub hl [2, 3, 4, 5, 1, 0] rfl)
        · have hw := hw.2 hc
          refine lv_iload_n X.1.1 X.1.2.1 dX9_edge_90 rfl (lv_at hl 3 rfl) ?_
          refine lv_goto (tgt := 104) X.1.1 X.1.2.1 dX9_edge_91 (by decide) ?_
          exact t_X9_edge_104 X T hp1 hp2 hp3 _ _ _ _ hw r8 r13 hp1 _ _ hR hS _ (lv_sub hl [2, 3, 4, 5, 1, 0] rfl)
      · have hw := hw.2 hc
        exact sx_throwW (text := "the column is hidden") X T xw_ISE (by decide +kernel) hR hS hl.1 dX9_edge_41 dX9_edge_44 dX9_edge_45 dX9_edge_48 dX9_edge_51 (by decide) (by decide) (by decide) hw
    · have hw := hw.2 hc
      exact t_X9_edge_19 X T hp1 hp2 hp3 _ hw _ _ hR hS _ (lv_sub hl [] rfl)
theorem m_X9_edge {l : Launch} {G : Gx} {e0 : Nat} {α : Ax} {κ : Nat → Int} {B : Nat} {p1 : Int} {p2 : Int} {p3 : Int} (hlt : l.stackTraces = false) (hκ : kOK κ) (hp1 : inR p1) (hp2 : inR p2) (hp3 : inR p3) {M : Mem} {Qm : Int → Mem → Prop} {Xm : String → Mem → Prop} (hw : wp_X9_edge p1 p2 p3 M Xm Qm) : XI l yX9_edge (Cond.code yX9_edge cX9_edge 14 (some .int)) 7 3 18 G e0 α κ B [.ref (α 10 0), .int (Int32.ofInt p1), .int (Int32.ofInt p2), .int (Int32.ofInt p3)] M Qm Xm :=
  XI.mk hlt hκ (by decide +kernel) rfl (Nat.le_of_ble_eq_true rfl) (lv := [(0, .ref (α 10 0)), (1, .int (Int32.ofInt p1)), (2, .int (Int32.ofInt p2)), (3, .int (Int32.ofInt p3))]) rfl (fun p e s m args below meth c ls X T hR hS hl => t_X9_edge X T hp1 hp2 hp3 hw _ _ hR hS ls hl)
theorem cx_X9_edge {cc : ByteArray} {nL : Nat} {own : String} {ret : Option FieldType} {idx pc : Nat} {p1 : Int} {p2 : Int} {p3 : Int} (X : CX p m c cc nL s args own G B κ meth ret) (T : XT l c) (hp1 : inR p1) (hp2 : inR p2) (hp3 : inR p3) {k mc ms cells slots : Nat} (hk : 7 + 1 ≤ k) (hcel : cells + 3 ≤ mc ∧ slots + 18 ≤ ms) {M : Mem} {H : Heap} {locs : List Loc} (hR : Rp G e0 α κ B M H) (hS : va_S (fun q => B ≤ q) s.heap H locs) (k1 : Cond.methodLink own idx yX9_edge ∈ gw) {ls : Array Slot} (hml : ls.size = nL) {rest : List Value} (hd : decode cc pc = .ok (.invokevirtual idx, 3)) (hrest : (rest.map fun v => v.category).sum ≤ 8) {Qc : Array Value → State → Outcome → State → Prop} {Qm : Int → Mem → Prop} {Xm : String → Mem → Prop} (hw : wp_X9_edge p1 p2 p3 M Xm Qm) (kk : ∀ (r : Int) (M1 : Mem) (H1 : Heap) (locs1 : List Loc), Qm r M1 → inR r → Rp G e0 α κ B M1 H1 → va_S (fun q => B ≤ q) s.heap H1 locs1 → W p l e (rmX k mc ms) s m args below meth c H1 locs1 (cells + 3) (slots + 18) (vx_MQ below Qc (XQ G e0 α κ B Xm) args s mc ms (fun q => B ≤ q)) (F0 m (pc + 3) ls (.int (Int32.ofInt r) :: rest))) : W p l e (rmX k mc ms) s m args below meth c H locs cells slots (vx_MQ below Qc (XQ G e0 α κ B Xm) args s mc ms (fun q => B ≤ q)) (F0 m pc ls (.int (Int32.ofInt p3) :: .int (Int32.ofInt p2) :: .int (Int32.ofInt p1) :: .ref (α 10 0) :: rest)) :=
  sx_callVI 7 (n := 3) (As := [.int (Int32.ofInt p1), .int (Int32.ofInt p2), .int (Int32.ofInt p3)]) (rest := rest) X T hR hS (m_X9_edge T.1 X.2.2.1 hp1 hp2 hp3 hw) k1 kw_1410 kw_1411 kw_38 kw_1412 ⟨rfl, by decide +kernel, by decide +kernel, by decide +kernel⟩ (rm_ok rmX_ok hk (by decide)) (rc_10 X hR (okf X.2.2.1 rfl)) rfl rfl hrest hml hd hcel kk
def wp_X9_total (p1 : Int) (M : Mem) (Xm : String → Mem → Prop) (Qm : Int → Mem → Prop) : Prop := wp_X9_requireColumn p1 M Xm fun (M1 : Mem) => wp_X3_sumOfBody 0 (M1 16 0 (-1)) p1 M1 fun (x4 : Int) (M3 : Mem) => Qm x4 M3
set_option maxHeartbeats 4000000 in
set_option maxRecDepth 100000 in
theorem t_X9_total {p1 : Int} (X : CX p m c cX9_total 2 s args RX9 G B κ meth (some .int)) (T : XT l c) (hp1 : inR p1) {M : Mem} {Xm : String → Mem → Prop} {Qm : Int → Mem → Prop} (hw : wp_X9_total p1 M Xm Qm) (H : Heap) (locs : List Loc) (hR : Rp G e0 α κ B M H) (hS : va_S (fun q => B ≤ q) s.heap H locs) (ls : Array Slot) (hl : lv_has ls 2 [(0, .ref (α 10 0)), (1, .int (Int32.ofInt p1))]) : WXI p l e 7 1 6 s m args below meth c G e0 α κ B Qm Xm H locs 0 0 0 ls [] := by
  have hw : wp_X9_requireColumn p1 M Xm fun (M1 : Mem) => wp_X3_sumOfBody 0 (M1 16 0 (-1)) p1 M1 fun (x4 : Int) (M3 : Mem) => Qm x4 M3 := hw
  refine lv_aload_n X.1.1 X.1.2.1 dX9_total_0 rfl (lv_at hl 0 rfl) ?_
  refine lv_iload_n X.1.1 X.1.2.1 dX9_total_1 rfl (lv_at hl 1 rfl) ?_
  refine cx_X9_requireColumn X T hp1 (by decide) ⟨by decide, by decide⟩ hR hS kw_959 hl.1 dX9_total_2 (Nat.le_of_ble_eq_true rfl) hw (fun M1 H locs hw hR hS => ?_)
  refine W.widen (k := 1) (n := 6) (by decide) (by decide) ?_
  refine lv_aload_n X.1.1 X.1.2.1 dX9_total_5 rfl (lv_at hl 0 rfl) ?_
  refine gt_10_0 X hR (okf X.2.2.1 rfl) kw_332 dX9_total_6 ?_
  refine sa_const X.1 dX9_total_9 ?_
  refine lv_aload_n X.1.1 X.1.2.1 dX9_total_10 rfl (lv_at hl 0 rfl) ?_
  refine gt_10_0 X hR (okf X.2.2.1 rfl) kw_332 dX9_total_11 ?_
  refine gt_4_4 X hR (okf X.2.2.1 rfl) kw_126 dX9_total_14 ?_
  refine ls_size (by decide) (by decide) X (kc := 7) rmX_ok ⟨by decide, by decide⟩ (by decide) hR hS kw_753 hl.1 dX9_total_17 (Nat.le_of_ble_eq_true rfl) (fun H locs hR hS => ?_)
  have r2 := hR.r 16 0 (-1)
  refine lv_iload_n X.1.1 X.1.2.1 dX9_total_20 rfl (lv_at hl 1 rfl) ?_
  refine cs_X3_sumOfBody X (inR_c (a := 0) rfl) r2 hp1 (kc := 7) rmX_ok ⟨by decide, by decide⟩ (by decide) hR hS kw_1355 hl.1 dX9_total_21 (Nat.le_of_ble_eq_true rfl) hw (fun x4 M3 H locs hw r5 hR hS => ?_)
  exact sx_iret X hR hS r5 hw dX9_total_24 (by decide) (by decide)
theorem m_X9_total {l : Launch} {G : Gx} {e0 : Nat} {α : Ax} {κ : Nat → Int} {B : Nat} {p1 : Int} (hlt : l.stackTraces = false) (hκ : kOK κ) (hp1 : inR p1) {M : Mem} {Qm : Int → Mem → Prop} {Xm : String → Mem → Prop} (hw : wp_X9_total p1 M Xm Qm) : XI l yX9_total (Cond.code yX9_total cX9_total 2 (some .int)) 7 1 6 G e0 α κ B [.ref (α 10 0), .int (Int32.ofInt p1)] M Qm Xm :=
  XI.mk hlt hκ (by decide +kernel) rfl (Nat.le_of_ble_eq_true rfl) (lv := [(0, .ref (α 10 0)), (1, .int (Int32.ofInt p1))]) rfl (fun p e s m args below meth c ls X T hR hS hl => t_X9_total X T hp1 hw _ _ hR hS ls hl)
theorem cx_X9_total {cc : ByteArray} {nL : Nat} {own : String} {ret : Option FieldType} {idx pc : Nat} {p1 : Int} (X : CX p m c cc nL s args own G B κ meth ret) (T : XT l c) (hp1 : inR p1) {k mc ms cells slots : Nat} (hk : 7 + 1 ≤ k) (hcel : cells + 1 ≤ mc ∧ slots + 6 ≤ ms) {M : Mem} {H : Heap} {locs : List Loc} (hR : Rp G e0 α κ B M H) (hS : va_S (fun q => B ≤ q) s.heap H locs) (k1 : Cond.methodLink own idx yX9_total ∈ gw) {ls : Array Slot} (hml : ls.size = nL) {rest : List Value} (hd : decode cc pc = .ok (.invokevirtual idx, 3)) (hrest : (rest.map fun v => v.category).sum ≤ 8) {Qc : Array Value → State → Outcome → State → Prop} {Qm : Int → Mem → Prop} {Xm : String → Mem → Prop} (hw : wp_X9_total p1 M Xm Qm) (kk : ∀ (r : Int) (M1 : Mem) (H1 : Heap) (locs1 : List Loc), Qm r M1 → inR r → Rp G e0 α κ B M1 H1 → va_S (fun q => B ≤ q) s.heap H1 locs1 → W p l e (rmX k mc ms) s m args below meth c H1 locs1 (cells + 1) (slots + 6) (vx_MQ below Qc (XQ G e0 α κ B Xm) args s mc ms (fun q => B ≤ q)) (F0 m (pc + 3) ls (.int (Int32.ofInt r) :: rest))) : W p l e (rmX k mc ms) s m args below meth c H locs cells slots (vx_MQ below Qc (XQ G e0 α κ B Xm) args s mc ms (fun q => B ≤ q)) (F0 m pc ls (.int (Int32.ofInt p1) :: .ref (α 10 0) :: rest)) :=
  sx_callVI 7 (n := 1) (As := [.int (Int32.ofInt p1)]) (rest := rest) X T hR hS (m_X9_total T.1 X.2.2.1 hp1 hw) k1 kw_1352 kw_1353 kw_38 kw_1354 ⟨rfl, by decide +kernel, by decide +kernel, by decide +kernel⟩ (rm_ok rmX_ok hk (by decide)) (rc_10 X hR (okf X.2.2.1 rfl)) rfl rfl hrest hml hd hcel kk
def wp_X9_heightByCells (p1 : Int) (M : Mem) (Xm : String → Mem → Prop) (Qm : Int → Mem → Prop) : Prop := wp_X9_requireRow p1 M Xm fun (M1 : Mem) => wp_X7_heightFromNothing p1 (M1 10 0 7) M1 fun (x4 : Int) (M3 : Mem) => Qm x4 M3
set_option maxHeartbeats 4000000 in
set_option maxRecDepth 100000 in
theorem t_X9_heightByCells {p1 : Int} (X : CX p m c cX9_heightByCells 2 s args RX9 G B κ meth (some .int)) (T : XT l c) (hp1 : inR p1) {M : Mem} {Xm : String → Mem → Prop} {Qm : Int → Mem → Prop} (hw : wp_X9_heightByCells p1 M Xm Qm) (H : Heap) (locs : List Loc) (hR : Rp G e0 α κ B M H) (hS : va_S (fun q => B ≤ q) s.heap H locs) (ls : Array Slot) (hl : lv_has ls 2 [(0, .ref (α 10 0)), (1, .int (Int32.ofInt p1))]) : WXI p l e 8 1 6 s m args below meth c G e0 α κ B Qm Xm H locs 0 0 0 ls [] := by
  have hw : wp_X9_requireRow p1 M Xm fun (M1 : Mem) => wp_X7_heightFromNothing p1 (M1 10 0 7) M1 fun (x4 : Int) (M3 : Mem) => Qm x4 M3 := hw
  refine lv_aload_n X.1.1 X.1.2.1 dX9_heightByCells_0 rfl (lv_at hl 0 rfl) ?_
  refine lv_iload_n X.1.1 X.1.2.1 dX9_heightByCells_1 rfl (lv_at hl 1 rfl) ?_
  refine cx_X9_requireRow X T hp1 (by decide) ⟨by decide, by decide⟩ hR hS kw_938 hl.1 dX9_heightByCells_2 (Nat.le_of_ble_eq_true rfl) hw (fun M1 H locs hw hR hS => ?_)
  refine W.widen (k := 1) (n := 6) (by decide) (by decide) ?_
  refine lv_aload_n X.1.1 X.1.2.1 dX9_heightByCells_5 rfl (lv_at hl 0 rfl) ?_
  refine gt_10_3 X hR (okf X.2.2.1 rfl) kw_335 dX9_heightByCells_6 ?_
  refine lv_iload_n X.1.1 X.1.2.1 dX9_heightByCells_9 rfl (lv_at hl 1 rfl) ?_
  refine lv_aload_n X.1.1 X.1.2.1 dX9_heightByCells_10 rfl (lv_at hl 0 rfl) ?_
  refine gt_10_7 X hR (okf X.2.2.1 rfl) kw_339 dX9_heightByCells_11 ?_
  have r2 := hR.r 10 0 7
  refine cs_X7_heightFromNothing X hp1 r2 (kc := 8) rmX_ok ⟨by decide, by decide⟩ (by decide) hR hS kw_1280 hl.1 dX9_heightByCells_14 (Nat.le_of_ble_eq_true rfl) hw (fun x4 M3 H locs hw r5 hR hS => ?_)
  exact sx_iret X hR hS r5 hw dX9_heightByCells_17 (by decide) (by decide)
theorem m_X9_heightByCells {l : Launch} {G : Gx} {e0 : Nat} {α : Ax} {κ : Nat → Int} {B : Nat} {p1 : Int} (hlt : l.stackTraces = false) (hκ : kOK κ) (hp1 : inR p1) {M : Mem} {Qm : Int → Mem → Prop} {Xm : String → Mem → Prop} (hw : wp_X9_heightByCells p1 M Xm Qm) : XI l yX9_heightByCells (Cond.code yX9_heightByCells cX9_heightByCells 2 (some .int)) 8 1 6 G e0 α κ B [.ref (α 10 0), .int (Int32.ofInt p1)] M Qm Xm :=
  XI.mk hlt hκ (by decide +kernel) rfl (Nat.le_of_ble_eq_true rfl) (lv := [(0, .ref (α 10 0)), (1, .int (Int32.ofInt p1))]) rfl (fun p e s m args below meth c ls X T hR hS hl => t_X9_heightByCells X T hp1 hw _ _ hR hS ls hl)
theorem cx_X9_heightByCells {cc : ByteArray} {nL : Nat} {own : String} {ret : Option FieldType} {idx pc : Nat} {p1 : Int} (X : CX p m c cc nL s args own G B κ meth ret) (T : XT l c) (hp1 : inR p1) {k mc ms cells slots : Nat} (hk : 8 + 1 ≤ k) (hcel : cells + 1 ≤ mc ∧ slots + 6 ≤ ms) {M : Mem} {H : Heap} {locs : List Loc} (hR : Rp G e0 α κ B M H) (hS : va_S (fun q => B ≤ q) s.heap H locs) (k1 : Cond.methodLink own idx yX9_heightByCells ∈ gw) {ls : Array Slot} (hml : ls.size = nL) {rest : List Value} (hd : decode cc pc = .ok (.invokevirtual idx, 3)) (hrest : (rest.map fun v => v.category).sum ≤ 8) {Qc : Array Value → State → Outcome → State → Prop} {Qm : Int → Mem → Prop} {Xm : String → Mem → Prop} (hw : wp_X9_heightByCells p1 M Xm Qm) (kk : ∀ (r : Int) (M1 : Mem) (H1 : Heap) (locs1 : List Loc), Qm r M1 → inR r → Rp G e0 α κ B M1 H1 → va_S (fun q => B ≤ q) s.heap H1 locs1 → W p l e (rmX k mc ms) s m args below meth c H1 locs1 (cells + 1) (slots + 6) (vx_MQ below Qc (XQ G e0 α κ B Xm) args s mc ms (fun q => B ≤ q)) (F0 m (pc + 3) ls (.int (Int32.ofInt r) :: rest))) : W p l e (rmX k mc ms) s m args below meth c H locs cells slots (vx_MQ below Qc (XQ G e0 α κ B Xm) args s mc ms (fun q => B ≤ q)) (F0 m pc ls (.int (Int32.ofInt p1) :: .ref (α 10 0) :: rest)) :=
  sx_callVI 8 (n := 1) (As := [.int (Int32.ofInt p1)]) (rest := rest) X T hR hS (m_X9_heightByCells T.1 X.2.2.1 hp1 hw) k1 kw_1277 kw_1278 kw_38 kw_1279 ⟨rfl, by decide +kernel, by decide +kernel, by decide +kernel⟩ (rm_ok rmX_ok hk (by decide)) (rc_10 X hR (okf X.2.2.1 rfl)) rfl rfl hrest hml hd hcel kk
def wp_X9_least (p1 : Int) (M : Mem) (Xm : String → Mem → Prop) (Qm : Int → Mem → Prop) : Prop := wp_X9_requireColumn p1 M Xm fun (M1 : Mem) => wp_X9_refresh M1 fun (M2 : Mem) => (0 ≤ p1 ∧ p1 < 6) ∧ Qm (M2 49 0 p1) M2
set_option maxHeartbeats 4000000 in
set_option maxRecDepth 100000 in
theorem t_X9_least {p1 : Int} (X : CX p m c cX9_least 2 s args RX9 G B κ meth (some .int)) (T : XT l c) (hp1 : inR p1) {M : Mem} {Xm : String → Mem → Prop} {Qm : Int → Mem → Prop} (hw : wp_X9_least p1 M Xm Qm) (H : Heap) (locs : List Loc) (hR : Rp G e0 α κ B M H) (hS : va_S (fun q => B ≤ q) s.heap H locs) (ls : Array Slot) (hl : lv_has ls 2 [(0, .ref (α 10 0)), (1, .int (Int32.ofInt p1))]) : WXI p l e 8 1 6 s m args below meth c G e0 α κ B Qm Xm H locs 0 0 0 ls [] := by
  have hw : wp_X9_requireColumn p1 M Xm fun (M1 : Mem) => wp_X9_refresh M1 fun (M2 : Mem) => (0 ≤ p1 ∧ p1 < 6) ∧ Qm (M2 49 0 p1) M2 := hw
  refine lv_aload_n X.1.1 X.1.2.1 dX9_least_0 rfl (lv_at hl 0 rfl) ?_
  refine lv_iload_n X.1.1 X.1.2.1 dX9_least_1 rfl (lv_at hl 1 rfl) ?_
  refine cx_X9_requireColumn X T hp1 (by decide) ⟨by decide, by decide⟩ hR hS kw_959 hl.1 dX9_least_2 (Nat.le_of_ble_eq_true rfl) hw (fun M1 H locs hw hR hS => ?_)
  refine W.widen (k := 1) (n := 6) (by decide) (by decide) ?_
  refine lv_aload_n X.1.1 X.1.2.1 dX9_least_5 rfl (lv_at hl 0 rfl) ?_
  refine cs_X9_refresh X  (kc := 8) rmX_ok ⟨by decide, by decide⟩ (by decide) hR hS kw_370 hl.1 dX9_least_6 (Nat.le_of_ble_eq_true rfl) hw (fun M2 H locs hw hR hS => ?_)
  refine lv_aload_n X.1.1 X.1.2.1 dX9_least_9 rfl (lv_at hl 0 rfl) ?_
  refine gt_10_1 X hR (okf X.2.2.1 rfl) kw_333 dX9_least_10 ?_
  refine gt_9_1 X hR (okp X.2.2.1 rfl (by decide)) kw_157 dX9_least_13 ?_
  refine lv_iload_n X.1.1 X.1.2.1 dX9_least_16 rfl (lv_at hl 1 rfl) ?_
  have c3 := hw.1
  have hw := hw.2
  refine ra_49 X hR (okp X.2.2.1 rfl (pr_9 X.2.2.1 (okp X.2.2.1 rfl (by decide)))) c3 dX9_least_17 ?_
  have r4 := hR.r 49 0 p1
  exact sx_iret X hR hS r4 hw dX9_least_18 (by decide) (by decide)
theorem m_X9_least {l : Launch} {G : Gx} {e0 : Nat} {α : Ax} {κ : Nat → Int} {B : Nat} {p1 : Int} (hlt : l.stackTraces = false) (hκ : kOK κ) (hp1 : inR p1) {M : Mem} {Qm : Int → Mem → Prop} {Xm : String → Mem → Prop} (hw : wp_X9_least p1 M Xm Qm) : XI l yX9_least (Cond.code yX9_least cX9_least 2 (some .int)) 8 1 6 G e0 α κ B [.ref (α 10 0), .int (Int32.ofInt p1)] M Qm Xm :=
  XI.mk hlt hκ (by decide +kernel) rfl (Nat.le_of_ble_eq_true rfl) (lv := [(0, .ref (α 10 0)), (1, .int (Int32.ofInt p1))]) rfl (fun p e s m args below meth c ls X T hR hS hl => t_X9_least X T hp1 hw _ _ hR hS ls hl)
theorem cx_X9_least {cc : ByteArray} {nL : Nat} {own : String} {ret : Option FieldType} {idx pc : Nat} {p1 : Int} (X : CX p m c cc nL s args own G B κ meth ret) (T : XT l c) (hp1 : inR p1) {k mc ms cells slots : Nat} (hk : 8 + 1 ≤ k) (hcel : cells + 1 ≤ mc ∧ slots + 6 ≤ ms) {M : Mem} {H : Heap} {locs : List Loc} (hR : Rp G e0 α κ B M H) (hS : va_S (fun q => B ≤ q) s.heap H locs) (k1 : Cond.methodLink own idx yX9_least ∈ gw) {ls : Array Slot} (hml : ls.size = nL) {rest : List Value} (hd : decode cc pc = .ok (.invokevirtual idx, 3)) (hrest : (rest.map fun v => v.category).sum ≤ 8) {Qc : Array Value → State → Outcome → State → Prop} {Qm : Int → Mem → Prop} {Xm : String → Mem → Prop} (hw : wp_X9_least p1 M Xm Qm) (kk : ∀ (r : Int) (M1 : Mem) (H1 : Heap) (locs1 : List Loc), Qm r M1 → inR r → Rp G e0 α κ B M1 H1 → va_S (fun q => B ≤ q) s.heap H1 locs1 → W p l e (rmX k mc ms) s m args below meth c H1 locs1 (cells + 1) (slots + 6) (vx_MQ below Qc (XQ G e0 α κ B Xm) args s mc ms (fun q => B ≤ q)) (F0 m (pc + 3) ls (.int (Int32.ofInt r) :: rest))) : W p l e (rmX k mc ms) s m args below meth c H locs cells slots (vx_MQ below Qc (XQ G e0 α κ B Xm) args s mc ms (fun q => B ≤ q)) (F0 m pc ls (.int (Int32.ofInt p1) :: .ref (α 10 0) :: rest)) :=
  sx_callVI 8 (n := 1) (As := [.int (Int32.ofInt p1)]) (rest := rest) X T hR hS (m_X9_least T.1 X.2.2.1 hp1 hw) k1 kw_1261 kw_1262 kw_38 kw_1263 ⟨rfl, by decide +kernel, by decide +kernel, by decide +kernel⟩ (rm_ok rmX_ok hk (by decide)) (rc_10 X hR (okf X.2.2.1 rfl)) rfl rfl hrest hml hd hcel kk
def wp_X9_most (p1 : Int) (M : Mem) (Xm : String → Mem → Prop) (Qm : Int → Mem → Prop) : Prop := wp_X9_requireColumn p1 M Xm fun (M1 : Mem) => wp_X9_refresh M1 fun (M2 : Mem) => (0 ≤ p1 ∧ p1 < 6) ∧ Qm (M2 50 0 p1) M2
set_option maxHeartbeats 4000000 in
set_option maxRecDepth 100000 in
theorem t_X9_most {p1 : Int} (X : CX p m c cX9_most 2 s args RX9 G B κ meth (some .int)) (T : XT l c) (hp1 : inR p1) {M : Mem} {Xm : String → Mem → Prop} {Qm : Int → Mem → Prop} (hw : wp_X9_most p1 M Xm Qm) (H : Heap) (locs : List Loc) (hR : Rp G e0 α κ B M H) (hS : va_S (fun q => B ≤ q) s.heap H locs) (ls : Array Slot) (hl : lv_has ls 2 [(0, .ref (α 10 0)), (1, .int (Int32.ofInt p1))]) : WXI p l e 8 1 6 s m args below meth c G e0 α κ B Qm Xm H locs 0 0 0 ls [] := by
  have hw : wp_X9_requireColumn p1 M Xm fun (M1 : Mem) => wp_X9_refresh M1 fun (M2 : Mem) => (0 ≤ p1 ∧ p1 < 6) ∧ Qm (M2 50 0 p1) M2 := hw
  refine lv_aload_n X.1.1 X.1.2.1 dX9_most_0 rfl (lv_at hl 0 rfl) ?_
  refine lv_iload_n X.1.1 X.1.2.1 dX9_most_1 rfl (lv_at hl 1 rfl) ?_
  refine cx_X9_requireColumn X T hp1 (by decide) ⟨by decide, by decide⟩ hR hS kw_959 hl.1 dX9_most_2 (Nat.le_of_ble_eq_true rfl) hw (fun M1 H locs hw hR hS => ?_)
  refine W.widen (k := 1) (n := 6) (by decide) (by decide) ?_
  refine lv_aload_n X.1.1 X.1.2.1 dX9_most_5 rfl (lv_at hl 0 rfl) ?_
  refine cs_X9_refresh X  (kc := 8) rmX_ok ⟨by decide, by decide⟩ (by decide) hR hS kw_370 hl.1 dX9_most_6 (Nat.le_of_ble_eq_true rfl) hw (fun M2 H locs hw hR hS => ?_)
  refine lv_aload_n X.1.1 X.1.2.1 dX9_most_9 rfl (lv_at hl 0 rfl) ?_
  refine gt_10_1 X hR (okf X.2.2.1 rfl) kw_333 dX9_most_10 ?_
  refine gt_9_2 X hR (okp X.2.2.1 rfl (by decide)) kw_159 dX9_most_13 ?_
  refine lv_iload_n X.1.1 X.1.2.1 dX9_most_16 rfl (lv_at hl 1 rfl) ?_
  have c3 := hw.1
  have hw := hw.2
  refine ra_50 X hR (okp X.2.2.1 rfl (pr_9 X.2.2.1 (okp X.2.2.1 rfl (by decide)))) c3 dX9_most_17 ?_
  have r4 := hR.r 50 0 p1
  exact sx_iret X hR hS r4 hw dX9_most_18 (by decide) (by decide)
theorem m_X9_most {l : Launch} {G : Gx} {e0 : Nat} {α : Ax} {κ : Nat → Int} {B : Nat} {p1 : Int} (hlt : l.stackTraces = false) (hκ : kOK κ) (hp1 : inR p1) {M : Mem} {Qm : Int → Mem → Prop} {Xm : String → Mem → Prop} (hw : wp_X9_most p1 M Xm Qm) : XI l yX9_most (Cond.code yX9_most cX9_most 2 (some .int)) 8 1 6 G e0 α κ B [.ref (α 10 0), .int (Int32.ofInt p1)] M Qm Xm :=
  XI.mk hlt hκ (by decide +kernel) rfl (Nat.le_of_ble_eq_true rfl) (lv := [(0, .ref (α 10 0)), (1, .int (Int32.ofInt p1))]) rfl (fun p e s m args below meth c ls X T hR hS hl => t_X9_most X T hp1 hw _ _ hR hS ls hl)
theorem cx_X9_most {cc : ByteArray} {nL : Nat} {own : String} {ret : Option FieldType} {idx pc : Nat} {p1 : Int} (X : CX p m c cc nL s args own G B κ meth ret) (T : XT l c) (hp1 : inR p1) {k mc ms cells slots : Nat} (hk : 8 + 1 ≤ k) (hcel : cells + 1 ≤ mc ∧ slots + 6 ≤ ms) {M : Mem} {H : Heap} {locs : List Loc} (hR : Rp G e0 α κ B M H) (hS : va_S (fun q => B ≤ q) s.heap H locs) (k1 : Cond.methodLink own idx yX9_most ∈ gw) {ls : Array Slot} (hml : ls.size = nL) {rest : List Value} (hd : decode cc pc = .ok (.invokevirtual idx, 3)) (hrest : (rest.map fun v => v.category).sum ≤ 8) {Qc : Array Value → State → Outcome → State → Prop} {Qm : Int → Mem → Prop} {Xm : String → Mem → Prop} (hw : wp_X9_most p1 M Xm Qm) (kk : ∀ (r : Int) (M1 : Mem) (H1 : Heap) (locs1 : List Loc), Qm r M1 → inR r → Rp G e0 α κ B M1 H1 → va_S (fun q => B ≤ q) s.heap H1 locs1 → W p l e (rmX k mc ms) s m args below meth c H1 locs1 (cells + 1) (slots + 6) (vx_MQ below Qc (XQ G e0 α κ B Xm) args s mc ms (fun q => B ≤ q)) (F0 m (pc + 3) ls (.int (Int32.ofInt r) :: rest))) : W p l e (rmX k mc ms) s m args below meth c H locs cells slots (vx_MQ below Qc (XQ G e0 α κ B Xm) args s mc ms (fun q => B ≤ q)) (F0 m pc ls (.int (Int32.ofInt p1) :: .ref (α 10 0) :: rest)) :=
  sx_callVI 8 (n := 1) (As := [.int (Int32.ofInt p1)]) (rest := rest) X T hR hS (m_X9_most T.1 X.2.2.1 hp1 hw) k1 kw_1265 kw_1266 kw_38 kw_1267 ⟨rfl, by decide +kernel, by decide +kernel, by decide +kernel⟩ (rm_ok rmX_ok hk (by decide)) (rc_10 X hR (okf X.2.2.1 rfl)) rfl rfl hrest hml hd hcel kk
def wp_X9_width (p1 : Int) (M : Mem) (Xm : String → Mem → Prop) (Qm : Int → Mem → Prop) : Prop := wp_X9_requireColumn p1 M Xm fun (M1 : Mem) => wp_X9_refresh M1 fun (M2 : Mem) => (0 ≤ p1 ∧ p1 < 6) ∧ Qm (M2 51 0 p1) M2
set_option maxHeartbeats 4000000 in
set_option maxRecDepth 100000 in
theorem t_X9_width {p1 : Int} (X : CX p m c cX9_width 2 s args RX9 G B κ meth (some .int)) (T : XT l c) (hp1 : inR p1) {M : Mem} {Xm : String → Mem → Prop} {Qm : Int → Mem → Prop} (hw : wp_X9_width p1 M Xm Qm) (H : Heap) (locs : List Loc) (hR : Rp G e0 α κ B M H) (hS : va_S (fun q => B ≤ q) s.heap H locs) (ls : Array Slot) (hl : lv_has ls 2 [(0, .ref (α 10 0)), (1, .int (Int32.ofInt p1))]) : WXI p l e 8 1 6 s m args below meth c G e0 α κ B Qm Xm H locs 0 0 0 ls [] := by
  have hw : wp_X9_requireColumn p1 M Xm fun (M1 : Mem) => wp_X9_refresh M1 fun (M2 : Mem) => (0 ≤ p1 ∧ p1 < 6) ∧ Qm (M2 51 0 p1) M2 := hw
  refine lv_aload_n X.1.1 X.1.2.1 dX9_width_0 rfl (lv_at hl 0 rfl) ?_
  refine lv_iload_n X.1.1 X.1.2.1 dX9_width_1 rfl (lv_at hl 1 rfl) ?_
  refine cx_X9_requireColumn X T hp1 (by decide) ⟨by decide, by decide⟩ hR hS kw_959 hl.1 dX9_width_2 (Nat.le_of_ble_eq_true rfl) hw (fun M1 H locs hw hR hS => ?_)
  refine W.widen (k := 1) (n := 6) (by decide) (by decide) ?_
  refine lv_aload_n X.1.1 X.1.2.1 dX9_width_5 rfl (lv_at hl 0 rfl) ?_
  refine cs_X9_refresh X  (kc := 8) rmX_ok ⟨by decide, by decide⟩ (by decide) hR hS kw_370 hl.1 dX9_width_6 (Nat.le_of_ble_eq_true rfl) hw (fun M2 H locs hw hR hS => ?_)
  refine lv_aload_n X.1.1 X.1.2.1 dX9_width_9 rfl (lv_at hl 0 rfl) ?_
  refine gt_10_1 X hR (okf X.2.2.1 rfl) kw_333 dX9_width_10 ?_
  refine gt_9_3 X hR (okp X.2.2.1 rfl (by decide)) kw_162 dX9_width_13 ?_
  refine lv_iload_n X.1.1 X.1.2.1 dX9_width_16 rfl (lv_at hl 1 rfl) ?_
  have c3 := hw.1
  have hw := hw.2
  refine ra_51 X hR (okp X.2.2.1 rfl (pr_9 X.2.2.1 (okp X.2.2.1 rfl (by decide)))) c3 dX9_width_17 ?_
  have r4 := hR.r 51 0 p1
  exact sx_iret X hR hS r4 hw dX9_width_18 (by decide) (by decide)
theorem m_X9_width {l : Launch} {G : Gx} {e0 : Nat} {α : Ax} {κ : Nat → Int} {B : Nat} {p1 : Int} (hlt : l.stackTraces = false) (hκ : kOK κ) (hp1 : inR p1) {M : Mem} {Qm : Int → Mem → Prop} {Xm : String → Mem → Prop} (hw : wp_X9_width p1 M Xm Qm) : XI l yX9_width (Cond.code yX9_width cX9_width 2 (some .int)) 8 1 6 G e0 α κ B [.ref (α 10 0), .int (Int32.ofInt p1)] M Qm Xm :=
  XI.mk hlt hκ (by decide +kernel) rfl (Nat.le_of_ble_eq_true rfl) (lv := [(0, .ref (α 10 0)), (1, .int (Int32.ofInt p1))]) rfl (fun p e s m args below meth c ls X T hR hS hl => t_X9_width X T hp1 hw _ _ hR hS ls hl)
theorem cx_X9_width {cc : ByteArray} {nL : Nat} {own : String} {ret : Option FieldType} {idx pc : Nat} {p1 : Int} (X : CX p m c cc nL s args own G B κ meth ret) (T : XT l c) (hp1 : inR p1) {k mc ms cells slots : Nat} (hk : 8 + 1 ≤ k) (hcel : cells + 1 ≤ mc ∧ slots + 6 ≤ ms) {M : Mem} {H : Heap} {locs : List Loc} (hR : Rp G e0 α κ B M H) (hS : va_S (fun q => B ≤ q) s.heap H locs) (k1 : Cond.methodLink own idx yX9_width ∈ gw) {ls : Array Slot} (hml : ls.size = nL) {rest : List Value} (hd : decode cc pc = .ok (.invokevirtual idx, 3)) (hrest : (rest.map fun v => v.category).sum ≤ 8) {Qc : Array Value → State → Outcome → State → Prop} {Qm : Int → Mem → Prop} {Xm : String → Mem → Prop} (hw : wp_X9_width p1 M Xm Qm) (kk : ∀ (r : Int) (M1 : Mem) (H1 : Heap) (locs1 : List Loc), Qm r M1 → inR r → Rp G e0 α κ B M1 H1 → va_S (fun q => B ≤ q) s.heap H1 locs1 → W p l e (rmX k mc ms) s m args below meth c H1 locs1 (cells + 1) (slots + 6) (vx_MQ below Qc (XQ G e0 α κ B Xm) args s mc ms (fun q => B ≤ q)) (F0 m (pc + 3) ls (.int (Int32.ofInt r) :: rest))) : W p l e (rmX k mc ms) s m args below meth c H locs cells slots (vx_MQ below Qc (XQ G e0 α κ B Xm) args s mc ms (fun q => B ≤ q)) (F0 m pc ls (.int (Int32.ofInt p1) :: .ref (α 10 0) :: rest)) :=
  sx_callVI 8 (n := 1) (As := [.int (Int32.ofInt p1)]) (rest := rest) X T hR hS (m_X9_width T.1 X.2.2.1 hp1 hw) k1 kw_1269 kw_1270 kw_38 kw_1271 ⟨rfl, by decide +kernel, by decide +kernel, by decide +kernel⟩ (rm_ok rmX_ok hk (by decide)) (rc_10 X hR (okf X.2.2.1 rfl)) rfl rfl hrest hml hd hcel kk
def wp_X9_point (p1 : Int) (M : Mem) (Xm : String → Mem → Prop) (Qm : Int → Mem → Prop) : Prop := wp_X9_requireCell p1 M Xm fun (M1 : Mem) => (0 ≤ p1 ∧ p1 < M1 14 0 (-1)) ∧ wp_X0_showsFigure (M1 14 0 p1) M1 fun (x5 : Int) (M4 : Mem) => ((¬ x5 = 0 → wp_X9_refresh M4 fun (M7 : Mem) => wp_X8_pointOf 0 (M7 1 (M1 14 0 p1) 1) M7 fun (x10 : Int) (M9 : Mem) => Qm x10 M9) ∧ (x5 = 0 → Xm xISE M4))
set_option maxHeartbeats 4000000 in
set_option maxRecDepth 100000 in
theorem t_X9_point {p1 : Int} (X : CX p m c cX9_point 3 s args RX9 G B κ meth (some .int)) (T : XT l c) (hp1 : inR p1) {M : Mem} {Xm : String → Mem → Prop} {Qm : Int → Mem → Prop} (hw : wp_X9_point p1 M Xm Qm) (H : Heap) (locs : List Loc) (hR : Rp G e0 α κ B M H) (hS : va_S (fun q => B ≤ q) s.heap H locs) (ls : Array Slot) (hl : lv_has ls 3 [(0, .ref (α 10 0)), (1, .int (Int32.ofInt p1))]) : WXI p l e 8 2 12 s m args below meth c G e0 α κ B Qm Xm H locs 0 0 0 ls [] := by
  have hw : wp_X9_requireCell p1 M Xm fun (M1 : Mem) => (0 ≤ p1 ∧ p1 < M1 14 0 (-1)) ∧ wp_X0_showsFigure (M1 14 0 p1) M1 fun (x5 : Int) (M4 : Mem) => ((¬ x5 = 0 → wp_X9_refresh M4 fun (M7 : Mem) => wp_X8_pointOf 0 (M7 1 (M1 14 0 p1) 1) M7 fun (x10 : Int) (M9 : Mem) => Qm x10 M9) ∧ (x5 = 0 → Xm xISE M4)) := hw
  refine lv_aload_n X.1.1 X.1.2.1 dX9_point_0 rfl (lv_at hl 0 rfl) ?_
  refine lv_iload_n X.1.1 X.1.2.1 dX9_point_1 rfl (lv_at hl 1 rfl) ?_
  refine cx_X9_requireCell X T hp1 (by decide) ⟨by decide, by decide⟩ hR hS kw_1077 hl.1 dX9_point_2 (Nat.le_of_ble_eq_true rfl) hw (fun M1 H locs hw hR hS => ?_)
  refine W.widen (k := 1) (n := 6) (by decide) (by decide) ?_
  refine lv_aload_n X.1.1 X.1.2.1 dX9_point_5 rfl (lv_at hl 0 rfl) ?_
  refine gt_10_0 X hR (okf X.2.2.1 rfl) kw_332 dX9_point_6 ?_
  refine gt_4_2 X hR (okf X.2.2.1 rfl) kw_121 dX9_point_9 ?_
  refine lv_iload_n X.1.1 X.1.2.1 dX9_point_12 rfl (lv_at hl 1 rfl) ?_
  have c2 := hw.1
  have hw := hw.2
  refine ls_get (ci := 1) (by decide) (by decide) rfl X c2 (kc := 8) rmX_ok ⟨by decide, by decide⟩ (by decide) hR hS kw_969 hl.1 dX9_point_13 (Nat.le_of_ble_eq_true rfl) (fun H locs o3 hR hS => ?_)
  refine ck_1 X hR o3 kw_976 dX9_point_16 ?_
  refine lv_astore_n (lv' := [(2, .ref (α 1 (M1 14 0 p1))), (0, .ref (α 10 0)), (1, .int (Int32.ofInt p1))]) X.1.1 X.1.2.1 dX9_point_19 rfl hl (by decide) rfl (fun ls hl => ?_)
  refine lv_aload_n X.1.1 X.1.2.1 dX9_point_20 rfl (lv_at hl 0 rfl) ?_
  refine cs_X0_showsFigure X o3 (kc := 8) rmX_ok ⟨by decide, by decide⟩ (by decide) hR hS kw_1298 hl.1 dX9_point_21 (Nat.le_of_ble_eq_true rfl) hw (fun x5 M4 H locs hw r6 hR hS => ?_)
  refine sa_if_ne (tgt := 38) X.1 r6 dX9_point_24 (by decide) (fun hc => ?_) (fun hc => ?_)
  · have hw := hw.1 hc
    refine lv_aload_n X.1.1 X.1.2.1 dX9_point_38 rfl (lv_at hl 1 rfl) ?_
    refine cs_X9_refresh X  (kc := 8) rmX_ok ⟨by decide, by decide⟩ (by decide) hR hS kw_370 hl.1 dX9_point_39 (Nat.le_of_ble_eq_true rfl) hw (fun M7 H locs hw hR hS => ?_)
    refine lv_aload_n X.1.1 X.1.2.1 dX9_point_42 rfl (lv_at hl 1 rfl) ?_
    refine gt_10_1 X hR (okf X.2.2.1 rfl) kw_333 dX9_point_43 ?_
    refine lv_aload_n X.1.1 X.1.2.1 dX9_point_46 rfl (lv_at hl 0 rfl) ?_
    refine gt_1_1 X hR o3 kw_990 dX9_point_47 ?_
    have r8 := hR.r 1 (M1 14 0 p1) 1
    refine cs_X8_pointOf X (okp X.2.2.1 rfl (by decide)) r8 (kc := 8) rmX_ok ⟨by decide, by decide⟩ (by decide) hR hS kw_1300 hl.1 dX9_point_50 (Nat.le_of_ble_eq_true rfl) hw (fun x10 M9 H locs hw r11 hR hS => ?_)
    exact sx_iret X hR hS r11 hw dX9_point_53 (by decide) (by decide)
  · have hw := hw.2 hc
    exact sx_throwW (text := "the cell has no figure, or is out") X T xw_ISE (by decide +kernel) hR hS hl.1 dX9_point_27 dX9_point_30 dX9_point_31 dX9_point_34 dX9_point_37 (by decide) (by decide) (by decide) hw
theorem m_X9_point {l : Launch} {G : Gx} {e0 : Nat} {α : Ax} {κ : Nat → Int} {B : Nat} {p1 : Int} (hlt : l.stackTraces = false) (hκ : kOK κ) (hp1 : inR p1) {M : Mem} {Qm : Int → Mem → Prop} {Xm : String → Mem → Prop} (hw : wp_X9_point p1 M Xm Qm) : XI l yX9_point (Cond.code yX9_point cX9_point 3 (some .int)) 8 2 12 G e0 α κ B [.ref (α 10 0), .int (Int32.ofInt p1)] M Qm Xm :=
  XI.mk hlt hκ (by decide +kernel) rfl (Nat.le_of_ble_eq_true rfl) (lv := [(0, .ref (α 10 0)), (1, .int (Int32.ofInt p1))]) rfl (fun p e s m args below meth c ls X T hR hS hl => t_X9_point X T hp1 hw _ _ hR hS ls hl)
theorem cx_X9_point {cc : ByteArray} {nL : Nat} {own : String} {ret : Option FieldType} {idx pc : Nat} {p1 : Int} (X : CX p m c cc nL s args own G B κ meth ret) (T : XT l c) (hp1 : inR p1) {k mc ms cells slots : Nat} (hk : 8 + 1 ≤ k) (hcel : cells + 2 ≤ mc ∧ slots + 12 ≤ ms) {M : Mem} {H : Heap} {locs : List Loc} (hR : Rp G e0 α κ B M H) (hS : va_S (fun q => B ≤ q) s.heap H locs) (k1 : Cond.methodLink own idx yX9_point ∈ gw) {ls : Array Slot} (hml : ls.size = nL) {rest : List Value} (hd : decode cc pc = .ok (.invokevirtual idx, 3)) (hrest : (rest.map fun v => v.category).sum ≤ 8) {Qc : Array Value → State → Outcome → State → Prop} {Qm : Int → Mem → Prop} {Xm : String → Mem → Prop} (hw : wp_X9_point p1 M Xm Qm) (kk : ∀ (r : Int) (M1 : Mem) (H1 : Heap) (locs1 : List Loc), Qm r M1 → inR r → Rp G e0 α κ B M1 H1 → va_S (fun q => B ≤ q) s.heap H1 locs1 → W p l e (rmX k mc ms) s m args below meth c H1 locs1 (cells + 2) (slots + 12) (vx_MQ below Qc (XQ G e0 α κ B Xm) args s mc ms (fun q => B ≤ q)) (F0 m (pc + 3) ls (.int (Int32.ofInt r) :: rest))) : W p l e (rmX k mc ms) s m args below meth c H locs cells slots (vx_MQ below Qc (XQ G e0 α κ B Xm) args s mc ms (fun q => B ≤ q)) (F0 m pc ls (.int (Int32.ofInt p1) :: .ref (α 10 0) :: rest)) :=
  sx_callVI 8 (n := 1) (As := [.int (Int32.ofInt p1)]) (rest := rest) X T hR hS (m_X9_point T.1 X.2.2.1 hp1 hw) k1 kw_1295 kw_1296 kw_38 kw_1297 ⟨rfl, by decide +kernel, by decide +kernel, by decide +kernel⟩ (rm_ok rmX_ok hk (by decide)) (rc_10 X hR (okf X.2.2.1 rfl)) rfl rfl hrest hml hd hcel kk
def wp_X9_begins (p1 : Int) (M : Mem) (Xm : String → Mem → Prop) (Qm : Int → Mem → Prop) : Prop := wp_X9_requireCell p1 M Xm fun (M1 : Mem) => (0 ≤ p1 ∧ p1 < M1 14 0 (-1)) ∧ wp_X0_showsFigure (M1 14 0 p1) M1 fun (x5 : Int) (M4 : Mem) => ((¬ x5 = 0 → wp_X9_refresh M4 fun (M7 : Mem) => wp_X8_pointOf 0 (M7 1 (M1 14 0 p1) 1) M7 fun (x10 : Int) (M9 : Mem) => wp_X9_leftPart (M9 1 (M1 14 0 p1) 9) M9 fun (x14 : Int) (M13 : Mem) => (inR (x10 - x14)) ∧ Qm (x10 - x14) M13) ∧ (x5 = 0 → Xm xISE M4))
set_option maxHeartbeats 4000000 in
set_option maxRecDepth 100000 in
theorem t_X9_begins {p1 : Int} (X : CX p m c cX9_begins 3 s args RX9 G B κ meth (some .int)) (T : XT l c) (hp1 : inR p1) {M : Mem} {Xm : String → Mem → Prop} {Qm : Int → Mem → Prop} (hw : wp_X9_begins p1 M Xm Qm) (H : Heap) (locs : List Loc) (hR : Rp G e0 α κ B M H) (hS : va_S (fun q => B ≤ q) s.heap H locs) (ls : Array Slot) (hl : lv_has ls 3 [(0, .ref (α 10 0)), (1, .int (Int32.ofInt p1))]) : WXI p l e 8 2 12 s m args below meth c G e0 α κ B Qm Xm H locs 0 0 0 ls [] := by
  have hw : wp_X9_requireCell p1 M Xm fun (M1 : Mem) => (0 ≤ p1 ∧ p1 < M1 14 0 (-1)) ∧ wp_X0_showsFigure (M1 14 0 p1) M1 fun (x5 : Int) (M4 : Mem) => ((¬ x5 = 0 → wp_X9_refresh M4 fun (M7 : Mem) => wp_X8_pointOf 0 (M7 1 (M1 14 0 p1) 1) M7 fun (x10 : Int) (M9 : Mem) => wp_X9_leftPart (M9 1 (M1 14 0 p1) 9) M9 fun (x14 : Int) (M13 : Mem) => (inR (x10 - x14)) ∧ Qm (x10 - x14) M13) ∧ (x5 = 0 → Xm xISE M4)) := hw
  refine lv_aload_n X.1.1 X.1.2.1 dX9_begins_0 rfl (lv_at hl 0 rfl) ?_
  refine lv_iload_n X.1.1 X.1.2.1 dX9_begins_1 rfl (lv_at hl 1 rfl) ?_
  refine cx_X9_requireCell X T hp1 (by decide) ⟨by decide, by decide⟩ hR hS kw_1077 hl.1 dX9_begins_2 (Nat.le_of_ble_eq_true rfl) hw (fun M1 H locs hw hR hS => ?_)
  refine W.widen (k := 1) (n := 6) (by decide) (by decide) ?_
  refine lv_aload_n X.1.1 X.1.2.1 dX9_begins_5 rfl (lv_at hl 0 rfl) ?_
  refine gt_10_0 X hR (okf X.2.2.1 rfl) kw_332 dX9_begins_6 ?_
  refine gt_4_2 X hR (okf X.2.2.1 rfl) kw_121 dX9_begins_9 ?_
  refine lv_iload_n X.1.1 X.1.2.1 dX9_begins_12 rfl (lv_at hl 1 rfl) ?_
  have c2 := hw.1
  have hw := hw.2
  refine ls_get (ci := 1) (by decide) (by decide) rfl X c2 (kc := 8) rmX_ok ⟨by decide, by decide⟩ (by decide) hR hS kw_969 hl.1 dX9_begins_13 (Nat.le_of_ble_eq_true rfl) (fun H locs o3 hR hS => ?_)
  refine ck_1 X hR o3 kw_976 dX9_begins_16 ?_
  refine lv_astore_n (lv' := [(2, .ref (α 1 (M1 14 0 p1))), (0, .ref (α 10 0)), (1, .int (Int32.ofInt p1))]) X.1.1 X.1.2.1 dX9_begins_19 rfl hl (by decide) rfl (fun ls hl => ?_)
  refine lv_aload_n X.1.1 X.1.2.1 dX9_begins_20 rfl (lv_at hl 0 rfl) ?_
  refine cs_X0_showsFigure X o3 (kc := 8) rmX_ok ⟨by decide, by decide⟩ (by decide) hR hS kw_1298 hl.1 dX9_begins_21 (Nat.le_of_ble_eq_true rfl) hw (fun x5 M4 H locs hw r6 hR hS => ?_)
  refine sa_if_ne (tgt := 38) X.1 r6 dX9_begins_24 (by decide) (fun hc => ?_) (fun hc => ?_)
  · have hw := hw.1 hc
    refine lv_aload_n X.1.1 X.1.2.1 dX9_begins_38 rfl (lv_at hl 1 rfl) ?_
    refine cs_X9_refresh X  (kc := 8) rmX_ok ⟨by decide, by decide⟩ (by decide) hR hS kw_370 hl.1 dX9_begins_39 (Nat.le_of_ble_eq_true rfl) hw (fun M7 H locs hw hR hS => ?_)
    refine lv_aload_n X.1.1 X.1.2.1 dX9_begins_42 rfl (lv_at hl 1 rfl) ?_
    refine gt_10_1 X hR (okf X.2.2.1 rfl) kw_333 dX9_begins_43 ?_
    refine lv_aload_n X.1.1 X.1.2.1 dX9_begins_46 rfl (lv_at hl 0 rfl) ?_
    refine gt_1_1 X hR o3 kw_990 dX9_begins_47 ?_
    have r8 := hR.r 1 (M1 14 0 p1) 1
    refine cs_X8_pointOf X (okp X.2.2.1 rfl (by decide)) r8 (kc := 8) rmX_ok ⟨by decide, by decide⟩ (by decide) hR hS kw_1300 hl.1 dX9_begins_50 (Nat.le_of_ble_eq_true rfl) hw (fun x10 M9 H locs hw r11 hR hS => ?_)
    refine lv_aload_n X.1.1 X.1.2.1 dX9_begins_53 rfl (lv_at hl 0 rfl) ?_
    refine gt_1_9 X hR o3 kw_1009 dX9_begins_54 ?_
    have r12 := hR.r 1 (M1 14 0 p1) 9
    refine cs_X9_leftPart X r12 (kc := 8) rmX_ok ⟨by decide, by decide⟩ (by decide) hR hS kw_1308 hl.1 dX9_begins_57 (Nat.le_of_ble_eq_true rfl) hw (fun x14 M13 H locs hw r15 hR hS => ?_)
    have c16 := hw.1
    have hw := hw.2
    refine sa_isub X.1 dX9_begins_60 ?_
    exact sx_iret X hR hS c16 hw dX9_begins_61 (by decide) (by decide)
  · have hw := hw.2 hc
    exact sx_throwW (text := "the cell has no figure, or is out") X T xw_ISE (by decide +kernel) hR hS hl.1 dX9_begins_27 dX9_begins_30 dX9_begins_31 dX9_begins_34 dX9_begins_37 (by decide) (by decide) (by decide) hw
theorem m_X9_begins {l : Launch} {G : Gx} {e0 : Nat} {α : Ax} {κ : Nat → Int} {B : Nat} {p1 : Int} (hlt : l.stackTraces = false) (hκ : kOK κ) (hp1 : inR p1) {M : Mem} {Qm : Int → Mem → Prop} {Xm : String → Mem → Prop} (hw : wp_X9_begins p1 M Xm Qm) : XI l yX9_begins (Cond.code yX9_begins cX9_begins 3 (some .int)) 8 2 12 G e0 α κ B [.ref (α 10 0), .int (Int32.ofInt p1)] M Qm Xm :=
  XI.mk hlt hκ (by decide +kernel) rfl (Nat.le_of_ble_eq_true rfl) (lv := [(0, .ref (α 10 0)), (1, .int (Int32.ofInt p1))]) rfl (fun p e s m args below meth c ls X T hR hS hl => t_X9_begins X T hp1 hw _ _ hR hS ls hl)
theorem cx_X9_begins {cc : ByteArray} {nL : Nat} {own : String} {ret : Option FieldType} {idx pc : Nat} {p1 : Int} (X : CX p m c cc nL s args own G B κ meth ret) (T : XT l c) (hp1 : inR p1) {k mc ms cells slots : Nat} (hk : 8 + 1 ≤ k) (hcel : cells + 2 ≤ mc ∧ slots + 12 ≤ ms) {M : Mem} {H : Heap} {locs : List Loc} (hR : Rp G e0 α κ B M H) (hS : va_S (fun q => B ≤ q) s.heap H locs) (k1 : Cond.methodLink own idx yX9_begins ∈ gw) {ls : Array Slot} (hml : ls.size = nL) {rest : List Value} (hd : decode cc pc = .ok (.invokevirtual idx, 3)) (hrest : (rest.map fun v => v.category).sum ≤ 8) {Qc : Array Value → State → Outcome → State → Prop} {Qm : Int → Mem → Prop} {Xm : String → Mem → Prop} (hw : wp_X9_begins p1 M Xm Qm) (kk : ∀ (r : Int) (M1 : Mem) (H1 : Heap) (locs1 : List Loc), Qm r M1 → inR r → Rp G e0 α κ B M1 H1 → va_S (fun q => B ≤ q) s.heap H1 locs1 → W p l e (rmX k mc ms) s m args below meth c H1 locs1 (cells + 2) (slots + 12) (vx_MQ below Qc (XQ G e0 α κ B Xm) args s mc ms (fun q => B ≤ q)) (F0 m (pc + 3) ls (.int (Int32.ofInt r) :: rest))) : W p l e (rmX k mc ms) s m args below meth c H locs cells slots (vx_MQ below Qc (XQ G e0 α κ B Xm) args s mc ms (fun q => B ≤ q)) (F0 m pc ls (.int (Int32.ofInt p1) :: .ref (α 10 0) :: rest)) :=
  sx_callVI 8 (n := 1) (As := [.int (Int32.ofInt p1)]) (rest := rest) X T hR hS (m_X9_begins T.1 X.2.2.1 hp1 hw) k1 kw_1305 kw_1306 kw_38 kw_1307 ⟨rfl, by decide +kernel, by decide +kernel, by decide +kernel⟩ (rm_ok rmX_ok hk (by decide)) (rc_10 X hR (okf X.2.2.1 rfl)) rfl rfl hrest hml hd hcel kk
def wp_X9_lines (p1 : Int) (M : Mem) (Xm : String → Mem → Prop) (Qm : Int → Mem → Prop) : Prop := wp_X9_requireCell p1 M Xm fun (M1 : Mem) => wp_X9_refresh M1 fun (M2 : Mem) => (0 ≤ p1 ∧ p1 < 100) ∧ Qm (M2 34 0 p1) M2
set_option maxHeartbeats 4000000 in
set_option maxRecDepth 100000 in
theorem t_X9_lines {p1 : Int} (X : CX p m c cX9_lines 2 s args RX9 G B κ meth (some .int)) (T : XT l c) (hp1 : inR p1) {M : Mem} {Xm : String → Mem → Prop} {Qm : Int → Mem → Prop} (hw : wp_X9_lines p1 M Xm Qm) (H : Heap) (locs : List Loc) (hR : Rp G e0 α κ B M H) (hS : va_S (fun q => B ≤ q) s.heap H locs) (ls : Array Slot) (hl : lv_has ls 2 [(0, .ref (α 10 0)), (1, .int (Int32.ofInt p1))]) : WXI p l e 8 1 6 s m args below meth c G e0 α κ B Qm Xm H locs 0 0 0 ls [] := by
  have hw : wp_X9_requireCell p1 M Xm fun (M1 : Mem) => wp_X9_refresh M1 fun (M2 : Mem) => (0 ≤ p1 ∧ p1 < 100) ∧ Qm (M2 34 0 p1) M2 := hw
  refine lv_aload_n X.1.1 X.1.2.1 dX9_lines_0 rfl (lv_at hl 0 rfl) ?_
  refine lv_iload_n X.1.1 X.1.2.1 dX9_lines_1 rfl (lv_at hl 1 rfl) ?_
  refine cx_X9_requireCell X T hp1 (by decide) ⟨by decide, by decide⟩ hR hS kw_1077 hl.1 dX9_lines_2 (Nat.le_of_ble_eq_true rfl) hw (fun M1 H locs hw hR hS => ?_)
  refine W.widen (k := 1) (n := 6) (by decide) (by decide) ?_
  refine lv_aload_n X.1.1 X.1.2.1 dX9_lines_5 rfl (lv_at hl 0 rfl) ?_
  refine cs_X9_refresh X  (kc := 8) rmX_ok ⟨by decide, by decide⟩ (by decide) hR hS kw_370 hl.1 dX9_lines_6 (Nat.le_of_ble_eq_true rfl) hw (fun M2 H locs hw hR hS => ?_)
  refine lv_aload_n X.1.1 X.1.2.1 dX9_lines_9 rfl (lv_at hl 0 rfl) ?_
  refine gt_10_2 X hR (okf X.2.2.1 rfl) kw_334 dX9_lines_10 ?_
  refine gt_5_1 X hR (okp X.2.2.1 rfl (by decide)) kw_193 dX9_lines_13 ?_
  refine lv_iload_n X.1.1 X.1.2.1 dX9_lines_16 rfl (lv_at hl 1 rfl) ?_
  have c3 := hw.1
  have hw := hw.2
  refine ra_34 X hR (okp X.2.2.1 rfl (pr_5 X.2.2.1 (okp X.2.2.1 rfl (by decide)))) c3 dX9_lines_17 ?_
  have r4 := hR.r 34 0 p1
  exact sx_iret X hR hS r4 hw dX9_lines_18 (by decide) (by decide)
theorem m_X9_lines {l : Launch} {G : Gx} {e0 : Nat} {α : Ax} {κ : Nat → Int} {B : Nat} {p1 : Int} (hlt : l.stackTraces = false) (hκ : kOK κ) (hp1 : inR p1) {M : Mem} {Qm : Int → Mem → Prop} {Xm : String → Mem → Prop} (hw : wp_X9_lines p1 M Xm Qm) : XI l yX9_lines (Cond.code yX9_lines cX9_lines 2 (some .int)) 8 1 6 G e0 α κ B [.ref (α 10 0), .int (Int32.ofInt p1)] M Qm Xm :=
  XI.mk hlt hκ (by decide +kernel) rfl (Nat.le_of_ble_eq_true rfl) (lv := [(0, .ref (α 10 0)), (1, .int (Int32.ofInt p1))]) rfl (fun p e s m args below meth c ls X T hR hS hl => t_X9_lines X T hp1 hw _ _ hR hS ls hl)
theorem cx_X9_lines {cc : ByteArray} {nL : Nat} {own : String} {ret : Option FieldType} {idx pc : Nat} {p1 : Int} (X : CX p m c cc nL s args own G B κ meth ret) (T : XT l c) (hp1 : inR p1) {k mc ms cells slots : Nat} (hk : 8 + 1 ≤ k) (hcel : cells + 1 ≤ mc ∧ slots + 6 ≤ ms) {M : Mem} {H : Heap} {locs : List Loc} (hR : Rp G e0 α κ B M H) (hS : va_S (fun q => B ≤ q) s.heap H locs) (k1 : Cond.methodLink own idx yX9_lines ∈ gw) {ls : Array Slot} (hml : ls.size = nL) {rest : List Value} (hd : decode cc pc = .ok (.invokevirtual idx, 3)) (hrest : (rest.map fun v => v.category).sum ≤ 8) {Qc : Array Value → State → Outcome → State → Prop} {Qm : Int → Mem → Prop} {Xm : String → Mem → Prop} (hw : wp_X9_lines p1 M Xm Qm) (kk : ∀ (r : Int) (M1 : Mem) (H1 : Heap) (locs1 : List Loc), Qm r M1 → inR r → Rp G e0 α κ B M1 H1 → va_S (fun q => B ≤ q) s.heap H1 locs1 → W p l e (rmX k mc ms) s m args below meth c H1 locs1 (cells + 1) (slots + 6) (vx_MQ below Qc (XQ G e0 α κ B Xm) args s mc ms (fun q => B ≤ q)) (F0 m (pc + 3) ls (.int (Int32.ofInt r) :: rest))) : W p l e (rmX k mc ms) s m args below meth c H locs cells slots (vx_MQ below Qc (XQ G e0 α κ B Xm) args s mc ms (fun q => B ≤ q)) (F0 m pc ls (.int (Int32.ofInt p1) :: .ref (α 10 0) :: rest)) :=
  sx_callVI 8 (n := 1) (As := [.int (Int32.ofInt p1)]) (rest := rest) X T hR hS (m_X9_lines T.1 X.2.2.1 hp1 hw) k1 kw_1288 kw_1289 kw_38 kw_1290 ⟨rfl, by decide +kernel, by decide +kernel, by decide +kernel⟩ (rm_ok rmX_ok hk (by decide)) (rc_10 X hR (okf X.2.2.1 rfl)) rfl rfl hrest hml hd hcel kk
def wp_X9_height (p1 : Int) (M : Mem) (Xm : String → Mem → Prop) (Qm : Int → Mem → Prop) : Prop := wp_X9_requireRow p1 M Xm fun (M1 : Mem) => wp_X9_refresh M1 fun (M2 : Mem) => (0 ≤ p1 ∧ p1 < 29) ∧ Qm (M2 35 0 p1) M2
set_option maxHeartbeats 4000000 in
set_option maxRecDepth 100000 in
theorem t_X9_height {p1 : Int} (X : CX p m c cX9_height 2 s args RX9 G B κ meth (some .int)) (T : XT l c) (hp1 : inR p1) {M : Mem} {Xm : String → Mem → Prop} {Qm : Int → Mem → Prop} (hw : wp_X9_height p1 M Xm Qm) (H : Heap) (locs : List Loc) (hR : Rp G e0 α κ B M H) (hS : va_S (fun q => B ≤ q) s.heap H locs) (ls : Array Slot) (hl : lv_has ls 2 [(0, .ref (α 10 0)), (1, .int (Int32.ofInt p1))]) : WXI p l e 8 1 6 s m args below meth c G e0 α κ B Qm Xm H locs 0 0 0 ls [] := by
  have hw : wp_X9_requireRow p1 M Xm fun (M1 : Mem) => wp_X9_refresh M1 fun (M2 : Mem) => (0 ≤ p1 ∧ p1 < 29) ∧ Qm (M2 35 0 p1) M2 := hw
  refine lv_aload_n X.1.1 X.1.2.1 dX9_height_0 rfl (lv_at hl 0 rfl) ?_
  refine lv_iload_n X.1.1 X.1.2.1 dX9_height_1 rfl (lv_at hl 1 rfl) ?_
  refine cx_X9_requireRow X T hp1 (by decide) ⟨by decide, by decide⟩ hR hS kw_938 hl.1 dX9_height_2 (Nat.le_of_ble_eq_true rfl) hw (fun M1 H locs hw hR hS => ?_)
  refine W.widen (k := 1) (n := 6) (by decide) (by decide) ?_
  refine lv_aload_n X.1.1 X.1.2.1 dX9_height_5 rfl (lv_at hl 0 rfl) ?_
  refine cs_X9_refresh X  (kc := 8) rmX_ok ⟨by decide, by decide⟩ (by decide) hR hS kw_370 hl.1 dX9_height_6 (Nat.le_of_ble_eq_true rfl) hw (fun M2 H locs hw hR hS => ?_)
  refine lv_aload_n X.1.1 X.1.2.1 dX9_height_9 rfl (lv_at hl 0 rfl) ?_
  refine gt_10_2 X hR (okf X.2.2.1 rfl) kw_334 dX9_height_10 ?_
  refine gt_5_2 X hR (okp X.2.2.1 rfl (by decide)) kw_197 dX9_height_13 ?_
  refine lv_iload_n X.1.1 X.1.2.1 dX9_height_16 rfl (lv_at hl 1 rfl) ?_
  have c3 := hw.1
  have hw := hw.2
  refine ra_35 X hR (okp X.2.2.1 rfl (pr_5 X.2.2.1 (okp X.2.2.1 rfl (by decide)))) c3 dX9_height_17 ?_
  have r4 := hR.r 35 0 p1
  exact sx_iret X hR hS r4 hw dX9_height_18 (by decide) (by decide)
theorem m_X9_height {l : Launch} {G : Gx} {e0 : Nat} {α : Ax} {κ : Nat → Int} {B : Nat} {p1 : Int} (hlt : l.stackTraces = false) (hκ : kOK κ) (hp1 : inR p1) {M : Mem} {Qm : Int → Mem → Prop} {Xm : String → Mem → Prop} (hw : wp_X9_height p1 M Xm Qm) : XI l yX9_height (Cond.code yX9_height cX9_height 2 (some .int)) 8 1 6 G e0 α κ B [.ref (α 10 0), .int (Int32.ofInt p1)] M Qm Xm :=
  XI.mk hlt hκ (by decide +kernel) rfl (Nat.le_of_ble_eq_true rfl) (lv := [(0, .ref (α 10 0)), (1, .int (Int32.ofInt p1))]) rfl (fun p e s m args below meth c ls X T hR hS hl => t_X9_height X T hp1 hw _ _ hR hS ls hl)
theorem cx_X9_height {cc : ByteArray} {nL : Nat} {own : String} {ret : Option FieldType} {idx pc : Nat} {p1 : Int} (X : CX p m c cc nL s args own G B κ meth ret) (T : XT l c) (hp1 : inR p1) {k mc ms cells slots : Nat} (hk : 8 + 1 ≤ k) (hcel : cells + 1 ≤ mc ∧ slots + 6 ≤ ms) {M : Mem} {H : Heap} {locs : List Loc} (hR : Rp G e0 α κ B M H) (hS : va_S (fun q => B ≤ q) s.heap H locs) (k1 : Cond.methodLink own idx yX9_height ∈ gw) {ls : Array Slot} (hml : ls.size = nL) {rest : List Value} (hd : decode cc pc = .ok (.invokevirtual idx, 3)) (hrest : (rest.map fun v => v.category).sum ≤ 8) {Qc : Array Value → State → Outcome → State → Prop} {Qm : Int → Mem → Prop} {Xm : String → Mem → Prop} (hw : wp_X9_height p1 M Xm Qm) (kk : ∀ (r : Int) (M1 : Mem) (H1 : Heap) (locs1 : List Loc), Qm r M1 → inR r → Rp G e0 α κ B M1 H1 → va_S (fun q => B ≤ q) s.heap H1 locs1 → W p l e (rmX k mc ms) s m args below meth c H1 locs1 (cells + 1) (slots + 6) (vx_MQ below Qc (XQ G e0 α κ B Xm) args s mc ms (fun q => B ≤ q)) (F0 m (pc + 3) ls (.int (Int32.ofInt r) :: rest))) : W p l e (rmX k mc ms) s m args below meth c H locs cells slots (vx_MQ below Qc (XQ G e0 α κ B Xm) args s mc ms (fun q => B ≤ q)) (F0 m pc ls (.int (Int32.ofInt p1) :: .ref (α 10 0) :: rest)) :=
  sx_callVI 8 (n := 1) (As := [.int (Int32.ofInt p1)]) (rest := rest) X T hR hS (m_X9_height T.1 X.2.2.1 hp1 hw) k1 kw_1273 kw_1274 kw_38 kw_1275 ⟨rfl, by decide +kernel, by decide +kernel, by decide +kernel⟩ (rm_ok rmX_ok hk (by decide)) (rc_10 X hR (okf X.2.2.1 rfl)) rfl rfl hrest hml hd hcel kk
def wp_X9_pages (M : Mem) (Xm : String → Mem → Prop) (Qm : Int → Mem → Prop) : Prop := wp_X9_refresh M fun (M1 : Mem) => wp_X9_requireSheets M1 Xm fun (M2 : Mem) => Qm (M2 7 0 1) M2
set_option maxHeartbeats 4000000 in
set_option maxRecDepth 100000 in
theorem t_X9_pages (X : CX p m c cX9_pages 1 s args RX9 G B κ meth (some .int)) (T : XT l c) {M : Mem} {Xm : String → Mem → Prop} {Qm : Int → Mem → Prop} (hw : wp_X9_pages M Xm Qm) (H : Heap) (locs : List Loc) (hR : Rp G e0 α κ B M H) (hS : va_S (fun q => B ≤ q) s.heap H locs) (ls : Array Slot) (hl : lv_has ls 1 [(0, .ref (α 10 0))]) : WXI p l e 8 1 6 s m args below meth c G e0 α κ B Qm Xm H locs 0 0 0 ls [] := by
  have hw : wp_X9_refresh M fun (M1 : Mem) => wp_X9_requireSheets M1 Xm fun (M2 : Mem) => Qm (M2 7 0 1) M2 := hw
  refine lv_aload_n X.1.1 X.1.2.1 dX9_pages_0 rfl (lv_at hl 0 rfl) ?_
  refine cs_X9_refresh X  (kc := 8) rmX_ok ⟨by decide, by decide⟩ (by decide) hR hS kw_370 hl.1 dX9_pages_1 (Nat.le_of_ble_eq_true rfl) hw (fun M1 H locs hw hR hS => ?_)
  refine lv_aload_n X.1.1 X.1.2.1 dX9_pages_4 rfl (lv_at hl 0 rfl) ?_
  refine cx_X9_requireSheets X T  (by decide) ⟨by decide, by decide⟩ hR hS kw_1343 hl.1 dX9_pages_5 (Nat.le_of_ble_eq_true rfl) hw (fun M2 H locs hw hR hS => ?_)
  refine W.widen (k := 1) (n := 6) (by decide) (by decide) ?_
  refine lv_aload_n X.1.1 X.1.2.1 dX9_pages_8 rfl (lv_at hl 0 rfl) ?_
  refine gt_10_5 X hR (okf X.2.2.1 rfl) kw_337 dX9_pages_9 ?_
  refine gt_7_1 X hR (okp X.2.2.1 rfl (by decide)) kw_244 dX9_pages_12 ?_
  have r3 := hR.r 7 0 1
  exact sx_iret X hR hS r3 hw dX9_pages_15 (by decide) (by decide)
theorem m_X9_pages {l : Launch} {G : Gx} {e0 : Nat} {α : Ax} {κ : Nat → Int} {B : Nat} (hlt : l.stackTraces = false) (hκ : kOK κ) {M : Mem} {Qm : Int → Mem → Prop} {Xm : String → Mem → Prop} (hw : wp_X9_pages M Xm Qm) : XI l yX9_pages (Cond.code yX9_pages cX9_pages 1 (some .int)) 8 1 6 G e0 α κ B [.ref (α 10 0)] M Qm Xm :=
  XI.mk hlt hκ (by decide +kernel) rfl (Nat.le_of_ble_eq_true rfl) (lv := [(0, .ref (α 10 0))]) rfl (fun p e s m args below meth c ls X T hR hS hl => t_X9_pages X T hw _ _ hR hS ls hl)
theorem cx_X9_pages {cc : ByteArray} {nL : Nat} {own : String} {ret : Option FieldType} {idx pc : Nat} (X : CX p m c cc nL s args own G B κ meth ret) (T : XT l c) {k mc ms cells slots : Nat} (hk : 8 + 1 ≤ k) (hcel : cells + 1 ≤ mc ∧ slots + 6 ≤ ms) {M : Mem} {H : Heap} {locs : List Loc} (hR : Rp G e0 α κ B M H) (hS : va_S (fun q => B ≤ q) s.heap H locs) (k1 : Cond.methodLink own idx yX9_pages ∈ gw) {ls : Array Slot} (hml : ls.size = nL) {rest : List Value} (hd : decode cc pc = .ok (.invokevirtual idx, 3)) (hrest : (rest.map fun v => v.category).sum ≤ 8) {Qc : Array Value → State → Outcome → State → Prop} {Qm : Int → Mem → Prop} {Xm : String → Mem → Prop} (hw : wp_X9_pages M Xm Qm) (kk : ∀ (r : Int) (M1 : Mem) (H1 : Heap) (locs1 : List Loc), Qm r M1 → inR r → Rp G e0 α κ B M1 H1 → va_S (fun q => B ≤ q) s.heap H1 locs1 → W p l e (rmX k mc ms) s m args below meth c H1 locs1 (cells + 1) (slots + 6) (vx_MQ below Qc (XQ G e0 α κ B Xm) args s mc ms (fun q => B ≤ q)) (F0 m (pc + 3) ls (.int (Int32.ofInt r) :: rest))) : W p l e (rmX k mc ms) s m args below meth c H locs cells slots (vx_MQ below Qc (XQ G e0 α κ B Xm) args s mc ms (fun q => B ≤ q)) (F0 m pc ls (.ref (α 10 0) :: rest)) :=
  sx_callVI 8 (n := 0) (As := []) (rest := rest) X T hR hS (m_X9_pages T.1 X.2.2.1 hw) k1 kw_1340 kw_1341 kw_38 kw_1342 ⟨rfl, by decide +kernel, by decide +kernel, by decide +kernel⟩ (rm_ok rmX_ok hk (by decide)) (rc_10 X hR (okf X.2.2.1 rfl)) rfl rfl hrest hml hd hcel kk
def wp_X9_pageOf (p1 : Int) (M : Mem) (Xm : String → Mem → Prop) (Qm : Int → Mem → Prop) : Prop := wp_X9_requireRow p1 M Xm fun (M1 : Mem) => wp_X3_isBodyRow p1 M1 fun (x3 : Int) (M2 : Mem) => ((¬ x3 = 0 → wp_X9_refresh M2 fun (M5 : Mem) => wp_X9_requireSheets M5 Xm fun (M6 : Mem) => (0 ≤ p1 ∧ p1 < 29) ∧ Qm (M6 45 0 p1) M6) ∧ (x3 = 0 → Xm xIAE M2))
set_option maxHeartbeats 4000000 in
set_option maxRecDepth 100000 in
theorem t_X9_pageOf {p1 : Int} (X : CX p m c cX9_pageOf 2 s args RX9 G B κ meth (some .int)) (T : XT l c) (hp1 : inR p1) {M : Mem} {Xm : String → Mem → Prop} {Qm : Int → Mem → Prop} (hw : wp_X9_pageOf p1 M Xm Qm) (H : Heap) (locs : List Loc) (hR : Rp G e0 α κ B M H) (hS : va_S (fun q => B ≤ q) s.heap H locs) (ls : Array Slot) (hl : lv_has ls 2 [(0, .ref (α 10 0)), (1, .int (Int32.ofInt p1))]) : WXI p l e 8 2 12 s m args below meth c G e0 α κ B Qm Xm H locs 0 0 0 ls [] := by
  have hw : wp_X9_requireRow p1 M Xm fun (M1 : Mem) => wp_X3_isBodyRow p1 M1 fun (x3 : Int) (M2 : Mem) => ((¬ x3 = 0 → wp_X9_refresh M2 fun (M5 : Mem) => wp_X9_requireSheets M5 Xm fun (M6 : Mem) => (0 ≤ p1 ∧ p1 < 29) ∧ Qm (M6 45 0 p1) M6) ∧ (x3 = 0 → Xm xIAE M2)) := hw
  refine lv_aload_n X.1.1 X.1.2.1 dX9_pageOf_0 rfl (lv_at hl 0 rfl) ?_
  refine lv_iload_n X.1.1 X.1.2.1 dX9_pageOf_1 rfl (lv_at hl 1 rfl) ?_
  refine cx_X9_requireRow X T hp1 (by decide) ⟨by decide, by decide⟩ hR hS kw_938 hl.1 dX9_pageOf_2 (Nat.le_of_ble_eq_true rfl) hw (fun M1 H locs hw hR hS => ?_)
  refine W.widen (k := 1) (n := 6) (by decide) (by decide) ?_
  refine lv_aload_n X.1.1 X.1.2.1 dX9_pageOf_5 rfl (lv_at hl 0 rfl) ?_
  refine gt_10_0 X hR (okf X.2.2.1 rfl) kw_332 dX9_pageOf_6 ?_
  refine lv_iload_n X.1.1 X.1.2.1 dX9_pageOf_9 rfl (lv_at hl 1 rfl) ?_
  refine cs_X3_isBodyRow X hp1 (kc := 8) rmX_ok ⟨by decide, by decide⟩ (by decide) hR hS kw_1363 hl.1 dX9_pageOf_10 (Nat.le_of_ble_eq_true rfl) hw (fun x3 M2 H locs hw r4 hR hS => ?_)
  refine sa_if_ne (tgt := 27) X.1 r4 dX9_pageOf_13 (by decide) (fun hc => ?_) (fun hc => ?_)
  · have hw := hw.1 hc
    refine lv_aload_n X.1.1 X.1.2.1 dX9_pageOf_27 rfl (lv_at hl 0 rfl) ?_
    refine cs_X9_refresh X  (kc := 8) rmX_ok ⟨by decide, by decide⟩ (by decide) hR hS kw_370 hl.1 dX9_pageOf_28 (Nat.le_of_ble_eq_true rfl) hw (fun M5 H locs hw hR hS => ?_)
    refine lv_aload_n X.1.1 X.1.2.1 dX9_pageOf_31 rfl (lv_at hl 0 rfl) ?_
    refine cx_X9_requireSheets X T  (by decide) ⟨by decide, by decide⟩ hR hS kw_1343 hl.1 dX9_pageOf_32 (Nat.le_of_ble_eq_true rfl) hw (fun M6 H locs hw hR hS => ?_)
    refine W.widen (k := 2) (n := 12) (by decide) (by decide) ?_
    refine lv_aload_n X.1.1 X.1.2.1 dX9_pageOf_35 rfl (lv_at hl 0 rfl) ?_
    refine gt_10_5 X hR (okf X.2.2.1 rfl) kw_337 dX9_pageOf_36 ?_
    refine gt_7_11 X hR (okp X.2.2.1 rfl (by decide)) kw_257 dX9_pageOf_39 ?_
    refine lv_iload_n X.1.1 X.1.2.1 dX9_pageOf_42 rfl (lv_at hl 1 rfl) ?_
    have c7 := hw.1
    have hw := hw.2
    refine ra_45 X hR (okp X.2.2.1 rfl (pr_7 X.2.2.1 (okp X.2.2.1 rfl (by decide)))) c7 dX9_pageOf_43 ?_
    have r8 := hR.r 45 0 p1
    exact sx_iret X hR hS r8 hw dX9_pageOf_44 (by decide) (by decide)
  · have hw := hw.2 hc
    exact sx_throwW (text := "it is no body row") X T xw_IAE (by decide +kernel) hR hS hl.1 dX9_pageOf_16 dX9_pageOf_19 dX9_pageOf_20 dX9_pageOf_23 dX9_pageOf_26 (by decide) (by decide) (by decide) hw
theorem m_X9_pageOf {l : Launch} {G : Gx} {e0 : Nat} {α : Ax} {κ : Nat → Int} {B : Nat} {p1 : Int} (hlt : l.stackTraces = false) (hκ : kOK κ) (hp1 : inR p1) {M : Mem} {Qm : Int → Mem → Prop} {Xm : String → Mem → Prop} (hw : wp_X9_pageOf p1 M Xm Qm) : XI l yX9_pageOf (Cond.code yX9_pageOf cX9_pageOf 2 (some .int)) 8 2 12 G e0 α κ B [.ref (α 10 0), .int (Int32.ofInt p1)] M Qm Xm :=
  XI.mk hlt hκ (by decide +kernel) rfl (Nat.le_of_ble_eq_true rfl) (lv := [(0, .ref (α 10 0)), (1, .int (Int32.ofInt p1))]) rfl (fun p e s m args below meth c ls X T hR hS hl => t_X9_pageOf X T hp1 hw _ _ hR hS ls hl)
theorem cx_X9_pageOf {cc : ByteArray} {nL : Nat} {own : String} {ret : Option FieldType} {idx pc : Nat} {p1 : Int} (X : CX p m c cc nL s args own G B κ meth ret) (T : XT l c) (hp1 : inR p1) {k mc ms cells slots : Nat} (hk : 8 + 1 ≤ k) (hcel : cells + 2 ≤ mc ∧ slots + 12 ≤ ms) {M : Mem} {H : Heap} {locs : List Loc} (hR : Rp G e0 α κ B M H) (hS : va_S (fun q => B ≤ q) s.heap H locs) (k1 : Cond.methodLink own idx yX9_pageOf ∈ gw) {ls : Array Slot} (hml : ls.size = nL) {rest : List Value} (hd : decode cc pc = .ok (.invokevirtual idx, 3)) (hrest : (rest.map fun v => v.category).sum ≤ 8) {Qc : Array Value → State → Outcome → State → Prop} {Qm : Int → Mem → Prop} {Xm : String → Mem → Prop} (hw : wp_X9_pageOf p1 M Xm Qm) (kk : ∀ (r : Int) (M1 : Mem) (H1 : Heap) (locs1 : List Loc), Qm r M1 → inR r → Rp G e0 α κ B M1 H1 → va_S (fun q => B ≤ q) s.heap H1 locs1 → W p l e (rmX k mc ms) s m args below meth c H1 locs1 (cells + 2) (slots + 12) (vx_MQ below Qc (XQ G e0 α κ B Xm) args s mc ms (fun q => B ≤ q)) (F0 m (pc + 3) ls (.int (Int32.ofInt r) :: rest))) : W p l e (rmX k mc ms) s m args below meth c H locs cells slots (vx_MQ below Qc (XQ G e0 α κ B Xm) args s mc ms (fun q => B ≤ q)) (F0 m pc ls (.int (Int32.ofInt p1) :: .ref (α 10 0) :: rest)) :=
  sx_callVI 8 (n := 1) (As := [.int (Int32.ofInt p1)]) (rest := rest) X T hR hS (m_X9_pageOf T.1 X.2.2.1 hp1 hw) k1 kw_1372 kw_1373 kw_38 kw_1374 ⟨rfl, by decide +kernel, by decide +kernel, by decide +kernel⟩ (rm_ok rmX_ok hk (by decide)) (rc_10 X hR (okf X.2.2.1 rfl)) rfl rfl hrest hml hd hcel kk
def wp_X9_linesOn_20 (p1 : Int) (p2 : Int) (Xm : String → Mem → Prop) (Qm : Int → Mem → Prop) (M : Mem) : Prop := Xm xIAE M
def wp_X9_linesOn (p1 : Int) (p2 : Int) (M : Mem) (Xm : String → Mem → Prop) (Qm : Int → Mem → Prop) : Prop := wp_X9_requireRow p1 M Xm fun (M1 : Mem) => wp_X3_isBodyRow p1 M1 fun (x3 : Int) (M2 : Mem) => ((x3 = 0 → wp_X9_linesOn_20 p1 p2 Xm Qm M2) ∧ (¬ x3 = 0 → ((0 ≤ p2 → wp_X9_refresh M2 fun (M5 : Mem) => wp_X9_requireSheets M5 Xm fun (M6 : Mem) => wp_X6_pieceBeginOf 0 p2 M6 fun (x8 : Int) (M7 : Mem) => wp_X6_pieceEndOf 0 p2 M7 fun (x11 : Int) (M10 : Mem) => wp_X6_linesOfItem 0 p1 x8 x11 M10 fun (x14 : Int) (M13 : Mem) => Qm x14 M13) ∧ (p2 < 0 → wp_X9_linesOn_20 p1 p2 Xm Qm M2))))
set_option maxHeartbeats 4000000 in
set_option maxRecDepth 100000 in
theorem t_X9_linesOn_20 {p1 : Int} {p2 : Int} (X : CX p m c cX9_linesOn 3 s args RX9 G B κ meth (some .int)) (T : XT l c) (hp1 : inR p1) (hp2 : inR p2) {Xm : String → Mem → Prop} {Qm : Int → Mem → Prop} : ∀ M : Mem, wp_X9_linesOn_20 p1 p2 Xm Qm M → ∀ (H : Heap) (locs : List Loc), Rp G e0 α κ B M H → va_S (fun q => B ≤ q) s.heap H locs → ∀ (ls : Array Slot), lv_has ls 3 [] → WXI p l e 8 2 12 s m args below meth c G e0 α κ B Qm Xm H locs 1 6 20 ls [] := by
  intro M hw H locs hR hS ls hl
  have hw : Xm xIAE M := hw
  exact sx_throwW (text := "it is no body row, or page is below 0") X T xw_IAE (by decide +kernel) hR hS hl.1 dX9_linesOn_20 dX9_linesOn_23 dX9_linesOn_24 dX9_linesOn_27 dX9_linesOn_30 (by decide) (by decide) (by decide) hw
set_option maxHeartbeats 4000000 in
set_option maxRecDepth 100000 in
theorem t_X9_linesOn {p1 : Int} {p2 : Int} (X : CX p m c cX9_linesOn 3 s args RX9 G B κ meth (some .int)) (T : XT l c) (hp1 : inR p1) (hp2 : inR p2) {M : Mem} {Xm : String → Mem → Prop} {Qm : Int → Mem → Prop} (hw : wp_X9_linesOn p1 p2 M Xm Qm) (H : Heap) (locs : List Loc) (hR : Rp G e0 α κ B M H) (hS : va_S (fun q => B ≤ q) s.heap H locs) (ls : Array Slot) (hl : lv_has ls 3 [(0, .ref (α 10 0)), (1, .int (Int32.ofInt p1)), (2, .int (Int32.ofInt p2))]) : WXI p l e 8 2 12 s m args below meth c G e0 α κ B Qm Xm H locs 0 0 0 ls [] := by
  have hw : wp_X9_requireRow p1 M Xm fun (M1 : Mem) => wp_X3_isBodyRow p1 M1 fun (x3 : Int) (M2 : Mem) => ((x3 = 0 → wp_X9_linesOn_20 p1 p2 Xm Qm M2) ∧ (¬ x3 = 0 → ((0 ≤ p2 → wp_X9_refresh M2 fun (M5 : Mem) => wp_X9_requireSheets M5 Xm fun (M6 : Mem) => wp_X6_pieceBeginOf 0 p2 M6 fun (x8 : Int) (M7 : Mem) => wp_X6_pieceEndOf 0 p2 M7 fun (x11 : Int) (M10 : Mem) => wp_X6_linesOfItem 0 p1 x8 x11 M10 fun (x14 : Int) (M13 : Mem) => Qm x14 M13) ∧ (p2 < 0 → wp_X9_linesOn_20 p1 p2 Xm Qm M2)))) := hw
  refine lv_aload_n X.1.1 X.1.2.1 dX9_linesOn_0 rfl (lv_at hl 0 rfl) ?_
  refine lv_iload_n X.1.1 X.1.2.1 dX9_linesOn_1 rfl (lv_at hl 1 rfl) ?_
  refine cx_X9_requireRow X T hp1 (by decide) ⟨by decide, by decide⟩ hR hS kw_938 hl.1 dX9_linesOn_2 (Nat.le_of_ble_eq_true rfl) hw (fun M1 H locs hw hR hS => ?_)
  refine W.widen (k := 1) (n := 6) (by decide) (by decide) ?_
  refine lv_aload_n X.1.1 X.1.2.1 dX9_linesOn_5 rfl (lv_at hl 0 rfl) ?_
  refine gt_10_0 X hR (okf X.2.2.1 rfl) kw_332 dX9_linesOn_6 ?_
  refine lv_iload_n X.1.1 X.1.2.1 dX9_linesOn_9 rfl (lv_at hl 1 rfl) ?_
  refine cs_X3_isBodyRow X hp1 (kc := 8) rmX_ok ⟨by decide, by decide⟩ (by decide) hR hS kw_1363 hl.1 dX9_linesOn_10 (Nat.le_of_ble_eq_true rfl) hw (fun x3 M2 H locs hw r4 hR hS => ?_)
  refine sa_if_eq (tgt := 20) X.1 r4 dX9_linesOn_13 (by decide) (fun hc => ?_) (fun hc => ?_)
  · have hw := hw.1 hc
    exact t_X9_linesOn_20 X T hp1 hp2 _ hw _ _ hR hS _ (lv_sub hl [] rfl)
  · have hw := hw.2 hc
    refine lv_iload_n X.1.1 X.1.2.1 dX9_linesOn_16 rfl (lv_at hl 2 rfl) ?_
    refine sa_if_ge (tgt := 31) X.1 hp2 dX9_linesOn_17 (by decide) (fun hc => ?_) (fun hc => ?_)
    · have hw := hw.1 hc
      refine lv_aload_n X.1.1 X.1.2.1 dX9_linesOn_31 rfl (lv_at hl 0 rfl) ?_
      refine cs_X9_refresh X  (kc := 8) rmX_ok ⟨by decide, by decide⟩ (by decide) hR hS kw_370 hl.1 dX9_linesOn_32 (Nat.le_of_ble_eq_true rfl) hw (fun M5 H locs hw hR hS => ?_)
      refine lv_aload_n X.1.1 X.1.2.1 dX9_linesOn_35 rfl (lv_at hl 0 rfl) ?_
      refine cx_X9_requireSheets X T  (by decide) ⟨by decide, by decide⟩ hR hS kw_1343 hl.1 dX9_linesOn_36 (Nat.le_of_ble_eq_true rfl) hw (fun M6 H locs hw hR hS => ?_)
      refine W.widen (k := 2) (n := 12) (by decide) (by decide) ?_
      refine lv_aload_n X.1.1 X.1.2.1 dX9_linesOn_39 rfl (lv_at hl 0 rfl) ?_
      refine gt_10_5 X hR (okf X.2.2.1 rfl) kw_337 dX9_linesOn_40 ?_
      refine lv_iload_n X.1.1 X.1.2.1 dX9_linesOn_43 rfl (lv_at hl 1 rfl) ?_
      refine lv_aload_n X.1.1 X.1.2.1 dX9_linesOn_44 rfl (lv_at hl 0 rfl) ?_
      refine gt_10_5 X hR (okf X.2.2.1 rfl) kw_337 dX9_linesOn_45 ?_
      refine lv_iload_n X.1.1 X.1.2.1 dX9_linesOn_48 rfl (lv_at hl 2 rfl) ?_
      refine cs_X6_pieceBeginOf X (okp X.2.2.1 rfl (by decide)) hp2 (kc := 8) rmX_ok ⟨by decide, by decide⟩ (by decide) hR hS kw_1365 hl.1 dX9_linesOn_49 (Nat.le_of_ble_eq_true rfl) hw (fun x8 M7 H locs hw r9 hR hS => ?_)
      refine lv_aload_n X.1.1 X.1.2.1 dX9_linesOn_52 rfl (lv_at hl 0 rfl) ?_
      refine gt_10_5 X hR (okf X.2.2.1 rfl) kw_337 dX9_linesOn_53 ?_
      refine lv_iload_n X.1.1 X.1.2.1 dX9_linesOn_56 rfl (lv_at hl 2 rfl) ?_
      refine cs_X6_pieceEndOf X (okp X.2.2.1 rfl (by decide)) hp2 (kc := 8) rmX_ok ⟨by decide, by decide⟩ (by decide) hR hS kw_1366 hl.1 dX9_linesOn_57 (Nat.le_of_ble_eq_true rfl) hw (fun x11 M10 H locs hw r12 hR hS => ?_)
      refine cs_X6_linesOfItem X (okp X.2.2.1 rfl (by decide)) hp1 r9 r12 (kc := 8) rmX_ok ⟨by decide, by decide⟩ (by decide) hR hS kw_1367 hl.1 dX9_linesOn_60 (Nat.le_of_ble_eq_true rfl) hw (fun x14 M13 H locs hw r15 hR hS => ?_)
      exact sx_iret X hR hS r15 hw dX9_linesOn_63 (by decide) (by decide)
    · have hw := hw.2 hc
      exact t_X9_linesOn_20 X T hp1 hp2 _ hw _ _ hR hS _ (lv_sub hl [] rfl)
theorem m_X9_linesOn {l : Launch} {G : Gx} {e0 : Nat} {α : Ax} {κ : Nat → Int} {B : Nat} {p1 : Int} {p2 : Int} (hlt : l.stackTraces = false) (hκ : kOK κ) (hp1 : inR p1) (hp2 : inR p2) {M : Mem} {Qm : Int → Mem → Prop} {Xm : String → Mem → Prop} (hw : wp_X9_linesOn p1 p2 M Xm Qm) : XI l yX9_linesOn (Cond.code yX9_linesOn cX9_linesOn 3 (some .int)) 8 2 12 G e0 α κ B [.ref (α 10 0), .int (Int32.ofInt p1), .int (Int32.ofInt p2)] M Qm Xm :=
  XI.mk hlt hκ (by decide +kernel) rfl (Nat.le_of_ble_eq_true rfl) (lv := [(0, .ref (α 10 0)), (1, .int (Int32.ofInt p1)), (2, .int (Int32.ofInt p2))]) rfl (fun p e s m args below meth c ls X T hR hS hl => t_X9_linesOn X T hp1 hp2 hw _ _ hR hS ls hl)
theorem cx_X9_linesOn {cc : ByteArray} {nL : Nat} {own : String} {ret : Option FieldType} {idx pc : Nat} {p1 : Int} {p2 : Int} (X : CX p m c cc nL s args own G B κ meth ret) (T : XT l c) (hp1 : inR p1) (hp2 : inR p2) {k mc ms cells slots : Nat} (hk : 8 + 1 ≤ k) (hcel : cells + 2 ≤ mc ∧ slots + 12 ≤ ms) {M : Mem} {H : Heap} {locs : List Loc} (hR : Rp G e0 α κ B M H) (hS : va_S (fun q => B ≤ q) s.heap H locs) (k1 : Cond.methodLink own idx yX9_linesOn ∈ gw) {ls : Array Slot} (hml : ls.size = nL) {rest : List Value} (hd : decode cc pc = .ok (.invokevirtual idx, 3)) (hrest : (rest.map fun v => v.category).sum ≤ 8) {Qc : Array Value → State → Outcome → State → Prop} {Qm : Int → Mem → Prop} {Xm : String → Mem → Prop} (hw : wp_X9_linesOn p1 p2 M Xm Qm) (kk : ∀ (r : Int) (M1 : Mem) (H1 : Heap) (locs1 : List Loc), Qm r M1 → inR r → Rp G e0 α κ B M1 H1 → va_S (fun q => B ≤ q) s.heap H1 locs1 → W p l e (rmX k mc ms) s m args below meth c H1 locs1 (cells + 2) (slots + 12) (vx_MQ below Qc (XQ G e0 α κ B Xm) args s mc ms (fun q => B ≤ q)) (F0 m (pc + 3) ls (.int (Int32.ofInt r) :: rest))) : W p l e (rmX k mc ms) s m args below meth c H locs cells slots (vx_MQ below Qc (XQ G e0 α κ B Xm) args s mc ms (fun q => B ≤ q)) (F0 m pc ls (.int (Int32.ofInt p2) :: .int (Int32.ofInt p1) :: .ref (α 10 0) :: rest)) :=
  sx_callVI 8 (n := 2) (As := [.int (Int32.ofInt p1), .int (Int32.ofInt p2)]) (rest := rest) X T hR hS (m_X9_linesOn T.1 X.2.2.1 hp1 hp2 hw) k1 kw_1360 kw_1361 kw_38 kw_1362 ⟨rfl, by decide +kernel, by decide +kernel, by decide +kernel⟩ (rm_ok rmX_ok hk (by decide)) (rc_10 X hR (okf X.2.2.1 rfl)) rfl rfl hrest hml hd hcel kk
def wp_X9_shown_35 (p1 : Int) (p2 : Int) (Xm : String → Mem → Prop) (Qm : Int → Mem → Prop) (M : Mem) : Prop := Xm xIAE M
def wp_X9_shown (p1 : Int) (p2 : Int) (M : Mem) (Xm : String → Mem → Prop) (Qm : Int → Mem → Prop) : Prop := wp_X9_requireCell p1 M Xm fun (M1 : Mem) => (0 ≤ p1 ∧ p1 < M1 14 0 (-1)) ∧ ((¬ (M1 6 (M1 1 (M1 14 0 p1) 0) 1) = 1 → wp_X9_shown_35 p1 p2 Xm Qm M1) ∧ ((M1 6 (M1 1 (M1 14 0 p1) 0) 1) = 1 → ((0 ≤ p2 → wp_X9_refresh M1 fun (M6 : Mem) => wp_X9_requireSheets M6 Xm fun (M7 : Mem) => wp_X6_pieceBeginOf 0 p2 M7 fun (x9 : Int) (M8 : Mem) => wp_X9_linesOfRowsOf (M1 14 0 p1) 0 x9 M8 fun (x12 : Int) (M11 : Mem) => wp_X6_pieceEndOf 0 p2 M11 fun (x15 : Int) (M14 : Mem) => wp_X9_linesOfRowsOf (M1 14 0 p1) x9 x15 M14 fun (x18 : Int) (M17 : Mem) => (0 ≤ p1 ∧ p1 < 100) ∧ (inR ((M17 34 0 p1) - x12)) ∧ Qm (max 0 (min x18 ((M17 34 0 p1) - x12))) M17) ∧ (p2 < 0 → wp_X9_shown_35 p1 p2 Xm Qm M1))))
set_option maxHeartbeats 4000000 in
set_option maxRecDepth 100000 in
theorem t_X9_shown_35 {p1 : Int} {p2 : Int} (X : CX p m c cX9_shown 7 s args RX9 G B κ meth (some .int)) (T : XT l c) (hp1 : inR p1) (hp2 : inR p2) {Xm : String → Mem → Prop} {Qm : Int → Mem → Prop} : ∀ M : Mem, wp_X9_shown_35 p1 p2 Xm Qm M → ∀ (H : Heap) (locs : List Loc), Rp G e0 α κ B M H → va_S (fun q => B ≤ q) s.heap H locs → ∀ (ls : Array Slot), lv_has ls 7 [] → WXI p l e 8 2 12 s m args below meth c G e0 α κ B Qm Xm H locs 1 6 35 ls [] := by
  intro M hw H locs hR hS ls hl
  have hw : Xm xIAE M := hw
  exact sx_throwW (text := "it is no cell of the body, or page is below 0") X T xw_IAE (by decide +kernel) hR hS hl.1 dX9_shown_35 dX9_shown_38 dX9_shown_39 dX9_shown_42 dX9_shown_45 (by decide) (by decide) (by decide) hw
set_option maxHeartbeats 4000000 in
set_option maxRecDepth 100000 in
theorem t_X9_shown {p1 : Int} {p2 : Int} (X : CX p m c cX9_shown 7 s args RX9 G B κ meth (some .int)) (T : XT l c) (hp1 : inR p1) (hp2 : inR p2) {M : Mem} {Xm : String → Mem → Prop} {Qm : Int → Mem → Prop} (hw : wp_X9_shown p1 p2 M Xm Qm) (H : Heap) (locs : List Loc) (hR : Rp G e0 α κ B M H) (hS : va_S (fun q => B ≤ q) s.heap H locs) (ls : Array Slot) (hl : lv_has ls 7 [(0, .ref (α 10 0)), (1, .int (Int32.ofInt p1)), (2, .int (Int32.ofInt p2))]) : WXI p l e 8 2 12 s m args below meth c G e0 α κ B Qm Xm H locs 0 0 0 ls [] := by
  have hw : wp_X9_requireCell p1 M Xm fun (M1 : Mem) => (0 ≤ p1 ∧ p1 < M1 14 0 (-1)) ∧ ((¬ (M1 6 (M1 1 (M1 14 0 p1) 0) 1) = 1 → wp_X9_shown_35 p1 p2 Xm Qm M1) ∧ ((M1 6 (M1 1 (M1 14 0 p1) 0) 1) = 1 → ((0 ≤ p2 → wp_X9_refresh M1 fun (M6 : Mem) => wp_X9_requireSheets M6 Xm fun (M7 : Mem) => wp_X6_pieceBeginOf 0 p2 M7 fun (x9 : Int) (M8 : Mem) => wp_X9_linesOfRowsOf (M1 14 0 p1) 0 x9 M8 fun (x12 : Int) (M11 : Mem) => wp_X6_pieceEndOf 0 p2 M11 fun (x15 : Int) (M14 : Mem) => wp_X9_linesOfRowsOf (M1 14 0 p1) x9 x15 M14 fun (x18 : Int) (M17 : Mem) => (0 ≤ p1 ∧ p1 < 100) ∧ (inR ((M17 34 0 p1) - x12)) ∧ Qm (max 0 (min x18 ((M17 34 0 p1) - x12))) M17) ∧ (p2 < 0 → wp_X9_shown_35 p1 p2 Xm Qm M1)))) := hw
  refine lv_aload_n X.1.1 X.1.2.1 dX9_shown_0 rfl (lv_at hl 0 rfl) ?_
  refine lv_iload_n X.1.1 X.1.2.1 dX9_shown_1 rfl (lv_at hl 1 rfl) ?_
  refine cx_X9_requireCell X T hp1 (by decide) ⟨by decide, by decide⟩ hR hS kw_1077 hl.1 dX9_shown_2 (Nat.le_of_ble_eq_true rfl) hw (fun M1 H locs hw hR hS => ?_)
  refine W.widen (k := 1) (n := 6) (by decide) (by decide) ?_
  refine lv_aload_n X.1.1 X.1.2.1 dX9_shown_5 rfl (lv_at hl 0 rfl) ?_
  refine gt_10_0 X hR (okf X.2.2.1 rfl) kw_332 dX9_shown_6 ?_
  refine gt_4_2 X hR (okf X.2.2.1 rfl) kw_121 dX9_shown_9 ?_
  refine lv_iload_n X.1.1 X.1.2.1 dX9_shown_12 rfl (lv_at hl 1 rfl) ?_
  have c2 := hw.1
  have hw := hw.2
  refine ls_get (ci := 1) (by decide) (by decide) rfl X c2 (kc := 8) rmX_ok ⟨by decide, by decide⟩ (by decide) hR hS kw_969 hl.1 dX9_shown_13 (Nat.le_of_ble_eq_true rfl) (fun H locs o3 hR hS => ?_)
  refine ck_1 X hR o3 kw_976 dX9_shown_16 ?_
  refine lv_astore_n (lv' := [(3, .ref (α 1 (M1 14 0 p1))), (0, .ref (α 10 0)), (1, .int (Int32.ofInt p1)), (2, .int (Int32.ofInt p2))]) X.1.1 X.1.2.1 dX9_shown_19 rfl hl (by decide) rfl (fun ls hl => ?_)
  refine lv_aload_n X.1.1 X.1.2.1 dX9_shown_20 rfl (lv_at hl 0 rfl) ?_
  refine gt_1_0 X hR o3 kw_985 dX9_shown_21 ?_
  have o4 := hR.2.2.2.1 _ o3
  refine gt_6_1 X hR o4 kw_895 dX9_shown_24 ?_
  have r5 := hR.r 6 (M1 1 (M1 14 0 p1) 0) 1
  refine sa_const X.1 dX9_shown_27 ?_
  refine sa_icmp_ne (tgt := 35) X.1 r5 (inR_c (a := 1) rfl) dX9_shown_28 (by decide) (fun hc => ?_) (fun hc => ?_)
  · have hw := hw.1 hc
    exact t_X9_shown_35 X T hp1 hp2 _ hw _ _ hR hS _ (lv_sub hl [] rfl)
  · have hw := hw.2 hc
    refine lv_iload_n X.1.1 X.1.2.1 dX9_shown_31 rfl (lv_at hl 3 rfl) ?_
    refine sa_if_ge (tgt := 46) X.1 hp2 dX9_shown_32 (by decide) (fun hc => ?_) (fun hc => ?_)
    · have hw := hw.1 hc
      refine lv_aload_n X.1.1 X.1.2.1 dX9_shown_46 rfl (lv_at hl 1 rfl) ?_
      refine cs_X9_refresh X  (kc := 8) rmX_ok ⟨by decide, by decide⟩ (by decide) hR hS kw_370 hl.1 dX9_shown_47 (Nat.le_of_ble_eq_true rfl) hw (fun M6 H locs hw hR hS => ?_)
      refine lv_aload_n X.1.1 X.1.2.1 dX9_shown_50 rfl (lv_at hl 1 rfl) ?_
      refine cx_X9_requireSheets X T  (by decide) ⟨by decide, by decide⟩ hR hS kw_1343 hl.1 dX9_shown_51 (Nat.le_of_ble_eq_true rfl) hw (fun M7 H locs hw hR hS => ?_)
      refine W.widen (k := 2) (n := 12) (by decide) (by decide) ?_
      refine lv_aload_n X.1.1 X.1.2.1 dX9_shown_54 rfl (lv_at hl 1 rfl) ?_
      refine gt_10_5 X hR (okf X.2.2.1 rfl) kw_337 dX9_shown_55 ?_
      refine lv_iload_n X.1.1 X.1.2.1 dX9_shown_58 rfl (lv_at hl 3 rfl) ?_
      refine cs_X6_pieceBeginOf X (okp X.2.2.1 rfl (by decide)) hp2 (kc := 8) rmX_ok ⟨by decide, by decide⟩ (by decide) hR hS kw_1365 hl.1 dX9_shown_59 (Nat.le_of_ble_eq_true rfl) hw (fun x9 M8 H locs hw r10 hR hS => ?_)
      refine lv_istore (lv' := [(4, .int (Int32.ofInt x9)), (3, .ref (α 1 (M1 14 0 p1))), (0, .ref (α 10 0)), (1, .int (Int32.ofInt p1)), (2, .int (Int32.ofInt p2))]) X.1.1 X.1.2.1 dX9_shown_62 hl (by decide) rfl (fun ls hl => ?_)
      refine lv_aload_n X.1.1 X.1.2.1 dX9_shown_64 rfl (lv_at hl 2 rfl) ?_
      refine lv_aload_n X.1.1 X.1.2.1 dX9_shown_65 rfl (lv_at hl 1 rfl) ?_
      refine sa_const X.1 dX9_shown_66 ?_
      refine lv_iload X.1.1 X.1.2.1 dX9_shown_67 (lv_at hl 0 rfl) ?_
      refine cs_X9_linesOfRowsOf X o3 (inR_c (a := 0) rfl) r10 (kc := 8) rmX_ok ⟨by decide, by decide⟩ (by decide) hR hS kw_1404 hl.1 dX9_shown_69 (Nat.le_of_ble_eq_true rfl) hw (fun x12 M11 H locs hw r13 hR hS => ?_)
      refine lv_istore (lv' := [(5, .int (Int32.ofInt x12)), (4, .int (Int32.ofInt x9)), (3, .ref (α 1 (M1 14 0 p1))), (0, .ref (α 10 0)), (1, .int (Int32.ofInt p1)), (2, .int (Int32.ofInt p2))]) X.1.1 X.1.2.1 dX9_shown_72 hl (by decide) rfl (fun ls hl => ?_)
      refine lv_aload_n X.1.1 X.1.2.1 dX9_shown_74 rfl (lv_at hl 3 rfl) ?_
      refine lv_aload_n X.1.1 X.1.2.1 dX9_shown_75 rfl (lv_at hl 2 rfl) ?_
      refine lv_iload X.1.1 X.1.2.1 dX9_shown_76 (lv_at hl 1 rfl) ?_
      refine lv_aload_n X.1.1 X.1.2.1 dX9_shown_78 rfl (lv_at hl 3 rfl) ?_
      refine gt_10_5 X hR (okf X.2.2.1 rfl) kw_337 dX9_shown_79 ?_
      refine lv_iload_n X.1.1 X.1.2.1 dX9_shown_82 rfl (lv_at hl 5 rfl) ?_
      refine cs_X6_pieceEndOf X (okp X.2.2.1 rfl (by decide)) hp2 (kc := 8) rmX_ok ⟨by decide, by decide⟩ (by decide) hR hS kw_1366 hl.1 dX9_shown_83 (Nat.le_of_ble_eq_true rfl) hw (fun x15 M14 H locs hw r16 hR hS => ?_)
      refine cs_X9_linesOfRowsOf X o3 r10 r16 (kc := 8) rmX_ok ⟨by decide, by decide⟩ (by decide) hR hS kw_1404 hl.1 dX9_shown_86 (Nat.le_of_ble_eq_true rfl) hw (fun x18 M17 H locs hw r19 hR hS => ?_)
      refine lv_istore (lv' := [(6, .int (Int32.ofInt x18)), (5, .int (Int32.ofInt x12)), (4, .int (Int32.ofInt x9)), (3, .ref (α 1 (M1 14 0 p1))), (0, .ref (α 10 0)), (1, .int (Int32.ofInt p1)), (2, .int (Int32.ofInt p2))]) X.1.1 X.1.2.1 dX9_shown_89 hl (by decide) rfl (fun ls hl => ?_)
      refine sa_const X.1 dX9_shown_91 ?_
      refine lv_iload X.1.1 X.1.2.1 dX9_shown_92 (lv_at hl 0 rfl) ?_
      refine lv_aload_n X.1.1 X.1.2.1 dX9_shown_94 rfl (lv_at hl 4 rfl) ?_
      refine gt_10_2 X hR (okf X.2.2.1 rfl) kw_334 dX9_shown_95 ?_
      refine gt_5_1 X hR (okp X.2.2.1 rfl (by decide)) kw_193 dX9_shown_98 ?_
      refine lv_iload_n X.1.1 X.1.2.1 dX9_shown_101 rfl (lv_at hl 5 rfl) ?_
      have c20 := hw.1
      have hw := hw.2
      refine ra_34 X hR (okp X.2.2.1 rfl (pr_5 X.2.2.1 (okp X.2.2.1 rfl (by decide)))) c20 dX9_shown_102 ?_
      have r21 := hR.r 34 0 p1
      refine lv_iload X.1.1 X.1.2.1 dX9_shown_103 (lv_at hl 1 rfl) ?_
      have c22 := hw.1
      have hw := hw.2
      refine sa_isub X.1 dX9_shown_105 ?_
      refine sa_min (R := rmX 8 2 12) X.1 r19 c22 kw_1408 hl.1 kmath_min_s kmath_i kmath_min_c (by decide) (Nat.le_of_ble_eq_true rfl) ⟨by decide, by decide⟩ dX9_shown_106 ?_
      refine sa_max (R := rmX 8 2 12) X.1 (inR_c (a := 0) rfl) (inR_min r19 c22) hl.1 kw_1318 kmath_max_s kmath_i kmath_max_c (by decide) (Nat.le_of_ble_eq_true rfl) ⟨by decide, by decide⟩ dX9_shown_109 ?_
      exact sx_iret X hR hS (inR_max (inR_c (a := 0) rfl) (inR_min r19 c22)) hw dX9_shown_112 (by decide) (by decide)
    · have hw := hw.2 hc
      exact t_X9_shown_35 X T hp1 hp2 _ hw _ _ hR hS _ (lv_sub hl [] rfl)
theorem m_X9_shown {l : Launch} {G : Gx} {e0 : Nat} {α : Ax} {κ : Nat → Int} {B : Nat} {p1 : Int} {p2 : Int} (hlt : l.stackTraces = false) (hκ : kOK κ) (hp1 : inR p1) (hp2 : inR p2) {M : Mem} {Qm : Int → Mem → Prop} {Xm : String → Mem → Prop} (hw : wp_X9_shown p1 p2 M Xm Qm) : XI l yX9_shown (Cond.code yX9_shown cX9_shown 7 (some .int)) 8 2 12 G e0 α κ B [.ref (α 10 0), .int (Int32.ofInt p1), .int (Int32.ofInt p2)] M Qm Xm :=
  XI.mk hlt hκ (by decide +kernel) rfl (Nat.le_of_ble_eq_true rfl) (lv := [(0, .ref (α 10 0)), (1, .int (Int32.ofInt p1)), (2, .int (Int32.ofInt p2))]) rfl (fun p e s m args below meth c ls X T hR hS hl => t_X9_shown X T hp1 hp2 hw _ _ hR hS ls hl)
theorem cx_X9_shown {cc : ByteArray} {nL : Nat} {own : String} {ret : Option FieldType} {idx pc : Nat} {p1 : Int} {p2 : Int} (X : CX p m c cc nL s args own G B κ meth ret) (T : XT l c) (hp1 : inR p1) (hp2 : inR p2) {k mc ms cells slots : Nat} (hk : 8 + 1 ≤ k) (hcel : cells + 2 ≤ mc ∧ slots + 12 ≤ ms) {M : Mem} {H : Heap} {locs : List Loc} (hR : Rp G e0 α κ B M H) (hS : va_S (fun q => B ≤ q) s.heap H locs) (k1 : Cond.methodLink own idx yX9_shown ∈ gw) {ls : Array Slot} (hml : ls.size = nL) {rest : List Value} (hd : decode cc pc = .ok (.invokevirtual idx, 3)) (hrest : (rest.map fun v => v.category).sum ≤ 8) {Qc : Array Value → State → Outcome → State → Prop} {Qm : Int → Mem → Prop} {Xm : String → Mem → Prop} (hw : wp_X9_shown p1 p2 M Xm Qm) (kk : ∀ (r : Int) (M1 : Mem) (H1 : Heap) (locs1 : List Loc), Qm r M1 → inR r → Rp G e0 α κ B M1 H1 → va_S (fun q => B ≤ q) s.heap H1 locs1 → W p l e (rmX k mc ms) s m args below meth c H1 locs1 (cells + 2) (slots + 12) (vx_MQ below Qc (XQ G e0 α κ B Xm) args s mc ms (fun q => B ≤ q)) (F0 m (pc + 3) ls (.int (Int32.ofInt r) :: rest))) : W p l e (rmX k mc ms) s m args below meth c H locs cells slots (vx_MQ below Qc (XQ G e0 α κ B Xm) args s mc ms (fun q => B ≤ q)) (F0 m pc ls (.int (Int32.ofInt p2) :: .int (Int32.ofInt p1) :: .ref (α 10 0) :: rest)) :=
  sx_callVI 8 (n := 2) (As := [.int (Int32.ofInt p1), .int (Int32.ofInt p2)]) (rest := rest) X T hR hS (m_X9_shown T.1 X.2.2.1 hp1 hp2 hw) k1 kw_1400 kw_1401 kw_38 kw_1402 ⟨rfl, by decide +kernel, by decide +kernel, by decide +kernel⟩ (rm_ok rmX_ok hk (by decide)) (rc_10 X hR (okf X.2.2.1 rfl)) rfl rfl hrest hml hd hcel kk
end
