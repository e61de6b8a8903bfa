theorem dL_column_0 : decode cL_column 0 = .ok (.aload_n 3, 1) := by decide +kernel
theorem dL_column_1 : decode cL_column 1 = .ok (.iconst 0, 1) := by decide +kernel
theorem dL_column_2 : decode cL_column 2 = .ok (.aload_n 0, 1) := by decide +kernel
theorem dL_column_3 : decode cL_column 3 = .ok (.iload_n 1, 1) := by decide +kernel
theorem dL_column_4 : decode cL_column 4 = .ok (.iload_n 2, 1) := by decide +kernel
theorem dL_column_5 : decode cL_column 5 = .ok (.invokevirtual 7, 3) := by decide +kernel
theorem dL_column_8 : decode cL_column 8 = .ok (.i2l, 1) := by decide +kernel
theorem dL_column_9 : decode cL_column 9 = .ok (.lastore, 1) := by decide +kernel
theorem dL_column_10 : decode cL_column 10 = .ok (.goto 11, 3) := by decide +kernel
theorem dL_column_13 : decode cL_column 13 = .ok (.astore 4, 2) := by decide +kernel
theorem dL_column_15 : decode cL_column 15 = .ok (.iconst 1, 1) := by decide +kernel
theorem dL_column_16 : decode cL_column 16 = .ok (.ireturn, 1) := by decide +kernel
theorem dL_column_17 : decode cL_column 17 = .ok (.astore 4, 2) := by decide +kernel
theorem dL_column_19 : decode cL_column 19 = .ok (.iconst 2, 1) := by decide +kernel
theorem dL_column_20 : decode cL_column 20 = .ok (.ireturn, 1) := by decide +kernel
theorem dL_column_21 : decode cL_column 21 = .ok (.iconst 0, 1) := by decide +kernel
theorem dL_column_22 : decode cL_column 22 = .ok (.ireturn, 1) := by decide +kernel
theorem dL_row_0 : decode cL_row 0 = .ok (.aload 4, 2) := by decide +kernel
theorem dL_row_2 : decode cL_row 2 = .ok (.iconst 0, 1) := by decide +kernel
theorem dL_row_3 : decode cL_row 3 = .ok (.aload_n 0, 1) := by decide +kernel
theorem dL_row_4 : decode cL_row 4 = .ok (.iload_n 1, 1) := by decide +kernel
theorem dL_row_5 : decode cL_row 5 = .ok (.iload_n 2, 1) := by decide +kernel
theorem dL_row_6 : decode cL_row 6 = .ok (.iload_n 3, 1) := by decide +kernel
theorem dL_row_7 : decode cL_row 7 = .ok (.invokevirtual 17, 3) := by decide +kernel
theorem dL_row_10 : decode cL_row 10 = .ok (.i2l, 1) := by decide +kernel
theorem dL_row_11 : decode cL_row 11 = .ok (.lastore, 1) := by decide +kernel
theorem dL_row_12 : decode cL_row 12 = .ok (.goto 11, 3) := by decide +kernel
theorem dL_row_15 : decode cL_row 15 = .ok (.astore 5, 2) := by decide +kernel
theorem dL_row_17 : decode cL_row 17 = .ok (.iconst 1, 1) := by decide +kernel
theorem dL_row_18 : decode cL_row 18 = .ok (.ireturn, 1) := by decide +kernel
theorem dL_row_19 : decode cL_row 19 = .ok (.astore 5, 2) := by decide +kernel
theorem dL_row_21 : decode cL_row 21 = .ok (.iconst 2, 1) := by decide +kernel
theorem dL_row_22 : decode cL_row 22 = .ok (.ireturn, 1) := by decide +kernel
theorem dL_row_23 : decode cL_row 23 = .ok (.iconst 0, 1) := by decide +kernel
theorem dL_row_24 : decode cL_row 24 = .ok (.ireturn, 1) := by decide +kernel
theorem dL_cell_0 : decode cL_cell 0 = .ok (.aload 5, 2) := by decide +kernel
theorem dL_cell_2 : decode cL_cell 2 = .ok (.iconst 0, 1) := by decide +kernel
theorem dL_cell_3 : decode cL_cell 3 = .ok (.aload_n 0, 1) := by decide +kernel
theorem dL_cell_4 : decode cL_cell 4 = .ok (.iload_n 1, 1) := by decide +kernel
theorem dL_cell_5 : decode cL_cell 5 = .ok (.iload_n 2, 1) := by decide +kernel
theorem dL_cell_6 : decode cL_cell 6 = .ok (.iload_n 3, 1) := by decide +kernel
theorem dL_cell_7 : decode cL_cell 7 = .ok (.iload 4, 2) := by decide +kernel
theorem dL_cell_9 : decode cL_cell 9 = .ok (.invokevirtual 21, 3) := by decide +kernel
theorem dL_cell_12 : decode cL_cell 12 = .ok (.i2l, 1) := by decide +kernel
theorem dL_cell_13 : decode cL_cell 13 = .ok (.lastore, 1) := by decide +kernel
theorem dL_cell_14 : decode cL_cell 14 = .ok (.goto 15, 3) := by decide +kernel
theorem dL_cell_17 : decode cL_cell 17 = .ok (.astore 6, 2) := by decide +kernel
theorem dL_cell_19 : decode cL_cell 19 = .ok (.iconst 1, 1) := by decide +kernel
theorem dL_cell_20 : decode cL_cell 20 = .ok (.ireturn, 1) := by decide +kernel
theorem dL_cell_21 : decode cL_cell 21 = .ok (.astore 6, 2) := by decide +kernel
theorem dL_cell_23 : decode cL_cell 23 = .ok (.iconst 2, 1) := by decide +kernel
theorem dL_cell_24 : decode cL_cell 24 = .ok (.ireturn, 1) := by decide +kernel
theorem dL_cell_25 : decode cL_cell 25 = .ok (.astore 6, 2) := by decide +kernel
theorem dL_cell_27 : decode cL_cell 27 = .ok (.iconst 3, 1) := by decide +kernel
theorem dL_cell_28 : decode cL_cell 28 = .ok (.ireturn, 1) := by decide +kernel
theorem dL_cell_29 : decode cL_cell 29 = .ok (.iconst 0, 1) := by decide +kernel
theorem dL_cell_30 : decode cL_cell 30 = .ok (.ireturn, 1) := by decide +kernel
theorem dL_word_0 : decode cL_word 0 = .ok (.aload 4, 2) := by decide +kernel
theorem dL_word_2 : decode cL_word 2 = .ok (.iconst 0, 1) := by decide +kernel
theorem dL_word_3 : decode cL_word 3 = .ok (.aload_n 0, 1) := by decide +kernel
theorem dL_word_4 : decode cL_word 4 = .ok (.iload_n 1, 1) := by decide +kernel
theorem dL_word_5 : decode cL_word 5 = .ok (.iload_n 2, 1) := by decide +kernel
theorem dL_word_6 : decode cL_word 6 = .ok (.iload_n 3, 1) := by decide +kernel
theorem dL_word_7 : decode cL_word 7 = .ok (.invokevirtual 27, 3) := by decide +kernel
theorem dL_word_10 : decode cL_word 10 = .ok (.i2l, 1) := by decide +kernel
theorem dL_word_11 : decode cL_word 11 = .ok (.lastore, 1) := by decide +kernel
theorem dL_word_12 : decode cL_word 12 = .ok (.goto 15, 3) := by decide +kernel
theorem dL_word_15 : decode cL_word 15 = .ok (.astore 5, 2) := by decide +kernel
theorem dL_word_17 : decode cL_word 17 = .ok (.iconst 1, 1) := by decide +kernel
theorem dL_word_18 : decode cL_word 18 = .ok (.ireturn, 1) := by decide +kernel
theorem dL_word_19 : decode cL_word 19 = .ok (.astore 5, 2) := by decide +kernel
theorem dL_word_21 : decode cL_word 21 = .ok (.iconst 2, 1) := by decide +kernel
theorem dL_word_22 : decode cL_word 22 = .ok (.ireturn, 1) := by decide +kernel
theorem dL_word_23 : decode cL_word 23 = .ok (.astore 5, 2) := by decide +kernel
theorem dL_word_25 : decode cL_word 25 = .ok (.iconst 3, 1) := by decide +kernel
theorem dL_word_26 : decode cL_word 26 = .ok (.ireturn, 1) := by decide +kernel
theorem dL_word_27 : decode cL_word 27 = .ok (.iconst 0, 1) := by decide +kernel
theorem dL_word_28 : decode cL_word 28 = .ok (.ireturn, 1) := by decide +kernel
theorem dL_figure_0 : decode cL_figure 0 = .ok (.aload_n 0, 1) := by decide +kernel
theorem dL_figure_1 : decode cL_figure 1 = .ok (.iload_n 1, 1) := by decide +kernel
theorem dL_figure_2 : decode cL_figure 2 = .ok (.iload_n 2, 1) := by decide +kernel
theorem dL_figure_3 : decode cL_figure 3 = .ok (.iload_n 3, 1) := by decide +kernel
theorem dL_figure_4 : decode cL_figure 4 = .ok (.invokevirtual 31, 3) := by decide +kernel
theorem dL_figure_7 : decode cL_figure 7 = .ok (.goto 15, 3) := by decide +kernel
theorem dL_figure_10 : decode cL_figure 10 = .ok (.astore 4, 2) := by decide +kernel
theorem dL_figure_12 : decode cL_figure 12 = .ok (.iconst 1, 1) := by decide +kernel
theorem dL_figure_13 : decode cL_figure 13 = .ok (.ireturn, 1) := by decide +kernel
theorem dL_figure_14 : decode cL_figure 14 = .ok (.astore 4, 2) := by decide +kernel
theorem dL_figure_16 : decode cL_figure 16 = .ok (.iconst 2, 1) := by decide +kernel
theorem dL_figure_17 : decode cL_figure 17 = .ok (.ireturn, 1) := by decide +kernel
theorem dL_figure_18 : decode cL_figure 18 = .ok (.astore 4, 2) := by decide +kernel
theorem dL_figure_20 : decode cL_figure 20 = .ok (.iconst 3, 1) := by decide +kernel
theorem dL_figure_21 : decode cL_figure 21 = .ok (.ireturn, 1) := by decide +kernel
theorem dL_figure_22 : decode cL_figure 22 = .ok (.iconst 0, 1) := by decide +kernel
theorem dL_figure_23 : decode cL_figure 23 = .ok (.ireturn, 1) := by decide +kernel
theorem dL_empty_0 : decode cL_empty 0 = .ok (.aload_n 2, 1) := by decide +kernel
theorem dL_empty_1 : decode cL_empty 1 = .ok (.iconst 0, 1) := by decide +kernel
theorem dL_empty_2 : decode cL_empty 2 = .ok (.aload_n 0, 1) := by decide +kernel
theorem dL_empty_3 : decode cL_empty 3 = .ok (.iload_n 1, 1) := by decide +kernel
theorem dL_empty_4 : decode cL_empty 4 = .ok (.invokevirtual 35, 3) := by decide +kernel
theorem dL_empty_7 : decode cL_empty 7 = .ok (.i2l, 1) := by decide +kernel
theorem dL_empty_8 : decode cL_empty 8 = .ok (.lastore, 1) := by decide +kernel
theorem dL_empty_9 : decode cL_empty 9 = .ok (.goto 6, 3) := by decide +kernel
theorem dL_empty_12 : decode cL_empty 12 = .ok (.astore_n 3, 1) := by decide +kernel
theorem dL_empty_13 : decode cL_empty 13 = .ok (.iconst 1, 1) := by decide +kernel
theorem dL_empty_14 : decode cL_empty 14 = .ok (.ireturn, 1) := by decide +kernel
theorem dL_empty_15 : decode cL_empty 15 = .ok (.iconst 0, 1) := by decide +kernel
theorem dL_empty_16 : decode cL_empty 16 = .ok (.ireturn, 1) := by decide +kernel
theorem dL_note_0 : decode cL_note 0 = .ok (.aload_n 3, 1) := by decide +kernel
theorem dL_note_1 : decode cL_note 1 = .ok (.iconst 0, 1) := by decide +kernel
theorem dL_note_2 : decode cL_note 2 = .ok (.aload_n 0, 1) := by decide +kernel
theorem dL_note_3 : decode cL_note 3 = .ok (.iload_n 1, 1) := by decide +kernel
theorem dL_note_4 : decode cL_note 4 = .ok (.iload_n 2, 1) := by decide +kernel
theorem dL_note_5 : decode cL_note 5 = .ok (.invokevirtual 39, 3) := by decide +kernel
theorem dL_note_8 : decode cL_note 8 = .ok (.i2l, 1) := by decide +kernel
theorem dL_note_9 : decode cL_note 9 = .ok (.lastore, 1) := by decide +kernel
theorem dL_note_10 : decode cL_note 10 = .ok (.goto 15, 3) := by decide +kernel
theorem dL_note_13 : decode cL_note 13 = .ok (.astore 4, 2) := by decide +kernel
theorem dL_note_15 : decode cL_note 15 = .ok (.iconst 1, 1) := by decide +kernel
theorem dL_note_16 : decode cL_note 16 = .ok (.ireturn, 1) := by decide +kernel
theorem dL_note_17 : decode cL_note 17 = .ok (.astore 4, 2) := by decide +kernel
theorem dL_note_19 : decode cL_note 19 = .ok (.iconst 2, 1) := by decide +kernel
theorem dL_note_20 : decode cL_note 20 = .ok (.ireturn, 1) := by decide +kernel
theorem dL_note_21 : decode cL_note 21 = .ok (.astore 4, 2) := by decide +kernel
theorem dL_note_23 : decode cL_note 23 = .ok (.iconst 3, 1) := by decide +kernel
theorem dL_note_24 : decode cL_note 24 = .ok (.ireturn, 1) := by decide +kernel
theorem dL_note_25 : decode cL_note 25 = .ok (.iconst 0, 1) := by decide +kernel
theorem dL_note_26 : decode cL_note 26 = .ok (.ireturn, 1) := by decide +kernel
theorem dL_at_0 : decode cL_at 0 = .ok (.aload_n 3, 1) := by decide +kernel
theorem dL_at_1 : decode cL_at 1 = .ok (.iconst 0, 1) := by decide +kernel
theorem dL_at_2 : decode cL_at 2 = .ok (.aload_n 0, 1) := by decide +kernel
theorem dL_at_3 : decode cL_at 3 = .ok (.iload_n 1, 1) := by decide +kernel
theorem dL_at_4 : decode cL_at 4 = .ok (.iload_n 2, 1) := by decide +kernel
theorem dL_at_5 : decode cL_at 5 = .ok (.invokevirtual 42, 3) := by decide +kernel
theorem dL_at_8 : decode cL_at 8 = .ok (.i2l, 1) := by decide +kernel
theorem dL_at_9 : decode cL_at 9 = .ok (.lastore, 1) := by decide +kernel
theorem dL_at_10 : decode cL_at 10 = .ok (.goto 7, 3) := by decide +kernel
theorem dL_at_13 : decode cL_at 13 = .ok (.astore 4, 2) := by decide +kernel
theorem dL_at_15 : decode cL_at 15 = .ok (.iconst 1, 1) := by decide +kernel
theorem dL_at_16 : decode cL_at 16 = .ok (.ireturn, 1) := by decide +kernel
theorem dL_at_17 : decode cL_at 17 = .ok (.iconst 0, 1) := by decide +kernel
theorem dL_at_18 : decode cL_at 18 = .ok (.ireturn, 1) := by decide +kernel
theorem dL_setPaper_0 : decode cL_setPaper 0 = .ok (.aload_n 0, 1) := by decide +kernel
theorem dL_setPaper_1 : decode cL_setPaper 1 = .ok (.iload_n 1, 1) := by decide +kernel
theorem dL_setPaper_2 : decode cL_setPaper 2 = .ok (.iload_n 2, 1) := by decide +kernel
theorem dL_setPaper_3 : decode cL_setPaper 3 = .ok (.invokevirtual 45, 3) := by decide +kernel
theorem dL_setPaper_6 : decode cL_setPaper 6 = .ok (.goto 6, 3) := by decide +kernel
theorem dL_setPaper_9 : decode cL_setPaper 9 = .ok (.astore_n 3, 1) := by decide +kernel
theorem dL_setPaper_10 : decode cL_setPaper 10 = .ok (.iconst 1, 1) := by decide +kernel
theorem dL_setPaper_11 : decode cL_setPaper 11 = .ok (.ireturn, 1) := by decide +kernel
theorem dL_setPaper_12 : decode cL_setPaper 12 = .ok (.iconst 0, 1) := by decide +kernel
theorem dL_setPaper_13 : decode cL_setPaper 13 = .ok (.ireturn, 1) := by decide +kernel
theorem dL_totalled_0 : decode cL_totalled 0 = .ok (.aload_n 2, 1) := by decide +kernel
theorem dL_totalled_1 : decode cL_totalled 1 = .ok (.iconst 0, 1) := by decide +kernel
theorem dL_totalled_2 : decode cL_totalled 2 = .ok (.aload_n 0, 1) := by decide +kernel
theorem dL_totalled_3 : decode cL_totalled 3 = .ok (.iload_n 1, 1) := by decide +kernel
theorem dL_totalled_4 : decode cL_totalled 4 = .ok (.invokevirtual 49, 3) := by decide +kernel
theorem dL_totalled_7 : decode cL_totalled 7 = .ok (.ifCond .eq 7, 3) := by decide +kernel
theorem dL_totalled_10 : decode cL_totalled 10 = .ok (.lconst 1, 1) := by decide +kernel
theorem dL_totalled_11 : decode cL_totalled 11 = .ok (.goto 4, 3) := by decide +kernel
theorem dL_totalled_14 : decode cL_totalled 14 = .ok (.lconst 0, 1) := by decide +kernel
theorem dL_totalled_15 : decode cL_totalled 15 = .ok (.lastore, 1) := by decide +kernel
theorem dL_totalled_16 : decode cL_totalled 16 = .ok (.goto 6, 3) := by decide +kernel
theorem dL_totalled_19 : decode cL_totalled 19 = .ok (.astore_n 3, 1) := by decide +kernel
theorem dL_totalled_20 : decode cL_totalled 20 = .ok (.iconst 1, 1) := by decide +kernel
theorem dL_totalled_21 : decode cL_totalled 21 = .ok (.ireturn, 1) := by decide +kernel
theorem dL_totalled_22 : decode cL_totalled 22 = .ok (.iconst 0, 1) := by decide +kernel
theorem dL_totalled_23 : decode cL_totalled 23 = .ok (.ireturn, 1) := by decide +kernel
theorem dL_hide_0 : decode cL_hide 0 = .ok (.aload_n 2, 1) := by decide +kernel
theorem dL_hide_1 : decode cL_hide 1 = .ok (.iconst 0, 1) := by decide +kernel
theorem dL_hide_2 : decode cL_hide 2 = .ok (.aload_n 0, 1) := by decide +kernel
theorem dL_hide_3 : decode cL_hide 3 = .ok (.iload_n 1, 1) := by decide +kernel
theorem dL_hide_4 : decode cL_hide 4 = .ok (.invokevirtual 53, 3) := by decide +kernel
theorem dL_hide_7 : decode cL_hide 7 = .ok (.ifCond .eq 7, 3) := by decide +kernel
theorem dL_hide_10 : decode cL_hide 10 = .ok (.lconst 1, 1) := by decide +kernel
theorem dL_hide_11 : decode cL_hide 11 = .ok (.goto 4, 3) := by decide +kernel
theorem dL_hide_14 : decode cL_hide 14 = .ok (.lconst 0, 1) := by decide +kernel
theorem dL_hide_15 : decode cL_hide 15 = .ok (.lastore, 1) := by decide +kernel
theorem dL_hide_16 : decode cL_hide 16 = .ok (.goto 9, 3) := by decide +kernel
theorem dL_hide_19 : decode cL_hide 19 = .ok (.astore_n 3, 1) := by decide +kernel
theorem dL_hide_20 : decode cL_hide 20 = .ok (.iconst 1, 1) := by decide +kernel
theorem dL_hide_21 : decode cL_hide 21 = .ok (.ireturn, 1) := by decide +kernel
theorem dL_hide_22 : decode cL_hide 22 = .ok (.astore_n 3, 1) := by decide +kernel
theorem dL_hide_23 : decode cL_hide 23 = .ok (.iconst 2, 1) := by decide +kernel
theorem dL_hide_24 : decode cL_hide 24 = .ok (.ireturn, 1) := by decide +kernel
theorem dL_hide_25 : decode cL_hide 25 = .ok (.iconst 0, 1) := by decide +kernel
theorem dL_hide_26 : decode cL_hide 26 = .ok (.ireturn, 1) := by decide +kernel
theorem dL_sort_0 : decode cL_sort 0 = .ok (.aload_n 3, 1) := by decide +kernel
theorem dL_sort_1 : decode cL_sort 1 = .ok (.iconst 0, 1) := by decide +kernel
theorem dL_sort_2 : decode cL_sort 2 = .ok (.aload_n 0, 1) := by decide +kernel
theorem dL_sort_3 : decode cL_sort 3 = .ok (.iload_n 1, 1) := by decide +kernel
theorem dL_sort_4 : decode cL_sort 4 = .ok (.iload_n 2, 1) := by decide +kernel
theorem dL_sort_5 : decode cL_sort 5 = .ok (.invokevirtual 56, 3) := by decide +kernel
theorem dL_sort_8 : decode cL_sort 8 = .ok (.i2l, 1) := by decide +kernel
theorem dL_sort_9 : decode cL_sort 9 = .ok (.lastore, 1) := by decide +kernel
theorem dL_sort_10 : decode cL_sort 10 = .ok (.goto 11, 3) := by decide +kernel
theorem dL_sort_13 : decode cL_sort 13 = .ok (.astore 4, 2) := by decide +kernel
theorem dL_sort_15 : decode cL_sort 15 = .ok (.iconst 1, 1) := by decide +kernel
theorem dL_sort_16 : decode cL_sort 16 = .ok (.ireturn, 1) := by decide +kernel
theorem dL_sort_17 : decode cL_sort 17 = .ok (.astore 4, 2) := by decide +kernel
theorem dL_sort_19 : decode cL_sort 19 = .ok (.iconst 2, 1) := by decide +kernel
theorem dL_sort_20 : decode cL_sort 20 = .ok (.ireturn, 1) := by decide +kernel
theorem dL_sort_21 : decode cL_sort 21 = .ok (.iconst 0, 1) := by decide +kernel
theorem dL_sort_22 : decode cL_sort 22 = .ok (.ireturn, 1) := by decide +kernel
theorem dL_least_0 : decode cL_least 0 = .ok (.aload_n 2, 1) := by decide +kernel
theorem dL_least_1 : decode cL_least 1 = .ok (.iconst 0, 1) := by decide +kernel
theorem dL_least_2 : decode cL_least 2 = .ok (.aload_n 0, 1) := by decide +kernel
theorem dL_least_3 : decode cL_least 3 = .ok (.iload_n 1, 1) := by decide +kernel
theorem dL_least_4 : decode cL_least 4 = .ok (.invokevirtual 60, 3) := by decide +kernel
theorem dL_least_7 : decode cL_least 7 = .ok (.i2l, 1) := by decide +kernel
theorem dL_least_8 : decode cL_least 8 = .ok (.lastore, 1) := by decide +kernel
theorem dL_least_9 : decode cL_least 9 = .ok (.goto 6, 3) := by decide +kernel
theorem dL_least_12 : decode cL_least 12 = .ok (.astore_n 3, 1) := by decide +kernel
theorem dL_least_13 : decode cL_least 13 = .ok (.iconst 1, 1) := by decide +kernel
theorem dL_least_14 : decode cL_least 14 = .ok (.ireturn, 1) := by decide +kernel
theorem dL_least_15 : decode cL_least 15 = .ok (.iconst 0, 1) := by decide +kernel
theorem dL_least_16 : decode cL_least 16 = .ok (.ireturn, 1) := by decide +kernel
theorem dL_most_0 : decode cL_most 0 = .ok (.aload_n 2, 1) := by decide +kernel
theorem dL_most_1 : decode cL_most 1 = .ok (.iconst 0, 1) := by decide +kernel
theorem dL_most_2 : decode cL_most 2 = .ok (.aload_n 0, 1) := by decide +kernel
theorem dL_most_3 : decode cL_most 3 = .ok (.iload_n 1, 1) := by decide +kernel
theorem dL_most_4 : decode cL_most 4 = .ok (.invokevirtual 63, 3) := by decide +kernel
theorem dL_most_7 : decode cL_most 7 = .ok (.i2l, 1) := by decide +kernel
theorem dL_most_8 : decode cL_most 8 = .ok (.lastore, 1) := by decide +kernel
theorem dL_most_9 : decode cL_most 9 = .ok (.goto 6, 3) := by decide +kernel
theorem dL_most_12 : decode cL_most 12 = .ok (.astore_n 3, 1) := by decide +kernel
theorem dL_most_13 : decode cL_most 13 = .ok (.iconst 1, 1) := by decide +kernel
theorem dL_most_14 : decode cL_most 14 = .ok (.ireturn, 1) := by decide +kernel
theorem dL_most_15 : decode cL_most 15 = .ok (.iconst 0, 1) := by decide +kernel
theorem dL_most_16 : decode cL_most 16 = .ok (.ireturn, 1) := by decide +kernel
theorem dL_width_0 : decode cL_width 0 = .ok (.aload_n 2, 1) := by decide +kernel
theorem dL_width_1 : decode cL_width 1 = .ok (.iconst 0, 1) := by decide +kernel
theorem dL_width_2 : decode cL_width 2 = .ok (.aload_n 0, 1) := by decide +kernel
theorem dL_width_3 : decode cL_width 3 = .ok (.iload_n 1, 1) := by decide +kernel
theorem dL_width_4 : decode cL_width 4 = .ok (.invokevirtual 66, 3) := by decide +kernel
theorem dL_width_7 : decode cL_width 7 = .ok (.i2l, 1) := by decide +kernel
theorem dL_width_8 : decode cL_width 8 = .ok (.lastore, 1) := by decide +kernel
theorem dL_width_9 : decode cL_width 9 = .ok (.goto 6, 3) := by decide +kernel
theorem dL_width_12 : decode cL_width 12 = .ok (.astore_n 3, 1) := by decide +kernel
theorem dL_width_13 : decode cL_width 13 = .ok (.iconst 1, 1) := by decide +kernel
theorem dL_width_14 : decode cL_width 14 = .ok (.ireturn, 1) := by decide +kernel
theorem dL_width_15 : decode cL_width 15 = .ok (.iconst 0, 1) := by decide +kernel
theorem dL_width_16 : decode cL_width 16 = .ok (.ireturn, 1) := by decide +kernel
theorem dL_point_0 : decode cL_point 0 = .ok (.aload_n 2, 1) := by decide +kernel
theorem dL_point_1 : decode cL_point 1 = .ok (.iconst 0, 1) := by decide +kernel
theorem dL_point_2 : decode cL_point 2 = .ok (.aload_n 0, 1) := by decide +kernel
theorem dL_point_3 : decode cL_point 3 = .ok (.iload_n 1, 1) := by decide +kernel
theorem dL_point_4 : decode cL_point 4 = .ok (.invokevirtual 69, 3) := by decide +kernel
theorem dL_point_7 : decode cL_point 7 = .ok (.i2l, 1) := by decide +kernel
theorem dL_point_8 : decode cL_point 8 = .ok (.lastore, 1) := by decide +kernel
theorem dL_point_9 : decode cL_point 9 = .ok (.goto 9, 3) := by decide +kernel
theorem dL_point_12 : decode cL_point 12 = .ok (.astore_n 3, 1) := by decide +kernel
theorem dL_point_13 : decode cL_point 13 = .ok (.iconst 1, 1) := by decide +kernel
theorem dL_point_14 : decode cL_point 14 = .ok (.ireturn, 1) := by decide +kernel
theorem dL_point_15 : decode cL_point 15 = .ok (.astore_n 3, 1) := by decide +kernel
theorem dL_point_16 : decode cL_point 16 = .ok (.iconst 2, 1) := by decide +kernel
theorem dL_point_17 : decode cL_point 17 = .ok (.ireturn, 1) := by decide +kernel
theorem dL_point_18 : decode cL_point 18 = .ok (.iconst 0, 1) := by decide +kernel
theorem dL_point_19 : decode cL_point 19 = .ok (.ireturn, 1) := by decide +kernel
theorem dL_begins_0 : decode cL_begins 0 = .ok (.aload_n 2, 1) := by decide +kernel
theorem dL_begins_1 : decode cL_begins 1 = .ok (.iconst 0, 1) := by decide +kernel
theorem dL_begins_2 : decode cL_begins 2 = .ok (.aload_n 0, 1) := by decide +kernel
theorem dL_begins_3 : decode cL_begins 3 = .ok (.iload_n 1, 1) := by decide +kernel
theorem dL_begins_4 : decode cL_begins 4 = .ok (.invokevirtual 72, 3) := by decide +kernel
theorem dL_begins_7 : decode cL_begins 7 = .ok (.i2l, 1) := by decide +kernel
theorem dL_begins_8 : decode cL_begins 8 = .ok (.lastore, 1) := by decide +kernel
theorem dL_begins_9 : decode cL_begins 9 = .ok (.goto 9, 3) := by decide +kernel
theorem dL_begins_12 : decode cL_begins 12 = .ok (.astore_n 3, 1) := by decide +kernel
theorem dL_begins_13 : decode cL_begins 13 = .ok (.iconst 1, 1) := by decide +kernel
theorem dL_begins_14 : decode cL_begins 14 = .ok (.ireturn, 1) := by decide +kernel
theorem dL_begins_15 : decode cL_begins 15 = .ok (.astore_n 3, 1) := by decide +kernel
theorem dL_begins_16 : decode cL_begins 16 = .ok (.iconst 2, 1) := by decide +kernel
theorem dL_begins_17 : decode cL_begins 17 = .ok (.ireturn, 1) := by decide +kernel
theorem dL_begins_18 : decode cL_begins 18 = .ok (.iconst 0, 1) := by decide +kernel
theorem dL_begins_19 : decode cL_begins 19 = .ok (.ireturn, 1) := by decide +kernel
theorem dL_lines_0 : decode cL_lines 0 = .ok (.aload_n 2, 1) := by decide +kernel
theorem dL_lines_1 : decode cL_lines 1 = .ok (.iconst 0, 1) := by decide +kernel
theorem dL_lines_2 : decode cL_lines 2 = .ok (.aload_n 0, 1) := by decide +kernel
theorem dL_lines_3 : decode cL_lines 3 = .ok (.iload_n 1, 1) := by decide +kernel
theorem dL_lines_4 : decode cL_lines 4 = .ok (.invokevirtual 75, 3) := by decide +kernel
theorem dL_lines_7 : decode cL_lines 7 = .ok (.i2l, 1) := by decide +kernel
theorem dL_lines_8 : decode cL_lines 8 = .ok (.lastore, 1) := by decide +kernel
theorem dL_lines_9 : decode cL_lines 9 = .ok (.goto 6, 3) := by decide +kernel
theorem dL_lines_12 : decode cL_lines 12 = .ok (.astore_n 3, 1) := by decide +kernel
theorem dL_lines_13 : decode cL_lines 13 = .ok (.iconst 1, 1) := by decide +kernel
theorem dL_lines_14 : decode cL_lines 14 = .ok (.ireturn, 1) := by decide +kernel
theorem dL_lines_15 : decode cL_lines 15 = .ok (.iconst 0, 1) := by decide +kernel
theorem dL_lines_16 : decode cL_lines 16 = .ok (.ireturn, 1) := by decide +kernel
theorem dL_height_0 : decode cL_height 0 = .ok (.aload_n 2, 1) := by decide +kernel
theorem dL_height_1 : decode cL_height 1 = .ok (.iconst 0, 1) := by decide +kernel
theorem dL_height_2 : decode cL_height 2 = .ok (.aload_n 0, 1) := by decide +kernel
theorem dL_height_3 : decode cL_height 3 = .ok (.iload_n 1, 1) := by decide +kernel
theorem dL_height_4 : decode cL_height 4 = .ok (.invokevirtual 78, 3) := by decide +kernel
theorem dL_height_7 : decode cL_height 7 = .ok (.i2l, 1) := by decide +kernel
theorem dL_height_8 : decode cL_height 8 = .ok (.lastore, 1) := by decide +kernel
theorem dL_height_9 : decode cL_height 9 = .ok (.goto 6, 3) := by decide +kernel
theorem dL_height_12 : decode cL_height 12 = .ok (.astore_n 3, 1) := by decide +kernel
theorem dL_height_13 : decode cL_height 13 = .ok (.iconst 1, 1) := by decide +kernel
theorem dL_height_14 : decode cL_height 14 = .ok (.ireturn, 1) := by decide +kernel
theorem dL_height_15 : decode cL_height 15 = .ok (.iconst 0, 1) := by decide +kernel
theorem dL_height_16 : decode cL_height 16 = .ok (.ireturn, 1) := by decide +kernel
theorem dL_heightByCells_0 : decode cL_heightByCells 0 = .ok (.aload_n 2, 1) := by decide +kernel
theorem dL_heightByCells_1 : decode cL_heightByCells 1 = .ok (.iconst 0, 1) := by decide +kernel
theorem dL_heightByCells_2 : decode cL_heightByCells 2 = .ok (.aload_n 0, 1) := by decide +kernel
theorem dL_heightByCells_3 : decode cL_heightByCells 3 = .ok (.iload_n 1, 1) := by decide +kernel
theorem dL_heightByCells_4 : decode cL_heightByCells 4 = .ok (.invokevirtual 81, 3) := by decide +kernel
theorem dL_heightByCells_7 : decode cL_heightByCells 7 = .ok (.i2l, 1) := by decide +kernel
theorem dL_heightByCells_8 : decode cL_heightByCells 8 = .ok (.lastore, 1) := by decide +kernel
theorem dL_heightByCells_9 : decode cL_heightByCells 9 = .ok (.goto 6, 3) := by decide +kernel
theorem dL_heightByCells_12 : decode cL_heightByCells 12 = .ok (.astore_n 3, 1) := by decide +kernel
theorem dL_heightByCells_13 : decode cL_heightByCells 13 = .ok (.iconst 1, 1) := by decide +kernel
theorem dL_heightByCells_14 : decode cL_heightByCells 14 = .ok (.ireturn, 1) := by decide +kernel
theorem dL_heightByCells_15 : decode cL_heightByCells 15 = .ok (.iconst 0, 1) := by decide +kernel
theorem dL_heightByCells_16 : decode cL_heightByCells 16 = .ok (.ireturn, 1) := by decide +kernel
theorem dL_leastHeight_0 : decode cL_leastHeight 0 = .ok (.aload_n 1, 1) := by decide +kernel
theorem dL_leastHeight_1 : decode cL_leastHeight 1 = .ok (.iconst 0, 1) := by decide +kernel
theorem dL_leastHeight_2 : decode cL_leastHeight 2 = .ok (.aload_n 0, 1) := by decide +kernel
theorem dL_leastHeight_3 : decode cL_leastHeight 3 = .ok (.invokevirtual 84, 3) := by decide +kernel
theorem dL_leastHeight_6 : decode cL_leastHeight 6 = .ok (.i2l, 1) := by decide +kernel
theorem dL_leastHeight_7 : decode cL_leastHeight 7 = .ok (.lastore, 1) := by decide +kernel
theorem dL_leastHeight_8 : decode cL_leastHeight 8 = .ok (.goto 6, 3) := by decide +kernel
theorem dL_leastHeight_11 : decode cL_leastHeight 11 = .ok (.astore_n 2, 1) := by decide +kernel
theorem dL_leastHeight_12 : decode cL_leastHeight 12 = .ok (.iconst 1, 1) := by decide +kernel
theorem dL_leastHeight_13 : decode cL_leastHeight 13 = .ok (.ireturn, 1) := by decide +kernel
theorem dL_leastHeight_14 : decode cL_leastHeight 14 = .ok (.iconst 0, 1) := by decide +kernel
theorem dL_leastHeight_15 : decode cL_leastHeight 15 = .ok (.ireturn, 1) := by decide +kernel
theorem dL_border_0 : decode cL_border 0 = .ok (.aload 5, 2) := by decide +kernel
theorem dL_border_2 : decode cL_border 2 = .ok (.iconst 0, 1) := by decide +kernel
theorem dL_border_3 : decode cL_border 3 = .ok (.aload_n 0, 1) := by decide +kernel
theorem dL_border_4 : decode cL_border 4 = .ok (.iload_n 1, 1) := by decide +kernel
theorem dL_border_5 : decode cL_border 5 = .ok (.iload_n 2, 1) := by decide +kernel
theorem dL_border_6 : decode cL_border 6 = .ok (.iload_n 3, 1) := by decide +kernel
theorem dL_border_7 : decode cL_border 7 = .ok (.iload 4, 2) := by decide +kernel
theorem dL_border_9 : decode cL_border 9 = .ok (.invokevirtual 88, 3) := by decide +kernel
theorem dL_border_12 : decode cL_border 12 = .ok (.i2l, 1) := by decide +kernel
theorem dL_border_13 : decode cL_border 13 = .ok (.lastore, 1) := by decide +kernel
theorem dL_border_14 : decode cL_border 14 = .ok (.goto 11, 3) := by decide +kernel
theorem dL_border_17 : decode cL_border 17 = .ok (.astore 6, 2) := by decide +kernel
theorem dL_border_19 : decode cL_border 19 = .ok (.iconst 1, 1) := by decide +kernel
theorem dL_border_20 : decode cL_border 20 = .ok (.ireturn, 1) := by decide +kernel
theorem dL_border_21 : decode cL_border 21 = .ok (.astore 6, 2) := by decide +kernel
theorem dL_border_23 : decode cL_border 23 = .ok (.iconst 2, 1) := by decide +kernel
theorem dL_border_24 : decode cL_border 24 = .ok (.ireturn, 1) := by decide +kernel
theorem dL_border_25 : decode cL_border 25 = .ok (.iconst 0, 1) := by decide +kernel
theorem dL_border_26 : decode cL_border 26 = .ok (.ireturn, 1) := by decide +kernel
theorem dL_edge_0 : decode cL_edge 0 = .ok (.aload 4, 2) := by decide +kernel
theorem dL_edge_2 : decode cL_edge 2 = .ok (.iconst 0, 1) := by decide +kernel
theorem dL_edge_3 : decode cL_edge 3 = .ok (.aload_n 0, 1) := by decide +kernel
theorem dL_edge_4 : decode cL_edge 4 = .ok (.iload_n 1, 1) := by decide +kernel
theorem dL_edge_5 : decode cL_edge 5 = .ok (.iload_n 2, 1) := by decide +kernel
theorem dL_edge_6 : decode cL_edge 6 = .ok (.iload_n 3, 1) := by decide +kernel
theorem dL_edge_7 : decode cL_edge 7 = .ok (.invokevirtual 91, 3) := by decide +kernel
theorem dL_edge_10 : decode cL_edge 10 = .ok (.i2l, 1) := by decide +kernel
theorem dL_edge_11 : decode cL_edge 11 = .ok (.lastore, 1) := by decide +kernel
theorem dL_edge_12 : decode cL_edge 12 = .ok (.goto 15, 3) := by decide +kernel
theorem dL_edge_15 : decode cL_edge 15 = .ok (.astore 5, 2) := by decide +kernel
theorem dL_edge_17 : decode cL_edge 17 = .ok (.iconst 1, 1) := by decide +kernel
theorem dL_edge_18 : decode cL_edge 18 = .ok (.ireturn, 1) := by decide +kernel
theorem dL_edge_19 : decode cL_edge 19 = .ok (.astore 5, 2) := by decide +kernel
theorem dL_edge_21 : decode cL_edge 21 = .ok (.iconst 2, 1) := by decide +kernel
theorem dL_edge_22 : decode cL_edge 22 = .ok (.ireturn, 1) := by decide +kernel
theorem dL_edge_23 : decode cL_edge 23 = .ok (.astore 5, 2) := by decide +kernel
theorem dL_edge_25 : decode cL_edge 25 = .ok (.iconst 3, 1) := by decide +kernel
theorem dL_edge_26 : decode cL_edge 26 = .ok (.ireturn, 1) := by decide +kernel
theorem dL_edge_27 : decode cL_edge 27 = .ok (.iconst 0, 1) := by decide +kernel
theorem dL_edge_28 : decode cL_edge 28 = .ok (.ireturn, 1) := by decide +kernel
theorem dL_pages_0 : decode cL_pages 0 = .ok (.aload_n 1, 1) := by decide +kernel
theorem dL_pages_1 : decode cL_pages 1 = .ok (.iconst 0, 1) := by decide +kernel
theorem dL_pages_2 : decode cL_pages 2 = .ok (.aload_n 0, 1) := by decide +kernel
theorem dL_pages_3 : decode cL_pages 3 = .ok (.invokevirtual 94, 3) := by decide +kernel
theorem dL_pages_6 : decode cL_pages 6 = .ok (.i2l, 1) := by decide +kernel
theorem dL_pages_7 : decode cL_pages 7 = .ok (.lastore, 1) := by decide +kernel
theorem dL_pages_8 : decode cL_pages 8 = .ok (.goto 6, 3) := by decide +kernel
theorem dL_pages_11 : decode cL_pages 11 = .ok (.astore_n 2, 1) := by decide +kernel
theorem dL_pages_12 : decode cL_pages 12 = .ok (.iconst 1, 1) := by decide +kernel
theorem dL_pages_13 : decode cL_pages 13 = .ok (.ireturn, 1) := by decide +kernel
theorem dL_pages_14 : decode cL_pages 14 = .ok (.iconst 0, 1) := by decide +kernel
theorem dL_pages_15 : decode cL_pages 15 = .ok (.ireturn, 1) := by decide +kernel
theorem dL_pageOf_0 : decode cL_pageOf 0 = .ok (.aload_n 2, 1) := by decide +kernel
theorem dL_pageOf_1 : decode cL_pageOf 1 = .ok (.iconst 0, 1) := by decide +kernel
theorem dL_pageOf_2 : decode cL_pageOf 2 = .ok (.aload_n 0, 1) := by decide +kernel
theorem dL_pageOf_3 : decode cL_pageOf 3 = .ok (.iload_n 1, 1) := by decide +kernel
theorem dL_pageOf_4 : decode cL_pageOf 4 = .ok (.invokevirtual 97, 3) := by decide +kernel
theorem dL_pageOf_7 : decode cL_pageOf 7 = .ok (.i2l, 1) := by decide +kernel
theorem dL_pageOf_8 : decode cL_pageOf 8 = .ok (.lastore, 1) := by decide +kernel
theorem dL_pageOf_9 : decode cL_pageOf 9 = .ok (.goto 12, 3) := by decide +kernel
theorem dL_pageOf_12 : decode cL_pageOf 12 = .ok (.astore_n 3, 1) := by decide +kernel
theorem dL_pageOf_13 : decode cL_pageOf 13 = .ok (.iconst 1, 1) := by decide +kernel
theorem dL_pageOf_14 : decode cL_pageOf 14 = .ok (.ireturn, 1) := by decide +kernel
theorem dL_pageOf_15 : decode cL_pageOf 15 = .ok (.astore_n 3, 1) := by decide +kernel
theorem dL_pageOf_16 : decode cL_pageOf 16 = .ok (.iconst 2, 1) := by decide +kernel
theorem dL_pageOf_17 : decode cL_pageOf 17 = .ok (.ireturn, 1) := by decide +kernel
theorem dL_pageOf_18 : decode cL_pageOf 18 = .ok (.astore_n 3, 1) := by decide +kernel
theorem dL_pageOf_19 : decode cL_pageOf 19 = .ok (.iconst 3, 1) := by decide +kernel
theorem dL_pageOf_20 : decode cL_pageOf 20 = .ok (.ireturn, 1) := by decide +kernel
theorem dL_pageOf_21 : decode cL_pageOf 21 = .ok (.iconst 0, 1) := by decide +kernel
theorem dL_pageOf_22 : decode cL_pageOf 22 = .ok (.ireturn, 1) := by decide +kernel
theorem dL_linesOn_0 : decode cL_linesOn 0 = .ok (.aload_n 3, 1) := by decide +kernel
theorem dL_linesOn_1 : decode cL_linesOn 1 = .ok (.iconst 0, 1) := by decide +kernel
theorem dL_linesOn_2 : decode cL_linesOn 2 = .ok (.aload_n 0, 1) := by decide +kernel
theorem dL_linesOn_3 : decode cL_linesOn 3 = .ok (.iload_n 1, 1) := by decide +kernel
theorem dL_linesOn_4 : decode cL_linesOn 4 = .ok (.iload_n 2, 1) := by decide +kernel
theorem dL_linesOn_5 : decode cL_linesOn 5 = .ok (.invokevirtual 100, 3) := by decide +kernel
theorem dL_linesOn_8 : decode cL_linesOn 8 = .ok (.i2l, 1) := by decide +kernel
theorem dL_linesOn_9 : decode cL_linesOn 9 = .ok (.lastore, 1) := by decide +kernel
theorem dL_linesOn_10 : decode cL_linesOn 10 = .ok (.goto 15, 3) := by decide +kernel
theorem dL_linesOn_13 : decode cL_linesOn 13 = .ok (.astore 4, 2) := by decide +kernel
theorem dL_linesOn_15 : decode cL_linesOn 15 = .ok (.iconst 1, 1) := by decide +kernel
theorem dL_linesOn_16 : decode cL_linesOn 16 = .ok (.ireturn, 1) := by decide +kernel
theorem dL_linesOn_17 : decode cL_linesOn 17 = .ok (.astore 4, 2) := by decide +kernel
theorem dL_linesOn_19 : decode cL_linesOn 19 = .ok (.iconst 2, 1) := by decide +kernel
theorem dL_linesOn_20 : decode cL_linesOn 20 = .ok (.ireturn, 1) := by decide +kernel
theorem dL_linesOn_21 : decode cL_linesOn 21 = .ok (.astore 4, 2) := by decide +kernel
theorem dL_linesOn_23 : decode cL_linesOn 23 = .ok (.iconst 3, 1) := by decide +kernel
theorem dL_linesOn_24 : decode cL_linesOn 24 = .ok (.ireturn, 1) := by decide +kernel
theorem dL_linesOn_25 : decode cL_linesOn 25 = .ok (.iconst 0, 1) := by decide +kernel
theorem dL_linesOn_26 : decode cL_linesOn 26 = .ok (.ireturn, 1) := by decide +kernel
theorem dL_shown_0 : decode cL_shown 0 = .ok (.aload_n 3, 1) := by decide +kernel
theorem dL_shown_1 : decode cL_shown 1 = .ok (.iconst 0, 1) := by decide +kernel
theorem dL_shown_2 : decode cL_shown 2 = .ok (.aload_n 0, 1) := by decide +kernel
theorem dL_shown_3 : decode cL_shown 3 = .ok (.iload_n 1, 1) := by decide +kernel
theorem dL_shown_4 : decode cL_shown 4 = .ok (.iload_n 2, 1) := by decide +kernel
theorem dL_shown_5 : decode cL_shown 5 = .ok (.invokevirtual 103, 3) := by decide +kernel
theorem dL_shown_8 : decode cL_shown 8 = .ok (.i2l, 1) := by decide +kernel
theorem dL_shown_9 : decode cL_shown 9 = .ok (.lastore, 1) := by decide +kernel
theorem dL_shown_10 : decode cL_shown 10 = .ok (.goto 15, 3) := by decide +kernel
theorem dL_shown_13 : decode cL_shown 13 = .ok (.astore 4, 2) := by decide +kernel
theorem dL_shown_15 : decode cL_shown 15 = .ok (.iconst 1, 1) := by decide +kernel
theorem dL_shown_16 : decode cL_shown 16 = .ok (.ireturn, 1) := by decide +kernel
theorem dL_shown_17 : decode cL_shown 17 = .ok (.astore 4, 2) := by decide +kernel
theorem dL_shown_19 : decode cL_shown 19 = .ok (.iconst 2, 1) := by decide +kernel
theorem dL_shown_20 : decode cL_shown 20 = .ok (.ireturn, 1) := by decide +kernel
theorem dL_shown_21 : decode cL_shown 21 = .ok (.astore 4, 2) := by decide +kernel
theorem dL_shown_23 : decode cL_shown 23 = .ok (.iconst 3, 1) := by decide +kernel
theorem dL_shown_24 : decode cL_shown 24 = .ok (.ireturn, 1) := by decide +kernel
theorem dL_shown_25 : decode cL_shown 25 = .ok (.iconst 0, 1) := by decide +kernel
theorem dL_shown_26 : decode cL_shown 26 = .ok (.ireturn, 1) := by decide +kernel
theorem dL_used_0 : decode cL_used 0 = .ok (.aload_n 2, 1) := by decide +kernel
theorem dL_used_1 : decode cL_used 1 = .ok (.iconst 0, 1) := by decide +kernel
theorem dL_used_2 : decode cL_used 2 = .ok (.aload_n 0, 1) := by decide +kernel
theorem dL_used_3 : decode cL_used 3 = .ok (.iload_n 1, 1) := by decide +kernel
theorem dL_used_4 : decode cL_used 4 = .ok (.invokevirtual 106, 3) := by decide +kernel
theorem dL_used_7 : decode cL_used 7 = .ok (.i2l, 1) := by decide +kernel
theorem dL_used_8 : decode cL_used 8 = .ok (.lastore, 1) := by decide +kernel
theorem dL_used_9 : decode cL_used 9 = .ok (.goto 9, 3) := by decide +kernel
theorem dL_used_12 : decode cL_used 12 = .ok (.astore_n 3, 1) := by decide +kernel
theorem dL_used_13 : decode cL_used 13 = .ok (.iconst 1, 1) := by decide +kernel
theorem dL_used_14 : decode cL_used 14 = .ok (.ireturn, 1) := by decide +kernel
theorem dL_used_15 : decode cL_used 15 = .ok (.astore_n 3, 1) := by decide +kernel
theorem dL_used_16 : decode cL_used 16 = .ok (.iconst 2, 1) := by decide +kernel
theorem dL_used_17 : decode cL_used 17 = .ok (.ireturn, 1) := by decide +kernel
theorem dL_used_18 : decode cL_used 18 = .ok (.iconst 0, 1) := by decide +kernel
theorem dL_used_19 : decode cL_used 19 = .ok (.ireturn, 1) := by decide +kernel
theorem dL_notesOn_0 : decode cL_notesOn 0 = .ok (.aload_n 2, 1) := by decide +kernel
theorem dL_notesOn_1 : decode cL_notesOn 1 = .ok (.iconst 0, 1) := by decide +kernel
theorem dL_notesOn_2 : decode cL_notesOn 2 = .ok (.aload_n 0, 1) := by decide +kernel
theorem dL_notesOn_3 : decode cL_notesOn 3 = .ok (.iload_n 1, 1) := by decide +kernel
theorem dL_notesOn_4 : decode cL_notesOn 4 = .ok (.invokevirtual 109, 3) := by decide +kernel
theorem dL_notesOn_7 : decode cL_notesOn 7 = .ok (.i2l, 1) := by decide +kernel
theorem dL_notesOn_8 : decode cL_notesOn 8 = .ok (.lastore, 1) := by decide +kernel
theorem dL_notesOn_9 : decode cL_notesOn 9 = .ok (.goto 9, 3) := by decide +kernel
theorem dL_notesOn_12 : decode cL_notesOn 12 = .ok (.astore_n 3, 1) := by decide +kernel
theorem dL_notesOn_13 : decode cL_notesOn 13 = .ok (.iconst 1, 1) := by decide +kernel
theorem dL_notesOn_14 : decode cL_notesOn 14 = .ok (.ireturn, 1) := by decide +kernel
theorem dL_notesOn_15 : decode cL_notesOn 15 = .ok (.astore_n 3, 1) := by decide +kernel
theorem dL_notesOn_16 : decode cL_notesOn 16 = .ok (.iconst 2, 1) := by decide +kernel
theorem dL_notesOn_17 : decode cL_notesOn 17 = .ok (.ireturn, 1) := by decide +kernel
theorem dL_notesOn_18 : decode cL_notesOn 18 = .ok (.iconst 0, 1) := by decide +kernel
theorem dL_notesOn_19 : decode cL_notesOn 19 = .ok (.ireturn, 1) := by decide +kernel
theorem dL_total_0 : decode cL_total 0 = .ok (.aload_n 2, 1) := by decide +kernel
theorem dL_total_1 : decode cL_total 1 = .ok (.iconst 0, 1) := by decide +kernel
theorem dL_total_2 : decode cL_total 2 = .ok (.aload_n 0, 1) := by decide +kernel
theorem dL_total_3 : decode cL_total 3 = .ok (.iload_n 1, 1) := by decide +kernel
theorem dL_total_4 : decode cL_total 4 = .ok (.invokevirtual 112, 3) := by decide +kernel
theorem dL_total_7 : decode cL_total 7 = .ok (.i2l, 1) := by decide +kernel
theorem dL_total_8 : decode cL_total 8 = .ok (.lastore, 1) := by decide +kernel
theorem dL_total_9 : decode cL_total 9 = .ok (.goto 6, 3) := by decide +kernel
theorem dL_total_12 : decode cL_total 12 = .ok (.astore_n 3, 1) := by decide +kernel
theorem dL_total_13 : decode cL_total 13 = .ok (.iconst 1, 1) := by decide +kernel
theorem dL_total_14 : decode cL_total 14 = .ok (.ireturn, 1) := by decide +kernel
theorem dL_total_15 : decode cL_total 15 = .ok (.iconst 0, 1) := by decide +kernel
theorem dL_total_16 : decode cL_total 16 = .ok (.ireturn, 1) := by decide +kernel
theorem dL_subtotal_0 : decode cL_subtotal 0 = .ok (.aload_n 3, 1) := by decide +kernel
theorem dL_subtotal_1 : decode cL_subtotal 1 = .ok (.iconst 0, 1) := by decide +kernel
theorem dL_subtotal_2 : decode cL_subtotal 2 = .ok (.aload_n 0, 1) := by decide +kernel
theorem dL_subtotal_3 : decode cL_subtotal 3 = .ok (.iload_n 1, 1) := by decide +kernel
theorem dL_subtotal_4 : decode cL_subtotal 4 = .ok (.iload_n 2, 1) := by decide +kernel
theorem dL_subtotal_5 : decode cL_subtotal 5 = .ok (.invokevirtual 115, 3) := by decide +kernel
theorem dL_subtotal_8 : decode cL_subtotal 8 = .ok (.i2l, 1) := by decide +kernel
theorem dL_subtotal_9 : decode cL_subtotal 9 = .ok (.lastore, 1) := by decide +kernel
theorem dL_subtotal_10 : decode cL_subtotal 10 = .ok (.goto 11, 3) := by decide +kernel
theorem dL_subtotal_13 : decode cL_subtotal 13 = .ok (.astore 4, 2) := by decide +kernel
theorem dL_subtotal_15 : decode cL_subtotal 15 = .ok (.iconst 1, 1) := by decide +kernel
theorem dL_subtotal_16 : decode cL_subtotal 16 = .ok (.ireturn, 1) := by decide +kernel
theorem dL_subtotal_17 : decode cL_subtotal 17 = .ok (.astore 4, 2) := by decide +kernel
theorem dL_subtotal_19 : decode cL_subtotal 19 = .ok (.iconst 2, 1) := by decide +kernel
theorem dL_subtotal_20 : decode cL_subtotal 20 = .ok (.ireturn, 1) := by decide +kernel
theorem dL_subtotal_21 : decode cL_subtotal 21 = .ok (.iconst 0, 1) := by decide +kernel
theorem dL_subtotal_22 : decode cL_subtotal 22 = .ok (.ireturn, 1) := by decide +kernel
theorem dL_carried_0 : decode cL_carried 0 = .ok (.aload_n 3, 1) := by decide +kernel
theorem dL_carried_1 : decode cL_carried 1 = .ok (.iconst 0, 1) := by decide +kernel
theorem dL_carried_2 : decode cL_carried 2 = .ok (.aload_n 0, 1) := by decide +kernel
theorem dL_carried_3 : decode cL_carried 3 = .ok (.iload_n 1, 1) := by decide +kernel
theorem dL_carried_4 : decode cL_carried 4 = .ok (.iload_n 2, 1) := by decide +kernel
theorem dL_carried_5 : decode cL_carried 5 = .ok (.invokevirtual 118, 3) := by decide +kernel
theorem dL_carried_8 : decode cL_carried 8 = .ok (.i2l, 1) := by decide +kernel
theorem dL_carried_9 : decode cL_carried 9 = .ok (.lastore, 1) := by decide +kernel
theorem dL_carried_10 : decode cL_carried 10 = .ok (.goto 15, 3) := by decide +kernel
theorem dL_carried_13 : decode cL_carried 13 = .ok (.astore 4, 2) := by decide +kernel
theorem dL_carried_15 : decode cL_carried 15 = .ok (.iconst 1, 1) := by decide +kernel
theorem dL_carried_16 : decode cL_carried 16 = .ok (.ireturn, 1) := by decide +kernel
theorem dL_carried_17 : decode cL_carried 17 = .ok (.astore 4, 2) := by decide +kernel
theorem dL_carried_19 : decode cL_carried 19 = .ok (.iconst 2, 1) := by decide +kernel
theorem dL_carried_20 : decode cL_carried 20 = .ok (.ireturn, 1) := by decide +kernel
theorem dL_carried_21 : decode cL_carried 21 = .ok (.astore 4, 2) := by decide +kernel
theorem dL_carried_23 : decode cL_carried 23 = .ok (.iconst 3, 1) := by decide +kernel
theorem dL_carried_24 : decode cL_carried 24 = .ok (.ireturn, 1) := by decide +kernel
theorem dL_carried_25 : decode cL_carried 25 = .ok (.iconst 0, 1) := by decide +kernel
theorem dL_carried_26 : decode cL_carried 26 = .ok (.ireturn, 1) := by decide +kernel
theorem dL_carriedByCells_0 : decode cL_carriedByCells 0 = .ok (.aload_n 3, 1) := by decide +kernel
theorem dL_carriedByCells_1 : decode cL_carriedByCells 1 = .ok (.iconst 0, 1) := by decide +kernel
theorem dL_carriedByCells_2 : decode cL_carriedByCells 2 = .ok (.aload_n 0, 1) := by decide +kernel
theorem dL_carriedByCells_3 : decode cL_carriedByCells 3 = .ok (.iload_n 1, 1) := by decide +kernel
theorem dL_carriedByCells_4 : decode cL_carriedByCells 4 = .ok (.iload_n 2, 1) := by decide +kernel
theorem dL_carriedByCells_5 : decode cL_carriedByCells 5 = .ok (.invokevirtual 121, 3) := by decide +kernel
theorem dL_carriedByCells_8 : decode cL_carriedByCells 8 = .ok (.i2l, 1) := by decide +kernel
theorem dL_carriedByCells_9 : decode cL_carriedByCells 9 = .ok (.lastore, 1) := by decide +kernel
theorem dL_carriedByCells_10 : decode cL_carriedByCells 10 = .ok (.goto 15, 3) := by decide +kernel
theorem dL_carriedByCells_13 : decode cL_carriedByCells 13 = .ok (.astore 4, 2) := by decide +kernel
theorem dL_carriedByCells_15 : decode cL_carriedByCells 15 = .ok (.iconst 1, 1) := by decide +kernel
theorem dL_carriedByCells_16 : decode cL_carriedByCells 16 = .ok (.ireturn, 1) := by decide +kernel
theorem dL_carriedByCells_17 : decode cL_carriedByCells 17 = .ok (.astore 4, 2) := by decide +kernel
theorem dL_carriedByCells_19 : decode cL_carriedByCells 19 = .ok (.iconst 2, 1) := by decide +kernel
theorem dL_carriedByCells_20 : decode cL_carriedByCells 20 = .ok (.ireturn, 1) := by decide +kernel
theorem dL_carriedByCells_21 : decode cL_carriedByCells 21 = .ok (.astore 4, 2) := by decide +kernel
theorem dL_carriedByCells_23 : decode cL_carriedByCells 23 = .ok (.iconst 3, 1) := by decide +kernel
theorem dL_carriedByCells_24 : decode cL_carriedByCells 24 = .ok (.ireturn, 1) := by decide +kernel
theorem dL_carriedByCells_25 : decode cL_carriedByCells 25 = .ok (.iconst 0, 1) := by decide +kernel
theorem dL_carriedByCells_26 : decode cL_carriedByCells 26 = .ok (.ireturn, 1) := by decide +kernel
def wp_L_column (p1 : Int) (p2 : Int) (κ : Nat → Int) (M : Mem) (Qm : Int → (Nat → Int) → Mem → Prop) : Prop := wp_X9_column κ p1 p2 M (fun E Mx => (E = xIAE ∧ Qm 1 κ Mx) ∨ (E = xISE ∧ Qm 2 κ Mx)) (fun r κ1 Mr => Qm 0 κ1 (up Mr 103 0 0 r))
set_option maxHeartbeats 4000000 in
set_option maxRecDepth 100000 in
theorem w_L_column {l : Launch} {G : Gx} {e0 : Nat} {α : Ax} {κ : Nat → Int} {B : Nat} {p1 : Int} {p2 : Int} (hlt : l.stackTraces = false) (he0 : e0 = G.2.2.2.2.2) (hκ : kOK κ) (hp1 : inR p1) (hp2 : inR p2) {M : Mem} {Qm : Int → (Nat → Int) → Mem → Prop} (hw : wp_L_column p1 p2 κ M Qm) : WRa l yL_column (Cond.codeWith yL_column cL_column 5 (some .int) [(0, 10, 13, 13), (0, 10, 17, 15)]) 9 3 1008 G e0 α κ B [.ref (α 10 0), .int (Int32.ofInt p1), .int (Int32.ofInt p2), .ref (α 103 0)] M Qm :=
  WRa.mk hκ (by decide +kernel) rfl (Nat.le_of_ble_eq_true rfl) (lv := [(0, .ref (α 10 0)), (1, .int (Int32.ofInt p1)), (2, .int (Int32.ofInt p2)), (3, .ref (α 103 0))]) rfl (fun p e s m args below meth c ls X N hT hR hS hl => by
    refine lv_aload_n X.1.1 X.1.2.1 dL_column_0 rfl (lv_at hl 3 rfl) ?_
    refine sa_const X.1 dL_column_1 ?_
    refine lv_aload_n X.1.1 X.1.2.1 dL_column_2 rfl (lv_at hl 0 rfl) ?_
    refine lv_iload_n X.1.1 X.1.2.1 dL_column_3 rfl (lv_at hl 1 rfl) ?_
    refine lv_iload_n X.1.1 X.1.2.1 dL_column_4 rfl (lv_at hl 2 rfl) ?_
    have hw : wp_X9_column κ p1 p2 M (fun E Mx => (E = xIAE ∧ Qm 1 κ Mx) ∨ (E = xISE ∧ Qm 2 κ Mx)) (fun r κ1 Mr => Qm 0 κ1 (up Mr 103 0 0 r)) := hw
    refine sw_callD 8 (n := 2) (As := [.int (Int32.ofInt p1), .int (Int32.ofInt p2)]) (rest := [.int (Int32.ofInt 0), .ref (α 103 0)]) X hR hS (m_X9_column hlt he0 hκ hp1 hp2 hw) kw_750 kw_751 kw_752 kw_94 kw_753 ⟨rfl, by decide +kernel, by decide +kernel, by decide +kernel⟩ ⟨by decide, by decide⟩ (rc_10 X hR (okf X.2.2.1 rfl)) rfl rfl (Nat.le_of_ble_eq_true rfl) hl.1 dL_column_5 ⟨by decide, by decide⟩ (fun E Mx ce q H locs hx hR hS hce hcv hcl => ?_) (fun r κ1 α1 Mr H locs hq hx hA hk hR hS => ?_)
    · rcases hx with ⟨rfl, hq⟩ | ⟨rfl, hq⟩
      · refine sw_catch (E := xIAE) (name := xIAE) (pre := []) (suf := [(0, 10, 17, 15)]) X hT rfl (fun _ h => nomatch h) (by decide) (by decide) kw_748 kn_756 hce hcv hcl ?_
        refine lv_astore (lv' := [(4, .ref q), (0, .ref (α 10 0)), (1, .int (Int32.ofInt p1)), (2, .int (Int32.ofInt p2)), (3, .ref (α 103 0))]) X.1.1 X.1.2.1 dL_column_13 hl (by decide) rfl (fun ls hl => ?_)
        refine sa_const X.1 dL_column_15 ?_
        exact sw_iret X hR hS (inR_c (a := 1) rfl) hq Ak.rf dL_column_16 (by decide) (by decide)
      · refine sw_catch (E := xISE) (name := xISE) (pre := [(0, 10, 13, 13)]) (suf := []) X hT rfl (List.forall_mem_cons.mpr ⟨⟨by decide, xIAE, kw_748, N.2.2.1⟩, (fun _ h => nomatch h)⟩) (by decide) (by decide) kw_749 kn_829 hce hcv hcl ?_
        refine lv_astore (lv' := [(4, .ref q), (0, .ref (α 10 0)), (1, .int (Int32.ofInt p1)), (2, .int (Int32.ofInt p2)), (3, .ref (α 103 0))]) X.1.1 X.1.2.1 dL_column_17 hl (by decide) rfl (fun ls hl => ?_)
        refine sa_const X.1 dL_column_19 ?_
        exact sw_iret X hR hS (inR_c (a := 2) rfl) hq Ak.rf dL_column_20 (by decide) (by decide)
    · refine lv_i2l X.1.1 X.1.2.1 dL_column_8 rfl ?_
      have X := X.re hk
      rw [← hA 103 (Or.inr (Or.inr rfl))]
      refine sa_lst X hR hS hx dL_column_9 (fun H locs hR hS => ?_)
      refine lv_goto (tgt := 21) X.1.1 X.1.2.1 dL_column_10 (by decide) ?_
      refine sa_const X.1 dL_column_21 ?_
      exact sw_iret X hR hS (inR_c (a := 0) rfl) hq hA dL_column_22 (by decide) (by decide))
def wp_L_row (p1 : Int) (p2 : Int) (p3 : Int) (κ : Nat → Int) (M : Mem) (Qm : Int → (Nat → Int) → Mem → Prop) : Prop := wp_X9_row κ p1 p2 p3 M (fun E Mx => (E = xIAE ∧ Qm 1 κ Mx) ∨ (E = xISE ∧ Qm 2 κ Mx)) (fun r κ1 Mr => Qm 0 κ1 (up Mr 103 0 0 r))
set_option maxHeartbeats 4000000 in
set_option maxRecDepth 100000 in
theorem w_L_row {l : Launch} {G : Gx} {e0 : Nat} {α : Ax} {κ : Nat → Int} {B : Nat} {p1 : Int} {p2 : Int} {p3 : Int} (hlt : l.stackTraces = false) (he0 : e0 = G.2.2.2.2.2) (hκ : kOK κ) (hp1 : inR p1) (hp2 : inR p2) (hp3 : inR p3) {M : Mem} {Qm : Int → (Nat → Int) → Mem → Prop} (hw : wp_L_row p1 p2 p3 κ M Qm) : WRa l yL_row (Cond.codeWith yL_row cL_row 6 (some .int) [(0, 12, 15, 13), (0, 12, 19, 15)]) 9 5 2017 G e0 α κ B [.ref (α 10 0), .int (Int32.ofInt p1), .int (Int32.ofInt p2), .int (Int32.ofInt p3), .ref (α 103 0)] M Qm :=
  WRa.mk hκ (by decide +kernel) rfl (Nat.le_of_ble_eq_true rfl) (lv := [(0, .ref (α 10 0)), (1, .int (Int32.ofInt p1)), (2, .int (Int32.ofInt p2)), (3, .int (Int32.ofInt p3)), (4, .ref (α 103 0))]) rfl (fun p e s m args below meth c ls X N hT hR hS hl => by
    refine lv_aload X.1.1 X.1.2.1 dL_row_0 (lv_at hl 4 rfl) ?_
    refine sa_const X.1 dL_row_2 ?_
    refine lv_aload_n X.1.1 X.1.2.1 dL_row_3 rfl (lv_at hl 0 rfl) ?_
    refine lv_iload_n X.1.1 X.1.2.1 dL_row_4 rfl (lv_at hl 1 rfl) ?_
    refine lv_iload_n X.1.1 X.1.2.1 dL_row_5 rfl (lv_at hl 2 rfl) ?_
    refine lv_iload_n X.1.1 X.1.2.1 dL_row_6 rfl (lv_at hl 3 rfl) ?_
    have hw : wp_X9_row κ p1 p2 p3 M (fun E Mx => (E = xIAE ∧ Qm 1 κ Mx) ∨ (E = xISE ∧ Qm 2 κ Mx)) (fun r κ1 Mr => Qm 0 κ1 (up Mr 103 0 0 r)) := hw
    refine sw_callD 8 (n := 3) (As := [.int (Int32.ofInt p1), .int (Int32.ofInt p2), .int (Int32.ofInt p3)]) (rest := [.int (Int32.ofInt 0), .ref (α 103 0)]) X hR hS (m_X9_row hlt he0 hκ hp1 hp2 hp3 hw) kw_929 kw_930 kw_931 kw_94 kw_932 ⟨rfl, by decide +kernel, by decide +kernel, by decide +kernel⟩ ⟨by decide, by decide⟩ (rc_10 X hR (okf X.2.2.1 rfl)) rfl rfl (Nat.le_of_ble_eq_true rfl) hl.1 dL_row_7 ⟨by decide, by decide⟩ (fun E Mx ce q H locs hx hR hS hce hcv hcl => ?_) (fun r κ1 α1 Mr H locs hq hx hA hk hR hS => ?_)
    · rcases hx with ⟨rfl, hq⟩ | ⟨rfl, hq⟩
      · refine sw_catch (E := xIAE) (name := xIAE) (pre := []) (suf := [(0, 12, 19, 15)]) X hT rfl (fun _ h => nomatch h) (by decide) (by decide) kw_748 kn_756 hce hcv hcl ?_
        refine lv_astore (lv' := [(5, .ref q), (0, .ref (α 10 0)), (1, .int (Int32.ofInt p1)), (2, .int (Int32.ofInt p2)), (3, .int (Int32.ofInt p3)), (4, .ref (α 103 0))]) X.1.1 X.1.2.1 dL_row_15 hl (by decide) rfl (fun ls hl => ?_)
        refine sa_const X.1 dL_row_17 ?_
        exact sw_iret X hR hS (inR_c (a := 1) rfl) hq Ak.rf dL_row_18 (by decide) (by decide)
      · refine sw_catch (E := xISE) (name := xISE) (pre := [(0, 12, 15, 13)]) (suf := []) X hT rfl (List.forall_mem_cons.mpr ⟨⟨by decide, xIAE, kw_748, N.2.2.1⟩, (fun _ h => nomatch h)⟩) (by decide) (by decide) kw_749 kn_829 hce hcv hcl ?_
        refine lv_astore (lv' := [(5, .ref q), (0, .ref (α 10 0)), (1, .int (Int32.ofInt p1)), (2, .int (Int32.ofInt p2)), (3, .int (Int32.ofInt p3)), (4, .ref (α 103 0))]) X.1.1 X.1.2.1 dL_row_19 hl (by decide) rfl (fun ls hl => ?_)
        refine sa_const X.1 dL_row_21 ?_
        exact sw_iret X hR hS (inR_c (a := 2) rfl) hq Ak.rf dL_row_22 (by decide) (by decide)
    · refine lv_i2l X.1.1 X.1.2.1 dL_row_10 rfl ?_
      have X := X.re hk
      rw [← hA 103 (Or.inr (Or.inr rfl))]
      refine sa_lst X hR hS hx dL_row_11 (fun H locs hR hS => ?_)
      refine lv_goto (tgt := 23) X.1.1 X.1.2.1 dL_row_12 (by decide) ?_
      refine sa_const X.1 dL_row_23 ?_
      exact sw_iret X hR hS (inR_c (a := 0) rfl) hq hA dL_row_24 (by decide) (by decide))
def wp_L_cell (p1 : Int) (p2 : Int) (p3 : Int) (p4 : Int) (κ : Nat → Int) (M : Mem) (Qm : Int → (Nat → Int) → Mem → Prop) : Prop := wp_X9_cell κ p1 p2 p3 p4 M (fun E Mx => (E = xIOB ∧ Qm 1 κ Mx) ∨ (E = xIAE ∧ Qm 2 κ Mx) ∨ (E = xISE ∧ Qm 3 κ Mx)) (fun r κ1 Mr => Qm 0 κ1 (up Mr 103 0 0 r))
set_option maxHeartbeats 4000000 in
set_option maxRecDepth 100000 in
theorem w_L_cell {l : Launch} {G : Gx} {e0 : Nat} {α : Ax} {κ : Nat → Int} {B : Nat} {p1 : Int} {p2 : Int} {p3 : Int} {p4 : Int} (hlt : l.stackTraces = false) (he0 : e0 = G.2.2.2.2.2) (hκ : kOK κ) (hp1 : inR p1) (hp2 : inR p2) (hp3 : inR p3) (hp4 : inR p4) {M : Mem} {Qm : Int → (Nat → Int) → Mem → Prop} (hw : wp_L_cell p1 p2 p3 p4 κ M Qm) : WRa l yL_cell (Cond.codeWith yL_cell cL_cell 7 (some .int) [(0, 14, 17, 25), (0, 14, 21, 13), (0, 14, 25, 15)]) 9 7 1053 G e0 α κ B [.ref (α 10 0), .int (Int32.ofInt p1), .int (Int32.ofInt p2), .int (Int32.ofInt p3), .int (Int32.ofInt p4), .ref (α 103 0)] M Qm :=
  WRa.mk hκ (by decide +kernel) rfl (Nat.le_of_ble_eq_true rfl) (lv := [(0, .ref (α 10 0)), (1, .int (Int32.ofInt p1)), (2, .int (Int32.ofInt p2)), (3, .int (Int32.ofInt p3)), (4, .int (Int32.ofInt p4)), (5, .ref (α 103 0))]) rfl (fun p e s m args below meth c ls X N hT hR hS hl => by
    refine lv_aload X.1.1 X.1.2.1 dL_cell_0 (lv_at hl 5 rfl) ?_
    refine sa_const X.1 dL_cell_2 ?_
    refine lv_aload_n X.1.1 X.1.2.1 dL_cell_3 rfl (lv_at hl 0 rfl) ?_
    refine lv_iload_n X.1.1 X.1.2.1 dL_cell_4 rfl (lv_at hl 1 rfl) ?_
    refine lv_iload_n X.1.1 X.1.2.1 dL_cell_5 rfl (lv_at hl 2 rfl) ?_
    refine lv_iload_n X.1.1 X.1.2.1 dL_cell_6 rfl (lv_at hl 3 rfl) ?_
    refine lv_iload X.1.1 X.1.2.1 dL_cell_7 (lv_at hl 4 rfl) ?_
    have hw : wp_X9_cell κ p1 p2 p3 p4 M (fun E Mx => (E = xIOB ∧ Qm 1 κ Mx) ∨ (E = xIAE ∧ Qm 2 κ Mx) ∨ (E = xISE ∧ Qm 3 κ Mx)) (fun r κ1 Mr => Qm 0 κ1 (up Mr 103 0 0 r)) := hw
    refine sw_callD 8 (n := 4) (As := [.int (Int32.ofInt p1), .int (Int32.ofInt p2), .int (Int32.ofInt p3), .int (Int32.ofInt p4)]) (rest := [.int (Int32.ofInt 0), .ref (α 103 0)]) X hR hS (m_X9_cell hlt he0 hκ hp1 hp2 hp3 hp4 hw) kw_992 kw_993 kw_994 kw_94 kw_995 ⟨rfl, by decide +kernel, by decide +kernel, by decide +kernel⟩ ⟨by decide, by decide⟩ (rc_10 X hR (okf X.2.2.1 rfl)) rfl rfl (Nat.le_of_ble_eq_true rfl) hl.1 dL_cell_9 ⟨by decide, by decide⟩ (fun E Mx ce q H locs hx hR hS hce hcv hcl => ?_) (fun r κ1 α1 Mr H locs hq hx hA hk hR hS => ?_)
    · rcases hx with ⟨rfl, hq⟩ | ⟨rfl, hq⟩ | ⟨rfl, hq⟩
      · refine sw_catch (E := xIOB) (name := xIOB) (pre := []) (suf := [(0, 14, 21, 13), (0, 14, 25, 15)]) X hT rfl (fun _ h => nomatch h) (by decide) (by decide) kw_991 kn_1003 hce hcv hcl ?_
        refine lv_astore (lv' := [(6, .ref q), (0, .ref (α 10 0)), (1, .int (Int32.ofInt p1)), (2, .int (Int32.ofInt p2)), (3, .int (Int32.ofInt p3)), (4, .int (Int32.ofInt p4)), (5, .ref (α 103 0))]) X.1.1 X.1.2.1 dL_cell_17 hl (by decide) rfl (fun ls hl => ?_)
        refine sa_const X.1 dL_cell_19 ?_
        exact sw_iret X hR hS (inR_c (a := 1) rfl) hq Ak.rf dL_cell_20 (by decide) (by decide)
      · refine sw_catch (E := xIAE) (name := xIAE) (pre := [(0, 14, 17, 25)]) (suf := [(0, 14, 25, 15)]) X hT rfl (List.forall_mem_cons.mpr ⟨⟨by decide, xIOB, kw_991, N.2.1⟩, (fun _ h => nomatch h)⟩) (by decide) (by decide) kw_748 kn_756 hce hcv hcl ?_
        refine lv_astore (lv' := [(6, .ref q), (0, .ref (α 10 0)), (1, .int (Int32.ofInt p1)), (2, .int (Int32.ofInt p2)), (3, .int (Int32.ofInt p3)), (4, .int (Int32.ofInt p4)), (5, .ref (α 103 0))]) X.1.1 X.1.2.1 dL_cell_21 hl (by decide) rfl (fun ls hl => ?_)
        refine sa_const X.1 dL_cell_23 ?_
        exact sw_iret X hR hS (inR_c (a := 2) rfl) hq Ak.rf dL_cell_24 (by decide) (by decide)
      · refine sw_catch (E := xISE) (name := xISE) (pre := [(0, 14, 17, 25), (0, 14, 21, 13)]) (suf := []) X hT rfl (List.forall_mem_cons.mpr ⟨⟨by decide, xIOB, kw_991, N.2.2.2.1⟩, (List.forall_mem_cons.mpr ⟨⟨by decide, xIAE, kw_748, N.2.2.1⟩, (fun _ h => nomatch h)⟩)⟩) (by decide) (by decide) kw_749 kn_829 hce hcv hcl ?_
        refine lv_astore (lv' := [(6, .ref q), (0, .ref (α 10 0)), (1, .int (Int32.ofInt p1)), (2, .int (Int32.ofInt p2)), (3, .int (Int32.ofInt p3)), (4, .int (Int32.ofInt p4)), (5, .ref (α 103 0))]) X.1.1 X.1.2.1 dL_cell_25 hl (by decide) rfl (fun ls hl => ?_)
        refine sa_const X.1 dL_cell_27 ?_
        exact sw_iret X hR hS (inR_c (a := 3) rfl) hq Ak.rf dL_cell_28 (by decide) (by decide)
    · refine lv_i2l X.1.1 X.1.2.1 dL_cell_12 rfl ?_
      have X := X.re hk
      rw [← hA 103 (Or.inr (Or.inr rfl))]
      refine sa_lst X hR hS hx dL_cell_13 (fun H locs hR hS => ?_)
      refine lv_goto (tgt := 29) X.1.1 X.1.2.1 dL_cell_14 (by decide) ?_
      refine sa_const X.1 dL_cell_29 ?_
      exact sw_iret X hR hS (inR_c (a := 0) rfl) hq hA dL_cell_30 (by decide) (by decide))
def wp_L_word (p1 : Int) (p2 : Int) (p3 : Int) (κ : Nat → Int) (M : Mem) (Qm : Int → (Nat → Int) → Mem → Prop) : Prop := wp_X9_word p1 p2 p3 M (fun E Mx => (E = xIOB ∧ Qm 1 κ Mx) ∨ (E = xIAE ∧ Qm 2 κ Mx) ∨ (E = xISE ∧ Qm 3 κ Mx)) (fun r Mr => Qm 0 κ (up Mr 103 0 0 r))
set_option maxHeartbeats 4000000 in
set_option maxRecDepth 100000 in
theorem w_L_word {l : Launch} {G : Gx} {e0 : Nat} {α : Ax} {κ : Nat → Int} {B : Nat} {p1 : Int} {p2 : Int} {p3 : Int} (hlt : l.stackTraces = false) (he0 : e0 = G.2.2.2.2.2) (hκ : kOK κ) (hp1 : inR p1) (hp2 : inR p2) (hp3 : inR p3) {M : Mem} {Qm : Int → (Nat → Int) → Mem → Prop} (hw : wp_L_word p1 p2 p3 κ M Qm) : WRa l yL_word (Cond.codeWith yL_word cL_word 6 (some .int) [(0, 12, 15, 25), (0, 12, 19, 13), (0, 12, 23, 15)]) 8 2 12 G e0 α κ B [.ref (α 10 0), .int (Int32.ofInt p1), .int (Int32.ofInt p2), .int (Int32.ofInt p3), .ref (α 103 0)] M Qm :=
  WRa.mk hκ (by decide +kernel) rfl (Nat.le_of_ble_eq_true rfl) (lv := [(0, .ref (α 10 0)), (1, .int (Int32.ofInt p1)), (2, .int (Int32.ofInt p2)), (3, .int (Int32.ofInt p3)), (4, .ref (α 103 0))]) rfl (fun p e s m args below meth c ls X N hT hR hS hl => by
    refine lv_aload X.1.1 X.1.2.1 dL_word_0 (lv_at hl 4 rfl) ?_
    refine sa_const X.1 dL_word_2 ?_
    refine lv_aload_n X.1.1 X.1.2.1 dL_word_3 rfl (lv_at hl 0 rfl) ?_
    refine lv_iload_n X.1.1 X.1.2.1 dL_word_4 rfl (lv_at hl 1 rfl) ?_
    refine lv_iload_n X.1.1 X.1.2.1 dL_word_5 rfl (lv_at hl 2 rfl) ?_
    refine lv_iload_n X.1.1 X.1.2.1 dL_word_6 rfl (lv_at hl 3 rfl) ?_
    have hw : wp_X9_word p1 p2 p3 M (fun E Mx => (E = xIOB ∧ Qm 1 κ Mx) ∨ (E = xIAE ∧ Qm 2 κ Mx) ∨ (E = xISE ∧ Qm 3 κ Mx)) (fun r Mr => Qm 0 κ (up Mr 103 0 0 r)) := hw
    refine sw_callI 7 (n := 3) (As := [.int (Int32.ofInt p1), .int (Int32.ofInt p2), .int (Int32.ofInt p3)]) (rest := [.int (Int32.ofInt 0), .ref (α 103 0)]) X hR hS (m_X9_word hlt hκ hp1 hp2 hp3 hw) kw_1117 kw_1118 kw_1119 kw_94 kw_1120 ⟨rfl, by decide +kernel, by decide +kernel, by decide +kernel⟩ ⟨by decide, by decide⟩ (rc_10 X hR (okf X.2.2.1 rfl)) rfl rfl (Nat.le_of_ble_eq_true rfl) hl.1 dL_word_7 ⟨by decide, by decide⟩ (fun E Mx ce q H locs hx hR hS hce hcv hcl => ?_) (fun r Mr H locs hq hx hR hS => ?_)
    · rcases hx with ⟨rfl, hq⟩ | ⟨rfl, hq⟩ | ⟨rfl, hq⟩
      · refine sw_catch (E := xIOB) (name := xIOB) (pre := []) (suf := [(0, 12, 19, 13), (0, 12, 23, 15)]) X hT rfl (fun _ h => nomatch h) (by decide) (by decide) kw_991 kn_1003 hce hcv hcl ?_
        refine lv_astore (lv' := [(5, .ref q), (0, .ref (α 10 0)), (1, .int (Int32.ofInt p1)), (2, .int (Int32.ofInt p2)), (3, .int (Int32.ofInt p3)), (4, .ref (α 103 0))]) X.1.1 X.1.2.1 dL_word_15 hl (by decide) rfl (fun ls hl => ?_)
        refine sa_const X.1 dL_word_17 ?_
        exact sw_iret X hR hS (inR_c (a := 1) rfl) hq Ak.rf dL_word_18 (by decide) (by decide)
      · refine sw_catch (E := xIAE) (name := xIAE) (pre := [(0, 12, 15, 25)]) (suf := [(0, 12, 23, 15)]) X hT rfl (List.forall_mem_cons.mpr ⟨⟨by decide, xIOB, kw_991, N.2.1⟩, (fun _ h => nomatch h)⟩) (by decide) (by decide) kw_748 kn_756 hce hcv hcl ?_
        refine lv_astore (lv' := [(5, .ref q), (0, .ref (α 10 0)), (1, .int (Int32.ofInt p1)), (2, .int (Int32.ofInt p2)), (3, .int (Int32.ofInt p3)), (4, .ref (α 103 0))]) X.1.1 X.1.2.1 dL_word_19 hl (by decide) rfl (fun ls hl => ?_)
        refine sa_const X.1 dL_word_21 ?_
        exact sw_iret X hR hS (inR_c (a := 2) rfl) hq Ak.rf dL_word_22 (by decide) (by decide)
      · refine sw_catch (E := xISE) (name := xISE) (pre := [(0, 12, 15, 25), (0, 12, 19, 13)]) (suf := []) X hT rfl (List.forall_mem_cons.mpr ⟨⟨by decide, xIOB, kw_991, N.2.2.2.1⟩, (List.forall_mem_cons.mpr ⟨⟨by decide, xIAE, kw_748, N.2.2.1⟩, (fun _ h => nomatch h)⟩)⟩) (by decide) (by decide) kw_749 kn_829 hce hcv hcl ?_
        refine lv_astore (lv' := [(5, .ref q), (0, .ref (α 10 0)), (1, .int (Int32.ofInt p1)), (2, .int (Int32.ofInt p2)), (3, .int (Int32.ofInt p3)), (4, .ref (α 103 0))]) X.1.1 X.1.2.1 dL_word_23 hl (by decide) rfl (fun ls hl => ?_)
        refine sa_const X.1 dL_word_25 ?_
        exact sw_iret X hR hS (inR_c (a := 3) rfl) hq Ak.rf dL_word_26 (by decide) (by decide)
    · refine lv_i2l X.1.1 X.1.2.1 dL_word_10 rfl ?_
      refine sa_lst X hR hS hx dL_word_11 (fun H locs hR hS => ?_)
      refine lv_goto (tgt := 27) X.1.1 X.1.2.1 dL_word_12 (by decide) ?_
      refine sa_const X.1 dL_word_27 ?_
      exact sw_iret X hR hS (inR_c (a := 0) rfl) hq Ak.rf dL_word_28 (by decide) (by decide))
def wp_L_figure (p1 : Int) (p2 : Int) (p3 : Int) (κ : Nat → Int) (M : Mem) (Qm : Int → (Nat → Int) → Mem → Prop) : Prop := wp_X9_figure p1 p2 p3 M (fun E Mx => (E = xIOB ∧ Qm 1 κ Mx) ∨ (E = xIAE ∧ Qm 2 κ Mx) ∨ (E = xISE ∧ Qm 3 κ Mx)) (fun Mr => Qm 0 κ Mr)
set_option maxHeartbeats 4000000 in
set_option maxRecDepth 100000 in
theorem w_L_figure {l : Launch} {G : Gx} {e0 : Nat} {α : Ax} {κ : Nat → Int} {B : Nat} {p1 : Int} {p2 : Int} {p3 : Int} (hlt : l.stackTraces = false) (he0 : e0 = G.2.2.2.2.2) (hκ : kOK κ) (hp1 : inR p1) (hp2 : inR p2) (hp3 : inR p3) {M : Mem} {Qm : Int → (Nat → Int) → Mem → Prop} (hw : wp_L_figure p1 p2 p3 κ M Qm) : WRa l yL_figure (Cond.codeWith yL_figure cL_figure 5 (some .int) [(0, 7, 10, 25), (0, 7, 14, 13), (0, 7, 18, 15)]) 8 2 12 G e0 α κ B [.ref (α 10 0), .int (Int32.ofInt p1), .int (Int32.ofInt p2), .int (Int32.ofInt p3)] M Qm :=
  WRa.mk hκ (by decide +kernel) rfl (Nat.le_of_ble_eq_true rfl) (lv := [(0, .ref (α 10 0)), (1, .int (Int32.ofInt p1)), (2, .int (Int32.ofInt p2)), (3, .int (Int32.ofInt p3))]) rfl (fun p e s m args below meth c ls X N hT hR hS hl => by
    refine lv_aload_n X.1.1 X.1.2.1 dL_figure_0 rfl (lv_at hl 0 rfl) ?_
    refine lv_iload_n X.1.1 X.1.2.1 dL_figure_1 rfl (lv_at hl 1 rfl) ?_
    refine lv_iload_n X.1.1 X.1.2.1 dL_figure_2 rfl (lv_at hl 2 rfl) ?_
    refine lv_iload_n X.1.1 X.1.2.1 dL_figure_3 rfl (lv_at hl 3 rfl) ?_
    have hw : wp_X9_figure p1 p2 p3 M (fun E Mx => (E = xIOB ∧ Qm 1 κ Mx) ∨ (E = xIAE ∧ Qm 2 κ Mx) ∨ (E = xISE ∧ Qm 3 κ Mx)) (fun Mr => Qm 0 κ Mr) := hw
    refine sw_callV 7 (n := 3) (As := [.int (Int32.ofInt p1), .int (Int32.ofInt p2), .int (Int32.ofInt p3)]) (rest := []) X hR hS (m_X9_figure hlt hκ hp1 hp2 hp3 hw) kw_1139 kw_1140 kw_1141 kw_94 kw_1142 ⟨rfl, by decide +kernel, by decide +kernel, by decide +kernel⟩ ⟨by decide, by decide⟩ (rc_10 X hR (okf X.2.2.1 rfl)) rfl rfl (Nat.le_of_ble_eq_true rfl) hl.1 dL_figure_4 ⟨by decide, by decide⟩ (fun E Mx ce q H locs hx hR hS hce hcv hcl => ?_) (fun Mr H locs hq hR hS => ?_)
    · rcases hx with ⟨rfl, hq⟩ | ⟨rfl, hq⟩ | ⟨rfl, hq⟩
      · refine sw_catch (E := xIOB) (name := xIOB) (pre := []) (suf := [(0, 7, 14, 13), (0, 7, 18, 15)]) X hT rfl (fun _ h => nomatch h) (by decide) (by decide) kw_991 kn_1003 hce hcv hcl ?_
        refine lv_astore (lv' := [(4, .ref q), (0, .ref (α 10 0)), (1, .int (Int32.ofInt p1)), (2, .int (Int32.ofInt p2)), (3, .int (Int32.ofInt p3))]) X.1.1 X.1.2.1 dL_figure_10 hl (by decide) rfl (fun ls hl => ?_)
        refine sa_const X.1 dL_figure_12 ?_
        exact sw_iret X hR hS (inR_c (a := 1) rfl) hq Ak.rf dL_figure_13 (by decide) (by decide)
      · refine sw_catch (E := xIAE) (name := xIAE) (pre := [(0, 7, 10, 25)]) (suf := [(0, 7, 18, 15)]) X hT rfl (List.forall_mem_cons.mpr ⟨⟨by decide, xIOB, kw_991, N.2.1⟩, (fun _ h => nomatch h)⟩) (by decide) (by decide) kw_748 kn_756 hce hcv hcl ?_
        refine lv_astore (lv' := [(4, .ref q), (0, .ref (α 10 0)), (1, .int (Int32.ofInt p1)), (2, .int (Int32.ofInt p2)), (3, .int (Int32.ofInt p3))]) X.1.1 X.1.2.1 dL_figure_14 hl (by decide) rfl (fun ls hl => ?_)
        refine sa_const X.1 dL_figure_16 ?_
        exact sw_iret X hR hS (inR_c (a := 2) rfl) hq Ak.rf dL_figure_17 (by decide) (by decide)
      · refine sw_catch (E := xISE) (name := xISE) (pre := [(0, 7, 10, 25), (0, 7, 14, 13)]) (suf := []) X hT rfl (List.forall_mem_cons.mpr ⟨⟨by decide, xIOB, kw_991, N.2.2.2.1⟩, (List.forall_mem_cons.mpr ⟨⟨by decide, xIAE, kw_748, N.2.2.1⟩, (fun _ h => nomatch h)⟩)⟩) (by decide) (by decide) kw_749 kn_829 hce hcv hcl ?_
        refine lv_astore (lv' := [(4, .ref q), (0, .ref (α 10 0)), (1, .int (Int32.ofInt p1)), (2, .int (Int32.ofInt p2)), (3, .int (Int32.ofInt p3))]) X.1.1 X.1.2.1 dL_figure_18 hl (by decide) rfl (fun ls hl => ?_)
        refine sa_const X.1 dL_figure_20 ?_
        exact sw_iret X hR hS (inR_c (a := 3) rfl) hq Ak.rf dL_figure_21 (by decide) (by decide)
    · skip
      refine lv_goto (tgt := 22) X.1.1 X.1.2.1 dL_figure_7 (by decide) ?_
      refine sa_const X.1 dL_figure_22 ?_
      exact sw_iret X hR hS (inR_c (a := 0) rfl) hq Ak.rf dL_figure_23 (by decide) (by decide))
def wp_L_empty (p1 : Int) (κ : Nat → Int) (M : Mem) (Qm : Int → (Nat → Int) → Mem → Prop) : Prop := wp_X9_empty p1 M (fun E Mx => (E = xIOB ∧ Qm 1 κ Mx)) (fun r Mr => Qm 0 κ (up Mr 103 0 0 r))
set_option maxHeartbeats 4000000 in
set_option maxRecDepth 100000 in
theorem w_L_empty {l : Launch} {G : Gx} {e0 : Nat} {α : Ax} {κ : Nat → Int} {B : Nat} {p1 : Int} (hlt : l.stackTraces = false) (he0 : e0 = G.2.2.2.2.2) (hκ : kOK κ) (hp1 : inR p1) {M : Mem} {Qm : Int → (Nat → Int) → Mem → Prop} (hw : wp_L_empty p1 κ M Qm) : WRa l yL_empty (Cond.codeWith yL_empty cL_empty 4 (some .int) [(0, 9, 12, 25)]) 8 1 6 G e0 α κ B [.ref (α 10 0), .int (Int32.ofInt p1), .ref (α 103 0)] M Qm :=
  WRa.mk hκ (by decide +kernel) rfl (Nat.le_of_ble_eq_true rfl) (lv := [(0, .ref (α 10 0)), (1, .int (Int32.ofInt p1)), (2, .ref (α 103 0))]) rfl (fun p e s m args below meth c ls X N hT hR hS hl => by
    refine lv_aload_n X.1.1 X.1.2.1 dL_empty_0 rfl (lv_at hl 2 rfl) ?_
    refine sa_const X.1 dL_empty_1 ?_
    refine lv_aload_n X.1.1 X.1.2.1 dL_empty_2 rfl (lv_at hl 0 rfl) ?_
    refine lv_iload_n X.1.1 X.1.2.1 dL_empty_3 rfl (lv_at hl 1 rfl) ?_
    have hw : wp_X9_empty p1 M (fun E Mx => (E = xIOB ∧ Qm 1 κ Mx)) (fun r Mr => Qm 0 κ (up Mr 103 0 0 r)) := hw
    refine sw_callI 7 (n := 1) (As := [.int (Int32.ofInt p1)]) (rest := [.int (Int32.ofInt 0), .ref (α 103 0)]) X hR hS (m_X9_empty hlt hκ hp1 hw) kw_1153 kw_1154 kw_1155 kw_94 kw_1156 ⟨rfl, by decide +kernel, by decide +kernel, by decide +kernel⟩ ⟨by decide, by decide⟩ (rc_10 X hR (okf X.2.2.1 rfl)) rfl rfl (Nat.le_of_ble_eq_true rfl) hl.1 dL_empty_4 ⟨by decide, by decide⟩ (fun E Mx ce q H locs hx hR hS hce hcv hcl => ?_) (fun r Mr H locs hq hx hR hS => ?_)
    · obtain ⟨rfl, hq⟩ := hx
      refine sw_catch (E := xIOB) (name := xIOB) (pre := []) (suf := []) X hT rfl (fun _ h => nomatch h) (by decide) (by decide) kw_991 kn_1003 hce hcv hcl ?_
      refine lv_astore_n (lv' := [(3, .ref q), (0, .ref (α 10 0)), (1, .int (Int32.ofInt p1)), (2, .ref (α 103 0))]) X.1.1 X.1.2.1 dL_empty_12 rfl hl (by decide) rfl (fun ls hl => ?_)
      refine sa_const X.1 dL_empty_13 ?_
      exact sw_iret X hR hS (inR_c (a := 1) rfl) hq Ak.rf dL_empty_14 (by decide) (by decide)
    · refine lv_i2l X.1.1 X.1.2.1 dL_empty_7 rfl ?_
      refine sa_lst X hR hS hx dL_empty_8 (fun H locs hR hS => ?_)
      refine lv_goto (tgt := 15) X.1.1 X.1.2.1 dL_empty_9 (by decide) ?_
      refine sa_const X.1 dL_empty_15 ?_
      exact sw_iret X hR hS (inR_c (a := 0) rfl) hq Ak.rf dL_empty_16 (by decide) (by decide))
def wp_L_note (p1 : Int) (p2 : Int) (κ : Nat → Int) (M : Mem) (Qm : Int → (Nat → Int) → Mem → Prop) : Prop := wp_X9_note p1 p2 M (fun E Mx => (E = xIOB ∧ Qm 1 κ Mx) ∨ (E = xIAE ∧ Qm 2 κ Mx) ∨ (E = xISE ∧ Qm 3 κ Mx)) (fun r Mr => Qm 0 κ (up Mr 103 0 0 r))
set_option maxHeartbeats 4000000 in
set_option maxRecDepth 100000 in
theorem w_L_note {l : Launch} {G : Gx} {e0 : Nat} {α : Ax} {κ : Nat → Int} {B : Nat} {p1 : Int} {p2 : Int} (hlt : l.stackTraces = false) (he0 : e0 = G.2.2.2.2.2) (hκ : kOK κ) (hp1 : inR p1) (hp2 : inR p2) {M : Mem} {Qm : Int → (Nat → Int) → Mem → Prop} (hw : wp_L_note p1 p2 κ M Qm) : WRa l yL_note (Cond.codeWith yL_note cL_note 5 (some .int) [(0, 10, 13, 25), (0, 10, 17, 13), (0, 10, 21, 15)]) 8 2 12 G e0 α κ B [.ref (α 10 0), .int (Int32.ofInt p1), .int (Int32.ofInt p2), .ref (α 103 0)] M Qm :=
  WRa.mk hκ (by decide +kernel) rfl (Nat.le_of_ble_eq_true rfl) (lv := [(0, .ref (α 10 0)), (1, .int (Int32.ofInt p1)), (2, .int (Int32.ofInt p2)), (3, .ref (α 103 0))]) rfl (fun p e s m args below meth c ls X N hT hR hS hl => by
    refine lv_aload_n X.1.1 X.1.2.1 dL_note_0 rfl (lv_at hl 3 rfl) ?_
    refine sa_const X.1 dL_note_1 ?_
    refine lv_aload_n X.1.1 X.1.2.1 dL_note_2 rfl (lv_at hl 0 rfl) ?_
    refine lv_iload_n X.1.1 X.1.2.1 dL_note_3 rfl (lv_at hl 1 rfl) ?_
    refine lv_iload_n X.1.1 X.1.2.1 dL_note_4 rfl (lv_at hl 2 rfl) ?_
    have hw : wp_X9_note p1 p2 M (fun E Mx => (E = xIOB ∧ Qm 1 κ Mx) ∨ (E = xIAE ∧ Qm 2 κ Mx) ∨ (E = xISE ∧ Qm 3 κ Mx)) (fun r Mr => Qm 0 κ (up Mr 103 0 0 r)) := hw
    refine sw_callI 7 (n := 2) (As := [.int (Int32.ofInt p1), .int (Int32.ofInt p2)]) (rest := [.int (Int32.ofInt 0), .ref (α 103 0)]) X hR hS (m_X9_note hlt hκ hp1 hp2 hw) kw_1160 kw_1161 kw_1162 kw_94 kw_1163 ⟨rfl, by decide +kernel, by decide +kernel, by decide +kernel⟩ ⟨by decide, by decide⟩ (rc_10 X hR (okf X.2.2.1 rfl)) rfl rfl (Nat.le_of_ble_eq_true rfl) hl.1 dL_note_5 ⟨by decide, by decide⟩ (fun E Mx ce q H locs hx hR hS hce hcv hcl => ?_) (fun r Mr H locs hq hx hR hS => ?_)
    · rcases hx with ⟨rfl, hq⟩ | ⟨rfl, hq⟩ | ⟨rfl, hq⟩
      · refine sw_catch (E := xIOB) (name := xIOB) (pre := []) (suf := [(0, 10, 17, 13), (0, 10, 21, 15)]) X hT rfl (fun _ h => nomatch h) (by decide) (by decide) kw_991 kn_1003 hce hcv hcl ?_
        refine lv_astore (lv' := [(4, .ref q), (0, .ref (α 10 0)), (1, .int (Int32.ofInt p1)), (2, .int (Int32.ofInt p2)), (3, .ref (α 103 0))]) X.1.1 X.1.2.1 dL_note_13 hl (by decide) rfl (fun ls hl => ?_)
        refine sa_const X.1 dL_note_15 ?_
        exact sw_iret X hR hS (inR_c (a := 1) rfl) hq Ak.rf dL_note_16 (by decide) (by decide)
      · refine sw_catch (E := xIAE) (name := xIAE) (pre := [(0, 10, 13, 25)]) (suf := [(0, 10, 21, 15)]) X hT rfl (List.forall_mem_cons.mpr ⟨⟨by decide, xIOB, kw_991, N.2.1⟩, (fun _ h => nomatch h)⟩) (by decide) (by decide) kw_748 kn_756 hce hcv hcl ?_
        refine lv_astore (lv' := [(4, .ref q), (0, .ref (α 10 0)), (1, .int (Int32.ofInt p1)), (2, .int (Int32.ofInt p2)), (3, .ref (α 103 0))]) X.1.1 X.1.2.1 dL_note_17 hl (by decide) rfl (fun ls hl => ?_)
        refine sa_const X.1 dL_note_19 ?_
        exact sw_iret X hR hS (inR_c (a := 2) rfl) hq Ak.rf dL_note_20 (by decide) (by decide)
      · refine sw_catch (E := xISE) (name := xISE) (pre := [(0, 10, 13, 25), (0, 10, 17, 13)]) (suf := []) X hT rfl (List.forall_mem_cons.mpr ⟨⟨by decide, xIOB, kw_991, N.2.2.2.1⟩, (List.forall_mem_cons.mpr ⟨⟨by decide, xIAE, kw_748, N.2.2.1⟩, (fun _ h => nomatch h)⟩)⟩) (by decide) (by decide) kw_749 kn_829 hce hcv hcl ?_
        refine lv_astore (lv' := [(4, .ref q), (0, .ref (α 10 0)), (1, .int (Int32.ofInt p1)), (2, .int (Int32.ofInt p2)), (3, .ref (α 103 0))]) X.1.1 X.1.2.1 dL_note_21 hl (by decide) rfl (fun ls hl => ?_)
        refine sa_const X.1 dL_note_23 ?_
        exact sw_iret X hR hS (inR_c (a := 3) rfl) hq Ak.rf dL_note_24 (by decide) (by decide)
    · refine lv_i2l X.1.1 X.1.2.1 dL_note_8 rfl ?_
      refine sa_lst X hR hS hx dL_note_9 (fun H locs hR hS => ?_)
      refine lv_goto (tgt := 25) X.1.1 X.1.2.1 dL_note_10 (by decide) ?_
      refine sa_const X.1 dL_note_25 ?_
      exact sw_iret X hR hS (inR_c (a := 0) rfl) hq Ak.rf dL_note_26 (by decide) (by decide))
def wp_L_at (p1 : Int) (p2 : Int) (κ : Nat → Int) (M : Mem) (Qm : Int → (Nat → Int) → Mem → Prop) : Prop := wp_X9_at p1 p2 M (fun E Mx => (E = xIOB ∧ Qm 1 κ Mx)) (fun r Mr => Qm 0 κ (up Mr 103 0 0 r))
set_option maxHeartbeats 4000000 in
set_option maxRecDepth 100000 in
theorem w_L_at {l : Launch} {G : Gx} {e0 : Nat} {α : Ax} {κ : Nat → Int} {B : Nat} {p1 : Int} {p2 : Int} (hlt : l.stackTraces = false) (he0 : e0 = G.2.2.2.2.2) (hκ : kOK κ) (hp1 : inR p1) (hp2 : inR p2) {M : Mem} {Qm : Int → (Nat → Int) → Mem → Prop} (hw : wp_L_at p1 p2 κ M Qm) : WRa l yL_at (Cond.codeWith yL_at cL_at 5 (some .int) [(0, 10, 13, 25)]) 8 2 12 G e0 α κ B [.ref (α 10 0), .int (Int32.ofInt p1), .int (Int32.ofInt p2), .ref (α 103 0)] M Qm :=
  WRa.mk hκ (by decide +kernel) rfl (Nat.le_of_ble_eq_true rfl) (lv := [(0, .ref (α 10 0)), (1, .int (Int32.ofInt p1)), (2, .int (Int32.ofInt p2)), (3, .ref (α 103 0))]) rfl (fun p e s m args below meth c ls X N hT hR hS hl => by
    refine lv_aload_n X.1.1 X.1.2.1 dL_at_0 rfl (lv_at hl 3 rfl) ?_
    refine sa_const X.1 dL_at_1 ?_
    refine lv_aload_n X.1.1 X.1.2.1 dL_at_2 rfl (lv_at hl 0 rfl) ?_
    refine lv_iload_n X.1.1 X.1.2.1 dL_at_3 rfl (lv_at hl 1 rfl) ?_
    refine lv_iload_n X.1.1 X.1.2.1 dL_at_4 rfl (lv_at hl 2 rfl) ?_
    have hw : wp_X9_at p1 p2 M (fun E Mx => (E = xIOB ∧ Qm 1 κ Mx)) (fun r Mr => Qm 0 κ (up Mr 103 0 0 r)) := hw
    refine sw_callI 7 (n := 2) (As := [.int (Int32.ofInt p1), .int (Int32.ofInt p2)]) (rest := [.int (Int32.ofInt 0), .ref (α 103 0)]) X hR hS (m_X9_at hlt hκ hp1 hp2 hw) kw_1169 kw_1170 kw_1171 kw_94 kw_1172 ⟨rfl, by decide +kernel, by decide +kernel, by decide +kernel⟩ ⟨by decide, by decide⟩ (rc_10 X hR (okf X.2.2.1 rfl)) rfl rfl (Nat.le_of_ble_eq_true rfl) hl.1 dL_at_5 ⟨by decide, by decide⟩ (fun E Mx ce q H locs hx hR hS hce hcv hcl => ?_) (fun r Mr H locs hq hx hR hS => ?_)
    · obtain ⟨rfl, hq⟩ := hx
      refine sw_catch (E := xIOB) (name := xIOB) (pre := []) (suf := []) X hT rfl (fun _ h => nomatch h) (by decide) (by decide) kw_991 kn_1003 hce hcv hcl ?_
      refine lv_astore (lv' := [(4, .ref q), (0, .ref (α 10 0)), (1, .int (Int32.ofInt p1)), (2, .int (Int32.ofInt p2)), (3, .ref (α 103 0))]) X.1.1 X.1.2.1 dL_at_13 hl (by decide) rfl (fun ls hl => ?_)
      refine sa_const X.1 dL_at_15 ?_
      exact sw_iret X hR hS (inR_c (a := 1) rfl) hq Ak.rf dL_at_16 (by decide) (by decide)
    · refine lv_i2l X.1.1 X.1.2.1 dL_at_8 rfl ?_
      refine sa_lst X hR hS hx dL_at_9 (fun H locs hR hS => ?_)
      refine lv_goto (tgt := 17) X.1.1 X.1.2.1 dL_at_10 (by decide) ?_
      refine sa_const X.1 dL_at_17 ?_
      exact sw_iret X hR hS (inR_c (a := 0) rfl) hq Ak.rf dL_at_18 (by decide) (by decide))
def wp_L_setPaper (p1 : Int) (p2 : Int) (κ : Nat → Int) (M : Mem) (Qm : Int → (Nat → Int) → Mem → Prop) : Prop := wp_X9_setPaper p1 p2 M (fun E Mx => (E = xIAE ∧ Qm 1 κ Mx)) (fun Mr => Qm 0 κ Mr)
set_option maxHeartbeats 4000000 in
set_option maxRecDepth 100000 in
theorem w_L_setPaper {l : Launch} {G : Gx} {e0 : Nat} {α : Ax} {κ : Nat → Int} {B : Nat} {p1 : Int} {p2 : Int} (hlt : l.stackTraces = false) (he0 : e0 = G.2.2.2.2.2) (hκ : kOK κ) (hp1 : inR p1) (hp2 : inR p2) {M : Mem} {Qm : Int → (Nat → Int) → Mem → Prop} (hw : wp_L_setPaper p1 p2 κ M Qm) : WRa l yL_setPaper (Cond.codeWith yL_setPaper cL_setPaper 4 (some .int) [(0, 6, 9, 13)]) 7 1 6 G e0 α κ B [.ref (α 10 0), .int (Int32.ofInt p1), .int (Int32.ofInt p2)] M Qm :=
  WRa.mk hκ (by decide +kernel) rfl (Nat.le_of_ble_eq_true rfl) (lv := [(0, .ref (α 10 0)), (1, .int (Int32.ofInt p1)), (2, .int (Int32.ofInt p2))]) rfl (fun p e s m args below meth c ls X N hT hR hS hl => by
    refine lv_aload_n X.1.1 X.1.2.1 dL_setPaper_0 rfl (lv_at hl 0 rfl) ?_
    refine lv_iload_n X.1.1 X.1.2.1 dL_setPaper_1 rfl (lv_at hl 1 rfl) ?_
    refine lv_iload_n X.1.1 X.1.2.1 dL_setPaper_2 rfl (lv_at hl 2 rfl) ?_
    have hw : wp_X9_setPaper p1 p2 M (fun E Mx => (E = xIAE ∧ Qm 1 κ Mx)) (fun Mr => Qm 0 κ Mr) := hw
    refine sw_callV 6 (n := 2) (As := [.int (Int32.ofInt p1), .int (Int32.ofInt p2)]) (rest := []) X hR hS (m_X9_setPaper hlt hκ hp1 hp2 hw) kw_1181 kw_1182 kw_1183 kw_94 kw_1184 ⟨rfl, by decide +kernel, by decide +kernel, by decide +kernel⟩ ⟨by decide, by decide⟩ (rc_10 X hR (okf X.2.2.1 rfl)) rfl rfl (Nat.le_of_ble_eq_true rfl) hl.1 dL_setPaper_3 ⟨by decide, by decide⟩ (fun E Mx ce q H locs hx hR hS hce hcv hcl => ?_) (fun Mr H locs hq hR hS => ?_)
    · obtain ⟨rfl, hq⟩ := hx
      refine sw_catch (E := xIAE) (name := xIAE) (pre := []) (suf := []) X hT rfl (fun _ h => nomatch h) (by decide) (by decide) kw_748 kn_756 hce hcv hcl ?_
      refine lv_astore_n (lv' := [(3, .ref q), (0, .ref (α 10 0)), (1, .int (Int32.ofInt p1)), (2, .int (Int32.ofInt p2))]) X.1.1 X.1.2.1 dL_setPaper_9 rfl hl (by decide) rfl (fun ls hl => ?_)
      refine sa_const X.1 dL_setPaper_10 ?_
      exact sw_iret X hR hS (inR_c (a := 1) rfl) hq Ak.rf dL_setPaper_11 (by decide) (by decide)
    · skip
      refine lv_goto (tgt := 12) X.1.1 X.1.2.1 dL_setPaper_6 (by decide) ?_
      refine sa_const X.1 dL_setPaper_12 ?_
      exact sw_iret X hR hS (inR_c (a := 0) rfl) hq Ak.rf dL_setPaper_13 (by decide) (by decide))
def wp_L_totalled (p1 : Int) (κ : Nat → Int) (M : Mem) (Qm : Int → (Nat → Int) → Mem → Prop) : Prop := wp_X9_totalled p1 M (fun E Mx => (E = xIOB ∧ Qm 1 κ Mx)) (fun r Mr => (r = 0 → Qm 0 κ (up Mr 103 0 0 0)) ∧ (¬ r = 0 → Qm 0 κ (up Mr 103 0 0 1)))
set_option maxHeartbeats 4000000 in
set_option maxRecDepth 100000 in
theorem w_L_totalled {l : Launch} {G : Gx} {e0 : Nat} {α : Ax} {κ : Nat → Int} {B : Nat} {p1 : Int} (hlt : l.stackTraces = false) (he0 : e0 = G.2.2.2.2.2) (hκ : kOK κ) (hp1 : inR p1) {M : Mem} {Qm : Int → (Nat → Int) → Mem → Prop} (hw : wp_L_totalled p1 κ M Qm) : WRa l yL_totalled (Cond.codeWith yL_totalled cL_totalled 4 (some .int) [(0, 16, 19, 25)]) 8 1 6 G e0 α κ B [.ref (α 10 0), .int (Int32.ofInt p1), .ref (α 103 0)] M Qm :=
  WRa.mk hκ (by decide +kernel) rfl (Nat.le_of_ble_eq_true rfl) (lv := [(0, .ref (α 10 0)), (1, .int (Int32.ofInt p1)), (2, .ref (α 103 0))]) rfl (fun p e s m args below meth c ls X N hT hR hS hl => by
    refine lv_aload_n X.1.1 X.1.2.1 dL_totalled_0 rfl (lv_at hl 2 rfl) ?_
    refine sa_const X.1 dL_totalled_1 ?_
    refine lv_aload_n X.1.1 X.1.2.1 dL_totalled_2 rfl (lv_at hl 0 rfl) ?_
    refine lv_iload_n X.1.1 X.1.2.1 dL_totalled_3 rfl (lv_at hl 1 rfl) ?_
    have hw : wp_X9_totalled p1 M (fun E Mx => (E = xIOB ∧ Qm 1 κ Mx)) (fun r Mr => (r = 0 → Qm 0 κ (up Mr 103 0 0 0)) ∧ (¬ r = 0 → Qm 0 κ (up Mr 103 0 0 1))) := hw
    refine sw_callI 7 (n := 1) (As := [.int (Int32.ofInt p1)]) (rest := [.int (Int32.ofInt 0), .ref (α 103 0)]) X hR hS (m_X9_totalled hlt hκ hp1 hw) kw_1189 kw_1190 kw_1191 kw_94 kw_1192 ⟨rfl, by decide +kernel, by decide +kernel, by decide +kernel⟩ ⟨by decide, by decide⟩ (rc_10 X hR (okf X.2.2.1 rfl)) rfl rfl (Nat.le_of_ble_eq_true rfl) hl.1 dL_totalled_4 ⟨by decide, by decide⟩ (fun E Mx ce q H locs hx hR hS hce hcv hcl => ?_) (fun r Mr H locs hq hx hR hS => ?_)
    · obtain ⟨rfl, hq⟩ := hx
      refine sw_catch (E := xIOB) (name := xIOB) (pre := []) (suf := []) X hT rfl (fun _ h => nomatch h) (by decide) (by decide) kw_991 kn_1003 hce hcv hcl ?_
      refine lv_astore_n (lv' := [(3, .ref q), (0, .ref (α 10 0)), (1, .int (Int32.ofInt p1)), (2, .ref (α 103 0))]) X.1.1 X.1.2.1 dL_totalled_19 rfl hl (by decide) rfl (fun ls hl => ?_)
      refine sa_const X.1 dL_totalled_20 ?_
      exact sw_iret X hR hS (inR_c (a := 1) rfl) hq Ak.rf dL_totalled_21 (by decide) (by decide)
    · refine sa_if_eq (tgt := 14) X.1 hx dL_totalled_7 (by decide) (fun hc => ?_) (fun hc => ?_)
      · refine lv_lconst (v := (Int32.ofInt 0).toInt64) X.1.1 X.1.2.1 dL_totalled_14 rfl ?_
        refine sa_lst X hR hS (inR_c (a := 0) rfl) dL_totalled_15 (fun H locs hR hS => ?_)
        refine lv_goto (tgt := 22) X.1.1 X.1.2.1 dL_totalled_16 (by decide) ?_
        refine sa_const X.1 dL_totalled_22 ?_
        exact sw_iret X hR hS (inR_c (a := 0) rfl) (hq.1 hc) Ak.rf dL_totalled_23 (by decide) (by decide)
      · refine lv_lconst (v := (Int32.ofInt 1).toInt64) X.1.1 X.1.2.1 dL_totalled_10 rfl ?_
        refine lv_goto (tgt := 15) X.1.1 X.1.2.1 dL_totalled_11 (by decide) ?_
        refine sa_lst X hR hS (inR_c (a := 1) rfl) dL_totalled_15 (fun H locs hR hS => ?_)
        refine lv_goto (tgt := 22) X.1.1 X.1.2.1 dL_totalled_16 (by decide) ?_
        refine sa_const X.1 dL_totalled_22 ?_
        exact sw_iret X hR hS (inR_c (a := 0) rfl) (hq.2 hc) Ak.rf dL_totalled_23 (by decide) (by decide))
def wp_L_hide (p1 : Int) (κ : Nat → Int) (M : Mem) (Qm : Int → (Nat → Int) → Mem → Prop) : Prop := wp_X9_hide p1 M (fun E Mx => (E = xIOB ∧ Qm 1 κ Mx) ∨ (E = xISE ∧ Qm 2 κ Mx)) (fun r Mr => (r = 0 → Qm 0 κ (up Mr 103 0 0 0)) ∧ (¬ r = 0 → Qm 0 κ (up Mr 103 0 0 1)))
set_option maxHeartbeats 4000000 in
set_option maxRecDepth 100000 in
theorem w_L_hide {l : Launch} {G : Gx} {e0 : Nat} {α : Ax} {κ : Nat → Int} {B : Nat} {p1 : Int} (hlt : l.stackTraces = false) (he0 : e0 = G.2.2.2.2.2) (hκ : kOK κ) (hp1 : inR p1) {M : Mem} {Qm : Int → (Nat → Int) → Mem → Prop} (hw : wp_L_hide p1 κ M Qm) : WRa l yL_hide (Cond.codeWith yL_hide cL_hide 4 (some .int) [(0, 16, 19, 25), (0, 16, 22, 15)]) 8 2 12 G e0 α κ B [.ref (α 10 0), .int (Int32.ofInt p1), .ref (α 103 0)] M Qm :=
  WRa.mk hκ (by decide +kernel) rfl (Nat.le_of_ble_eq_true rfl) (lv := [(0, .ref (α 10 0)), (1, .int (Int32.ofInt p1)), (2, .ref (α 103 0))]) rfl (fun p e s m args below meth c ls X N hT hR hS hl => by
    refine lv_aload_n X.1.1 X.1.2.1 dL_hide_0 rfl (lv_at hl 2 rfl) ?_
    refine sa_const X.1 dL_hide_1 ?_
    refine lv_aload_n X.1.1 X.1.2.1 dL_hide_2 rfl (lv_at hl 0 rfl) ?_
    refine lv_iload_n X.1.1 X.1.2.1 dL_hide_3 rfl (lv_at hl 1 rfl) ?_
    have hw : wp_X9_hide p1 M (fun E Mx => (E = xIOB ∧ Qm 1 κ Mx) ∨ (E = xISE ∧ Qm 2 κ Mx)) (fun r Mr => (r = 0 → Qm 0 κ (up Mr 103 0 0 0)) ∧ (¬ r = 0 → Qm 0 κ (up Mr 103 0 0 1))) := hw
    refine sw_callI 7 (n := 1) (As := [.int (Int32.ofInt p1)]) (rest := [.int (Int32.ofInt 0), .ref (α 103 0)]) X hR hS (m_X9_hide hlt hκ hp1 hw) kw_1197 kw_1198 kw_1199 kw_94 kw_1200 ⟨rfl, by decide +kernel, by decide +kernel, by decide +kernel⟩ ⟨by decide, by decide⟩ (rc_10 X hR (okf X.2.2.1 rfl)) rfl rfl (Nat.le_of_ble_eq_true rfl) hl.1 dL_hide_4 ⟨by decide, by decide⟩ (fun E Mx ce q H locs hx hR hS hce hcv hcl => ?_) (fun r Mr H locs hq hx hR hS => ?_)
    · rcases hx with ⟨rfl, hq⟩ | ⟨rfl, hq⟩
      · refine sw_catch (E := xIOB) (name := xIOB) (pre := []) (suf := [(0, 16, 22, 15)]) X hT rfl (fun _ h => nomatch h) (by decide) (by decide) kw_991 kn_1003 hce hcv hcl ?_
        refine lv_astore_n (lv' := [(3, .ref q), (0, .ref (α 10 0)), (1, .int (Int32.ofInt p1)), (2, .ref (α 103 0))]) X.1.1 X.1.2.1 dL_hide_19 rfl hl (by decide) rfl (fun ls hl => ?_)
        refine sa_const X.1 dL_hide_20 ?_
        exact sw_iret X hR hS (inR_c (a := 1) rfl) hq Ak.rf dL_hide_21 (by decide) (by decide)
      · refine sw_catch (E := xISE) (name := xISE) (pre := [(0, 16, 19, 25)]) (suf := []) X hT rfl (List.forall_mem_cons.mpr ⟨⟨by decide, xIOB, kw_991, N.2.2.2.1⟩, (fun _ h => nomatch h)⟩) (by decide) (by decide) kw_749 kn_829 hce hcv hcl ?_
        refine lv_astore_n (lv' := [(3, .ref q), (0, .ref (α 10 0)), (1, .int (Int32.ofInt p1)), (2, .ref (α 103 0))]) X.1.1 X.1.2.1 dL_hide_22 rfl hl (by decide) rfl (fun ls hl => ?_)
        refine sa_const X.1 dL_hide_23 ?_
        exact sw_iret X hR hS (inR_c (a := 2) rfl) hq Ak.rf dL_hide_24 (by decide) (by decide)
    · refine sa_if_eq (tgt := 14) X.1 hx dL_hide_7 (by decide) (fun hc => ?_) (fun hc => ?_)
      · refine lv_lconst (v := (Int32.ofInt 0).toInt64) X.1.1 X.1.2.1 dL_hide_14 rfl ?_
        refine sa_lst X hR hS (inR_c (a := 0) rfl) dL_hide_15 (fun H locs hR hS => ?_)
        refine lv_goto (tgt := 25) X.1.1 X.1.2.1 dL_hide_16 (by decide) ?_
        refine sa_const X.1 dL_hide_25 ?_
        exact sw_iret X hR hS (inR_c (a := 0) rfl) (hq.1 hc) Ak.rf dL_hide_26 (by decide) (by decide)
      · refine lv_lconst (v := (Int32.ofInt 1).toInt64) X.1.1 X.1.2.1 dL_hide_10 rfl ?_
        refine lv_goto (tgt := 15) X.1.1 X.1.2.1 dL_hide_11 (by decide) ?_
        refine sa_lst X hR hS (inR_c (a := 1) rfl) dL_hide_15 (fun H locs hR hS => ?_)
        refine lv_goto (tgt := 25) X.1.1 X.1.2.1 dL_hide_16 (by decide) ?_
        refine sa_const X.1 dL_hide_25 ?_
        exact sw_iret X hR hS (inR_c (a := 0) rfl) (hq.2 hc) Ak.rf dL_hide_26 (by decide) (by decide))
def wp_L_sort (p1 : Int) (p2 : Int) (κ : Nat → Int) (M : Mem) (Qm : Int → (Nat → Int) → Mem → Prop) : Prop := wp_X9_sort p1 p2 M (fun E Mx => (E = xIOB ∧ Qm 1 κ Mx) ∨ (E = xISE ∧ Qm 2 κ Mx)) (fun r Mr => Qm 0 κ (up Mr 103 0 0 r))
set_option maxHeartbeats 4000000 in
set_option maxRecDepth 100000 in
theorem w_L_sort {l : Launch} {G : Gx} {e0 : Nat} {α : Ax} {κ : Nat → Int} {B : Nat} {p1 : Int} {p2 : Int} (hlt : l.stackTraces = false) (he0 : e0 = G.2.2.2.2.2) (hκ : kOK κ) (hp1 : inR p1) (hp2 : inR p2) {M : Mem} {Qm : Int → (Nat → Int) → Mem → Prop} (hw : wp_L_sort p1 p2 κ M Qm) : WRa l yL_sort (Cond.codeWith yL_sort cL_sort 5 (some .int) [(0, 10, 13, 25), (0, 10, 17, 15)]) 8 2 12 G e0 α κ B [.ref (α 10 0), .int (Int32.ofInt p1), .int (Int32.ofInt p2), .ref (α 103 0)] M Qm :=
  WRa.mk hκ (by decide +kernel) rfl (Nat.le_of_ble_eq_true rfl) (lv := [(0, .ref (α 10 0)), (1, .int (Int32.ofInt p1)), (2, .int (Int32.ofInt p2)), (3, .ref (α 103 0))]) rfl (fun p e s m args below meth c ls X N hT hR hS hl => by
    refine lv_aload_n X.1.1 X.1.2.1 dL_sort_0 rfl (lv_at hl 3 rfl) ?_
    refine sa_const X.1 dL_sort_1 ?_
    refine lv_aload_n X.1.1 X.1.2.1 dL_sort_2 rfl (lv_at hl 0 rfl) ?_
    refine lv_iload_n X.1.1 X.1.2.1 dL_sort_3 rfl (lv_at hl 1 rfl) ?_
    refine lv_iload_n X.1.1 X.1.2.1 dL_sort_4 rfl (lv_at hl 2 rfl) ?_
    have hw : wp_X9_sort p1 p2 M (fun E Mx => (E = xIOB ∧ Qm 1 κ Mx) ∨ (E = xISE ∧ Qm 2 κ Mx)) (fun r Mr => Qm 0 κ (up Mr 103 0 0 r)) := hw
    refine sw_callI 7 (n := 2) (As := [.int (Int32.ofInt p1), .int (Int32.ofInt p2)]) (rest := [.int (Int32.ofInt 0), .ref (α 103 0)]) X hR hS (m_X9_sort hlt hκ hp1 hp2 hw) kw_1211 kw_1212 kw_1213 kw_94 kw_1214 ⟨rfl, by decide +kernel, by decide +kernel, by decide +kernel⟩ ⟨by decide, by decide⟩ (rc_10 X hR (okf X.2.2.1 rfl)) rfl rfl (Nat.le_of_ble_eq_true rfl) hl.1 dL_sort_5 ⟨by decide, by decide⟩ (fun E Mx ce q H locs hx hR hS hce hcv hcl => ?_) (fun r Mr H locs hq hx hR hS => ?_)
    · rcases hx with ⟨rfl, hq⟩ | ⟨rfl, hq⟩
      · refine sw_catch (E := xIOB) (name := xIOB) (pre := []) (suf := [(0, 10, 17, 15)]) X hT rfl (fun _ h => nomatch h) (by decide) (by decide) kw_991 kn_1003 hce hcv hcl ?_
        refine lv_astore (lv' := [(4, .ref q), (0, .ref (α 10 0)), (1, .int (Int32.ofInt p1)), (2, .int (Int32.ofInt p2)), (3, .ref (α 103 0))]) X.1.1 X.1.2.1 dL_sort_13 hl (by decide) rfl (fun ls hl => ?_)
        refine sa_const X.1 dL_sort_15 ?_
        exact sw_iret X hR hS (inR_c (a := 1) rfl) hq Ak.rf dL_sort_16 (by decide) (by decide)
      · refine sw_catch (E := xISE) (name := xISE) (pre := [(0, 10, 13, 25)]) (suf := []) X hT rfl (List.forall_mem_cons.mpr ⟨⟨by decide, xIOB, kw_991, N.2.2.2.1⟩, (fun _ h => nomatch h)⟩) (by decide) (by decide) kw_749 kn_829 hce hcv hcl ?_
        refine lv_astore (lv' := [(4, .ref q), (0, .ref (α 10 0)), (1, .int (Int32.ofInt p1)), (2, .int (Int32.ofInt p2)), (3, .ref (α 103 0))]) X.1.1 X.1.2.1 dL_sort_17 hl (by decide) rfl (fun ls hl => ?_)
        refine sa_const X.1 dL_sort_19 ?_
        exact sw_iret X hR hS (inR_c (a := 2) rfl) hq Ak.rf dL_sort_20 (by decide) (by decide)
    · refine lv_i2l X.1.1 X.1.2.1 dL_sort_8 rfl ?_
      refine sa_lst X hR hS hx dL_sort_9 (fun H locs hR hS => ?_)
      refine lv_goto (tgt := 21) X.1.1 X.1.2.1 dL_sort_10 (by decide) ?_
      refine sa_const X.1 dL_sort_21 ?_
      exact sw_iret X hR hS (inR_c (a := 0) rfl) hq Ak.rf dL_sort_22 (by decide) (by decide))
def wp_L_least (p1 : Int) (κ : Nat → Int) (M : Mem) (Qm : Int → (Nat → Int) → Mem → Prop) : Prop := wp_X9_least p1 M (fun E Mx => (E = xIOB ∧ Qm 1 κ Mx)) (fun r Mr => Qm 0 κ (up Mr 103 0 0 r))
set_option maxHeartbeats 4000000 in
set_option maxRecDepth 100000 in
theorem w_L_least {l : Launch} {G : Gx} {e0 : Nat} {α : Ax} {κ : Nat → Int} {B : Nat} {p1 : Int} (hlt : l.stackTraces = false) (he0 : e0 = G.2.2.2.2.2) (hκ : kOK κ) (hp1 : inR p1) {M : Mem} {Qm : Int → (Nat → Int) → Mem → Prop} (hw : wp_L_least p1 κ M Qm) : WRa l yL_least (Cond.codeWith yL_least cL_least 4 (some .int) [(0, 9, 12, 25)]) 9 1 6 G e0 α κ B [.ref (α 10 0), .int (Int32.ofInt p1), .ref (α 103 0)] M Qm :=
  WRa.mk hκ (by decide +kernel) rfl (Nat.le_of_ble_eq_true rfl) (lv := [(0, .ref (α 10 0)), (1, .int (Int32.ofInt p1)), (2, .ref (α 103 0))]) rfl (fun p e s m args below meth c ls X N hT hR hS hl => by
    refine lv_aload_n X.1.1 X.1.2.1 dL_least_0 rfl (lv_at hl 2 rfl) ?_
    refine sa_const X.1 dL_least_1 ?_
    refine lv_aload_n X.1.1 X.1.2.1 dL_least_2 rfl (lv_at hl 0 rfl) ?_
    refine lv_iload_n X.1.1 X.1.2.1 dL_least_3 rfl (lv_at hl 1 rfl) ?_
    have hw : wp_X9_least p1 M (fun E Mx => (E = xIOB ∧ Qm 1 κ Mx)) (fun r Mr => Qm 0 κ (up Mr 103 0 0 r)) := hw
    refine sw_callI 8 (n := 1) (As := [.int (Int32.ofInt p1)]) (rest := [.int (Int32.ofInt 0), .ref (α 103 0)]) X hR hS (m_X9_least hlt hκ hp1 hw) kw_1244 kw_1245 kw_1246 kw_94 kw_1247 ⟨rfl, by decide +kernel, by decide +kernel, by decide +kernel⟩ ⟨by decide, by decide⟩ (rc_10 X hR (okf X.2.2.1 rfl)) rfl rfl (Nat.le_of_ble_eq_true rfl) hl.1 dL_least_4 ⟨by decide, by decide⟩ (fun E Mx ce q H locs hx hR hS hce hcv hcl => ?_) (fun r Mr H locs hq hx hR hS => ?_)
    · obtain ⟨rfl, hq⟩ := hx
      refine sw_catch (E := xIOB) (name := xIOB) (pre := []) (suf := []) X hT rfl (fun _ h => nomatch h) (by decide) (by decide) kw_991 kn_1003 hce hcv hcl ?_
      refine lv_astore_n (lv' := [(3, .ref q), (0, .ref (α 10 0)), (1, .int (Int32.ofInt p1)), (2, .ref (α 103 0))]) X.1.1 X.1.2.1 dL_least_12 rfl hl (by decide) rfl (fun ls hl => ?_)
      refine sa_const X.1 dL_least_13 ?_
      exact sw_iret X hR hS (inR_c (a := 1) rfl) hq Ak.rf dL_least_14 (by decide) (by decide)
    · refine lv_i2l X.1.1 X.1.2.1 dL_least_7 rfl ?_
      refine sa_lst X hR hS hx dL_least_8 (fun H locs hR hS => ?_)
      refine lv_goto (tgt := 15) X.1.1 X.1.2.1 dL_least_9 (by decide) ?_
      refine sa_const X.1 dL_least_15 ?_
      exact sw_iret X hR hS (inR_c (a := 0) rfl) hq Ak.rf dL_least_16 (by decide) (by decide))
def wp_L_most (p1 : Int) (κ : Nat → Int) (M : Mem) (Qm : Int → (Nat → Int) → Mem → Prop) : Prop := wp_X9_most p1 M (fun E Mx => (E = xIOB ∧ Qm 1 κ Mx)) (fun r Mr => Qm 0 κ (up Mr 103 0 0 r))
set_option maxHeartbeats 4000000 in
set_option maxRecDepth 100000 in
theorem w_L_most {l : Launch} {G : Gx} {e0 : Nat} {α : Ax} {κ : Nat → Int} {B : Nat} {p1 : Int} (hlt : l.stackTraces = false) (he0 : e0 = G.2.2.2.2.2) (hκ : kOK κ) (hp1 : inR p1) {M : Mem} {Qm : Int → (Nat → Int) → Mem → Prop} (hw : wp_L_most p1 κ M Qm) : WRa l yL_most (Cond.codeWith yL_most cL_most 4 (some .int) [(0, 9, 12, 25)]) 9 1 6 G e0 α κ B [.ref (α 10 0), .int (Int32.ofInt p1), .ref (α 103 0)] M Qm :=
  WRa.mk hκ (by decide +kernel) rfl (Nat.le_of_ble_eq_true rfl) (lv := [(0, .ref (α 10 0)), (1, .int (Int32.ofInt p1)), (2, .ref (α 103 0))]) rfl (fun p e s m args below meth c ls X N hT hR hS hl => by
    refine lv_aload_n X.1.1 X.1.2.1 dL_most_0 rfl (lv_at hl 2 rfl) ?_
    refine sa_const X.1 dL_most_1 ?_
    refine lv_aload_n X.1.1 X.1.2.1 dL_most_2 rfl (lv_at hl 0 rfl) ?_
    refine lv_iload_n X.1.1 X.1.2.1 dL_most_3 rfl (lv_at hl 1 rfl) ?_
    have hw : wp_X9_most p1 M (fun E Mx => (E = xIOB ∧ Qm 1 κ Mx)) (fun r Mr => Qm 0 κ (up Mr 103 0 0 r)) := hw
    refine sw_callI 8 (n := 1) (As := [.int (Int32.ofInt p1)]) (rest := [.int (Int32.ofInt 0), .ref (α 103 0)]) X hR hS (m_X9_most hlt hκ hp1 hw) kw_1251 kw_1252 kw_1253 kw_94 kw_1254 ⟨rfl, by decide +kernel, by decide +kernel, by decide +kernel⟩ ⟨by decide, by decide⟩ (rc_10 X hR (okf X.2.2.1 rfl)) rfl rfl (Nat.le_of_ble_eq_true rfl) hl.1 dL_most_4 ⟨by decide, by decide⟩ (fun E Mx ce q H locs hx hR hS hce hcv hcl => ?_) (fun r Mr H locs hq hx hR hS => ?_)
    · obtain ⟨rfl, hq⟩ := hx
      refine sw_catch (E := xIOB) (name := xIOB) (pre := []) (suf := []) X hT rfl (fun _ h => nomatch h) (by decide) (by decide) kw_991 kn_1003 hce hcv hcl ?_
      refine lv_astore_n (lv' := [(3, .ref q), (0, .ref (α 10 0)), (1, .int (Int32.ofInt p1)), (2, .ref (α 103 0))]) X.1.1 X.1.2.1 dL_most_12 rfl hl (by decide) rfl (fun ls hl => ?_)
      refine sa_const X.1 dL_most_13 ?_
      exact sw_iret X hR hS (inR_c (a := 1) rfl) hq Ak.rf dL_most_14 (by decide) (by decide)
    · refine lv_i2l X.1.1 X.1.2.1 dL_most_7 rfl ?_
      refine sa_lst X hR hS hx dL_most_8 (fun H locs hR hS => ?_)
      refine lv_goto (tgt := 15) X.1.1 X.1.2.1 dL_most_9 (by decide) ?_
      refine sa_const X.1 dL_most_15 ?_
      exact sw_iret X hR hS (inR_c (a := 0) rfl) hq Ak.rf dL_most_16 (by decide) (by decide))
def wp_L_width (p1 : Int) (κ : Nat → Int) (M : Mem) (Qm : Int → (Nat → Int) → Mem → Prop) : Prop := wp_X9_width p1 M (fun E Mx => (E = xIOB ∧ Qm 1 κ Mx)) (fun r Mr => Qm 0 κ (up Mr 103 0 0 r))
set_option maxHeartbeats 4000000 in
set_option maxRecDepth 100000 in
theorem w_L_width {l : Launch} {G : Gx} {e0 : Nat} {α : Ax} {κ : Nat → Int} {B : Nat} {p1 : Int} (hlt : l.stackTraces = false) (he0 : e0 = G.2.2.2.2.2) (hκ : kOK κ) (hp1 : inR p1) {M : Mem} {Qm : Int → (Nat → Int) → Mem → Prop} (hw : wp_L_width p1 κ M Qm) : WRa l yL_width (Cond.codeWith yL_width cL_width 4 (some .int) [(0, 9, 12, 25)]) 9 1 6 G e0 α κ B [.ref (α 10 0), .int (Int32.ofInt p1), .ref (α 103 0)] M Qm :=
  WRa.mk hκ (by decide +kernel) rfl (Nat.le_of_ble_eq_true rfl) (lv := [(0, .ref (α 10 0)), (1, .int (Int32.ofInt p1)), (2, .ref (α 103 0))]) rfl (fun p e s m args below meth c ls X N hT hR hS hl => by
    refine lv_aload_n X.1.1 X.1.2.1 dL_width_0 rfl (lv_at hl 2 rfl) ?_
    refine sa_const X.1 dL_width_1 ?_
    refine lv_aload_n X.1.1 X.1.2.1 dL_width_2 rfl (lv_at hl 0 rfl) ?_
    refine lv_iload_n X.1.1 X.1.2.1 dL_width_3 rfl (lv_at hl 1 rfl) ?_
    have hw : wp_X9_width p1 M (fun E Mx => (E = xIOB ∧ Qm 1 κ Mx)) (fun r Mr => Qm 0 κ (up Mr 103 0 0 r)) := hw
    refine sw_callI 8 (n := 1) (As := [.int (Int32.ofInt p1)]) (rest := [.int (Int32.ofInt 0), .ref (α 103 0)]) X hR hS (m_X9_width hlt hκ hp1 hw) kw_1258 kw_1259 kw_1260 kw_94 kw_1261 ⟨rfl, by decide +kernel, by decide +kernel, by decide +kernel⟩ ⟨by decide, by decide⟩ (rc_10 X hR (okf X.2.2.1 rfl)) rfl rfl (Nat.le_of_ble_eq_true rfl) hl.1 dL_width_4 ⟨by decide, by decide⟩ (fun E Mx ce q H locs hx hR hS hce hcv hcl => ?_) (fun r Mr H locs hq hx hR hS => ?_)
    · obtain ⟨rfl, hq⟩ := hx
      refine sw_catch (E := xIOB) (name := xIOB) (pre := []) (suf := []) X hT rfl (fun _ h => nomatch h) (by decide) (by decide) kw_991 kn_1003 hce hcv hcl ?_
      refine lv_astore_n (lv' := [(3, .ref q), (0, .ref (α 10 0)), (1, .int (Int32.ofInt p1)), (2, .ref (α 103 0))]) X.1.1 X.1.2.1 dL_width_12 rfl hl (by decide) rfl (fun ls hl => ?_)
      refine sa_const X.1 dL_width_13 ?_
      exact sw_iret X hR hS (inR_c (a := 1) rfl) hq Ak.rf dL_width_14 (by decide) (by decide)
    · refine lv_i2l X.1.1 X.1.2.1 dL_width_7 rfl ?_
      refine sa_lst X hR hS hx dL_width_8 (fun H locs hR hS => ?_)
      refine lv_goto (tgt := 15) X.1.1 X.1.2.1 dL_width_9 (by decide) ?_
      refine sa_const X.1 dL_width_15 ?_
      exact sw_iret X hR hS (inR_c (a := 0) rfl) hq Ak.rf dL_width_16 (by decide) (by decide))
def wp_L_point (p1 : Int) (κ : Nat → Int) (M : Mem) (Qm : Int → (Nat → Int) → Mem → Prop) : Prop := wp_X9_point p1 M (fun E Mx => (E = xIOB ∧ Qm 1 κ Mx) ∨ (E = xISE ∧ Qm 2 κ Mx)) (fun r Mr => Qm 0 κ (up Mr 103 0 0 r))
set_option maxHeartbeats 4000000 in
set_option maxRecDepth 100000 in
theorem w_L_point {l : Launch} {G : Gx} {e0 : Nat} {α : Ax} {κ : Nat → Int} {B : Nat} {p1 : Int} (hlt : l.stackTraces = false) (he0 : e0 = G.2.2.2.2.2) (hκ : kOK κ) (hp1 : inR p1) {M : Mem} {Qm : Int → (Nat → Int) → Mem → Prop} (hw : wp_L_point p1 κ M Qm) : WRa l yL_point (Cond.codeWith yL_point cL_point 4 (some .int) [(0, 9, 12, 25), (0, 9, 15, 15)]) 9 2 12 G e0 α κ B [.ref (α 10 0), .int (Int32.ofInt p1), .ref (α 103 0)] M Qm :=
  WRa.mk hκ (by decide +kernel) rfl (Nat.le_of_ble_eq_true rfl) (lv := [(0, .ref (α 10 0)), (1, .int (Int32.ofInt p1)), (2, .ref (α 103 0))]) rfl (fun p e s m args below meth c ls X N hT hR hS hl => by
    refine lv_aload_n X.1.1 X.1.2.1 dL_point_0 rfl (lv_at hl 2 rfl) ?_
    refine sa_const X.1 dL_point_1 ?_
    refine lv_aload_n X.1.1 X.1.2.1 dL_point_2 rfl (lv_at hl 0 rfl) ?_
    refine lv_iload_n X.1.1 X.1.2.1 dL_point_3 rfl (lv_at hl 1 rfl) ?_
    have hw : wp_X9_point p1 M (fun E Mx => (E = xIOB ∧ Qm 1 κ Mx) ∨ (E = xISE ∧ Qm 2 κ Mx)) (fun r Mr => Qm 0 κ (up Mr 103 0 0 r)) := hw
    refine sw_callI 8 (n := 1) (As := [.int (Int32.ofInt p1)]) (rest := [.int (Int32.ofInt 0), .ref (α 103 0)]) X hR hS (m_X9_point hlt hκ hp1 hw) kw_1265 kw_1266 kw_1267 kw_94 kw_1268 ⟨rfl, by decide +kernel, by decide +kernel, by decide +kernel⟩ ⟨by decide, by decide⟩ (rc_10 X hR (okf X.2.2.1 rfl)) rfl rfl (Nat.le_of_ble_eq_true rfl) hl.1 dL_point_4 ⟨by decide, by decide⟩ (fun E Mx ce q H locs hx hR hS hce hcv hcl => ?_) (fun r Mr H locs hq hx hR hS => ?_)
    · rcases hx with ⟨rfl, hq⟩ | ⟨rfl, hq⟩
      · refine sw_catch (E := xIOB) (name := xIOB) (pre := []) (suf := [(0, 9, 15, 15)]) X hT rfl (fun _ h => nomatch h) (by decide) (by decide) kw_991 kn_1003 hce hcv hcl ?_
        refine lv_astore_n (lv' := [(3, .ref q), (0, .ref (α 10 0)), (1, .int (Int32.ofInt p1)), (2, .ref (α 103 0))]) X.1.1 X.1.2.1 dL_point_12 rfl hl (by decide) rfl (fun ls hl => ?_)
        refine sa_const X.1 dL_point_13 ?_
        exact sw_iret X hR hS (inR_c (a := 1) rfl) hq Ak.rf dL_point_14 (by decide) (by decide)
      · refine sw_catch (E := xISE) (name := xISE) (pre := [(0, 9, 12, 25)]) (suf := []) X hT rfl (List.forall_mem_cons.mpr ⟨⟨by decide, xIOB, kw_991, N.2.2.2.1⟩, (fun _ h => nomatch h)⟩) (by decide) (by decide) kw_749 kn_829 hce hcv hcl ?_
        refine lv_astore_n (lv' := [(3, .ref q), (0, .ref (α 10 0)), (1, .int (Int32.ofInt p1)), (2, .ref (α 103 0))]) X.1.1 X.1.2.1 dL_point_15 rfl hl (by decide) rfl (fun ls hl => ?_)
        refine sa_const X.1 dL_point_16 ?_
        exact sw_iret X hR hS (inR_c (a := 2) rfl) hq Ak.rf dL_point_17 (by decide) (by decide)
    · refine lv_i2l X.1.1 X.1.2.1 dL_point_7 rfl ?_
      refine sa_lst X hR hS hx dL_point_8 (fun H locs hR hS => ?_)
      refine lv_goto (tgt := 18) X.1.1 X.1.2.1 dL_point_9 (by decide) ?_
      refine sa_const X.1 dL_point_18 ?_
      exact sw_iret X hR hS (inR_c (a := 0) rfl) hq Ak.rf dL_point_19 (by decide) (by decide))
def wp_L_begins (p1 : Int) (κ : Nat → Int) (M : Mem) (Qm : Int → (Nat → Int) → Mem → Prop) : Prop := wp_X9_begins p1 M (fun E Mx => (E = xIOB ∧ Qm 1 κ Mx) ∨ (E = xISE ∧ Qm 2 κ Mx)) (fun r Mr => Qm 0 κ (up Mr 103 0 0 r))
set_option maxHeartbeats 4000000 in
set_option maxRecDepth 100000 in
theorem w_L_begins {l : Launch} {G : Gx} {e0 : Nat} {α : Ax} {κ : Nat → Int} {B : Nat} {p1 : Int} (hlt : l.stackTraces = false) (he0 : e0 = G.2.2.2.2.2) (hκ : kOK κ) (hp1 : inR p1) {M : Mem} {Qm : Int → (Nat → Int) → Mem → Prop} (hw : wp_L_begins p1 κ M Qm) : WRa l yL_begins (Cond.codeWith yL_begins cL_begins 4 (some .int) [(0, 9, 12, 25), (0, 9, 15, 15)]) 9 2 12 G e0 α κ B [.ref (α 10 0), .int (Int32.ofInt p1), .ref (α 103 0)] M Qm :=
  WRa.mk hκ (by decide +kernel) rfl (Nat.le_of_ble_eq_true rfl) (lv := [(0, .ref (α 10 0)), (1, .int (Int32.ofInt p1)), (2, .ref (α 103 0))]) rfl (fun p e s m args below meth c ls X N hT hR hS hl => by
    refine lv_aload_n X.1.1 X.1.2.1 dL_begins_0 rfl (lv_at hl 2 rfl) ?_
    refine sa_const X.1 dL_begins_1 ?_
    refine lv_aload_n X.1.1 X.1.2.1 dL_begins_2 rfl (lv_at hl 0 rfl) ?_
    refine lv_iload_n X.1.1 X.1.2.1 dL_begins_3 rfl (lv_at hl 1 rfl) ?_
    have hw : wp_X9_begins p1 M (fun E Mx => (E = xIOB ∧ Qm 1 κ Mx) ∨ (E = xISE ∧ Qm 2 κ Mx)) (fun r Mr => Qm 0 κ (up Mr 103 0 0 r)) := hw
    refine sw_callI 8 (n := 1) (As := [.int (Int32.ofInt p1)]) (rest := [.int (Int32.ofInt 0), .ref (α 103 0)]) X hR hS (m_X9_begins hlt hκ hp1 hw) kw_1278 kw_1279 kw_1280 kw_94 kw_1281 ⟨rfl, by decide +kernel, by decide +kernel, by decide +kernel⟩ ⟨by decide, by decide⟩ (rc_10 X hR (okf X.2.2.1 rfl)) rfl rfl (Nat.le_of_ble_eq_true rfl) hl.1 dL_begins_4 ⟨by decide, by decide⟩ (fun E Mx ce q H locs hx hR hS hce hcv hcl => ?_) (fun r Mr H locs hq hx hR hS => ?_)
    · rcases hx with ⟨rfl, hq⟩ | ⟨rfl, hq⟩
      · refine sw_catch (E := xIOB) (name := xIOB) (pre := []) (suf := [(0, 9, 15, 15)]) X hT rfl (fun _ h => nomatch h) (by decide) (by decide) kw_991 kn_1003 hce hcv hcl ?_
        refine lv_astore_n (lv' := [(3, .ref q), (0, .ref (α 10 0)), (1, .int (Int32.ofInt p1)), (2, .ref (α 103 0))]) X.1.1 X.1.2.1 dL_begins_12 rfl hl (by decide) rfl (fun ls hl => ?_)
        refine sa_const X.1 dL_begins_13 ?_
        exact sw_iret X hR hS (inR_c (a := 1) rfl) hq Ak.rf dL_begins_14 (by decide) (by decide)
      · refine sw_catch (E := xISE) (name := xISE) (pre := [(0, 9, 12, 25)]) (suf := []) X hT rfl (List.forall_mem_cons.mpr ⟨⟨by decide, xIOB, kw_991, N.2.2.2.1⟩, (fun _ h => nomatch h)⟩) (by decide) (by decide) kw_749 kn_829 hce hcv hcl ?_
        refine lv_astore_n (lv' := [(3, .ref q), (0, .ref (α 10 0)), (1, .int (Int32.ofInt p1)), (2, .ref (α 103 0))]) X.1.1 X.1.2.1 dL_begins_15 rfl hl (by decide) rfl (fun ls hl => ?_)
        refine sa_const X.1 dL_begins_16 ?_
        exact sw_iret X hR hS (inR_c (a := 2) rfl) hq Ak.rf dL_begins_17 (by decide) (by decide)
    · refine lv_i2l X.1.1 X.1.2.1 dL_begins_7 rfl ?_
      refine sa_lst X hR hS hx dL_begins_8 (fun H locs hR hS => ?_)
      refine lv_goto (tgt := 18) X.1.1 X.1.2.1 dL_begins_9 (by decide) ?_
      refine sa_const X.1 dL_begins_18 ?_
      exact sw_iret X hR hS (inR_c (a := 0) rfl) hq Ak.rf dL_begins_19 (by decide) (by decide))
def wp_L_lines (p1 : Int) (κ : Nat → Int) (M : Mem) (Qm : Int → (Nat → Int) → Mem → Prop) : Prop := wp_X9_lines p1 M (fun E Mx => (E = xIOB ∧ Qm 1 κ Mx)) (fun r Mr => Qm 0 κ (up Mr 103 0 0 r))
set_option maxHeartbeats 4000000 in
set_option maxRecDepth 100000 in
theorem w_L_lines {l : Launch} {G : Gx} {e0 : Nat} {α : Ax} {κ : Nat → Int} {B : Nat} {p1 : Int} (hlt : l.stackTraces = false) (he0 : e0 = G.2.2.2.2.2) (hκ : kOK κ) (hp1 : inR p1) {M : Mem} {Qm : Int → (Nat → Int) → Mem → Prop} (hw : wp_L_lines p1 κ M Qm) : WRa l yL_lines (Cond.codeWith yL_lines cL_lines 4 (some .int) [(0, 9, 12, 25)]) 9 1 6 G e0 α κ B [.ref (α 10 0), .int (Int32.ofInt p1), .ref (α 103 0)] M Qm :=
  WRa.mk hκ (by decide +kernel) rfl (Nat.le_of_ble_eq_true rfl) (lv := [(0, .ref (α 10 0)), (1, .int (Int32.ofInt p1)), (2, .ref (α 103 0))]) rfl (fun p e s m args below meth c ls X N hT hR hS hl => by
    refine lv_aload_n X.1.1 X.1.2.1 dL_lines_0 rfl (lv_at hl 2 rfl) ?_
    refine sa_const X.1 dL_lines_1 ?_
    refine lv_aload_n X.1.1 X.1.2.1 dL_lines_2 rfl (lv_at hl 0 rfl) ?_
    refine lv_iload_n X.1.1 X.1.2.1 dL_lines_3 rfl (lv_at hl 1 rfl) ?_
    have hw : wp_X9_lines p1 M (fun E Mx => (E = xIOB ∧ Qm 1 κ Mx)) (fun r Mr => Qm 0 κ (up Mr 103 0 0 r)) := hw
    refine sw_callI 8 (n := 1) (As := [.int (Int32.ofInt p1)]) (rest := [.int (Int32.ofInt 0), .ref (α 103 0)]) X hR hS (m_X9_lines hlt hκ hp1 hw) kw_1286 kw_1287 kw_1288 kw_94 kw_1289 ⟨rfl, by decide +kernel, by decide +kernel, by decide +kernel⟩ ⟨by decide, by decide⟩ (rc_10 X hR (okf X.2.2.1 rfl)) rfl rfl (Nat.le_of_ble_eq_true rfl) hl.1 dL_lines_4 ⟨by decide, by decide⟩ (fun E Mx ce q H locs hx hR hS hce hcv hcl => ?_) (fun r Mr H locs hq hx hR hS => ?_)
    · obtain ⟨rfl, hq⟩ := hx
      refine sw_catch (E := xIOB) (name := xIOB) (pre := []) (suf := []) X hT rfl (fun _ h => nomatch h) (by decide) (by decide) kw_991 kn_1003 hce hcv hcl ?_
      refine lv_astore_n (lv' := [(3, .ref q), (0, .ref (α 10 0)), (1, .int (Int32.ofInt p1)), (2, .ref (α 103 0))]) X.1.1 X.1.2.1 dL_lines_12 rfl hl (by decide) rfl (fun ls hl => ?_)
      refine sa_const X.1 dL_lines_13 ?_
      exact sw_iret X hR hS (inR_c (a := 1) rfl) hq Ak.rf dL_lines_14 (by decide) (by decide)
    · refine lv_i2l X.1.1 X.1.2.1 dL_lines_7 rfl ?_
      refine sa_lst X hR hS hx dL_lines_8 (fun H locs hR hS => ?_)
      refine lv_goto (tgt := 15) X.1.1 X.1.2.1 dL_lines_9 (by decide) ?_
      refine sa_const X.1 dL_lines_15 ?_
      exact sw_iret X hR hS (inR_c (a := 0) rfl) hq Ak.rf dL_lines_16 (by decide) (by decide))
def wp_L_height (p1 : Int) (κ : Nat → Int) (M : Mem) (Qm : Int → (Nat → Int) → Mem → Prop) : Prop := wp_X9_height p1 M (fun E Mx => (E = xIOB ∧ Qm 1 κ Mx)) (fun r Mr => Qm 0 κ (up Mr 103 0 0 r))
set_option maxHeartbeats 4000000 in
set_option maxRecDepth 100000 in
theorem w_L_height {l : Launch} {G : Gx} {e0 : Nat} {α : Ax} {κ : Nat → Int} {B : Nat} {p1 : Int} (hlt : l.stackTraces = false) (he0 : e0 = G.2.2.2.2.2) (hκ : kOK κ) (hp1 : inR p1) {M : Mem} {Qm : Int → (Nat → Int) → Mem → Prop} (hw : wp_L_height p1 κ M Qm) : WRa l yL_height (Cond.codeWith yL_height cL_height 4 (some .int) [(0, 9, 12, 25)]) 9 1 6 G e0 α κ B [.ref (α 10 0), .int (Int32.ofInt p1), .ref (α 103 0)] M Qm :=
  WRa.mk hκ (by decide +kernel) rfl (Nat.le_of_ble_eq_true rfl) (lv := [(0, .ref (α 10 0)), (1, .int (Int32.ofInt p1)), (2, .ref (α 103 0))]) rfl (fun p e s m args below meth c ls X N hT hR hS hl => by
    refine lv_aload_n X.1.1 X.1.2.1 dL_height_0 rfl (lv_at hl 2 rfl) ?_
    refine sa_const X.1 dL_height_1 ?_
    refine lv_aload_n X.1.1 X.1.2.1 dL_height_2 rfl (lv_at hl 0 rfl) ?_
    refine lv_iload_n X.1.1 X.1.2.1 dL_height_3 rfl (lv_at hl 1 rfl) ?_
    have hw : wp_X9_height p1 M (fun E Mx => (E = xIOB ∧ Qm 1 κ Mx)) (fun r Mr => Qm 0 κ (up Mr 103 0 0 r)) := hw
    refine sw_callI 8 (n := 1) (As := [.int (Int32.ofInt p1)]) (rest := [.int (Int32.ofInt 0), .ref (α 103 0)]) X hR hS (m_X9_height hlt hκ hp1 hw) kw_1293 kw_1294 kw_1295 kw_94 kw_1296 ⟨rfl, by decide +kernel, by decide +kernel, by decide +kernel⟩ ⟨by decide, by decide⟩ (rc_10 X hR (okf X.2.2.1 rfl)) rfl rfl (Nat.le_of_ble_eq_true rfl) hl.1 dL_height_4 ⟨by decide, by decide⟩ (fun E Mx ce q H locs hx hR hS hce hcv hcl => ?_) (fun r Mr H locs hq hx hR hS => ?_)
    · obtain ⟨rfl, hq⟩ := hx
      refine sw_catch (E := xIOB) (name := xIOB) (pre := []) (suf := []) X hT rfl (fun _ h => nomatch h) (by decide) (by decide) kw_991 kn_1003 hce hcv hcl ?_
      refine lv_astore_n (lv' := [(3, .ref q), (0, .ref (α 10 0)), (1, .int (Int32.ofInt p1)), (2, .ref (α 103 0))]) X.1.1 X.1.2.1 dL_height_12 rfl hl (by decide) rfl (fun ls hl => ?_)
      refine sa_const X.1 dL_height_13 ?_
      exact sw_iret X hR hS (inR_c (a := 1) rfl) hq Ak.rf dL_height_14 (by decide) (by decide)
    · refine lv_i2l X.1.1 X.1.2.1 dL_height_7 rfl ?_
      refine sa_lst X hR hS hx dL_height_8 (fun H locs hR hS => ?_)
      refine lv_goto (tgt := 15) X.1.1 X.1.2.1 dL_height_9 (by decide) ?_
      refine sa_const X.1 dL_height_15 ?_
      exact sw_iret X hR hS (inR_c (a := 0) rfl) hq Ak.rf dL_height_16 (by decide) (by decide))
def wp_L_heightByCells (p1 : Int) (κ : Nat → Int) (M : Mem) (Qm : Int → (Nat → Int) → Mem → Prop) : Prop := wp_X9_heightByCells p1 M (fun E Mx => (E = xIOB ∧ Qm 1 κ Mx)) (fun r Mr => Qm 0 κ (up Mr 103 0 0 r))
set_option maxHeartbeats 4000000 in
set_option maxRecDepth 100000 in
theorem w_L_heightByCells {l : Launch} {G : Gx} {e0 : Nat} {α : Ax} {κ : Nat → Int} {B : Nat} {p1 : Int} (hlt : l.stackTraces = false) (he0 : e0 = G.2.2.2.2.2) (hκ : kOK κ) (hp1 : inR p1) {M : Mem} {Qm : Int → (Nat → Int) → Mem → Prop} (hw : wp_L_heightByCells p1 κ M Qm) : WRa l yL_heightByCells (Cond.codeWith yL_heightByCells cL_heightByCells 4 (some .int) [(0, 9, 12, 25)]) 9 1 6 G e0 α κ B [.ref (α 10 0), .int (Int32.ofInt p1), .ref (α 103 0)] M Qm :=
  WRa.mk hκ (by decide +kernel) rfl (Nat.le_of_ble_eq_true rfl) (lv := [(0, .ref (α 10 0)), (1, .int (Int32.ofInt p1)), (2, .ref (α 103 0))]) rfl (fun p e s m args below meth c ls X N hT hR hS hl => by
    refine lv_aload_n X.1.1 X.1.2.1 dL_heightByCells_0 rfl (lv_at hl 2 rfl) ?_
    refine sa_const X.1 dL_heightByCells_1 ?_
    refine lv_aload_n X.1.1 X.1.2.1 dL_heightByCells_2 rfl (lv_at hl 0 rfl) ?_
    refine lv_iload_n X.1.1 X.1.2.1 dL_heightByCells_3 rfl (lv_at hl 1 rfl) ?_
    have hw : wp_X9_heightByCells p1 M (fun E Mx => (E = xIOB ∧ Qm 1 κ Mx)) (fun r Mr => Qm 0 κ (up Mr 103 0 0 r)) := hw
    refine sw_callI 8 (n := 1) (As := [.int (Int32.ofInt p1)]) (rest := [.int (Int32.ofInt 0), .ref (α 103 0)]) X hR hS (m_X9_heightByCells hlt hκ hp1 hw) kw_1300 kw_1301 kw_1302 kw_94 kw_1303 ⟨rfl, by decide +kernel, by decide +kernel, by decide +kernel⟩ ⟨by decide, by decide⟩ (rc_10 X hR (okf X.2.2.1 rfl)) rfl rfl (Nat.le_of_ble_eq_true rfl) hl.1 dL_heightByCells_4 ⟨by decide, by decide⟩ (fun E Mx ce q H locs hx hR hS hce hcv hcl => ?_) (fun r Mr H locs hq hx hR hS => ?_)
    · obtain ⟨rfl, hq⟩ := hx
      refine sw_catch (E := xIOB) (name := xIOB) (pre := []) (suf := []) X hT rfl (fun _ h => nomatch h) (by decide) (by decide) kw_991 kn_1003 hce hcv hcl ?_
      refine lv_astore_n (lv' := [(3, .ref q), (0, .ref (α 10 0)), (1, .int (Int32.ofInt p1)), (2, .ref (α 103 0))]) X.1.1 X.1.2.1 dL_heightByCells_12 rfl hl (by decide) rfl (fun ls hl => ?_)
      refine sa_const X.1 dL_heightByCells_13 ?_
      exact sw_iret X hR hS (inR_c (a := 1) rfl) hq Ak.rf dL_heightByCells_14 (by decide) (by decide)
    · refine lv_i2l X.1.1 X.1.2.1 dL_heightByCells_7 rfl ?_
      refine sa_lst X hR hS hx dL_heightByCells_8 (fun H locs hR hS => ?_)
      refine lv_goto (tgt := 15) X.1.1 X.1.2.1 dL_heightByCells_9 (by decide) ?_
      refine sa_const X.1 dL_heightByCells_15 ?_
      exact sw_iret X hR hS (inR_c (a := 0) rfl) hq Ak.rf dL_heightByCells_16 (by decide) (by decide))
def wp_L_leastHeight (κ : Nat → Int) (M : Mem) (Qm : Int → (Nat → Int) → Mem → Prop) : Prop := wp_X9_leastHeight M (fun E Mx => (E = xISE ∧ Qm 1 κ Mx)) (fun r Mr => Qm 0 κ (up Mr 103 0 0 r))
set_option maxHeartbeats 4000000 in
set_option maxRecDepth 100000 in
theorem w_L_leastHeight {l : Launch} {G : Gx} {e0 : Nat} {α : Ax} {κ : Nat → Int} {B : Nat} (hlt : l.stackTraces = false) (he0 : e0 = G.2.2.2.2.2) (hκ : kOK κ) {M : Mem} {Qm : Int → (Nat → Int) → Mem → Prop} (hw : wp_L_leastHeight κ M Qm) : WRa l yL_leastHeight (Cond.codeWith yL_leastHeight cL_leastHeight 3 (some .int) [(0, 8, 11, 15)]) 9 1 6 G e0 α κ B [.ref (α 10 0), .ref (α 103 0)] M Qm :=
  WRa.mk hκ (by decide +kernel) rfl (Nat.le_of_ble_eq_true rfl) (lv := [(0, .ref (α 10 0)), (1, .ref (α 103 0))]) rfl (fun p e s m args below meth c ls X N hT hR hS hl => by
    refine lv_aload_n X.1.1 X.1.2.1 dL_leastHeight_0 rfl (lv_at hl 1 rfl) ?_
    refine sa_const X.1 dL_leastHeight_1 ?_
    refine lv_aload_n X.1.1 X.1.2.1 dL_leastHeight_2 rfl (lv_at hl 0 rfl) ?_
    have hw : wp_X9_leastHeight M (fun E Mx => (E = xISE ∧ Qm 1 κ Mx)) (fun r Mr => Qm 0 κ (up Mr 103 0 0 r)) := hw
    refine sw_callI 8 (n := 0) (As := []) (rest := [.int (Int32.ofInt 0), .ref (α 103 0)]) X hR hS (m_X9_leastHeight hlt hκ hw) kw_1314 kw_1315 kw_1316 kw_94 kw_1317 ⟨rfl, by decide +kernel, by decide +kernel, by decide +kernel⟩ ⟨by decide, by decide⟩ (rc_10 X hR (okf X.2.2.1 rfl)) rfl rfl (Nat.le_of_ble_eq_true rfl) hl.1 dL_leastHeight_3 ⟨by decide, by decide⟩ (fun E Mx ce q H locs hx hR hS hce hcv hcl => ?_) (fun r Mr H locs hq hx hR hS => ?_)
    · obtain ⟨rfl, hq⟩ := hx
      refine sw_catch (E := xISE) (name := xISE) (pre := []) (suf := []) X hT rfl (fun _ h => nomatch h) (by decide) (by decide) kw_749 kn_829 hce hcv hcl ?_
      refine lv_astore_n (lv' := [(2, .ref q), (0, .ref (α 10 0)), (1, .ref (α 103 0))]) X.1.1 X.1.2.1 dL_leastHeight_11 rfl hl (by decide) rfl (fun ls hl => ?_)
      refine sa_const X.1 dL_leastHeight_12 ?_
      exact sw_iret X hR hS (inR_c (a := 1) rfl) hq Ak.rf dL_leastHeight_13 (by decide) (by decide)
    · refine lv_i2l X.1.1 X.1.2.1 dL_leastHeight_6 rfl ?_
      refine sa_lst X hR hS hx dL_leastHeight_7 (fun H locs hR hS => ?_)
      refine lv_goto (tgt := 14) X.1.1 X.1.2.1 dL_leastHeight_8 (by decide) ?_
      refine sa_const X.1 dL_leastHeight_14 ?_
      exact sw_iret X hR hS (inR_c (a := 0) rfl) hq Ak.rf dL_leastHeight_15 (by decide) (by decide))
def wp_L_border (p1 : Int) (p2 : Int) (p3 : Int) (p4 : Int) (κ : Nat → Int) (M : Mem) (Qm : Int → (Nat → Int) → Mem → Prop) : Prop := wp_X9_border p1 p2 p3 p4 M (fun E Mx => (E = xIAE ∧ Qm 1 κ Mx) ∨ (E = xIOB ∧ Qm 2 κ Mx)) (fun r Mr => Qm 0 κ (up Mr 103 0 0 r))
set_option maxHeartbeats 4000000 in
set_option maxRecDepth 100000 in
theorem w_L_border {l : Launch} {G : Gx} {e0 : Nat} {α : Ax} {κ : Nat → Int} {B : Nat} {p1 : Int} {p2 : Int} {p3 : Int} {p4 : Int} (hlt : l.stackTraces = false) (he0 : e0 = G.2.2.2.2.2) (hκ : kOK κ) (hp1 : inR p1) (hp2 : inR p2) (hp3 : inR p3) (hp4 : inR p4) {M : Mem} {Qm : Int → (Nat → Int) → Mem → Prop} (hw : wp_L_border p1 p2 p3 p4 κ M Qm) : WRa l yL_border (Cond.codeWith yL_border cL_border 7 (some .int) [(0, 14, 17, 13), (0, 14, 21, 25)]) 7 1 6 G e0 α κ B [.ref (α 10 0), .int (Int32.ofInt p1), .int (Int32.ofInt p2), .int (Int32.ofInt p3), .int (Int32.ofInt p4), .ref (α 103 0)] M Qm :=
  WRa.mk hκ (by decide +kernel) rfl (Nat.le_of_ble_eq_true rfl) (lv := [(0, .ref (α 10 0)), (1, .int (Int32.ofInt p1)), (2, .int (Int32.ofInt p2)), (3, .int (Int32.ofInt p3)), (4, .int (Int32.ofInt p4)), (5, .ref (α 103 0))]) rfl (fun p e s m args below meth c ls X N hT hR hS hl => by
    refine lv_aload X.1.1 X.1.2.1 dL_border_0 (lv_at hl 5 rfl) ?_
    refine sa_const X.1 dL_border_2 ?_
    refine lv_aload_n X.1.1 X.1.2.1 dL_border_3 rfl (lv_at hl 0 rfl) ?_
    refine lv_iload_n X.1.1 X.1.2.1 dL_border_4 rfl (lv_at hl 1 rfl) ?_
    refine lv_iload_n X.1.1 X.1.2.1 dL_border_5 rfl (lv_at hl 2 rfl) ?_
    refine lv_iload_n X.1.1 X.1.2.1 dL_border_6 rfl (lv_at hl 3 rfl) ?_
    refine lv_iload X.1.1 X.1.2.1 dL_border_7 (lv_at hl 4 rfl) ?_
    have hw : wp_X9_border p1 p2 p3 p4 M (fun E Mx => (E = xIAE ∧ Qm 1 κ Mx) ∨ (E = xIOB ∧ Qm 2 κ Mx)) (fun r Mr => Qm 0 κ (up Mr 103 0 0 r)) := hw
    refine sw_callI 6 (n := 4) (As := [.int (Int32.ofInt p1), .int (Int32.ofInt p2), .int (Int32.ofInt p3), .int (Int32.ofInt p4)]) (rest := [.int (Int32.ofInt 0), .ref (α 103 0)]) X hR hS (m_X9_border hlt hκ hp1 hp2 hp3 hp4 hw) kw_1363 kw_1364 kw_1365 kw_94 kw_1366 ⟨rfl, by decide +kernel, by decide +kernel, by decide +kernel⟩ ⟨by decide, by decide⟩ (rc_10 X hR (okf X.2.2.1 rfl)) rfl rfl (Nat.le_of_ble_eq_true rfl) hl.1 dL_border_9 ⟨by decide, by decide⟩ (fun E Mx ce q H locs hx hR hS hce hcv hcl => ?_) (fun r Mr H locs hq hx hR hS => ?_)
    · rcases hx with ⟨rfl, hq⟩ | ⟨rfl, hq⟩
      · refine sw_catch (E := xIAE) (name := xIAE) (pre := []) (suf := [(0, 14, 21, 25)]) X hT rfl (fun _ h => nomatch h) (by decide) (by decide) kw_748 kn_756 hce hcv hcl ?_
        refine lv_astore (lv' := [(6, .ref q), (0, .ref (α 10 0)), (1, .int (Int32.ofInt p1)), (2, .int (Int32.ofInt p2)), (3, .int (Int32.ofInt p3)), (4, .int (Int32.ofInt p4)), (5, .ref (α 103 0))]) X.1.1 X.1.2.1 dL_border_17 hl (by decide) rfl (fun ls hl => ?_)
        refine sa_const X.1 dL_border_19 ?_
        exact sw_iret X hR hS (inR_c (a := 1) rfl) hq Ak.rf dL_border_20 (by decide) (by decide)
      · refine sw_catch (E := xIOB) (name := xIOB) (pre := [(0, 14, 17, 13)]) (suf := []) X hT rfl (List.forall_mem_cons.mpr ⟨⟨by decide, xIAE, kw_748, N.2.2.2.2.1⟩, (fun _ h => nomatch h)⟩) (by decide) (by decide) kw_991 kn_1003 hce hcv hcl ?_
        refine lv_astore (lv' := [(6, .ref q), (0, .ref (α 10 0)), (1, .int (Int32.ofInt p1)), (2, .int (Int32.ofInt p2)), (3, .int (Int32.ofInt p3)), (4, .int (Int32.ofInt p4)), (5, .ref (α 103 0))]) X.1.1 X.1.2.1 dL_border_21 hl (by decide) rfl (fun ls hl => ?_)
        refine sa_const X.1 dL_border_23 ?_
        exact sw_iret X hR hS (inR_c (a := 2) rfl) hq Ak.rf dL_border_24 (by decide) (by decide)
    · refine lv_i2l X.1.1 X.1.2.1 dL_border_12 rfl ?_
      refine sa_lst X hR hS hx dL_border_13 (fun H locs hR hS => ?_)
      refine lv_goto (tgt := 25) X.1.1 X.1.2.1 dL_border_14 (by decide) ?_
      refine sa_const X.1 dL_border_25 ?_
      exact sw_iret X hR hS (inR_c (a := 0) rfl) hq Ak.rf dL_border_26 (by decide) (by decide))
def wp_L_edge (p1 : Int) (p2 : Int) (p3 : Int) (κ : Nat → Int) (M : Mem) (Qm : Int → (Nat → Int) → Mem → Prop) : Prop := wp_X9_edge p1 p2 p3 M (fun E Mx => (E = xIOB ∧ Qm 1 κ Mx) ∨ (E = xIAE ∧ Qm 2 κ Mx) ∨ (E = xISE ∧ Qm 3 κ Mx)) (fun r Mr => Qm 0 κ (up Mr 103 0 0 r))
set_option maxHeartbeats 4000000 in
set_option maxRecDepth 100000 in
theorem w_L_edge {l : Launch} {G : Gx} {e0 : Nat} {α : Ax} {κ : Nat → Int} {B : Nat} {p1 : Int} {p2 : Int} {p3 : Int} (hlt : l.stackTraces = false) (he0 : e0 = G.2.2.2.2.2) (hκ : kOK κ) (hp1 : inR p1) (hp2 : inR p2) (hp3 : inR p3) {M : Mem} {Qm : Int → (Nat → Int) → Mem → Prop} (hw : wp_L_edge p1 p2 p3 κ M Qm) : WRa l yL_edge (Cond.codeWith yL_edge cL_edge 6 (some .int) [(0, 12, 15, 25), (0, 12, 19, 13), (0, 12, 23, 15)]) 8 3 18 G e0 α κ B [.ref (α 10 0), .int (Int32.ofInt p1), .int (Int32.ofInt p2), .int (Int32.ofInt p3), .ref (α 103 0)] M Qm :=
  WRa.mk hκ (by decide +kernel) rfl (Nat.le_of_ble_eq_true rfl) (lv := [(0, .ref (α 10 0)), (1, .int (Int32.ofInt p1)), (2, .int (Int32.ofInt p2)), (3, .int (Int32.ofInt p3)), (4, .ref (α 103 0))]) rfl (fun p e s m args below meth c ls X N hT hR hS hl => by
    refine lv_aload X.1.1 X.1.2.1 dL_edge_0 (lv_at hl 4 rfl) ?_
    refine sa_const X.1 dL_edge_2 ?_
    refine lv_aload_n X.1.1 X.1.2.1 dL_edge_3 rfl (lv_at hl 0 rfl) ?_
    refine lv_iload_n X.1.1 X.1.2.1 dL_edge_4 rfl (lv_at hl 1 rfl) ?_
    refine lv_iload_n X.1.1 X.1.2.1 dL_edge_5 rfl (lv_at hl 2 rfl) ?_
    refine lv_iload_n X.1.1 X.1.2.1 dL_edge_6 rfl (lv_at hl 3 rfl) ?_
    have hw : wp_X9_edge p1 p2 p3 M (fun E Mx => (E = xIOB ∧ Qm 1 κ Mx) ∨ (E = xIAE ∧ Qm 2 κ Mx) ∨ (E = xISE ∧ Qm 3 κ Mx)) (fun r Mr => Qm 0 κ (up Mr 103 0 0 r)) := hw
    refine sw_callI 7 (n := 3) (As := [.int (Int32.ofInt p1), .int (Int32.ofInt p2), .int (Int32.ofInt p3)]) (rest := [.int (Int32.ofInt 0), .ref (α 103 0)]) X hR hS (m_X9_edge hlt hκ hp1 hp2 hp3 hw) kw_1392 kw_1393 kw_1394 kw_94 kw_1395 ⟨rfl, by decide +kernel, by decide +kernel, by decide +kernel⟩ ⟨by decide, by decide⟩ (rc_10 X hR (okf X.2.2.1 rfl)) rfl rfl (Nat.le_of_ble_eq_true rfl) hl.1 dL_edge_7 ⟨by decide, by decide⟩ (fun E Mx ce q H locs hx hR hS hce hcv hcl => ?_) (fun r Mr H locs hq hx hR hS => ?_)
    · rcases hx with ⟨rfl, hq⟩ | ⟨rfl, hq⟩ | ⟨rfl, hq⟩
      · refine sw_catch (E := xIOB) (name := xIOB) (pre := []) (suf := [(0, 12, 19, 13), (0, 12, 23, 15)]) X hT rfl (fun _ h => nomatch h) (by decide) (by decide) kw_991 kn_1003 hce hcv hcl ?_
        refine lv_astore (lv' := [(5, .ref q), (0, .ref (α 10 0)), (1, .int (Int32.ofInt p1)), (2, .int (Int32.ofInt p2)), (3, .int (Int32.ofInt p3)), (4, .ref (α 103 0))]) X.1.1 X.1.2.1 dL_edge_15 hl (by decide) rfl (fun ls hl => ?_)
        refine sa_const X.1 dL_edge_17 ?_
        exact sw_iret X hR hS (inR_c (a := 1) rfl) hq Ak.rf dL_edge_18 (by decide) (by decide)
      · refine sw_catch (E := xIAE) (name := xIAE) (pre := [(0, 12, 15, 25)]) (suf := [(0, 12, 23, 15)]) X hT rfl (List.forall_mem_cons.mpr ⟨⟨by decide, xIOB, kw_991, N.2.1⟩, (fun _ h => nomatch h)⟩) (by decide) (by decide) kw_748 kn_756 hce hcv hcl ?_
        refine lv_astore (lv' := [(5, .ref q), (0, .ref (α 10 0)), (1, .int (Int32.ofInt p1)), (2, .int (Int32.ofInt p2)), (3, .int (Int32.ofInt p3)), (4, .ref (α 103 0))]) X.1.1 X.1.2.1 dL_edge_19 hl (by decide) rfl (fun ls hl => ?_)
        refine sa_const X.1 dL_edge_21 ?_
        exact sw_iret X hR hS (inR_c (a := 2) rfl) hq Ak.rf dL_edge_22 (by decide) (by decide)
      · refine sw_catch (E := xISE) (name := xISE) (pre := [(0, 12, 15, 25), (0, 12, 19, 13)]) (suf := []) X hT rfl (List.forall_mem_cons.mpr ⟨⟨by decide, xIOB, kw_991, N.2.2.2.1⟩, (List.forall_mem_cons.mpr ⟨⟨by decide, xIAE, kw_748, N.2.2.1⟩, (fun _ h => nomatch h)⟩)⟩) (by decide) (by decide) kw_749 kn_829 hce hcv hcl ?_
        refine lv_astore (lv' := [(5, .ref q), (0, .ref (α 10 0)), (1, .int (Int32.ofInt p1)), (2, .int (Int32.ofInt p2)), (3, .int (Int32.ofInt p3)), (4, .ref (α 103 0))]) X.1.1 X.1.2.1 dL_edge_23 hl (by decide) rfl (fun ls hl => ?_)
        refine sa_const X.1 dL_edge_25 ?_
        exact sw_iret X hR hS (inR_c (a := 3) rfl) hq Ak.rf dL_edge_26 (by decide) (by decide)
    · refine lv_i2l X.1.1 X.1.2.1 dL_edge_10 rfl ?_
      refine sa_lst X hR hS hx dL_edge_11 (fun H locs hR hS => ?_)
      refine lv_goto (tgt := 27) X.1.1 X.1.2.1 dL_edge_12 (by decide) ?_
      refine sa_const X.1 dL_edge_27 ?_
      exact sw_iret X hR hS (inR_c (a := 0) rfl) hq Ak.rf dL_edge_28 (by decide) (by decide))
def wp_L_pages (κ : Nat → Int) (M : Mem) (Qm : Int → (Nat → Int) → Mem → Prop) : Prop := wp_X9_pages M (fun E Mx => (E = xISE ∧ Qm 1 κ Mx)) (fun r Mr => Qm 0 κ (up Mr 103 0 0 r))
set_option maxHeartbeats 4000000 in
set_option maxRecDepth 100000 in
theorem w_L_pages {l : Launch} {G : Gx} {e0 : Nat} {α : Ax} {κ : Nat → Int} {B : Nat} (hlt : l.stackTraces = false) (he0 : e0 = G.2.2.2.2.2) (hκ : kOK κ) {M : Mem} {Qm : Int → (Nat → Int) → Mem → Prop} (hw : wp_L_pages κ M Qm) : WRa l yL_pages (Cond.codeWith yL_pages cL_pages 3 (some .int) [(0, 8, 11, 15)]) 9 1 6 G e0 α κ B [.ref (α 10 0), .ref (α 103 0)] M Qm :=
  WRa.mk hκ (by decide +kernel) rfl (Nat.le_of_ble_eq_true rfl) (lv := [(0, .ref (α 10 0)), (1, .ref (α 103 0))]) rfl (fun p e s m args below meth c ls X N hT hR hS hl => by
    refine lv_aload_n X.1.1 X.1.2.1 dL_pages_0 rfl (lv_at hl 1 rfl) ?_
    refine sa_const X.1 dL_pages_1 ?_
    refine lv_aload_n X.1.1 X.1.2.1 dL_pages_2 rfl (lv_at hl 0 rfl) ?_
    have hw : wp_X9_pages M (fun E Mx => (E = xISE ∧ Qm 1 κ Mx)) (fun r Mr => Qm 0 κ (up Mr 103 0 0 r)) := hw
    refine sw_callI 8 (n := 0) (As := []) (rest := [.int (Int32.ofInt 0), .ref (α 103 0)]) X hR hS (m_X9_pages hlt hκ hw) kw_1420 kw_1421 kw_1422 kw_94 kw_1423 ⟨rfl, by decide +kernel, by decide +kernel, by decide +kernel⟩ ⟨by decide, by decide⟩ (rc_10 X hR (okf X.2.2.1 rfl)) rfl rfl (Nat.le_of_ble_eq_true rfl) hl.1 dL_pages_3 ⟨by decide, by decide⟩ (fun E Mx ce q H locs hx hR hS hce hcv hcl => ?_) (fun r Mr H locs hq hx hR hS => ?_)
    · obtain ⟨rfl, hq⟩ := hx
      refine sw_catch (E := xISE) (name := xISE) (pre := []) (suf := []) X hT rfl (fun _ h => nomatch h) (by decide) (by decide) kw_749 kn_829 hce hcv hcl ?_
      refine lv_astore_n (lv' := [(2, .ref q), (0, .ref (α 10 0)), (1, .ref (α 103 0))]) X.1.1 X.1.2.1 dL_pages_11 rfl hl (by decide) rfl (fun ls hl => ?_)
      refine sa_const X.1 dL_pages_12 ?_
      exact sw_iret X hR hS (inR_c (a := 1) rfl) hq Ak.rf dL_pages_13 (by decide) (by decide)
    · refine lv_i2l X.1.1 X.1.2.1 dL_pages_6 rfl ?_
      refine sa_lst X hR hS hx dL_pages_7 (fun H locs hR hS => ?_)
      refine lv_goto (tgt := 14) X.1.1 X.1.2.1 dL_pages_8 (by decide) ?_
      refine sa_const X.1 dL_pages_14 ?_
      exact sw_iret X hR hS (inR_c (a := 0) rfl) hq Ak.rf dL_pages_15 (by decide) (by decide))
def wp_L_pageOf (p1 : Int) (κ : Nat → Int) (M : Mem) (Qm : Int → (Nat → Int) → Mem → Prop) : Prop := wp_X9_pageOf p1 M (fun E Mx => (E = xIOB ∧ Qm 1 κ Mx) ∨ (E = xIAE ∧ Qm 2 κ Mx) ∨ (E = xISE ∧ Qm 3 κ Mx)) (fun r Mr => Qm 0 κ (up Mr 103 0 0 r))
set_option maxHeartbeats 4000000 in
set_option maxRecDepth 100000 in
theorem w_L_pageOf {l : Launch} {G : Gx} {e0 : Nat} {α : Ax} {κ : Nat → Int} {B : Nat} {p1 : Int} (hlt : l.stackTraces = false) (he0 : e0 = G.2.2.2.2.2) (hκ : kOK κ) (hp1 : inR p1) {M : Mem} {Qm : Int → (Nat → Int) → Mem → Prop} (hw : wp_L_pageOf p1 κ M Qm) : WRa l yL_pageOf (Cond.codeWith yL_pageOf cL_pageOf 4 (some .int) [(0, 9, 12, 25), (0, 9, 15, 13), (0, 9, 18, 15)]) 9 2 12 G e0 α κ B [.ref (α 10 0), .int (Int32.ofInt p1), .ref (α 103 0)] M Qm :=
  WRa.mk hκ (by decide +kernel) rfl (Nat.le_of_ble_eq_true rfl) (lv := [(0, .ref (α 10 0)), (1, .int (Int32.ofInt p1)), (2, .ref (α 103 0))]) rfl (fun p e s m args below meth c ls X N hT hR hS hl => by
    refine lv_aload_n X.1.1 X.1.2.1 dL_pageOf_0 rfl (lv_at hl 2 rfl) ?_
    refine sa_const X.1 dL_pageOf_1 ?_
    refine lv_aload_n X.1.1 X.1.2.1 dL_pageOf_2 rfl (lv_at hl 0 rfl) ?_
    refine lv_iload_n X.1.1 X.1.2.1 dL_pageOf_3 rfl (lv_at hl 1 rfl) ?_
    have hw : wp_X9_pageOf p1 M (fun E Mx => (E = xIOB ∧ Qm 1 κ Mx) ∨ (E = xIAE ∧ Qm 2 κ Mx) ∨ (E = xISE ∧ Qm 3 κ Mx)) (fun r Mr => Qm 0 κ (up Mr 103 0 0 r)) := hw
    refine sw_callI 8 (n := 1) (As := [.int (Int32.ofInt p1)]) (rest := [.int (Int32.ofInt 0), .ref (α 103 0)]) X hR hS (m_X9_pageOf hlt hκ hp1 hw) kw_1432 kw_1433 kw_1434 kw_94 kw_1435 ⟨rfl, by decide +kernel, by decide +kernel, by decide +kernel⟩ ⟨by decide, by decide⟩ (rc_10 X hR (okf X.2.2.1 rfl)) rfl rfl (Nat.le_of_ble_eq_true rfl) hl.1 dL_pageOf_4 ⟨by decide, by decide⟩ (fun E Mx ce q H locs hx hR hS hce hcv hcl => ?_) (fun r Mr H locs hq hx hR hS => ?_)
    · rcases hx with ⟨rfl, hq⟩ | ⟨rfl, hq⟩ | ⟨rfl, hq⟩
      · refine sw_catch (E := xIOB) (name := xIOB) (pre := []) (suf := [(0, 9, 15, 13), (0, 9, 18, 15)]) X hT rfl (fun _ h => nomatch h) (by decide) (by decide) kw_991 kn_1003 hce hcv hcl ?_
        refine lv_astore_n (lv' := [(3, .ref q), (0, .ref (α 10 0)), (1, .int (Int32.ofInt p1)), (2, .ref (α 103 0))]) X.1.1 X.1.2.1 dL_pageOf_12 rfl hl (by decide) rfl (fun ls hl => ?_)
        refine sa_const X.1 dL_pageOf_13 ?_
        exact sw_iret X hR hS (inR_c (a := 1) rfl) hq Ak.rf dL_pageOf_14 (by decide) (by decide)
      · refine sw_catch (E := xIAE) (name := xIAE) (pre := [(0, 9, 12, 25)]) (suf := [(0, 9, 18, 15)]) X hT rfl (List.forall_mem_cons.mpr ⟨⟨by decide, xIOB, kw_991, N.2.1⟩, (fun _ h => nomatch h)⟩) (by decide) (by decide) kw_748 kn_756 hce hcv hcl ?_
        refine lv_astore_n (lv' := [(3, .ref q), (0, .ref (α 10 0)), (1, .int (Int32.ofInt p1)), (2, .ref (α 103 0))]) X.1.1 X.1.2.1 dL_pageOf_15 rfl hl (by decide) rfl (fun ls hl => ?_)
        refine sa_const X.1 dL_pageOf_16 ?_
        exact sw_iret X hR hS (inR_c (a := 2) rfl) hq Ak.rf dL_pageOf_17 (by decide) (by decide)
      · refine sw_catch (E := xISE) (name := xISE) (pre := [(0, 9, 12, 25), (0, 9, 15, 13)]) (suf := []) X hT rfl (List.forall_mem_cons.mpr ⟨⟨by decide, xIOB, kw_991, N.2.2.2.1⟩, (List.forall_mem_cons.mpr ⟨⟨by decide, xIAE, kw_748, N.2.2.1⟩, (fun _ h => nomatch h)⟩)⟩) (by decide) (by decide) kw_749 kn_829 hce hcv hcl ?_
        refine lv_astore_n (lv' := [(3, .ref q), (0, .ref (α 10 0)), (1, .int (Int32.ofInt p1)), (2, .ref (α 103 0))]) X.1.1 X.1.2.1 dL_pageOf_18 rfl hl (by decide) rfl (fun ls hl => ?_)
        refine sa_const X.1 dL_pageOf_19 ?_
        exact sw_iret X hR hS (inR_c (a := 3) rfl) hq Ak.rf dL_pageOf_20 (by decide) (by decide)
    · refine lv_i2l X.1.1 X.1.2.1 dL_pageOf_7 rfl ?_
      refine sa_lst X hR hS hx dL_pageOf_8 (fun H locs hR hS => ?_)
      refine lv_goto (tgt := 21) X.1.1 X.1.2.1 dL_pageOf_9 (by decide) ?_
      refine sa_const X.1 dL_pageOf_21 ?_
      exact sw_iret X hR hS (inR_c (a := 0) rfl) hq Ak.rf dL_pageOf_22 (by decide) (by decide))
def wp_L_linesOn (p1 : Int) (p2 : Int) (κ : Nat → Int) (M : Mem) (Qm : Int → (Nat → Int) → Mem → Prop) : Prop := wp_X9_linesOn p1 p2 M (fun E Mx => (E = xIOB ∧ Qm 1 κ Mx) ∨ (E = xIAE ∧ Qm 2 κ Mx) ∨ (E = xISE ∧ Qm 3 κ Mx)) (fun r Mr => Qm 0 κ (up Mr 103 0 0 r))
set_option maxHeartbeats 4000000 in
set_option maxRecDepth 100000 in
theorem w_L_linesOn {l : Launch} {G : Gx} {e0 : Nat} {α : Ax} {κ : Nat → Int} {B : Nat} {p1 : Int} {p2 : Int} (hlt : l.stackTraces = false) (he0 : e0 = G.2.2.2.2.2) (hκ : kOK κ) (hp1 : inR p1) (hp2 : inR p2) {M : Mem} {Qm : Int → (Nat → Int) → Mem → Prop} (hw : wp_L_linesOn p1 p2 κ M Qm) : WRa l yL_linesOn (Cond.codeWith yL_linesOn cL_linesOn 5 (some .int) [(0, 10, 13, 25), (0, 10, 17, 13), (0, 10, 21, 15)]) 9 2 12 G e0 α κ B [.ref (α 10 0), .int (Int32.ofInt p1), .int (Int32.ofInt p2), .ref (α 103 0)] M Qm :=
  WRa.mk hκ (by decide +kernel) rfl (Nat.le_of_ble_eq_true rfl) (lv := [(0, .ref (α 10 0)), (1, .int (Int32.ofInt p1)), (2, .int (Int32.ofInt p2)), (3, .ref (α 103 0))]) rfl (fun p e s m args below meth c ls X N hT hR hS hl => by
    refine lv_aload_n X.1.1 X.1.2.1 dL_linesOn_0 rfl (lv_at hl 3 rfl) ?_
    refine sa_const X.1 dL_linesOn_1 ?_
    refine lv_aload_n X.1.1 X.1.2.1 dL_linesOn_2 rfl (lv_at hl 0 rfl) ?_
    refine lv_iload_n X.1.1 X.1.2.1 dL_linesOn_3 rfl (lv_at hl 1 rfl) ?_
    refine lv_iload_n X.1.1 X.1.2.1 dL_linesOn_4 rfl (lv_at hl 2 rfl) ?_
    have hw : wp_X9_linesOn p1 p2 M (fun E Mx => (E = xIOB ∧ Qm 1 κ Mx) ∨ (E = xIAE ∧ Qm 2 κ Mx) ∨ (E = xISE ∧ Qm 3 κ Mx)) (fun r Mr => Qm 0 κ (up Mr 103 0 0 r)) := hw
    refine sw_callI 8 (n := 2) (As := [.int (Int32.ofInt p1), .int (Int32.ofInt p2)]) (rest := [.int (Int32.ofInt 0), .ref (α 103 0)]) X hR hS (m_X9_linesOn hlt hκ hp1 hp2 hw) kw_1441 kw_1442 kw_1443 kw_94 kw_1444 ⟨rfl, by decide +kernel, by decide +kernel, by decide +kernel⟩ ⟨by decide, by decide⟩ (rc_10 X hR (okf X.2.2.1 rfl)) rfl rfl (Nat.le_of_ble_eq_true rfl) hl.1 dL_linesOn_5 ⟨by decide, by decide⟩ (fun E Mx ce q H locs hx hR hS hce hcv hcl => ?_) (fun r Mr H locs hq hx hR hS => ?_)
    · rcases hx with ⟨rfl, hq⟩ | ⟨rfl, hq⟩ | ⟨rfl, hq⟩
      · refine sw_catch (E := xIOB) (name := xIOB) (pre := []) (suf := [(0, 10, 17, 13), (0, 10, 21, 15)]) X hT rfl (fun _ h => nomatch h) (by decide) (by decide) kw_991 kn_1003 hce hcv hcl ?_
        refine lv_astore (lv' := [(4, .ref q), (0, .ref (α 10 0)), (1, .int (Int32.ofInt p1)), (2, .int (Int32.ofInt p2)), (3, .ref (α 103 0))]) X.1.1 X.1.2.1 dL_linesOn_13 hl (by decide) rfl (fun ls hl => ?_)
        refine sa_const X.1 dL_linesOn_15 ?_
        exact sw_iret X hR hS (inR_c (a := 1) rfl) hq Ak.rf dL_linesOn_16 (by decide) (by decide)
      · refine sw_catch (E := xIAE) (name := xIAE) (pre := [(0, 10, 13, 25)]) (suf := [(0, 10, 21, 15)]) X hT rfl (List.forall_mem_cons.mpr ⟨⟨by decide, xIOB, kw_991, N.2.1⟩, (fun _ h => nomatch h)⟩) (by decide) (by decide) kw_748 kn_756 hce hcv hcl ?_
        refine lv_astore (lv' := [(4, .ref q), (0, .ref (α 10 0)), (1, .int (Int32.ofInt p1)), (2, .int (Int32.ofInt p2)), (3, .ref (α 103 0))]) X.1.1 X.1.2.1 dL_linesOn_17 hl (by decide) rfl (fun ls hl => ?_)
        refine sa_const X.1 dL_linesOn_19 ?_
        exact sw_iret X hR hS (inR_c (a := 2) rfl) hq Ak.rf dL_linesOn_20 (by decide) (by decide)
      · refine sw_catch (E := xISE) (name := xISE) (pre := [(0, 10, 13, 25), (0, 10, 17, 13)]) (suf := []) X hT rfl (List.forall_mem_cons.mpr ⟨⟨by decide, xIOB, kw_991, N.2.2.2.1⟩, (List.forall_mem_cons.mpr ⟨⟨by decide, xIAE, kw_748, N.2.2.1⟩, (fun _ h => nomatch h)⟩)⟩) (by decide) (by decide) kw_749 kn_829 hce hcv hcl ?_
        refine lv_astore (lv' := [(4, .ref q), (0, .ref (α 10 0)), (1, .int (Int32.ofInt p1)), (2, .int (Int32.ofInt p2)), (3, .ref (α 103 0))]) X.1.1 X.1.2.1 dL_linesOn_21 hl (by decide) rfl (fun ls hl => ?_)
        refine sa_const X.1 dL_linesOn_23 ?_
        exact sw_iret X hR hS (inR_c (a := 3) rfl) hq Ak.rf dL_linesOn_24 (by decide) (by decide)
    · refine lv_i2l X.1.1 X.1.2.1 dL_linesOn_8 rfl ?_
      refine sa_lst X hR hS hx dL_linesOn_9 (fun H locs hR hS => ?_)
      refine lv_goto (tgt := 25) X.1.1 X.1.2.1 dL_linesOn_10 (by decide) ?_
      refine sa_const X.1 dL_linesOn_25 ?_
      exact sw_iret X hR hS (inR_c (a := 0) rfl) hq Ak.rf dL_linesOn_26 (by decide) (by decide))
def wp_L_shown (p1 : Int) (p2 : Int) (κ : Nat → Int) (M : Mem) (Qm : Int → (Nat → Int) → Mem → Prop) : Prop := wp_X9_shown p1 p2 M (fun E Mx => (E = xIOB ∧ Qm 1 κ Mx) ∨ (E = xIAE ∧ Qm 2 κ Mx) ∨ (E = xISE ∧ Qm 3 κ Mx)) (fun r Mr => Qm 0 κ (up Mr 103 0 0 r))
set_option maxHeartbeats 4000000 in
set_option maxRecDepth 100000 in
theorem w_L_shown {l : Launch} {G : Gx} {e0 : Nat} {α : Ax} {κ : Nat → Int} {B : Nat} {p1 : Int} {p2 : Int} (hlt : l.stackTraces = false) (he0 : e0 = G.2.2.2.2.2) (hκ : kOK κ) (hp1 : inR p1) (hp2 : inR p2) {M : Mem} {Qm : Int → (Nat → Int) → Mem → Prop} (hw : wp_L_shown p1 p2 κ M Qm) : WRa l yL_shown (Cond.codeWith yL_shown cL_shown 5 (some .int) [(0, 10, 13, 25), (0, 10, 17, 13), (0, 10, 21, 15)]) 9 2 12 G e0 α κ B [.ref (α 10 0), .int (Int32.ofInt p1), .int (Int32.ofInt p2), .ref (α 103 0)] M Qm :=
  WRa.mk hκ (by decide +kernel) rfl (Nat.le_of_ble_eq_true rfl) (lv := [(0, .ref (α 10 0)), (1, .int (Int32.ofInt p1)), (2, .int (Int32.ofInt p2)), (3, .ref (α 103 0))]) rfl (fun p e s m args below meth c ls X N hT hR hS hl => by
    refine lv_aload_n X.1.1 X.1.2.1 dL_shown_0 rfl (lv_at hl 3 rfl) ?_
    refine sa_const X.1 dL_shown_1 ?_
    refine lv_aload_n X.1.1 X.1.2.1 dL_shown_2 rfl (lv_at hl 0 rfl) ?_
    refine lv_iload_n X.1.1 X.1.2.1 dL_shown_3 rfl (lv_at hl 1 rfl) ?_
    refine lv_iload_n X.1.1 X.1.2.1 dL_shown_4 rfl (lv_at hl 2 rfl) ?_
    have hw : wp_X9_shown p1 p2 M (fun E Mx => (E = xIOB ∧ Qm 1 κ Mx) ∨ (E = xIAE ∧ Qm 2 κ Mx) ∨ (E = xISE ∧ Qm 3 κ Mx)) (fun r Mr => Qm 0 κ (up Mr 103 0 0 r)) := hw
    refine sw_callI 8 (n := 2) (As := [.int (Int32.ofInt p1), .int (Int32.ofInt p2)]) (rest := [.int (Int32.ofInt 0), .ref (α 103 0)]) X hR hS (m_X9_shown hlt hκ hp1 hp2 hw) kw_1455 kw_1456 kw_1457 kw_94 kw_1458 ⟨rfl, by decide +kernel, by decide +kernel, by decide +kernel⟩ ⟨by decide, by decide⟩ (rc_10 X hR (okf X.2.2.1 rfl)) rfl rfl (Nat.le_of_ble_eq_true rfl) hl.1 dL_shown_5 ⟨by decide, by decide⟩ (fun E Mx ce q H locs hx hR hS hce hcv hcl => ?_) (fun r Mr H locs hq hx hR hS => ?_)
    · rcases hx with ⟨rfl, hq⟩ | ⟨rfl, hq⟩ | ⟨rfl, hq⟩
      · refine sw_catch (E := xIOB) (name := xIOB) (pre := []) (suf := [(0, 10, 17, 13), (0, 10, 21, 15)]) X hT rfl (fun _ h => nomatch h) (by decide) (by decide) kw_991 kn_1003 hce hcv hcl ?_
        refine lv_astore (lv' := [(4, .ref q), (0, .ref (α 10 0)), (1, .int (Int32.ofInt p1)), (2, .int (Int32.ofInt p2)), (3, .ref (α 103 0))]) X.1.1 X.1.2.1 dL_shown_13 hl (by decide) rfl (fun ls hl => ?_)
        refine sa_const X.1 dL_shown_15 ?_
        exact sw_iret X hR hS (inR_c (a := 1) rfl) hq Ak.rf dL_shown_16 (by decide) (by decide)
      · refine sw_catch (E := xIAE) (name := xIAE) (pre := [(0, 10, 13, 25)]) (suf := [(0, 10, 21, 15)]) X hT rfl (List.forall_mem_cons.mpr ⟨⟨by decide, xIOB, kw_991, N.2.1⟩, (fun _ h => nomatch h)⟩) (by decide) (by decide) kw_748 kn_756 hce hcv hcl ?_
        refine lv_astore (lv' := [(4, .ref q), (0, .ref (α 10 0)), (1, .int (Int32.ofInt p1)), (2, .int (Int32.ofInt p2)), (3, .ref (α 103 0))]) X.1.1 X.1.2.1 dL_shown_17 hl (by decide) rfl (fun ls hl => ?_)
        refine sa_const X.1 dL_shown_19 ?_
        exact sw_iret X hR hS (inR_c (a := 2) rfl) hq Ak.rf dL_shown_20 (by decide) (by decide)
      · refine sw_catch (E := xISE) (name := xISE) (pre := [(0, 10, 13, 25), (0, 10, 17, 13)]) (suf := []) X hT rfl (List.forall_mem_cons.mpr ⟨⟨by decide, xIOB, kw_991, N.2.2.2.1⟩, (List.forall_mem_cons.mpr ⟨⟨by decide, xIAE, kw_748, N.2.2.1⟩, (fun _ h => nomatch h)⟩)⟩) (by decide) (by decide) kw_749 kn_829 hce hcv hcl ?_
        refine lv_astore (lv' := [(4, .ref q), (0, .ref (α 10 0)), (1, .int (Int32.ofInt p1)), (2, .int (Int32.ofInt p2)), (3, .ref (α 103 0))]) X.1.1 X.1.2.1 dL_shown_21 hl (by decide) rfl (fun ls hl => ?_)
        refine sa_const X.1 dL_shown_23 ?_
        exact sw_iret X hR hS (inR_c (a := 3) rfl) hq Ak.rf dL_shown_24 (by decide) (by decide)
    · refine lv_i2l X.1.1 X.1.2.1 dL_shown_8 rfl ?_
      refine sa_lst X hR hS hx dL_shown_9 (fun H locs hR hS => ?_)
      refine lv_goto (tgt := 25) X.1.1 X.1.2.1 dL_shown_10 (by decide) ?_
      refine sa_const X.1 dL_shown_25 ?_
      exact sw_iret X hR hS (inR_c (a := 0) rfl) hq Ak.rf dL_shown_26 (by decide) (by decide))
def wp_L_used (p1 : Int) (κ : Nat → Int) (M : Mem) (Qm : Int → (Nat → Int) → Mem → Prop) : Prop := wp_X9_used p1 M (fun E Mx => (E = xISE ∧ Qm 1 κ Mx) ∨ (E = xIAE ∧ Qm 2 κ Mx)) (fun r Mr => Qm 0 κ (up Mr 103 0 0 r))
set_option maxHeartbeats 4000000 in
set_option maxRecDepth 100000 in
theorem w_L_used {l : Launch} {G : Gx} {e0 : Nat} {α : Ax} {κ : Nat → Int} {B : Nat} {p1 : Int} (hlt : l.stackTraces = false) (he0 : e0 = G.2.2.2.2.2) (hκ : kOK κ) (hp1 : inR p1) {M : Mem} {Qm : Int → (Nat → Int) → Mem → Prop} (hw : wp_L_used p1 κ M Qm) : WRa l yL_used (Cond.codeWith yL_used cL_used 4 (some .int) [(0, 9, 12, 15), (0, 9, 15, 13)]) 9 2 12 G e0 α κ B [.ref (α 10 0), .int (Int32.ofInt p1), .ref (α 103 0)] M Qm :=
  WRa.mk hκ (by decide +kernel) rfl (Nat.le_of_ble_eq_true rfl) (lv := [(0, .ref (α 10 0)), (1, .int (Int32.ofInt p1)), (2, .ref (α 103 0))]) rfl (fun p e s m args below meth c ls X N hT hR hS hl => by
    refine lv_aload_n X.1.1 X.1.2.1 dL_used_0 rfl (lv_at hl 2 rfl) ?_
    refine sa_const X.1 dL_used_1 ?_
    refine lv_aload_n X.1.1 X.1.2.1 dL_used_2 rfl (lv_at hl 0 rfl) ?_
    refine lv_iload_n X.1.1 X.1.2.1 dL_used_3 rfl (lv_at hl 1 rfl) ?_
    have hw : wp_X9_used p1 M (fun E Mx => (E = xISE ∧ Qm 1 κ Mx) ∨ (E = xIAE ∧ Qm 2 κ Mx)) (fun r Mr => Qm 0 κ (up Mr 103 0 0 r)) := hw
    refine sw_callI 8 (n := 1) (As := [.int (Int32.ofInt p1)]) (rest := [.int (Int32.ofInt 0), .ref (α 103 0)]) X hR hS (m_X9_used hlt hκ hp1 hw) kw_1468 kw_1469 kw_1470 kw_94 kw_1471 ⟨rfl, by decide +kernel, by decide +kernel, by decide +kernel⟩ ⟨by decide, by decide⟩ (rc_10 X hR (okf X.2.2.1 rfl)) rfl rfl (Nat.le_of_ble_eq_true rfl) hl.1 dL_used_4 ⟨by decide, by decide⟩ (fun E Mx ce q H locs hx hR hS hce hcv hcl => ?_) (fun r Mr H locs hq hx hR hS => ?_)
    · rcases hx with ⟨rfl, hq⟩ | ⟨rfl, hq⟩
      · refine sw_catch (E := xISE) (name := xISE) (pre := []) (suf := [(0, 9, 15, 13)]) X hT rfl (fun _ h => nomatch h) (by decide) (by decide) kw_749 kn_829 hce hcv hcl ?_
        refine lv_astore_n (lv' := [(3, .ref q), (0, .ref (α 10 0)), (1, .int (Int32.ofInt p1)), (2, .ref (α 103 0))]) X.1.1 X.1.2.1 dL_used_12 rfl hl (by decide) rfl (fun ls hl => ?_)
        refine sa_const X.1 dL_used_13 ?_
        exact sw_iret X hR hS (inR_c (a := 1) rfl) hq Ak.rf dL_used_14 (by decide) (by decide)
      · refine sw_catch (E := xIAE) (name := xIAE) (pre := [(0, 9, 12, 15)]) (suf := []) X hT rfl (List.forall_mem_cons.mpr ⟨⟨by decide, xISE, kw_749, N.1⟩, (fun _ h => nomatch h)⟩) (by decide) (by decide) kw_748 kn_756 hce hcv hcl ?_
        refine lv_astore_n (lv' := [(3, .ref q), (0, .ref (α 10 0)), (1, .int (Int32.ofInt p1)), (2, .ref (α 103 0))]) X.1.1 X.1.2.1 dL_used_15 rfl hl (by decide) rfl (fun ls hl => ?_)
        refine sa_const X.1 dL_used_16 ?_
        exact sw_iret X hR hS (inR_c (a := 2) rfl) hq Ak.rf dL_used_17 (by decide) (by decide)
    · refine lv_i2l X.1.1 X.1.2.1 dL_used_7 rfl ?_
      refine sa_lst X hR hS hx dL_used_8 (fun H locs hR hS => ?_)
      refine lv_goto (tgt := 18) X.1.1 X.1.2.1 dL_used_9 (by decide) ?_
      refine sa_const X.1 dL_used_18 ?_
      exact sw_iret X hR hS (inR_c (a := 0) rfl) hq Ak.rf dL_used_19 (by decide) (by decide))
def wp_L_notesOn (p1 : Int) (κ : Nat → Int) (M : Mem) (Qm : Int → (Nat → Int) → Mem → Prop) : Prop := wp_X9_notesOn p1 M (fun E Mx => (E = xISE ∧ Qm 1 κ Mx) ∨ (E = xIAE ∧ Qm 2 κ Mx)) (fun r Mr => Qm 0 κ (up Mr 103 0 0 r))
set_option maxHeartbeats 4000000 in
set_option maxRecDepth 100000 in
theorem w_L_notesOn {l : Launch} {G : Gx} {e0 : Nat} {α : Ax} {κ : Nat → Int} {B : Nat} {p1 : Int} (hlt : l.stackTraces = false) (he0 : e0 = G.2.2.2.2.2) (hκ : kOK κ) (hp1 : inR p1) {M : Mem} {Qm : Int → (Nat → Int) → Mem → Prop} (hw : wp_L_notesOn p1 κ M Qm) : WRa l yL_notesOn (Cond.codeWith yL_notesOn cL_notesOn 4 (some .int) [(0, 9, 12, 15), (0, 9, 15, 13)]) 9 2 12 G e0 α κ B [.ref (α 10 0), .int (Int32.ofInt p1), .ref (α 103 0)] M Qm :=
  WRa.mk hκ (by decide +kernel) rfl (Nat.le_of_ble_eq_true rfl) (lv := [(0, .ref (α 10 0)), (1, .int (Int32.ofInt p1)), (2, .ref (α 103 0))]) rfl (fun p e s m args below meth c ls X N hT hR hS hl => by
    refine lv_aload_n X.1.1 X.1.2.1 dL_notesOn_0 rfl (lv_at hl 2 rfl) ?_
    refine sa_const X.1 dL_notesOn_1 ?_
    refine lv_aload_n X.1.1 X.1.2.1 dL_notesOn_2 rfl (lv_at hl 0 rfl) ?_
    refine lv_iload_n X.1.1 X.1.2.1 dL_notesOn_3 rfl (lv_at hl 1 rfl) ?_
    have hw : wp_X9_notesOn p1 M (fun E Mx => (E = xISE ∧ Qm 1 κ Mx) ∨ (E = xIAE ∧ Qm 2 κ Mx)) (fun r Mr => Qm 0 κ (up Mr 103 0 0 r)) := hw
    refine sw_callI 8 (n := 1) (As := [.int (Int32.ofInt p1)]) (rest := [.int (Int32.ofInt 0), .ref (α 103 0)]) X hR hS (m_X9_notesOn hlt hκ hp1 hw) kw_1481 kw_1482 kw_1483 kw_94 kw_1484 ⟨rfl, by decide +kernel, by decide +kernel, by decide +kernel⟩ ⟨by decide, by decide⟩ (rc_10 X hR (okf X.2.2.1 rfl)) rfl rfl (Nat.le_of_ble_eq_true rfl) hl.1 dL_notesOn_4 ⟨by decide, by decide⟩ (fun E Mx ce q H locs hx hR hS hce hcv hcl => ?_) (fun r Mr H locs hq hx hR hS => ?_)
    · rcases hx with ⟨rfl, hq⟩ | ⟨rfl, hq⟩
      · refine sw_catch (E := xISE) (name := xISE) (pre := []) (suf := [(0, 9, 15, 13)]) X hT rfl (fun _ h => nomatch h) (by decide) (by decide) kw_749 kn_829 hce hcv hcl ?_
        refine lv_astore_n (lv' := [(3, .ref q), (0, .ref (α 10 0)), (1, .int (Int32.ofInt p1)), (2, .ref (α 103 0))]) X.1.1 X.1.2.1 dL_notesOn_12 rfl hl (by decide) rfl (fun ls hl => ?_)
        refine sa_const X.1 dL_notesOn_13 ?_
        exact sw_iret X hR hS (inR_c (a := 1) rfl) hq Ak.rf dL_notesOn_14 (by decide) (by decide)
      · refine sw_catch (E := xIAE) (name := xIAE) (pre := [(0, 9, 12, 15)]) (suf := []) X hT rfl (List.forall_mem_cons.mpr ⟨⟨by decide, xISE, kw_749, N.1⟩, (fun _ h => nomatch h)⟩) (by decide) (by decide) kw_748 kn_756 hce hcv hcl ?_
        refine lv_astore_n (lv' := [(3, .ref q), (0, .ref (α 10 0)), (1, .int (Int32.ofInt p1)), (2, .ref (α 103 0))]) X.1.1 X.1.2.1 dL_notesOn_15 rfl hl (by decide) rfl (fun ls hl => ?_)
        refine sa_const X.1 dL_notesOn_16 ?_
        exact sw_iret X hR hS (inR_c (a := 2) rfl) hq Ak.rf dL_notesOn_17 (by decide) (by decide)
    · refine lv_i2l X.1.1 X.1.2.1 dL_notesOn_7 rfl ?_
      refine sa_lst X hR hS hx dL_notesOn_8 (fun H locs hR hS => ?_)
      refine lv_goto (tgt := 18) X.1.1 X.1.2.1 dL_notesOn_9 (by decide) ?_
      refine sa_const X.1 dL_notesOn_18 ?_
      exact sw_iret X hR hS (inR_c (a := 0) rfl) hq Ak.rf dL_notesOn_19 (by decide) (by decide))
def wp_L_total (p1 : Int) (κ : Nat → Int) (M : Mem) (Qm : Int → (Nat → Int) → Mem → Prop) : Prop := wp_X9_total p1 M (fun E Mx => (E = xIOB ∧ Qm 1 κ Mx)) (fun r Mr => Qm 0 κ (up Mr 103 0 0 r))
set_option maxHeartbeats 4000000 in
set_option maxRecDepth 100000 in
theorem w_L_total {l : Launch} {G : Gx} {e0 : Nat} {α : Ax} {κ : Nat → Int} {B : Nat} {p1 : Int} (hlt : l.stackTraces = false) (he0 : e0 = G.2.2.2.2.2) (hκ : kOK κ) (hp1 : inR p1) {M : Mem} {Qm : Int → (Nat → Int) → Mem → Prop} (hw : wp_L_total p1 κ M Qm) : WRa l yL_total (Cond.codeWith yL_total cL_total 4 (some .int) [(0, 9, 12, 25)]) 8 1 6 G e0 α κ B [.ref (α 10 0), .int (Int32.ofInt p1), .ref (α 103 0)] M Qm :=
  WRa.mk hκ (by decide +kernel) rfl (Nat.le_of_ble_eq_true rfl) (lv := [(0, .ref (α 10 0)), (1, .int (Int32.ofInt p1)), (2, .ref (α 103 0))]) rfl (fun p e s m args below meth c ls X N hT hR hS hl => by
    refine lv_aload_n X.1.1 X.1.2.1 dL_total_0 rfl (lv_at hl 2 rfl) ?_
    refine sa_const X.1 dL_total_1 ?_
    refine lv_aload_n X.1.1 X.1.2.1 dL_total_2 rfl (lv_at hl 0 rfl) ?_
    refine lv_iload_n X.1.1 X.1.2.1 dL_total_3 rfl (lv_at hl 1 rfl) ?_
    have hw : wp_X9_total p1 M (fun E Mx => (E = xIOB ∧ Qm 1 κ Mx)) (fun r Mr => Qm 0 κ (up Mr 103 0 0 r)) := hw
    refine sw_callI 7 (n := 1) (As := [.int (Int32.ofInt p1)]) (rest := [.int (Int32.ofInt 0), .ref (α 103 0)]) X hR hS (m_X9_total hlt hκ hp1 hw) kw_1488 kw_1489 kw_1490 kw_94 kw_1491 ⟨rfl, by decide +kernel, by decide +kernel, by decide +kernel⟩ ⟨by decide, by decide⟩ (rc_10 X hR (okf X.2.2.1 rfl)) rfl rfl (Nat.le_of_ble_eq_true rfl) hl.1 dL_total_4 ⟨by decide, by decide⟩ (fun E Mx ce q H locs hx hR hS hce hcv hcl => ?_) (fun r Mr H locs hq hx hR hS => ?_)
    · obtain ⟨rfl, hq⟩ := hx
      refine sw_catch (E := xIOB) (name := xIOB) (pre := []) (suf := []) X hT rfl (fun _ h => nomatch h) (by decide) (by decide) kw_991 kn_1003 hce hcv hcl ?_
      refine lv_astore_n (lv' := [(3, .ref q), (0, .ref (α 10 0)), (1, .int (Int32.ofInt p1)), (2, .ref (α 103 0))]) X.1.1 X.1.2.1 dL_total_12 rfl hl (by decide) rfl (fun ls hl => ?_)
      refine sa_const X.1 dL_total_13 ?_
      exact sw_iret X hR hS (inR_c (a := 1) rfl) hq Ak.rf dL_total_14 (by decide) (by decide)
    · refine lv_i2l X.1.1 X.1.2.1 dL_total_7 rfl ?_
      refine sa_lst X hR hS hx dL_total_8 (fun H locs hR hS => ?_)
      refine lv_goto (tgt := 15) X.1.1 X.1.2.1 dL_total_9 (by decide) ?_
      refine sa_const X.1 dL_total_15 ?_
      exact sw_iret X hR hS (inR_c (a := 0) rfl) hq Ak.rf dL_total_16 (by decide) (by decide))
def wp_L_subtotal (p1 : Int) (p2 : Int) (κ : Nat → Int) (M : Mem) (Qm : Int → (Nat → Int) → Mem → Prop) : Prop := wp_X9_subtotal p1 p2 M (fun E Mx => (E = xIOB ∧ Qm 1 κ Mx) ∨ (E = xIAE ∧ Qm 2 κ Mx)) (fun r Mr => Qm 0 κ (up Mr 103 0 0 r))
set_option maxHeartbeats 4000000 in
set_option maxRecDepth 100000 in
theorem w_L_subtotal {l : Launch} {G : Gx} {e0 : Nat} {α : Ax} {κ : Nat → Int} {B : Nat} {p1 : Int} {p2 : Int} (hlt : l.stackTraces = false) (he0 : e0 = G.2.2.2.2.2) (hκ : kOK κ) (hp1 : inR p1) (hp2 : inR p2) {M : Mem} {Qm : Int → (Nat → Int) → Mem → Prop} (hw : wp_L_subtotal p1 p2 κ M Qm) : WRa l yL_subtotal (Cond.codeWith yL_subtotal cL_subtotal 5 (some .int) [(0, 10, 13, 25), (0, 10, 17, 13)]) 8 3 18 G e0 α κ B [.ref (α 10 0), .int (Int32.ofInt p1), .int (Int32.ofInt p2), .ref (α 103 0)] M Qm :=
  WRa.mk hκ (by decide +kernel) rfl (Nat.le_of_ble_eq_true rfl) (lv := [(0, .ref (α 10 0)), (1, .int (Int32.ofInt p1)), (2, .int (Int32.ofInt p2)), (3, .ref (α 103 0))]) rfl (fun p e s m args below meth c ls X N hT hR hS hl => by
    refine lv_aload_n X.1.1 X.1.2.1 dL_subtotal_0 rfl (lv_at hl 3 rfl) ?_
    refine sa_const X.1 dL_subtotal_1 ?_
    refine lv_aload_n X.1.1 X.1.2.1 dL_subtotal_2 rfl (lv_at hl 0 rfl) ?_
    refine lv_iload_n X.1.1 X.1.2.1 dL_subtotal_3 rfl (lv_at hl 1 rfl) ?_
    refine lv_iload_n X.1.1 X.1.2.1 dL_subtotal_4 rfl (lv_at hl 2 rfl) ?_
    have hw : wp_X9_subtotal p1 p2 M (fun E Mx => (E = xIOB ∧ Qm 1 κ Mx) ∨ (E = xIAE ∧ Qm 2 κ Mx)) (fun r Mr => Qm 0 κ (up Mr 103 0 0 r)) := hw
    refine sw_callI 7 (n := 2) (As := [.int (Int32.ofInt p1), .int (Int32.ofInt p2)]) (rest := [.int (Int32.ofInt 0), .ref (α 103 0)]) X hR hS (m_X9_subtotal hlt hκ hp1 hp2 hw) kw_1499 kw_1500 kw_1501 kw_94 kw_1502 ⟨rfl, by decide +kernel, by decide +kernel, by decide +kernel⟩ ⟨by decide, by decide⟩ (rc_10 X hR (okf X.2.2.1 rfl)) rfl rfl (Nat.le_of_ble_eq_true rfl) hl.1 dL_subtotal_5 ⟨by decide, by decide⟩ (fun E Mx ce q H locs hx hR hS hce hcv hcl => ?_) (fun r Mr H locs hq hx hR hS => ?_)
    · rcases hx with ⟨rfl, hq⟩ | ⟨rfl, hq⟩
      · refine sw_catch (E := xIOB) (name := xIOB) (pre := []) (suf := [(0, 10, 17, 13)]) X hT rfl (fun _ h => nomatch h) (by decide) (by decide) kw_991 kn_1003 hce hcv hcl ?_
        refine lv_astore (lv' := [(4, .ref q), (0, .ref (α 10 0)), (1, .int (Int32.ofInt p1)), (2, .int (Int32.ofInt p2)), (3, .ref (α 103 0))]) X.1.1 X.1.2.1 dL_subtotal_13 hl (by decide) rfl (fun ls hl => ?_)
        refine sa_const X.1 dL_subtotal_15 ?_
        exact sw_iret X hR hS (inR_c (a := 1) rfl) hq Ak.rf dL_subtotal_16 (by decide) (by decide)
      · refine sw_catch (E := xIAE) (name := xIAE) (pre := [(0, 10, 13, 25)]) (suf := []) X hT rfl (List.forall_mem_cons.mpr ⟨⟨by decide, xIOB, kw_991, N.2.1⟩, (fun _ h => nomatch h)⟩) (by decide) (by decide) kw_748 kn_756 hce hcv hcl ?_
        refine lv_astore (lv' := [(4, .ref q), (0, .ref (α 10 0)), (1, .int (Int32.ofInt p1)), (2, .int (Int32.ofInt p2)), (3, .ref (α 103 0))]) X.1.1 X.1.2.1 dL_subtotal_17 hl (by decide) rfl (fun ls hl => ?_)
        refine sa_const X.1 dL_subtotal_19 ?_
        exact sw_iret X hR hS (inR_c (a := 2) rfl) hq Ak.rf dL_subtotal_20 (by decide) (by decide)
    · refine lv_i2l X.1.1 X.1.2.1 dL_subtotal_8 rfl ?_
      refine sa_lst X hR hS hx dL_subtotal_9 (fun H locs hR hS => ?_)
      refine lv_goto (tgt := 21) X.1.1 X.1.2.1 dL_subtotal_10 (by decide) ?_
      refine sa_const X.1 dL_subtotal_21 ?_
      exact sw_iret X hR hS (inR_c (a := 0) rfl) hq Ak.rf dL_subtotal_22 (by decide) (by decide))
def wp_L_carried (p1 : Int) (p2 : Int) (κ : Nat → Int) (M : Mem) (Qm : Int → (Nat → Int) → Mem → Prop) : Prop := wp_X9_carried p1 p2 M (fun E Mx => (E = xIOB ∧ Qm 1 κ Mx) ∨ (E = xISE ∧ Qm 2 κ Mx) ∨ (E = xIAE ∧ Qm 3 κ Mx)) (fun r Mr => Qm 0 κ (up Mr 103 0 0 r))
set_option maxHeartbeats 4000000 in
set_option maxRecDepth 100000 in
theorem w_L_carried {l : Launch} {G : Gx} {e0 : Nat} {α : Ax} {κ : Nat → Int} {B : Nat} {p1 : Int} {p2 : Int} (hlt : l.stackTraces = false) (he0 : e0 = G.2.2.2.2.2) (hκ : kOK κ) (hp1 : inR p1) (hp2 : inR p2) {M : Mem} {Qm : Int → (Nat → Int) → Mem → Prop} (hw : wp_L_carried p1 p2 κ M Qm) : WRa l yL_carried (Cond.codeWith yL_carried cL_carried 5 (some .int) [(0, 10, 13, 25), (0, 10, 17, 15), (0, 10, 21, 13)]) 9 3 18 G e0 α κ B [.ref (α 10 0), .int (Int32.ofInt p1), .int (Int32.ofInt p2), .ref (α 103 0)] M Qm :=
  WRa.mk hκ (by decide +kernel) rfl (Nat.le_of_ble_eq_true rfl) (lv := [(0, .ref (α 10 0)), (1, .int (Int32.ofInt p1)), (2, .int (Int32.ofInt p2)), (3, .ref (α 103 0))]) rfl (fun p e s m args below meth c ls X N hT hR hS hl => by
    refine lv_aload_n X.1.1 X.1.2.1 dL_carried_0 rfl (lv_at hl 3 rfl) ?_
    refine sa_const X.1 dL_carried_1 ?_
    refine lv_aload_n X.1.1 X.1.2.1 dL_carried_2 rfl (lv_at hl 0 rfl) ?_
    refine lv_iload_n X.1.1 X.1.2.1 dL_carried_3 rfl (lv_at hl 1 rfl) ?_
    refine lv_iload_n X.1.1 X.1.2.1 dL_carried_4 rfl (lv_at hl 2 rfl) ?_
    have hw : wp_X9_carried p1 p2 M (fun E Mx => (E = xIOB ∧ Qm 1 κ Mx) ∨ (E = xISE ∧ Qm 2 κ Mx) ∨ (E = xIAE ∧ Qm 3 κ Mx)) (fun r Mr => Qm 0 κ (up Mr 103 0 0 r)) := hw
    refine sw_callI 8 (n := 2) (As := [.int (Int32.ofInt p1), .int (Int32.ofInt p2)]) (rest := [.int (Int32.ofInt 0), .ref (α 103 0)]) X hR hS (m_X9_carried hlt hκ hp1 hp2 hw) kw_1511 kw_1512 kw_1513 kw_94 kw_1514 ⟨rfl, by decide +kernel, by decide +kernel, by decide +kernel⟩ ⟨by decide, by decide⟩ (rc_10 X hR (okf X.2.2.1 rfl)) rfl rfl (Nat.le_of_ble_eq_true rfl) hl.1 dL_carried_5 ⟨by decide, by decide⟩ (fun E Mx ce q H locs hx hR hS hce hcv hcl => ?_) (fun r Mr H locs hq hx hR hS => ?_)
    · rcases hx with ⟨rfl, hq⟩ | ⟨rfl, hq⟩ | ⟨rfl, hq⟩
      · refine sw_catch (E := xIOB) (name := xIOB) (pre := []) (suf := [(0, 10, 17, 15), (0, 10, 21, 13)]) X hT rfl (fun _ h => nomatch h) (by decide) (by decide) kw_991 kn_1003 hce hcv hcl ?_
        refine lv_astore (lv' := [(4, .ref q), (0, .ref (α 10 0)), (1, .int (Int32.ofInt p1)), (2, .int (Int32.ofInt p2)), (3, .ref (α 103 0))]) X.1.1 X.1.2.1 dL_carried_13 hl (by decide) rfl (fun ls hl => ?_)
        refine sa_const X.1 dL_carried_15 ?_
        exact sw_iret X hR hS (inR_c (a := 1) rfl) hq Ak.rf dL_carried_16 (by decide) (by decide)
      · refine sw_catch (E := xISE) (name := xISE) (pre := [(0, 10, 13, 25)]) (suf := [(0, 10, 21, 13)]) X hT rfl (List.forall_mem_cons.mpr ⟨⟨by decide, xIOB, kw_991, N.2.2.2.1⟩, (fun _ h => nomatch h)⟩) (by decide) (by decide) kw_749 kn_829 hce hcv hcl ?_
        refine lv_astore (lv' := [(4, .ref q), (0, .ref (α 10 0)), (1, .int (Int32.ofInt p1)), (2, .int (Int32.ofInt p2)), (3, .ref (α 103 0))]) X.1.1 X.1.2.1 dL_carried_17 hl (by decide) rfl (fun ls hl => ?_)
        refine sa_const X.1 dL_carried_19 ?_
        exact sw_iret X hR hS (inR_c (a := 2) rfl) hq Ak.rf dL_carried_20 (by decide) (by decide)
      · refine sw_catch (E := xIAE) (name := xIAE) (pre := [(0, 10, 13, 25), (0, 10, 17, 15)]) (suf := []) X hT rfl (List.forall_mem_cons.mpr ⟨⟨by decide, xIOB, kw_991, N.2.1⟩, (List.forall_mem_cons.mpr ⟨⟨by decide, xISE, kw_749, N.1⟩, (fun _ h => nomatch h)⟩)⟩) (by decide) (by decide) kw_748 kn_756 hce hcv hcl ?_
        refine lv_astore (lv' := [(4, .ref q), (0, .ref (α 10 0)), (1, .int (Int32.ofInt p1)), (2, .int (Int32.ofInt p2)), (3, .ref (α 103 0))]) X.1.1 X.1.2.1 dL_carried_21 hl (by decide) rfl (fun ls hl => ?_)
        refine sa_const X.1 dL_carried_23 ?_
        exact sw_iret X hR hS (inR_c (a := 3) rfl) hq Ak.rf dL_carried_24 (by decide) (by decide)
    · refine lv_i2l X.1.1 X.1.2.1 dL_carried_8 rfl ?_
      refine sa_lst X hR hS hx dL_carried_9 (fun H locs hR hS => ?_)
      refine lv_goto (tgt := 25) X.1.1 X.1.2.1 dL_carried_10 (by decide) ?_
      refine sa_const X.1 dL_carried_25 ?_
      exact sw_iret X hR hS (inR_c (a := 0) rfl) hq Ak.rf dL_carried_26 (by decide) (by decide))
def wp_L_carriedByCells (p1 : Int) (p2 : Int) (κ : Nat → Int) (M : Mem) (Qm : Int → (Nat → Int) → Mem → Prop) : Prop := wp_X9_carriedByCells p1 p2 M (fun E Mx => (E = xIOB ∧ Qm 1 κ Mx) ∨ (E = xISE ∧ Qm 2 κ Mx) ∨ (E = xIAE ∧ Qm 3 κ Mx)) (fun r Mr => Qm 0 κ (up Mr 103 0 0 r))
set_option maxHeartbeats 4000000 in
set_option maxRecDepth 100000 in
theorem w_L_carriedByCells {l : Launch} {G : Gx} {e0 : Nat} {α : Ax} {κ : Nat → Int} {B : Nat} {p1 : Int} {p2 : Int} (hlt : l.stackTraces = false) (he0 : e0 = G.2.2.2.2.2) (hκ : kOK κ) (hp1 : inR p1) (hp2 : inR p2) {M : Mem} {Qm : Int → (Nat → Int) → Mem → Prop} (hw : wp_L_carriedByCells p1 p2 κ M Qm) : WRa l yL_carriedByCells (Cond.codeWith yL_carriedByCells cL_carriedByCells 5 (some .int) [(0, 10, 13, 25), (0, 10, 17, 15), (0, 10, 21, 13)]) 9 3 18 G e0 α κ B [.ref (α 10 0), .int (Int32.ofInt p1), .int (Int32.ofInt p2), .ref (α 103 0)] M Qm :=
  WRa.mk hκ (by decide +kernel) rfl (Nat.le_of_ble_eq_true rfl) (lv := [(0, .ref (α 10 0)), (1, .int (Int32.ofInt p1)), (2, .int (Int32.ofInt p2)), (3, .ref (α 103 0))]) rfl (fun p e s m args below meth c ls X N hT hR hS hl => by
    refine lv_aload_n X.1.1 X.1.2.1 dL_carriedByCells_0 rfl (lv_at hl 3 rfl) ?_
    refine sa_const X.1 dL_carriedByCells_1 ?_
    refine lv_aload_n X.1.1 X.1.2.1 dL_carriedByCells_2 rfl (lv_at hl 0 rfl) ?_
    refine lv_iload_n X.1.1 X.1.2.1 dL_carriedByCells_3 rfl (lv_at hl 1 rfl) ?_
    refine lv_iload_n X.1.1 X.1.2.1 dL_carriedByCells_4 rfl (lv_at hl 2 rfl) ?_
    have hw : wp_X9_carriedByCells p1 p2 M (fun E Mx => (E = xIOB ∧ Qm 1 κ Mx) ∨ (E = xISE ∧ Qm 2 κ Mx) ∨ (E = xIAE ∧ Qm 3 κ Mx)) (fun r Mr => Qm 0 κ (up Mr 103 0 0 r)) := hw
    refine sw_callI 8 (n := 2) (As := [.int (Int32.ofInt p1), .int (Int32.ofInt p2)]) (rest := [.int (Int32.ofInt 0), .ref (α 103 0)]) X hR hS (m_X9_carriedByCells hlt hκ hp1 hp2 hw) kw_1519 kw_1520 kw_1521 kw_94 kw_1522 ⟨rfl, by decide +kernel, by decide +kernel, by decide +kernel⟩ ⟨by decide, by decide⟩ (rc_10 X hR (okf X.2.2.1 rfl)) rfl rfl (Nat.le_of_ble_eq_true rfl) hl.1 dL_carriedByCells_5 ⟨by decide, by decide⟩ (fun E Mx ce q H locs hx hR hS hce hcv hcl => ?_) (fun r Mr H locs hq hx hR hS => ?_)
    · rcases hx with ⟨rfl, hq⟩ | ⟨rfl, hq⟩ | ⟨rfl, hq⟩
      · refine sw_catch (E := xIOB) (name := xIOB) (pre := []) (suf := [(0, 10, 17, 15), (0, 10, 21, 13)]) X hT rfl (fun _ h => nomatch h) (by decide) (by decide) kw_991 kn_1003 hce hcv hcl ?_
        refine lv_astore (lv' := [(4, .ref q), (0, .ref (α 10 0)), (1, .int (Int32.ofInt p1)), (2, .int (Int32.ofInt p2)), (3, .ref (α 103 0))]) X.1.1 X.1.2.1 dL_carriedByCells_13 hl (by decide) rfl (fun ls hl => ?_)
        refine sa_const X.1 dL_carriedByCells_15 ?_
        exact sw_iret X hR hS (inR_c (a := 1) rfl) hq Ak.rf dL_carriedByCells_16 (by decide) (by decide)
      · refine sw_catch (E := xISE) (name := xISE) (pre := [(0, 10, 13, 25)]) (suf := [(0, 10, 21, 13)]) X hT rfl (List.forall_mem_cons.mpr ⟨⟨by decide, xIOB, kw_991, N.2.2.2.1⟩, (fun _ h => nomatch h)⟩) (by decide) (by decide) kw_749 kn_829 hce hcv hcl ?_
        refine lv_astore (lv' := [(4, .ref q), (0, .ref (α 10 0)), (1, .int (Int32.ofInt p1)), (2, .int (Int32.ofInt p2)), (3, .ref (α 103 0))]) X.1.1 X.1.2.1 dL_carriedByCells_17 hl (by decide) rfl (fun ls hl => ?_)
        refine sa_const X.1 dL_carriedByCells_19 ?_
        exact sw_iret X hR hS (inR_c (a := 2) rfl) hq Ak.rf dL_carriedByCells_20 (by decide) (by decide)
      · refine sw_catch (E := xIAE) (name := xIAE) (pre := [(0, 10, 13, 25), (0, 10, 17, 15)]) (suf := []) X hT rfl (List.forall_mem_cons.mpr ⟨⟨by decide, xIOB, kw_991, N.2.1⟩, (List.forall_mem_cons.mpr ⟨⟨by decide, xISE, kw_749, N.1⟩, (fun _ h => nomatch h)⟩)⟩) (by decide) (by decide) kw_748 kn_756 hce hcv hcl ?_
        refine lv_astore (lv' := [(4, .ref q), (0, .ref (α 10 0)), (1, .int (Int32.ofInt p1)), (2, .int (Int32.ofInt p2)), (3, .ref (α 103 0))]) X.1.1 X.1.2.1 dL_carriedByCells_21 hl (by decide) rfl (fun ls hl => ?_)
        refine sa_const X.1 dL_carriedByCells_23 ?_
        exact sw_iret X hR hS (inR_c (a := 3) rfl) hq Ak.rf dL_carriedByCells_24 (by decide) (by decide)
    · refine lv_i2l X.1.1 X.1.2.1 dL_carriedByCells_8 rfl ?_
      refine sa_lst X hR hS hx dL_carriedByCells_9 (fun H locs hR hS => ?_)
      refine lv_goto (tgt := 25) X.1.1 X.1.2.1 dL_carriedByCells_10 (by decide) ?_
      refine sa_const X.1 dL_carriedByCells_25 ?_
      exact sw_iret X hR hS (inR_c (a := 0) rfl) hq Ak.rf dL_carriedByCells_26 (by decide) (by decide))
