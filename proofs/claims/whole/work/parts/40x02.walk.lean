theorem dX9_pageOf_0 : decode cX9_pageOf 0 = .ok (.aload_n 0, 1) := by decide +kernel
theorem dX9_pageOf_1 : decode cX9_pageOf 1 = .ok (.iload_n 1, 1) := by decide +kernel
theorem dX9_pageOf_2 : decode cX9_pageOf 2 = .ok (.invokevirtual 114, 3) := by decide +kernel
theorem dX9_pageOf_5 : decode cX9_pageOf 5 = .ok (.aload_n 0, 1) := by decide +kernel
theorem dX9_pageOf_6 : decode cX9_pageOf 6 = .ok (.getfield 12, 3) := by decide +kernel
theorem dX9_pageOf_9 : decode cX9_pageOf 9 = .ok (.iload_n 1, 1) := by decide +kernel
theorem dX9_pageOf_10 : decode cX9_pageOf 10 = .ok (.invokevirtual 333, 3) := by decide +kernel
theorem dX9_pageOf_13 : decode cX9_pageOf 13 = .ok (.ifCond .ne 14, 3) := by decide +kernel
theorem dX9_pageOf_16 : decode cX9_pageOf 16 = .ok (.new 69, 3) := by decide +kernel
theorem dX9_pageOf_19 : decode cX9_pageOf 19 = .ok (.dup, 1) := by decide +kernel
theorem dX9_pageOf_20 : decode cX9_pageOf 20 = .ok (.ldc_w 336, 3) := by decide +kernel
theorem dX9_pageOf_23 : decode cX9_pageOf 23 = .ok (.invokespecial 73, 3) := by decide +kernel
theorem dX9_pageOf_26 : decode cX9_pageOf 26 = .ok (.athrow, 1) := by decide +kernel
theorem dX9_pageOf_27 : decode cX9_pageOf 27 = .ok (.aload_n 0, 1) := by decide +kernel
theorem dX9_pageOf_28 : decode cX9_pageOf 28 = .ok (.invokevirtual 234, 3) := by decide +kernel
theorem dX9_pageOf_31 : decode cX9_pageOf 31 = .ok (.aload_n 0, 1) := by decide +kernel
theorem dX9_pageOf_32 : decode cX9_pageOf 32 = .ok (.invokevirtual 327, 3) := by decide +kernel
theorem dX9_pageOf_35 : decode cX9_pageOf 35 = .ok (.aload_n 0, 1) := by decide +kernel
theorem dX9_pageOf_36 : decode cX9_pageOf 36 = .ok (.getfield 42, 3) := by decide +kernel
theorem dX9_pageOf_39 : decode cX9_pageOf 39 = .ok (.getfield 338, 3) := by decide +kernel
theorem dX9_pageOf_42 : decode cX9_pageOf 42 = .ok (.iload_n 1, 1) := by decide +kernel
theorem dX9_pageOf_43 : decode cX9_pageOf 43 = .ok (.iaload, 1) := by decide +kernel
theorem dX9_pageOf_44 : decode cX9_pageOf 44 = .ok (.ireturn, 1) := by decide +kernel
theorem dX9_linesOn_0 : decode cX9_linesOn 0 = .ok (.aload_n 0, 1) := by decide +kernel
theorem dX9_linesOn_1 : decode cX9_linesOn 1 = .ok (.iload_n 1, 1) := by decide +kernel
theorem dX9_linesOn_2 : decode cX9_linesOn 2 = .ok (.invokevirtual 114, 3) := by decide +kernel
theorem dX9_linesOn_5 : decode cX9_linesOn 5 = .ok (.aload_n 0, 1) := by decide +kernel
theorem dX9_linesOn_6 : decode cX9_linesOn 6 = .ok (.getfield 12, 3) := by decide +kernel
theorem dX9_linesOn_9 : decode cX9_linesOn 9 = .ok (.iload_n 1, 1) := by decide +kernel
theorem dX9_linesOn_10 : decode cX9_linesOn 10 = .ok (.invokevirtual 333, 3) := by decide +kernel
theorem dX9_linesOn_13 : decode cX9_linesOn 13 = .ok (.ifCond .eq 7, 3) := by decide +kernel
theorem dX9_linesOn_16 : decode cX9_linesOn 16 = .ok (.iload_n 2, 1) := by decide +kernel
theorem dX9_linesOn_17 : decode cX9_linesOn 17 = .ok (.ifCond .ge 14, 3) := by decide +kernel
theorem dX9_linesOn_20 : decode cX9_linesOn 20 = .ok (.new 69, 3) := by decide +kernel
theorem dX9_linesOn_23 : decode cX9_linesOn 23 = .ok (.dup, 1) := by decide +kernel
theorem dX9_linesOn_24 : decode cX9_linesOn 24 = .ok (.ldc_w 341, 3) := by decide +kernel
theorem dX9_linesOn_27 : decode cX9_linesOn 27 = .ok (.invokespecial 73, 3) := by decide +kernel
theorem dX9_linesOn_30 : decode cX9_linesOn 30 = .ok (.athrow, 1) := by decide +kernel
theorem dX9_linesOn_31 : decode cX9_linesOn 31 = .ok (.aload_n 0, 1) := by decide +kernel
theorem dX9_linesOn_32 : decode cX9_linesOn 32 = .ok (.invokevirtual 234, 3) := by decide +kernel
theorem dX9_linesOn_35 : decode cX9_linesOn 35 = .ok (.aload_n 0, 1) := by decide +kernel
theorem dX9_linesOn_36 : decode cX9_linesOn 36 = .ok (.invokevirtual 327, 3) := by decide +kernel
theorem dX9_linesOn_39 : decode cX9_linesOn 39 = .ok (.aload_n 0, 1) := by decide +kernel
theorem dX9_linesOn_40 : decode cX9_linesOn 40 = .ok (.getfield 42, 3) := by decide +kernel
theorem dX9_linesOn_43 : decode cX9_linesOn 43 = .ok (.iload_n 1, 1) := by decide +kernel
theorem dX9_linesOn_44 : decode cX9_linesOn 44 = .ok (.aload_n 0, 1) := by decide +kernel
theorem dX9_linesOn_45 : decode cX9_linesOn 45 = .ok (.getfield 42, 3) := by decide +kernel
theorem dX9_linesOn_48 : decode cX9_linesOn 48 = .ok (.iload_n 2, 1) := by decide +kernel
theorem dX9_linesOn_49 : decode cX9_linesOn 49 = .ok (.invokevirtual 343, 3) := by decide +kernel
theorem dX9_linesOn_52 : decode cX9_linesOn 52 = .ok (.aload_n 0, 1) := by decide +kernel
theorem dX9_linesOn_53 : decode cX9_linesOn 53 = .ok (.getfield 42, 3) := by decide +kernel
theorem dX9_linesOn_56 : decode cX9_linesOn 56 = .ok (.iload_n 2, 1) := by decide +kernel
theorem dX9_linesOn_57 : decode cX9_linesOn 57 = .ok (.invokevirtual 346, 3) := by decide +kernel
theorem dX9_linesOn_60 : decode cX9_linesOn 60 = .ok (.invokevirtual 349, 3) := by decide +kernel
theorem dX9_linesOn_63 : decode cX9_linesOn 63 = .ok (.ireturn, 1) := by decide +kernel
theorem dX9_shown_0 : decode cX9_shown 0 = .ok (.aload_n 0, 1) := by decide +kernel
theorem dX9_shown_1 : decode cX9_shown 1 = .ok (.iload_n 1, 1) := by decide +kernel
theorem dX9_shown_2 : decode cX9_shown 2 = .ok (.invokevirtual 147, 3) := by decide +kernel
theorem dX9_shown_5 : decode cX9_shown 5 = .ok (.aload_n 0, 1) := by decide +kernel
theorem dX9_shown_6 : decode cX9_shown 6 = .ok (.getfield 12, 3) := by decide +kernel
theorem dX9_shown_9 : decode cX9_shown 9 = .ok (.getfield 129, 3) := by decide +kernel
theorem dX9_shown_12 : decode cX9_shown 12 = .ok (.iload_n 1, 1) := by decide +kernel
theorem dX9_shown_13 : decode cX9_shown 13 = .ok (.invokevirtual 123, 3) := by decide +kernel
theorem dX9_shown_16 : decode cX9_shown 16 = .ok (.checkcast 138, 3) := by decide +kernel
theorem dX9_shown_19 : decode cX9_shown 19 = .ok (.astore_n 3, 1) := by decide +kernel
theorem dX9_shown_20 : decode cX9_shown 20 = .ok (.aload_n 3, 1) := by decide +kernel
theorem dX9_shown_21 : decode cX9_shown 21 = .ok (.getfield 186, 3) := by decide +kernel
theorem dX9_shown_24 : decode cX9_shown 24 = .ok (.getfield 190, 3) := by decide +kernel
theorem dX9_shown_27 : decode cX9_shown 27 = .ok (.iconst 1, 1) := by decide +kernel
theorem dX9_shown_28 : decode cX9_shown 28 = .ok (.if_icmp .ne 7, 3) := by decide +kernel
theorem dX9_shown_31 : decode cX9_shown 31 = .ok (.iload_n 2, 1) := by decide +kernel
theorem dX9_shown_32 : decode cX9_shown 32 = .ok (.ifCond .ge 14, 3) := by decide +kernel
theorem dX9_shown_35 : decode cX9_shown 35 = .ok (.new 69, 3) := by decide +kernel
theorem dX9_shown_38 : decode cX9_shown 38 = .ok (.dup, 1) := by decide +kernel
theorem dX9_shown_39 : decode cX9_shown 39 = .ok (.ldc_w 353, 3) := by decide +kernel
theorem dX9_shown_42 : decode cX9_shown 42 = .ok (.invokespecial 73, 3) := by decide +kernel
theorem dX9_shown_45 : decode cX9_shown 45 = .ok (.athrow, 1) := by decide +kernel
theorem dX9_shown_46 : decode cX9_shown 46 = .ok (.aload_n 0, 1) := by decide +kernel
theorem dX9_shown_47 : decode cX9_shown 47 = .ok (.invokevirtual 234, 3) := by decide +kernel
theorem dX9_shown_50 : decode cX9_shown 50 = .ok (.aload_n 0, 1) := by decide +kernel
theorem dX9_shown_51 : decode cX9_shown 51 = .ok (.invokevirtual 327, 3) := by decide +kernel
theorem dX9_shown_54 : decode cX9_shown 54 = .ok (.aload_n 0, 1) := by decide +kernel
theorem dX9_shown_55 : decode cX9_shown 55 = .ok (.getfield 42, 3) := by decide +kernel
theorem dX9_shown_58 : decode cX9_shown 58 = .ok (.iload_n 2, 1) := by decide +kernel
theorem dX9_shown_59 : decode cX9_shown 59 = .ok (.invokevirtual 343, 3) := by decide +kernel
theorem dX9_shown_62 : decode cX9_shown 62 = .ok (.istore 4, 2) := by decide +kernel
theorem dX9_shown_64 : decode cX9_shown 64 = .ok (.aload_n 0, 1) := by decide +kernel
theorem dX9_shown_65 : decode cX9_shown 65 = .ok (.aload_n 3, 1) := by decide +kernel
theorem dX9_shown_66 : decode cX9_shown 66 = .ok (.iconst 0, 1) := by decide +kernel
theorem dX9_shown_67 : decode cX9_shown 67 = .ok (.iload 4, 2) := by decide +kernel
theorem dX9_shown_69 : decode cX9_shown 69 = .ok (.invokevirtual 355, 3) := by decide +kernel
theorem dX9_shown_72 : decode cX9_shown 72 = .ok (.istore 5, 2) := by decide +kernel
theorem dX9_shown_74 : decode cX9_shown 74 = .ok (.aload_n 0, 1) := by decide +kernel
theorem dX9_shown_75 : decode cX9_shown 75 = .ok (.aload_n 3, 1) := by decide +kernel
theorem dX9_shown_76 : decode cX9_shown 76 = .ok (.iload 4, 2) := by decide +kernel
theorem dX9_shown_78 : decode cX9_shown 78 = .ok (.aload_n 0, 1) := by decide +kernel
theorem dX9_shown_79 : decode cX9_shown 79 = .ok (.getfield 42, 3) := by decide +kernel
theorem dX9_shown_82 : decode cX9_shown 82 = .ok (.iload_n 2, 1) := by decide +kernel
theorem dX9_shown_83 : decode cX9_shown 83 = .ok (.invokevirtual 346, 3) := by decide +kernel
theorem dX9_shown_86 : decode cX9_shown 86 = .ok (.invokevirtual 355, 3) := by decide +kernel
theorem dX9_shown_89 : decode cX9_shown 89 = .ok (.istore 6, 2) := by decide +kernel
theorem dX9_shown_91 : decode cX9_shown 91 = .ok (.iconst 0, 1) := by decide +kernel
theorem dX9_shown_92 : decode cX9_shown 92 = .ok (.iload 6, 2) := by decide +kernel
theorem dX9_shown_94 : decode cX9_shown 94 = .ok (.aload_n 0, 1) := by decide +kernel
theorem dX9_shown_95 : decode cX9_shown 95 = .ok (.getfield 28, 3) := by decide +kernel
theorem dX9_shown_98 : decode cX9_shown 98 = .ok (.getfield 271, 3) := by decide +kernel
theorem dX9_shown_101 : decode cX9_shown 101 = .ok (.iload_n 1, 1) := by decide +kernel
theorem dX9_shown_102 : decode cX9_shown 102 = .ok (.iaload, 1) := by decide +kernel
theorem dX9_shown_103 : decode cX9_shown 103 = .ok (.iload 5, 2) := by decide +kernel
theorem dX9_shown_105 : decode cX9_shown 105 = .ok (.isub, 1) := by decide +kernel
theorem dX9_shown_106 : decode cX9_shown 106 = .ok (.invokestatic 359, 3) := by decide +kernel
theorem dX9_shown_109 : decode cX9_shown 109 = .ok (.invokestatic 251, 3) := by decide +kernel
theorem dX9_shown_112 : decode cX9_shown 112 = .ok (.ireturn, 1) := by decide +kernel
theorem dX9_used_0 : decode cX9_used 0 = .ok (.aload_n 0, 1) := by decide +kernel
theorem dX9_used_1 : decode cX9_used 1 = .ok (.invokevirtual 234, 3) := by decide +kernel
theorem dX9_used_4 : decode cX9_used 4 = .ok (.aload_n 0, 1) := by decide +kernel
theorem dX9_used_5 : decode cX9_used 5 = .ok (.invokevirtual 327, 3) := by decide +kernel
theorem dX9_used_8 : decode cX9_used 8 = .ok (.aload_n 0, 1) := by decide +kernel
theorem dX9_used_9 : decode cX9_used 9 = .ok (.iload_n 1, 1) := by decide +kernel
theorem dX9_used_10 : decode cX9_used 10 = .ok (.invokevirtual 362, 3) := by decide +kernel
theorem dX9_used_13 : decode cX9_used 13 = .ok (.aload_n 0, 1) := by decide +kernel
theorem dX9_used_14 : decode cX9_used 14 = .ok (.getfield 42, 3) := by decide +kernel
theorem dX9_used_17 : decode cX9_used 17 = .ok (.getfield 365, 3) := by decide +kernel
theorem dX9_used_20 : decode cX9_used 20 = .ok (.iload_n 1, 1) := by decide +kernel
theorem dX9_used_21 : decode cX9_used 21 = .ok (.iaload, 1) := by decide +kernel
theorem dX9_used_22 : decode cX9_used 22 = .ok (.ireturn, 1) := by decide +kernel
theorem dX9_notesOn_0 : decode cX9_notesOn 0 = .ok (.aload_n 0, 1) := by decide +kernel
theorem dX9_notesOn_1 : decode cX9_notesOn 1 = .ok (.invokevirtual 234, 3) := by decide +kernel
theorem dX9_notesOn_4 : decode cX9_notesOn 4 = .ok (.aload_n 0, 1) := by decide +kernel
theorem dX9_notesOn_5 : decode cX9_notesOn 5 = .ok (.invokevirtual 327, 3) := by decide +kernel
theorem dX9_notesOn_8 : decode cX9_notesOn 8 = .ok (.aload_n 0, 1) := by decide +kernel
theorem dX9_notesOn_9 : decode cX9_notesOn 9 = .ok (.iload_n 1, 1) := by decide +kernel
theorem dX9_notesOn_10 : decode cX9_notesOn 10 = .ok (.invokevirtual 362, 3) := by decide +kernel
theorem dX9_notesOn_13 : decode cX9_notesOn 13 = .ok (.aload_n 0, 1) := by decide +kernel
theorem dX9_notesOn_14 : decode cX9_notesOn 14 = .ok (.getfield 42, 3) := by decide +kernel
theorem dX9_notesOn_17 : decode cX9_notesOn 17 = .ok (.getfield 368, 3) := by decide +kernel
theorem dX9_notesOn_20 : decode cX9_notesOn 20 = .ok (.iload_n 1, 1) := by decide +kernel
theorem dX9_notesOn_21 : decode cX9_notesOn 21 = .ok (.iaload, 1) := by decide +kernel
theorem dX9_notesOn_22 : decode cX9_notesOn 22 = .ok (.ireturn, 1) := by decide +kernel
theorem dX9_carried_0 : decode cX9_carried 0 = .ok (.aload_n 0, 1) := by decide +kernel
theorem dX9_carried_1 : decode cX9_carried 1 = .ok (.iload_n 2, 1) := by decide +kernel
theorem dX9_carried_2 : decode cX9_carried 2 = .ok (.invokevirtual 118, 3) := by decide +kernel
theorem dX9_carried_5 : decode cX9_carried 5 = .ok (.aload_n 0, 1) := by decide +kernel
theorem dX9_carried_6 : decode cX9_carried 6 = .ok (.invokevirtual 234, 3) := by decide +kernel
theorem dX9_carried_9 : decode cX9_carried 9 = .ok (.aload_n 0, 1) := by decide +kernel
theorem dX9_carried_10 : decode cX9_carried 10 = .ok (.invokevirtual 327, 3) := by decide +kernel
theorem dX9_carried_13 : decode cX9_carried 13 = .ok (.aload_n 0, 1) := by decide +kernel
theorem dX9_carried_14 : decode cX9_carried 14 = .ok (.iload_n 1, 1) := by decide +kernel
theorem dX9_carried_15 : decode cX9_carried 15 = .ok (.invokevirtual 362, 3) := by decide +kernel
theorem dX9_carried_18 : decode cX9_carried 18 = .ok (.aload_n 0, 1) := by decide +kernel
theorem dX9_carried_19 : decode cX9_carried 19 = .ok (.getfield 42, 3) := by decide +kernel
theorem dX9_carried_22 : decode cX9_carried 22 = .ok (.iload_n 1, 1) := by decide +kernel
theorem dX9_carried_23 : decode cX9_carried 23 = .ok (.iload_n 2, 1) := by decide +kernel
theorem dX9_carried_24 : decode cX9_carried 24 = .ok (.invokevirtual 396, 3) := by decide +kernel
theorem dX9_carried_27 : decode cX9_carried 27 = .ok (.ireturn, 1) := by decide +kernel
theorem dX9_carriedByCells_0 : decode cX9_carriedByCells 0 = .ok (.aload_n 0, 1) := by decide +kernel
theorem dX9_carriedByCells_1 : decode cX9_carriedByCells 1 = .ok (.iload_n 2, 1) := by decide +kernel
theorem dX9_carriedByCells_2 : decode cX9_carriedByCells 2 = .ok (.invokevirtual 118, 3) := by decide +kernel
theorem dX9_carriedByCells_5 : decode cX9_carriedByCells 5 = .ok (.aload_n 0, 1) := by decide +kernel
theorem dX9_carriedByCells_6 : decode cX9_carriedByCells 6 = .ok (.invokevirtual 234, 3) := by decide +kernel
theorem dX9_carriedByCells_9 : decode cX9_carriedByCells 9 = .ok (.aload_n 0, 1) := by decide +kernel
theorem dX9_carriedByCells_10 : decode cX9_carriedByCells 10 = .ok (.invokevirtual 327, 3) := by decide +kernel
theorem dX9_carriedByCells_13 : decode cX9_carriedByCells 13 = .ok (.aload_n 0, 1) := by decide +kernel
theorem dX9_carriedByCells_14 : decode cX9_carriedByCells 14 = .ok (.iload_n 1, 1) := by decide +kernel
theorem dX9_carriedByCells_15 : decode cX9_carriedByCells 15 = .ok (.invokevirtual 362, 3) := by decide +kernel
theorem dX9_carriedByCells_18 : decode cX9_carriedByCells 18 = .ok (.iconst 0, 1) := by decide +kernel
theorem dX9_carriedByCells_19 : decode cX9_carriedByCells 19 = .ok (.istore_n 3, 1) := by decide +kernel
theorem dX9_carriedByCells_20 : decode cX9_carriedByCells 20 = .ok (.iconst 0, 1) := by decide +kernel
theorem dX9_carriedByCells_21 : decode cX9_carriedByCells 21 = .ok (.istore 4, 2) := by decide +kernel
theorem dX9_carriedByCells_23 : decode cX9_carriedByCells 23 = .ok (.iload 4, 2) := by decide +kernel
theorem dX9_carriedByCells_25 : decode cX9_carriedByCells 25 = .ok (.aload_n 0, 1) := by decide +kernel
theorem dX9_carriedByCells_26 : decode cX9_carriedByCells 26 = .ok (.getfield 12, 3) := by decide +kernel
theorem dX9_carriedByCells_29 : decode cX9_carriedByCells 29 = .ok (.getfield 129, 3) := by decide +kernel
theorem dX9_carriedByCells_32 : decode cX9_carriedByCells 32 = .ok (.invokevirtual 80, 3) := by decide +kernel
theorem dX9_carriedByCells_35 : decode cX9_carriedByCells 35 = .ok (.if_icmp .ge 95, 3) := by decide +kernel
theorem dX9_carriedByCells_38 : decode cX9_carriedByCells 38 = .ok (.aload_n 0, 1) := by decide +kernel
theorem dX9_carriedByCells_39 : decode cX9_carriedByCells 39 = .ok (.getfield 12, 3) := by decide +kernel
theorem dX9_carriedByCells_42 : decode cX9_carriedByCells 42 = .ok (.getfield 129, 3) := by decide +kernel
theorem dX9_carriedByCells_45 : decode cX9_carriedByCells 45 = .ok (.iload 4, 2) := by decide +kernel
theorem dX9_carriedByCells_47 : decode cX9_carriedByCells 47 = .ok (.invokevirtual 123, 3) := by decide +kernel
theorem dX9_carriedByCells_50 : decode cX9_carriedByCells 50 = .ok (.checkcast 138, 3) := by decide +kernel
theorem dX9_carriedByCells_53 : decode cX9_carriedByCells 53 = .ok (.astore 5, 2) := by decide +kernel
theorem dX9_carriedByCells_55 : decode cX9_carriedByCells 55 = .ok (.aload 5, 2) := by decide +kernel
theorem dX9_carriedByCells_57 : decode cX9_carriedByCells 57 = .ok (.invokevirtual 256, 3) := by decide +kernel
theorem dX9_carriedByCells_60 : decode cX9_carriedByCells 60 = .ok (.ifCond .eq 28, 3) := by decide +kernel
theorem dX9_carriedByCells_63 : decode cX9_carriedByCells 63 = .ok (.aload 5, 2) := by decide +kernel
theorem dX9_carriedByCells_65 : decode cX9_carriedByCells 65 = .ok (.getfield 261, 3) := by decide +kernel
theorem dX9_carriedByCells_68 : decode cX9_carriedByCells 68 = .ok (.iload_n 2, 1) := by decide +kernel
theorem dX9_carriedByCells_69 : decode cX9_carriedByCells 69 = .ok (.if_icmp .ne 19, 3) := by decide +kernel
theorem dX9_carriedByCells_72 : decode cX9_carriedByCells 72 = .ok (.aload 5, 2) := by decide +kernel
theorem dX9_carriedByCells_74 : decode cX9_carriedByCells 74 = .ok (.getfield 186, 3) := by decide +kernel
theorem dX9_carriedByCells_77 : decode cX9_carriedByCells 77 = .ok (.getfield 190, 3) := by decide +kernel
theorem dX9_carriedByCells_80 : decode cX9_carriedByCells 80 = .ok (.iconst 1, 1) := by decide +kernel
theorem dX9_carriedByCells_81 : decode cX9_carriedByCells 81 = .ok (.if_icmp .ne 7, 3) := by decide +kernel
theorem dX9_carriedByCells_84 : decode cX9_carriedByCells 84 = .ok (.iconst 1, 1) := by decide +kernel
theorem dX9_carriedByCells_85 : decode cX9_carriedByCells 85 = .ok (.goto 4, 3) := by decide +kernel
theorem dX9_carriedByCells_88 : decode cX9_carriedByCells 88 = .ok (.iconst 0, 1) := by decide +kernel
theorem dX9_carriedByCells_89 : decode cX9_carriedByCells 89 = .ok (.istore 6, 2) := by decide +kernel
theorem dX9_carriedByCells_91 : decode cX9_carriedByCells 91 = .ok (.iload 6, 2) := by decide +kernel
theorem dX9_carriedByCells_93 : decode cX9_carriedByCells 93 = .ok (.ifCond .eq 31, 3) := by decide +kernel
theorem dX9_carriedByCells_96 : decode cX9_carriedByCells 96 = .ok (.aload_n 0, 1) := by decide +kernel
theorem dX9_carriedByCells_97 : decode cX9_carriedByCells 97 = .ok (.getfield 42, 3) := by decide +kernel
theorem dX9_carriedByCells_100 : decode cX9_carriedByCells 100 = .ok (.getfield 338, 3) := by decide +kernel
theorem dX9_carriedByCells_103 : decode cX9_carriedByCells 103 = .ok (.aload 5, 2) := by decide +kernel
theorem dX9_carriedByCells_105 : decode cX9_carriedByCells 105 = .ok (.getfield 186, 3) := by decide +kernel
theorem dX9_carriedByCells_108 : decode cX9_carriedByCells 108 = .ok (.getfield 399, 3) := by decide +kernel
theorem dX9_carriedByCells_111 : decode cX9_carriedByCells 111 = .ok (.iaload, 1) := by decide +kernel
theorem dX9_carriedByCells_112 : decode cX9_carriedByCells 112 = .ok (.iload_n 1, 1) := by decide +kernel
theorem dX9_carriedByCells_113 : decode cX9_carriedByCells 113 = .ok (.if_icmp .gt 11, 3) := by decide +kernel
theorem dX9_carriedByCells_116 : decode cX9_carriedByCells 116 = .ok (.iload_n 3, 1) := by decide +kernel
theorem dX9_carriedByCells_117 : decode cX9_carriedByCells 117 = .ok (.aload 5, 2) := by decide +kernel
theorem dX9_carriedByCells_119 : decode cX9_carriedByCells 119 = .ok (.getfield 178, 3) := by decide +kernel
theorem dX9_carriedByCells_122 : decode cX9_carriedByCells 122 = .ok (.iadd, 1) := by decide +kernel
theorem dX9_carriedByCells_123 : decode cX9_carriedByCells 123 = .ok (.istore_n 3, 1) := by decide +kernel
theorem dX9_carriedByCells_124 : decode cX9_carriedByCells 124 = .ok (.iinc 4 1, 3) := by decide +kernel
theorem dX9_carriedByCells_127 : decode cX9_carriedByCells 127 = .ok (.goto (-104), 3) := by decide +kernel
theorem dX9_carriedByCells_130 : decode cX9_carriedByCells 130 = .ok (.iload_n 3, 1) := by decide +kernel
theorem dX9_carriedByCells_131 : decode cX9_carriedByCells 131 = .ok (.ireturn, 1) := by decide +kernel
section
variable {p : Program} {l : Launch} {e : Env} {s : State} {m : MethodId} {args : Array Value} {below : List Frame} {meth : Method} {c : Code} {G : Gx} {e0 : Nat} {α : Ax} {κ : Nat → Int} {B : Nat}
def wp_X9_pageOf (p1 : Int) (M : Mem) (Xm : String → Mem → Prop) (Qm : Int → Mem → Prop) : Prop := wp_X9_requireRow p1 M Xm fun (M1 : Mem) => wp_X3_isBodyRow p1 M1 fun (x3 : Int) (M2 : Mem) => ((¬ x3 = 0 → wp_X9_refresh M2 fun (M5 : Mem) => wp_X9_requireSheets M5 Xm fun (M6 : Mem) => (0 ≤ p1 ∧ p1 < 29) ∧ Qm (M6 45 0 p1) M6) ∧ (x3 = 0 → Xm xIAE M2))
set_option maxHeartbeats 4000000 in
set_option maxRecDepth 100000 in
theorem t_X9_pageOf {p1 : Int} (X : CX p m c cX9_pageOf 2 s args RX9 G B κ meth (some .int)) (T : XT l c) (hp1 : inR p1) {M : Mem} {Xm : String → Mem → Prop} {Qm : Int → Mem → Prop} (hw : wp_X9_pageOf p1 M Xm Qm) (H : Heap) (locs : List Loc) (hR : Rp G e0 α κ B M H) (hS : va_S (fun q => B ≤ q) s.heap H locs) (ls : Array Slot) (hl : lv_has ls 2 [(0, .ref (α 10 0)), (1, .int (Int32.ofInt p1))]) : WXI p l e 8 2 12 s m args below meth c G e0 α κ B Qm Xm H locs 0 0 0 ls [] := by
  have hw : wp_X9_requireRow p1 M Xm fun (M1 : Mem) => wp_X3_isBodyRow p1 M1 fun (x3 : Int) (M2 : Mem) => ((¬ x3 = 0 → wp_X9_refresh M2 fun (M5 : Mem) => wp_X9_requireSheets M5 Xm fun (M6 : Mem) => (0 ≤ p1 ∧ p1 < 29) ∧ Qm (M6 45 0 p1) M6) ∧ (x3 = 0 → Xm xIAE M2)) := hw
  refine lv_aload_n X.1.1 X.1.2.1 dX9_pageOf_0 rfl (lv_at hl 0 rfl) ?_
  refine lv_iload_n X.1.1 X.1.2.1 dX9_pageOf_1 rfl (lv_at hl 1 rfl) ?_
  refine cx_X9_requireRow X T hp1 (by decide) ⟨by decide, by decide⟩ hR hS kw_996 hl.1 dX9_pageOf_2 (Nat.le_of_ble_eq_true rfl) hw (fun M1 H locs hw hR hS => ?_)
  refine W.widen (k := 1) (n := 6) (by decide) (by decide) ?_
  refine lv_aload_n X.1.1 X.1.2.1 dX9_pageOf_5 rfl (lv_at hl 0 rfl) ?_
  refine gt_10_0 X hR (okf X.2.2.1 rfl) kw_384 dX9_pageOf_6 ?_
  refine lv_iload_n X.1.1 X.1.2.1 dX9_pageOf_9 rfl (lv_at hl 1 rfl) ?_
  refine cs_X3_isBodyRow X hp1 (kc := 8) rmX_ok ⟨by decide, by decide⟩ (by decide) hR hS kw_1436 hl.1 dX9_pageOf_10 (Nat.le_of_ble_eq_true rfl) hw (fun x3 M2 H locs hw r4 hR hS => ?_)
  refine sa_if_ne (tgt := 27) X.1 r4 dX9_pageOf_13 (by decide) (fun hc => ?_) (fun hc => ?_)
  · have hw := hw.1 hc
    refine lv_aload_n X.1.1 X.1.2.1 dX9_pageOf_27 rfl (lv_at hl 0 rfl) ?_
    refine cs_X9_refresh X  (kc := 8) rmX_ok ⟨by decide, by decide⟩ (by decide) hR hS kw_426 hl.1 dX9_pageOf_28 (Nat.le_of_ble_eq_true rfl) hw (fun M5 H locs hw hR hS => ?_)
    refine lv_aload_n X.1.1 X.1.2.1 dX9_pageOf_31 rfl (lv_at hl 0 rfl) ?_
    refine cx_X9_requireSheets X T  (by decide) ⟨by decide, by decide⟩ hR hS kw_1424 hl.1 dX9_pageOf_32 (Nat.le_of_ble_eq_true rfl) hw (fun M6 H locs hw hR hS => ?_)
    refine W.widen (k := 2) (n := 12) (by decide) (by decide) ?_
    refine lv_aload_n X.1.1 X.1.2.1 dX9_pageOf_35 rfl (lv_at hl 0 rfl) ?_
    refine gt_10_5 X hR (okf X.2.2.1 rfl) kw_389 dX9_pageOf_36 ?_
    refine gt_7_11 X hR (okp X.2.2.1 rfl (by decide)) kw_309 dX9_pageOf_39 ?_
    refine lv_iload_n X.1.1 X.1.2.1 dX9_pageOf_42 rfl (lv_at hl 1 rfl) ?_
    have c7 := hw.1
    have hw := hw.2
    refine ra_45 X hR (okp X.2.2.1 rfl (pr_7 X.2.2.1 (okp X.2.2.1 rfl (by decide)))) c7 dX9_pageOf_43 ?_
    have r8 := hR.r 45 0 p1
    exact sx_iret X hR hS r8 hw dX9_pageOf_44 (by decide) (by decide)
  · have hw := hw.2 hc
    exact sx_throwW (text := "it is no body row") X T xw_IAE (by decide +kernel) hR hS hl.1 dX9_pageOf_16 dX9_pageOf_19 dX9_pageOf_20 dX9_pageOf_23 dX9_pageOf_26 (by decide) (by decide) (by decide) hw
theorem m_X9_pageOf {l : Launch} {G : Gx} {e0 : Nat} {α : Ax} {κ : Nat → Int} {B : Nat} {p1 : Int} (hlt : l.stackTraces = false) (hκ : kOK κ) (hp1 : inR p1) {M : Mem} {Qm : Int → Mem → Prop} {Xm : String → Mem → Prop} (hw : wp_X9_pageOf p1 M Xm Qm) : XI l yX9_pageOf (Cond.code yX9_pageOf cX9_pageOf 2 (some .int)) 8 2 12 G e0 α κ B [.ref (α 10 0), .int (Int32.ofInt p1)] M Qm Xm :=
  XI.mk hlt hκ (by decide +kernel) rfl (Nat.le_of_ble_eq_true rfl) (lv := [(0, .ref (α 10 0)), (1, .int (Int32.ofInt p1))]) rfl (fun p e s m args below meth c ls X T hR hS hl => t_X9_pageOf X T hp1 hw _ _ hR hS ls hl)
theorem cx_X9_pageOf {cc : ByteArray} {nL : Nat} {own : String} {ret : Option FieldType} {idx pc : Nat} {p1 : Int} (X : CX p m c cc nL s args own G B κ meth ret) (T : XT l c) (hp1 : inR p1) {k mc ms cells slots : Nat} (hk : 8 + 1 ≤ k) (hcel : cells + 2 ≤ mc ∧ slots + 12 ≤ ms) {M : Mem} {H : Heap} {locs : List Loc} (hR : Rp G e0 α κ B M H) (hS : va_S (fun q => B ≤ q) s.heap H locs) (k1 : Cond.methodLink own idx yX9_pageOf ∈ gw) {ls : Array Slot} (hml : ls.size = nL) {rest : List Value} (hd : decode cc pc = .ok (.invokevirtual idx, 3)) (hrest : (rest.map fun v => v.category).sum ≤ 8) {Qc : Array Value → State → Outcome → State → Prop} {Qm : Int → Mem → Prop} {Xm : String → Mem → Prop} (hw : wp_X9_pageOf p1 M Xm Qm) (kk : ∀ (r : Int) (M1 : Mem) (H1 : Heap) (locs1 : List Loc), Qm r M1 → inR r → Rp G e0 α κ B M1 H1 → va_S (fun q => B ≤ q) s.heap H1 locs1 → W p l e (rmX k mc ms) s m args below meth c H1 locs1 (cells + 2) (slots + 12) (vx_MQ below Qc (XQ G e0 α κ B Xm) args s mc ms (fun q => B ≤ q)) (F0 m (pc + 3) ls (.int (Int32.ofInt r) :: rest))) : W p l e (rmX k mc ms) s m args below meth c H locs cells slots (vx_MQ below Qc (XQ G e0 α κ B Xm) args s mc ms (fun q => B ≤ q)) (F0 m pc ls (.int (Int32.ofInt p1) :: .ref (α 10 0) :: rest)) :=
  sx_callVI 8 (n := 1) (As := [.int (Int32.ofInt p1)]) (rest := rest) X T hR hS (m_X9_pageOf T.1 X.2.2.1 hp1 hw) k1 kw_1433 kw_1434 kw_94 kw_1435 ⟨rfl, by decide +kernel, by decide +kernel, by decide +kernel⟩ (rm_ok rmX_ok hk (by decide)) (rc_10 X hR (okf X.2.2.1 rfl)) rfl rfl hrest hml hd hcel kk
def wp_X9_linesOn_20 (p1 : Int) (p2 : Int) (Xm : String → Mem → Prop) (Qm : Int → Mem → Prop) (M : Mem) : Prop := Xm xIAE M
def wp_X9_linesOn (p1 : Int) (p2 : Int) (M : Mem) (Xm : String → Mem → Prop) (Qm : Int → Mem → Prop) : Prop := wp_X9_requireRow p1 M Xm fun (M1 : Mem) => wp_X3_isBodyRow p1 M1 fun (x3 : Int) (M2 : Mem) => ((x3 = 0 → wp_X9_linesOn_20 p1 p2 Xm Qm M2) ∧ (¬ x3 = 0 → ((0 ≤ p2 → wp_X9_refresh M2 fun (M5 : Mem) => wp_X9_requireSheets M5 Xm fun (M6 : Mem) => wp_X6_pieceBeginOf 0 p2 M6 fun (x8 : Int) (M7 : Mem) => wp_X6_pieceEndOf 0 p2 M7 fun (x11 : Int) (M10 : Mem) => wp_X6_linesOfItem 0 p1 x8 x11 M10 fun (x14 : Int) (M13 : Mem) => Qm x14 M13) ∧ (p2 < 0 → wp_X9_linesOn_20 p1 p2 Xm Qm M2))))
set_option maxHeartbeats 4000000 in
set_option maxRecDepth 100000 in
theorem t_X9_linesOn_20 {p1 : Int} {p2 : Int} (X : CX p m c cX9_linesOn 3 s args RX9 G B κ meth (some .int)) (T : XT l c) (hp1 : inR p1) (hp2 : inR p2) {Xm : String → Mem → Prop} {Qm : Int → Mem → Prop} : ∀ M : Mem, wp_X9_linesOn_20 p1 p2 Xm Qm M → ∀ (H : Heap) (locs : List Loc), Rp G e0 α κ B M H → va_S (fun q => B ≤ q) s.heap H locs → ∀ (ls : Array Slot), lv_has ls 3 [] → WXI p l e 8 2 12 s m args below meth c G e0 α κ B Qm Xm H locs 1 6 20 ls [] := by
  intro M hw H locs hR hS ls hl
  have hw : Xm xIAE M := hw
  exact sx_throwW (text := "it is no body row, or page is below 0") X T xw_IAE (by decide +kernel) hR hS hl.1 dX9_linesOn_20 dX9_linesOn_23 dX9_linesOn_24 dX9_linesOn_27 dX9_linesOn_30 (by decide) (by decide) (by decide) hw
set_option maxHeartbeats 4000000 in
set_option maxRecDepth 100000 in
theorem t_X9_linesOn {p1 : Int} {p2 : Int} (X : CX p m c cX9_linesOn 3 s args RX9 G B κ meth (some .int)) (T : XT l c) (hp1 : inR p1) (hp2 : inR p2) {M : Mem} {Xm : String → Mem → Prop} {Qm : Int → Mem → Prop} (hw : wp_X9_linesOn p1 p2 M Xm Qm) (H : Heap) (locs : List Loc) (hR : Rp G e0 α κ B M H) (hS : va_S (fun q => B ≤ q) s.heap H locs) (ls : Array Slot) (hl : lv_has ls 3 [(0, .ref (α 10 0)), (1, .int (Int32.ofInt p1)), (2, .int (Int32.ofInt p2))]) : WXI p l e 8 2 12 s m args below meth c G e0 α κ B Qm Xm H locs 0 0 0 ls [] := by
  have hw : wp_X9_requireRow p1 M Xm fun (M1 : Mem) => wp_X3_isBodyRow p1 M1 fun (x3 : Int) (M2 : Mem) => ((x3 = 0 → wp_X9_linesOn_20 p1 p2 Xm Qm M2) ∧ (¬ x3 = 0 → ((0 ≤ p2 → wp_X9_refresh M2 fun (M5 : Mem) => wp_X9_requireSheets M5 Xm fun (M6 : Mem) => wp_X6_pieceBeginOf 0 p2 M6 fun (x8 : Int) (M7 : Mem) => wp_X6_pieceEndOf 0 p2 M7 fun (x11 : Int) (M10 : Mem) => wp_X6_linesOfItem 0 p1 x8 x11 M10 fun (x14 : Int) (M13 : Mem) => Qm x14 M13) ∧ (p2 < 0 → wp_X9_linesOn_20 p1 p2 Xm Qm M2)))) := hw
  refine lv_aload_n X.1.1 X.1.2.1 dX9_linesOn_0 rfl (lv_at hl 0 rfl) ?_
  refine lv_iload_n X.1.1 X.1.2.1 dX9_linesOn_1 rfl (lv_at hl 1 rfl) ?_
  refine cx_X9_requireRow X T hp1 (by decide) ⟨by decide, by decide⟩ hR hS kw_996 hl.1 dX9_linesOn_2 (Nat.le_of_ble_eq_true rfl) hw (fun M1 H locs hw hR hS => ?_)
  refine W.widen (k := 1) (n := 6) (by decide) (by decide) ?_
  refine lv_aload_n X.1.1 X.1.2.1 dX9_linesOn_5 rfl (lv_at hl 0 rfl) ?_
  refine gt_10_0 X hR (okf X.2.2.1 rfl) kw_384 dX9_linesOn_6 ?_
  refine lv_iload_n X.1.1 X.1.2.1 dX9_linesOn_9 rfl (lv_at hl 1 rfl) ?_
  refine cs_X3_isBodyRow X hp1 (kc := 8) rmX_ok ⟨by decide, by decide⟩ (by decide) hR hS kw_1436 hl.1 dX9_linesOn_10 (Nat.le_of_ble_eq_true rfl) hw (fun x3 M2 H locs hw r4 hR hS => ?_)
  refine sa_if_eq (tgt := 20) X.1 r4 dX9_linesOn_13 (by decide) (fun hc => ?_) (fun hc => ?_)
  · have hw := hw.1 hc
    exact t_X9_linesOn_20 X T hp1 hp2 _ hw _ _ hR hS _ (lv_sub hl [] rfl)
  · have hw := hw.2 hc
    refine lv_iload_n X.1.1 X.1.2.1 dX9_linesOn_16 rfl (lv_at hl 2 rfl) ?_
    refine sa_if_ge (tgt := 31) X.1 hp2 dX9_linesOn_17 (by decide) (fun hc => ?_) (fun hc => ?_)
    · have hw := hw.1 hc
      refine lv_aload_n X.1.1 X.1.2.1 dX9_linesOn_31 rfl (lv_at hl 0 rfl) ?_
      refine cs_X9_refresh X  (kc := 8) rmX_ok ⟨by decide, by decide⟩ (by decide) hR hS kw_426 hl.1 dX9_linesOn_32 (Nat.le_of_ble_eq_true rfl) hw (fun M5 H locs hw hR hS => ?_)
      refine lv_aload_n X.1.1 X.1.2.1 dX9_linesOn_35 rfl (lv_at hl 0 rfl) ?_
      refine cx_X9_requireSheets X T  (by decide) ⟨by decide, by decide⟩ hR hS kw_1424 hl.1 dX9_linesOn_36 (Nat.le_of_ble_eq_true rfl) hw (fun M6 H locs hw hR hS => ?_)
      refine W.widen (k := 2) (n := 12) (by decide) (by decide) ?_
      refine lv_aload_n X.1.1 X.1.2.1 dX9_linesOn_39 rfl (lv_at hl 0 rfl) ?_
      refine gt_10_5 X hR (okf X.2.2.1 rfl) kw_389 dX9_linesOn_40 ?_
      refine lv_iload_n X.1.1 X.1.2.1 dX9_linesOn_43 rfl (lv_at hl 1 rfl) ?_
      refine lv_aload_n X.1.1 X.1.2.1 dX9_linesOn_44 rfl (lv_at hl 0 rfl) ?_
      refine gt_10_5 X hR (okf X.2.2.1 rfl) kw_389 dX9_linesOn_45 ?_
      refine lv_iload_n X.1.1 X.1.2.1 dX9_linesOn_48 rfl (lv_at hl 2 rfl) ?_
      refine cs_X6_pieceBeginOf X (okp X.2.2.1 rfl (by decide)) hp2 (kc := 8) rmX_ok ⟨by decide, by decide⟩ (by decide) hR hS kw_1446 hl.1 dX9_linesOn_49 (Nat.le_of_ble_eq_true rfl) hw (fun x8 M7 H locs hw r9 hR hS => ?_)
      refine lv_aload_n X.1.1 X.1.2.1 dX9_linesOn_52 rfl (lv_at hl 0 rfl) ?_
      refine gt_10_5 X hR (okf X.2.2.1 rfl) kw_389 dX9_linesOn_53 ?_
      refine lv_iload_n X.1.1 X.1.2.1 dX9_linesOn_56 rfl (lv_at hl 2 rfl) ?_
      refine cs_X6_pieceEndOf X (okp X.2.2.1 rfl (by decide)) hp2 (kc := 8) rmX_ok ⟨by decide, by decide⟩ (by decide) hR hS kw_1447 hl.1 dX9_linesOn_57 (Nat.le_of_ble_eq_true rfl) hw (fun x11 M10 H locs hw r12 hR hS => ?_)
      refine cs_X6_linesOfItem X (okp X.2.2.1 rfl (by decide)) hp1 r9 r12 (kc := 8) rmX_ok ⟨by decide, by decide⟩ (by decide) hR hS kw_1448 hl.1 dX9_linesOn_60 (Nat.le_of_ble_eq_true rfl) hw (fun x14 M13 H locs hw r15 hR hS => ?_)
      exact sx_iret X hR hS r15 hw dX9_linesOn_63 (by decide) (by decide)
    · have hw := hw.2 hc
      exact t_X9_linesOn_20 X T hp1 hp2 _ hw _ _ hR hS _ (lv_sub hl [] rfl)
theorem m_X9_linesOn {l : Launch} {G : Gx} {e0 : Nat} {α : Ax} {κ : Nat → Int} {B : Nat} {p1 : Int} {p2 : Int} (hlt : l.stackTraces = false) (hκ : kOK κ) (hp1 : inR p1) (hp2 : inR p2) {M : Mem} {Qm : Int → Mem → Prop} {Xm : String → Mem → Prop} (hw : wp_X9_linesOn p1 p2 M Xm Qm) : XI l yX9_linesOn (Cond.code yX9_linesOn cX9_linesOn 3 (some .int)) 8 2 12 G e0 α κ B [.ref (α 10 0), .int (Int32.ofInt p1), .int (Int32.ofInt p2)] M Qm Xm :=
  XI.mk hlt hκ (by decide +kernel) rfl (Nat.le_of_ble_eq_true rfl) (lv := [(0, .ref (α 10 0)), (1, .int (Int32.ofInt p1)), (2, .int (Int32.ofInt p2))]) rfl (fun p e s m args below meth c ls X T hR hS hl => t_X9_linesOn X T hp1 hp2 hw _ _ hR hS ls hl)
theorem cx_X9_linesOn {cc : ByteArray} {nL : Nat} {own : String} {ret : Option FieldType} {idx pc : Nat} {p1 : Int} {p2 : Int} (X : CX p m c cc nL s args own G B κ meth ret) (T : XT l c) (hp1 : inR p1) (hp2 : inR p2) {k mc ms cells slots : Nat} (hk : 8 + 1 ≤ k) (hcel : cells + 2 ≤ mc ∧ slots + 12 ≤ ms) {M : Mem} {H : Heap} {locs : List Loc} (hR : Rp G e0 α κ B M H) (hS : va_S (fun q => B ≤ q) s.heap H locs) (k1 : Cond.methodLink own idx yX9_linesOn ∈ gw) {ls : Array Slot} (hml : ls.size = nL) {rest : List Value} (hd : decode cc pc = .ok (.invokevirtual idx, 3)) (hrest : (rest.map fun v => v.category).sum ≤ 8) {Qc : Array Value → State → Outcome → State → Prop} {Qm : Int → Mem → Prop} {Xm : String → Mem → Prop} (hw : wp_X9_linesOn p1 p2 M Xm Qm) (kk : ∀ (r : Int) (M1 : Mem) (H1 : Heap) (locs1 : List Loc), Qm r M1 → inR r → Rp G e0 α κ B M1 H1 → va_S (fun q => B ≤ q) s.heap H1 locs1 → W p l e (rmX k mc ms) s m args below meth c H1 locs1 (cells + 2) (slots + 12) (vx_MQ below Qc (XQ G e0 α κ B Xm) args s mc ms (fun q => B ≤ q)) (F0 m (pc + 3) ls (.int (Int32.ofInt r) :: rest))) : W p l e (rmX k mc ms) s m args below meth c H locs cells slots (vx_MQ below Qc (XQ G e0 α κ B Xm) args s mc ms (fun q => B ≤ q)) (F0 m pc ls (.int (Int32.ofInt p2) :: .int (Int32.ofInt p1) :: .ref (α 10 0) :: rest)) :=
  sx_callVI 8 (n := 2) (As := [.int (Int32.ofInt p1), .int (Int32.ofInt p2)]) (rest := rest) X T hR hS (m_X9_linesOn T.1 X.2.2.1 hp1 hp2 hw) k1 kw_1442 kw_1443 kw_94 kw_1444 ⟨rfl, by decide +kernel, by decide +kernel, by decide +kernel⟩ (rm_ok rmX_ok hk (by decide)) (rc_10 X hR (okf X.2.2.1 rfl)) rfl rfl hrest hml hd hcel kk
def wp_X9_shown_35 (p1 : Int) (p2 : Int) (Xm : String → Mem → Prop) (Qm : Int → Mem → Prop) (M : Mem) : Prop := Xm xIAE M
def wp_X9_shown (p1 : Int) (p2 : Int) (M : Mem) (Xm : String → Mem → Prop) (Qm : Int → Mem → Prop) : Prop := wp_X9_requireCell p1 M Xm fun (M1 : Mem) => (0 ≤ p1 ∧ p1 < M1 14 0 (-1)) ∧ ((¬ (M1 6 (M1 1 (M1 14 0 p1) 0) 1) = 1 → wp_X9_shown_35 p1 p2 Xm Qm M1) ∧ ((M1 6 (M1 1 (M1 14 0 p1) 0) 1) = 1 → ((0 ≤ p2 → wp_X9_refresh M1 fun (M6 : Mem) => wp_X9_requireSheets M6 Xm fun (M7 : Mem) => wp_X6_pieceBeginOf 0 p2 M7 fun (x9 : Int) (M8 : Mem) => wp_X9_linesOfRowsOf (M1 14 0 p1) 0 x9 M8 fun (x12 : Int) (M11 : Mem) => wp_X6_pieceEndOf 0 p2 M11 fun (x15 : Int) (M14 : Mem) => wp_X9_linesOfRowsOf (M1 14 0 p1) x9 x15 M14 fun (x18 : Int) (M17 : Mem) => (0 ≤ p1 ∧ p1 < 100) ∧ (inR ((M17 34 0 p1) - x12)) ∧ Qm (max 0 (min x18 ((M17 34 0 p1) - x12))) M17) ∧ (p2 < 0 → wp_X9_shown_35 p1 p2 Xm Qm M1))))
set_option maxHeartbeats 4000000 in
set_option maxRecDepth 100000 in
theorem t_X9_shown_35 {p1 : Int} {p2 : Int} (X : CX p m c cX9_shown 7 s args RX9 G B κ meth (some .int)) (T : XT l c) (hp1 : inR p1) (hp2 : inR p2) {Xm : String → Mem → Prop} {Qm : Int → Mem → Prop} : ∀ M : Mem, wp_X9_shown_35 p1 p2 Xm Qm M → ∀ (H : Heap) (locs : List Loc), Rp G e0 α κ B M H → va_S (fun q => B ≤ q) s.heap H locs → ∀ (ls : Array Slot), lv_has ls 7 [] → WXI p l e 8 2 12 s m args below meth c G e0 α κ B Qm Xm H locs 1 6 35 ls [] := by
  intro M hw H locs hR hS ls hl
  have hw : Xm xIAE M := hw
  exact sx_throwW (text := "it is no cell of the body, or page is below 0") X T xw_IAE (by decide +kernel) hR hS hl.1 dX9_shown_35 dX9_shown_38 dX9_shown_39 dX9_shown_42 dX9_shown_45 (by decide) (by decide) (by decide) hw
set_option maxHeartbeats 4000000 in
set_option maxRecDepth 100000 in
theorem t_X9_shown {p1 : Int} {p2 : Int} (X : CX p m c cX9_shown 7 s args RX9 G B κ meth (some .int)) (T : XT l c) (hp1 : inR p1) (hp2 : inR p2) {M : Mem} {Xm : String → Mem → Prop} {Qm : Int → Mem → Prop} (hw : wp_X9_shown p1 p2 M Xm Qm) (H : Heap) (locs : List Loc) (hR : Rp G e0 α κ B M H) (hS : va_S (fun q => B ≤ q) s.heap H locs) (ls : Array Slot) (hl : lv_has ls 7 [(0, .ref (α 10 0)), (1, .int (Int32.ofInt p1)), (2, .int (Int32.ofInt p2))]) : WXI p l e 8 2 12 s m args below meth c G e0 α κ B Qm Xm H locs 0 0 0 ls [] := by
  have hw : wp_X9_requireCell p1 M Xm fun (M1 : Mem) => (0 ≤ p1 ∧ p1 < M1 14 0 (-1)) ∧ ((¬ (M1 6 (M1 1 (M1 14 0 p1) 0) 1) = 1 → wp_X9_shown_35 p1 p2 Xm Qm M1) ∧ ((M1 6 (M1 1 (M1 14 0 p1) 0) 1) = 1 → ((0 ≤ p2 → wp_X9_refresh M1 fun (M6 : Mem) => wp_X9_requireSheets M6 Xm fun (M7 : Mem) => wp_X6_pieceBeginOf 0 p2 M7 fun (x9 : Int) (M8 : Mem) => wp_X9_linesOfRowsOf (M1 14 0 p1) 0 x9 M8 fun (x12 : Int) (M11 : Mem) => wp_X6_pieceEndOf 0 p2 M11 fun (x15 : Int) (M14 : Mem) => wp_X9_linesOfRowsOf (M1 14 0 p1) x9 x15 M14 fun (x18 : Int) (M17 : Mem) => (0 ≤ p1 ∧ p1 < 100) ∧ (inR ((M17 34 0 p1) - x12)) ∧ Qm (max 0 (min x18 ((M17 34 0 p1) - x12))) M17) ∧ (p2 < 0 → wp_X9_shown_35 p1 p2 Xm Qm M1)))) := hw
  refine lv_aload_n X.1.1 X.1.2.1 dX9_shown_0 rfl (lv_at hl 0 rfl) ?_
  refine lv_iload_n X.1.1 X.1.2.1 dX9_shown_1 rfl (lv_at hl 1 rfl) ?_
  refine cx_X9_requireCell X T hp1 (by decide) ⟨by decide, by decide⟩ hR hS kw_1121 hl.1 dX9_shown_2 (Nat.le_of_ble_eq_true rfl) hw (fun M1 H locs hw hR hS => ?_)
  refine W.widen (k := 1) (n := 6) (by decide) (by decide) ?_
  refine lv_aload_n X.1.1 X.1.2.1 dX9_shown_5 rfl (lv_at hl 0 rfl) ?_
  refine gt_10_0 X hR (okf X.2.2.1 rfl) kw_384 dX9_shown_6 ?_
  refine gt_4_2 X hR (okf X.2.2.1 rfl) kw_169 dX9_shown_9 ?_
  refine lv_iload_n X.1.1 X.1.2.1 dX9_shown_12 rfl (lv_at hl 1 rfl) ?_
  have c2 := hw.1
  have hw := hw.2
  refine ls_get (ci := 1) (by decide) (by decide) rfl X c2 (kc := 8) rmX_ok ⟨by decide, by decide⟩ (by decide) hR hS kw_1027 hl.1 dX9_shown_13 (Nat.le_of_ble_eq_true rfl) (fun H locs o3 hR hS => ?_)
  refine ck_1 X hR o3 kw_1034 dX9_shown_16 ?_
  refine lv_astore_n (lv' := [(3, .ref (α 1 (M1 14 0 p1))), (0, .ref (α 10 0)), (1, .int (Int32.ofInt p1)), (2, .int (Int32.ofInt p2))]) X.1.1 X.1.2.1 dX9_shown_19 rfl hl (by decide) rfl (fun ls hl => ?_)
  refine lv_aload_n X.1.1 X.1.2.1 dX9_shown_20 rfl (lv_at hl 0 rfl) ?_
  refine gt_1_0 X hR o3 kw_1043 dX9_shown_21 ?_
  have o4 := hR.2.2.2.1 _ o3
  refine gt_6_1 X hR o4 kw_961 dX9_shown_24 ?_
  have r5 := hR.r 6 (M1 1 (M1 14 0 p1) 0) 1
  refine sa_const X.1 dX9_shown_27 ?_
  refine sa_icmp_ne (tgt := 35) X.1 r5 (inR_c (a := 1) rfl) dX9_shown_28 (by decide) (fun hc => ?_) (fun hc => ?_)
  · have hw := hw.1 hc
    exact t_X9_shown_35 X T hp1 hp2 _ hw _ _ hR hS _ (lv_sub hl [] rfl)
  · have hw := hw.2 hc
    refine lv_iload_n X.1.1 X.1.2.1 dX9_shown_31 rfl (lv_at hl 3 rfl) ?_
    refine sa_if_ge (tgt := 46) X.1 hp2 dX9_shown_32 (by decide) (fun hc => ?_) (fun hc => ?_)
    · have hw := hw.1 hc
      refine lv_aload_n X.1.1 X.1.2.1 dX9_shown_46 rfl (lv_at hl 1 rfl) ?_
      refine cs_X9_refresh X  (kc := 8) rmX_ok ⟨by decide, by decide⟩ (by decide) hR hS kw_426 hl.1 dX9_shown_47 (Nat.le_of_ble_eq_true rfl) hw (fun M6 H locs hw hR hS => ?_)
      refine lv_aload_n X.1.1 X.1.2.1 dX9_shown_50 rfl (lv_at hl 1 rfl) ?_
      refine cx_X9_requireSheets X T  (by decide) ⟨by decide, by decide⟩ hR hS kw_1424 hl.1 dX9_shown_51 (Nat.le_of_ble_eq_true rfl) hw (fun M7 H locs hw hR hS => ?_)
      refine W.widen (k := 2) (n := 12) (by decide) (by decide) ?_
      refine lv_aload_n X.1.1 X.1.2.1 dX9_shown_54 rfl (lv_at hl 1 rfl) ?_
      refine gt_10_5 X hR (okf X.2.2.1 rfl) kw_389 dX9_shown_55 ?_
      refine lv_iload_n X.1.1 X.1.2.1 dX9_shown_58 rfl (lv_at hl 3 rfl) ?_
      refine cs_X6_pieceBeginOf X (okp X.2.2.1 rfl (by decide)) hp2 (kc := 8) rmX_ok ⟨by decide, by decide⟩ (by decide) hR hS kw_1446 hl.1 dX9_shown_59 (Nat.le_of_ble_eq_true rfl) hw (fun x9 M8 H locs hw r10 hR hS => ?_)
      refine lv_istore (lv' := [(4, .int (Int32.ofInt x9)), (3, .ref (α 1 (M1 14 0 p1))), (0, .ref (α 10 0)), (1, .int (Int32.ofInt p1)), (2, .int (Int32.ofInt p2))]) X.1.1 X.1.2.1 dX9_shown_62 hl (by decide) rfl (fun ls hl => ?_)
      refine lv_aload_n X.1.1 X.1.2.1 dX9_shown_64 rfl (lv_at hl 2 rfl) ?_
      refine lv_aload_n X.1.1 X.1.2.1 dX9_shown_65 rfl (lv_at hl 1 rfl) ?_
      refine sa_const X.1 dX9_shown_66 ?_
      refine lv_iload X.1.1 X.1.2.1 dX9_shown_67 (lv_at hl 0 rfl) ?_
      refine cs_X9_linesOfRowsOf X o3 (inR_c (a := 0) rfl) r10 (kc := 8) rmX_ok ⟨by decide, by decide⟩ (by decide) hR hS kw_1460 hl.1 dX9_shown_69 (Nat.le_of_ble_eq_true rfl) hw (fun x12 M11 H locs hw r13 hR hS => ?_)
      refine lv_istore (lv' := [(5, .int (Int32.ofInt x12)), (4, .int (Int32.ofInt x9)), (3, .ref (α 1 (M1 14 0 p1))), (0, .ref (α 10 0)), (1, .int (Int32.ofInt p1)), (2, .int (Int32.ofInt p2))]) X.1.1 X.1.2.1 dX9_shown_72 hl (by decide) rfl (fun ls hl => ?_)
      refine lv_aload_n X.1.1 X.1.2.1 dX9_shown_74 rfl (lv_at hl 3 rfl) ?_
      refine lv_aload_n X.1.1 X.1.2.1 dX9_shown_75 rfl (lv_at hl 2 rfl) ?_
      refine lv_iload X.1.1 X.1.2.1 dX9_shown_76 (lv_at hl 1 rfl) ?_
      refine lv_aload_n X.1.1 X.1.2.1 dX9_shown_78 rfl (lv_at hl 3 rfl) ?_
      refine gt_10_5 X hR (okf X.2.2.1 rfl) kw_389 dX9_shown_79 ?_
      refine lv_iload_n X.1.1 X.1.2.1 dX9_shown_82 rfl (lv_at hl 5 rfl) ?_
      refine cs_X6_pieceEndOf X (okp X.2.2.1 rfl (by decide)) hp2 (kc := 8) rmX_ok ⟨by decide, by decide⟩ (by decide) hR hS kw_1447 hl.1 dX9_shown_83 (Nat.le_of_ble_eq_true rfl) hw (fun x15 M14 H locs hw r16 hR hS => ?_)
      refine cs_X9_linesOfRowsOf X o3 r10 r16 (kc := 8) rmX_ok ⟨by decide, by decide⟩ (by decide) hR hS kw_1460 hl.1 dX9_shown_86 (Nat.le_of_ble_eq_true rfl) hw (fun x18 M17 H locs hw r19 hR hS => ?_)
      refine lv_istore (lv' := [(6, .int (Int32.ofInt x18)), (5, .int (Int32.ofInt x12)), (4, .int (Int32.ofInt x9)), (3, .ref (α 1 (M1 14 0 p1))), (0, .ref (α 10 0)), (1, .int (Int32.ofInt p1)), (2, .int (Int32.ofInt p2))]) X.1.1 X.1.2.1 dX9_shown_89 hl (by decide) rfl (fun ls hl => ?_)
      refine sa_const X.1 dX9_shown_91 ?_
      refine lv_iload X.1.1 X.1.2.1 dX9_shown_92 (lv_at hl 0 rfl) ?_
      refine lv_aload_n X.1.1 X.1.2.1 dX9_shown_94 rfl (lv_at hl 4 rfl) ?_
      refine gt_10_2 X hR (okf X.2.2.1 rfl) kw_386 dX9_shown_95 ?_
      refine gt_5_1 X hR (okp X.2.2.1 rfl (by decide)) kw_245 dX9_shown_98 ?_
      refine lv_iload_n X.1.1 X.1.2.1 dX9_shown_101 rfl (lv_at hl 5 rfl) ?_
      have c20 := hw.1
      have hw := hw.2
      refine ra_34 X hR (okp X.2.2.1 rfl (pr_5 X.2.2.1 (okp X.2.2.1 rfl (by decide)))) c20 dX9_shown_102 ?_
      have r21 := hR.r 34 0 p1
      refine lv_iload X.1.1 X.1.2.1 dX9_shown_103 (lv_at hl 1 rfl) ?_
      have c22 := hw.1
      have hw := hw.2
      refine sa_isub X.1 dX9_shown_105 ?_
      refine sa_min (R := rmX 8 2 12) X.1 r19 c22 kw_1464 hl.1 kmath_min_s kmath_i kmath_min_c (by decide) (Nat.le_of_ble_eq_true rfl) ⟨by decide, by decide⟩ dX9_shown_106 ?_
      refine sa_max (R := rmX 8 2 12) X.1 (inR_c (a := 0) rfl) (inR_min r19 c22) hl.1 kw_715 kmath_max_s kmath_i kmath_max_c (by decide) (Nat.le_of_ble_eq_true rfl) ⟨by decide, by decide⟩ dX9_shown_109 ?_
      exact sx_iret X hR hS (inR_max (inR_c (a := 0) rfl) (inR_min r19 c22)) hw dX9_shown_112 (by decide) (by decide)
    · have hw := hw.2 hc
      exact t_X9_shown_35 X T hp1 hp2 _ hw _ _ hR hS _ (lv_sub hl [] rfl)
theorem m_X9_shown {l : Launch} {G : Gx} {e0 : Nat} {α : Ax} {κ : Nat → Int} {B : Nat} {p1 : Int} {p2 : Int} (hlt : l.stackTraces = false) (hκ : kOK κ) (hp1 : inR p1) (hp2 : inR p2) {M : Mem} {Qm : Int → Mem → Prop} {Xm : String → Mem → Prop} (hw : wp_X9_shown p1 p2 M Xm Qm) : XI l yX9_shown (Cond.code yX9_shown cX9_shown 7 (some .int)) 8 2 12 G e0 α κ B [.ref (α 10 0), .int (Int32.ofInt p1), .int (Int32.ofInt p2)] M Qm Xm :=
  XI.mk hlt hκ (by decide +kernel) rfl (Nat.le_of_ble_eq_true rfl) (lv := [(0, .ref (α 10 0)), (1, .int (Int32.ofInt p1)), (2, .int (Int32.ofInt p2))]) rfl (fun p e s m args below meth c ls X T hR hS hl => t_X9_shown X T hp1 hp2 hw _ _ hR hS ls hl)
theorem cx_X9_shown {cc : ByteArray} {nL : Nat} {own : String} {ret : Option FieldType} {idx pc : Nat} {p1 : Int} {p2 : Int} (X : CX p m c cc nL s args own G B κ meth ret) (T : XT l c) (hp1 : inR p1) (hp2 : inR p2) {k mc ms cells slots : Nat} (hk : 8 + 1 ≤ k) (hcel : cells + 2 ≤ mc ∧ slots + 12 ≤ ms) {M : Mem} {H : Heap} {locs : List Loc} (hR : Rp G e0 α κ B M H) (hS : va_S (fun q => B ≤ q) s.heap H locs) (k1 : Cond.methodLink own idx yX9_shown ∈ gw) {ls : Array Slot} (hml : ls.size = nL) {rest : List Value} (hd : decode cc pc = .ok (.invokevirtual idx, 3)) (hrest : (rest.map fun v => v.category).sum ≤ 8) {Qc : Array Value → State → Outcome → State → Prop} {Qm : Int → Mem → Prop} {Xm : String → Mem → Prop} (hw : wp_X9_shown p1 p2 M Xm Qm) (kk : ∀ (r : Int) (M1 : Mem) (H1 : Heap) (locs1 : List Loc), Qm r M1 → inR r → Rp G e0 α κ B M1 H1 → va_S (fun q => B ≤ q) s.heap H1 locs1 → W p l e (rmX k mc ms) s m args below meth c H1 locs1 (cells + 2) (slots + 12) (vx_MQ below Qc (XQ G e0 α κ B Xm) args s mc ms (fun q => B ≤ q)) (F0 m (pc + 3) ls (.int (Int32.ofInt r) :: rest))) : W p l e (rmX k mc ms) s m args below meth c H locs cells slots (vx_MQ below Qc (XQ G e0 α κ B Xm) args s mc ms (fun q => B ≤ q)) (F0 m pc ls (.int (Int32.ofInt p2) :: .int (Int32.ofInt p1) :: .ref (α 10 0) :: rest)) :=
  sx_callVI 8 (n := 2) (As := [.int (Int32.ofInt p1), .int (Int32.ofInt p2)]) (rest := rest) X T hR hS (m_X9_shown T.1 X.2.2.1 hp1 hp2 hw) k1 kw_1456 kw_1457 kw_94 kw_1458 ⟨rfl, by decide +kernel, by decide +kernel, by decide +kernel⟩ (rm_ok rmX_ok hk (by decide)) (rc_10 X hR (okf X.2.2.1 rfl)) rfl rfl hrest hml hd hcel kk
def wp_X9_used (p1 : Int) (M : Mem) (Xm : String → Mem → Prop) (Qm : Int → Mem → Prop) : Prop := wp_X9_refresh M fun (M1 : Mem) => wp_X9_requireSheets M1 Xm fun (M2 : Mem) => wp_X9_requirePage p1 M2 Xm fun (M3 : Mem) => (0 ≤ p1 ∧ p1 < 904) ∧ Qm (M3 42 0 p1) M3
set_option maxHeartbeats 4000000 in
set_option maxRecDepth 100000 in
theorem t_X9_used {p1 : Int} (X : CX p m c cX9_used 2 s args RX9 G B κ meth (some .int)) (T : XT l c) (hp1 : inR p1) {M : Mem} {Xm : String → Mem → Prop} {Qm : Int → Mem → Prop} (hw : wp_X9_used p1 M Xm Qm) (H : Heap) (locs : List Loc) (hR : Rp G e0 α κ B M H) (hS : va_S (fun q => B ≤ q) s.heap H locs) (ls : Array Slot) (hl : lv_has ls 2 [(0, .ref (α 10 0)), (1, .int (Int32.ofInt p1))]) : WXI p l e 8 2 12 s m args below meth c G e0 α κ B Qm Xm H locs 0 0 0 ls [] := by
  have hw : wp_X9_refresh M fun (M1 : Mem) => wp_X9_requireSheets M1 Xm fun (M2 : Mem) => wp_X9_requirePage p1 M2 Xm fun (M3 : Mem) => (0 ≤ p1 ∧ p1 < 904) ∧ Qm (M3 42 0 p1) M3 := hw
  refine lv_aload_n X.1.1 X.1.2.1 dX9_used_0 rfl (lv_at hl 0 rfl) ?_
  refine cs_X9_refresh X  (kc := 8) rmX_ok ⟨by decide, by decide⟩ (by decide) hR hS kw_426 hl.1 dX9_used_1 (Nat.le_of_ble_eq_true rfl) hw (fun M1 H locs hw hR hS => ?_)
  refine lv_aload_n X.1.1 X.1.2.1 dX9_used_4 rfl (lv_at hl 0 rfl) ?_
  refine cx_X9_requireSheets X T  (by decide) ⟨by decide, by decide⟩ hR hS kw_1424 hl.1 dX9_used_5 (Nat.le_of_ble_eq_true rfl) hw (fun M2 H locs hw hR hS => ?_)
  refine W.widen (k := 1) (n := 6) (by decide) (by decide) ?_
  refine lv_aload_n X.1.1 X.1.2.1 dX9_used_8 rfl (lv_at hl 0 rfl) ?_
  refine lv_iload_n X.1.1 X.1.2.1 dX9_used_9 rfl (lv_at hl 1 rfl) ?_
  refine cx_X9_requirePage X T hp1 (by decide) ⟨by decide, by decide⟩ hR hS kw_1472 hl.1 dX9_used_10 (Nat.le_of_ble_eq_true rfl) hw (fun M3 H locs hw hR hS => ?_)
  refine W.widen (k := 2) (n := 12) (by decide) (by decide) ?_
  refine lv_aload_n X.1.1 X.1.2.1 dX9_used_13 rfl (lv_at hl 0 rfl) ?_
  refine gt_10_5 X hR (okf X.2.2.1 rfl) kw_389 dX9_used_14 ?_
  refine gt_7_8 X hR (okp X.2.2.1 rfl (by decide)) kw_304 dX9_used_17 ?_
  refine lv_iload_n X.1.1 X.1.2.1 dX9_used_20 rfl (lv_at hl 1 rfl) ?_
  have c4 := hw.1
  have hw := hw.2
  refine ra_42 X hR (okp X.2.2.1 rfl (pr_7 X.2.2.1 (okp X.2.2.1 rfl (by decide)))) c4 dX9_used_21 ?_
  have r5 := hR.r 42 0 p1
  exact sx_iret X hR hS r5 hw dX9_used_22 (by decide) (by decide)
theorem m_X9_used {l : Launch} {G : Gx} {e0 : Nat} {α : Ax} {κ : Nat → Int} {B : Nat} {p1 : Int} (hlt : l.stackTraces = false) (hκ : kOK κ) (hp1 : inR p1) {M : Mem} {Qm : Int → Mem → Prop} {Xm : String → Mem → Prop} (hw : wp_X9_used p1 M Xm Qm) : XI l yX9_used (Cond.code yX9_used cX9_used 2 (some .int)) 8 2 12 G e0 α κ B [.ref (α 10 0), .int (Int32.ofInt p1)] M Qm Xm :=
  XI.mk hlt hκ (by decide +kernel) rfl (Nat.le_of_ble_eq_true rfl) (lv := [(0, .ref (α 10 0)), (1, .int (Int32.ofInt p1))]) rfl (fun p e s m args below meth c ls X T hR hS hl => t_X9_used X T hp1 hw _ _ hR hS ls hl)
theorem cx_X9_used {cc : ByteArray} {nL : Nat} {own : String} {ret : Option FieldType} {idx pc : Nat} {p1 : Int} (X : CX p m c cc nL s args own G B κ meth ret) (T : XT l c) (hp1 : inR p1) {k mc ms cells slots : Nat} (hk : 8 + 1 ≤ k) (hcel : cells + 2 ≤ mc ∧ slots + 12 ≤ ms) {M : Mem} {H : Heap} {locs : List Loc} (hR : Rp G e0 α κ B M H) (hS : va_S (fun q => B ≤ q) s.heap H locs) (k1 : Cond.methodLink own idx yX9_used ∈ gw) {ls : Array Slot} (hml : ls.size = nL) {rest : List Value} (hd : decode cc pc = .ok (.invokevirtual idx, 3)) (hrest : (rest.map fun v => v.category).sum ≤ 8) {Qc : Array Value → State → Outcome → State → Prop} {Qm : Int → Mem → Prop} {Xm : String → Mem → Prop} (hw : wp_X9_used p1 M Xm Qm) (kk : ∀ (r : Int) (M1 : Mem) (H1 : Heap) (locs1 : List Loc), Qm r M1 → inR r → Rp G e0 α κ B M1 H1 → va_S (fun q => B ≤ q) s.heap H1 locs1 → W p l e (rmX k mc ms) s m args below meth c H1 locs1 (cells + 2) (slots + 12) (vx_MQ below Qc (XQ G e0 α κ B Xm) args s mc ms (fun q => B ≤ q)) (F0 m (pc + 3) ls (.int (Int32.ofInt r) :: rest))) : W p l e (rmX k mc ms) s m args below meth c H locs cells slots (vx_MQ below Qc (XQ G e0 α κ B Xm) args s mc ms (fun q => B ≤ q)) (F0 m pc ls (.int (Int32.ofInt p1) :: .ref (α 10 0) :: rest)) :=
  sx_callVI 8 (n := 1) (As := [.int (Int32.ofInt p1)]) (rest := rest) X T hR hS (m_X9_used T.1 X.2.2.1 hp1 hw) k1 kw_1469 kw_1470 kw_94 kw_1471 ⟨rfl, by decide +kernel, by decide +kernel, by decide +kernel⟩ (rm_ok rmX_ok hk (by decide)) (rc_10 X hR (okf X.2.2.1 rfl)) rfl rfl hrest hml hd hcel kk
def wp_X9_notesOn (p1 : Int) (M : Mem) (Xm : String → Mem → Prop) (Qm : Int → Mem → Prop) : Prop := wp_X9_refresh M fun (M1 : Mem) => wp_X9_requireSheets M1 Xm fun (M2 : Mem) => wp_X9_requirePage p1 M2 Xm fun (M3 : Mem) => (0 ≤ p1 ∧ p1 < 904) ∧ Qm (M3 43 0 p1) M3
set_option maxHeartbeats 4000000 in
set_option maxRecDepth 100000 in
theorem t_X9_notesOn {p1 : Int} (X : CX p m c cX9_notesOn 2 s args RX9 G B κ meth (some .int)) (T : XT l c) (hp1 : inR p1) {M : Mem} {Xm : String → Mem → Prop} {Qm : Int → Mem → Prop} (hw : wp_X9_notesOn p1 M Xm Qm) (H : Heap) (locs : List Loc) (hR : Rp G e0 α κ B M H) (hS : va_S (fun q => B ≤ q) s.heap H locs) (ls : Array Slot) (hl : lv_has ls 2 [(0, .ref (α 10 0)), (1, .int (Int32.ofInt p1))]) : WXI p l e 8 2 12 s m args below meth c G e0 α κ B Qm Xm H locs 0 0 0 ls [] := by
  have hw : wp_X9_refresh M fun (M1 : Mem) => wp_X9_requireSheets M1 Xm fun (M2 : Mem) => wp_X9_requirePage p1 M2 Xm fun (M3 : Mem) => (0 ≤ p1 ∧ p1 < 904) ∧ Qm (M3 43 0 p1) M3 := hw
  refine lv_aload_n X.1.1 X.1.2.1 dX9_notesOn_0 rfl (lv_at hl 0 rfl) ?_
  refine cs_X9_refresh X  (kc := 8) rmX_ok ⟨by decide, by decide⟩ (by decide) hR hS kw_426 hl.1 dX9_notesOn_1 (Nat.le_of_ble_eq_true rfl) hw (fun M1 H locs hw hR hS => ?_)
  refine lv_aload_n X.1.1 X.1.2.1 dX9_notesOn_4 rfl (lv_at hl 0 rfl) ?_
  refine cx_X9_requireSheets X T  (by decide) ⟨by decide, by decide⟩ hR hS kw_1424 hl.1 dX9_notesOn_5 (Nat.le_of_ble_eq_true rfl) hw (fun M2 H locs hw hR hS => ?_)
  refine W.widen (k := 1) (n := 6) (by decide) (by decide) ?_
  refine lv_aload_n X.1.1 X.1.2.1 dX9_notesOn_8 rfl (lv_at hl 0 rfl) ?_
  refine lv_iload_n X.1.1 X.1.2.1 dX9_notesOn_9 rfl (lv_at hl 1 rfl) ?_
  refine cx_X9_requirePage X T hp1 (by decide) ⟨by decide, by decide⟩ hR hS kw_1472 hl.1 dX9_notesOn_10 (Nat.le_of_ble_eq_true rfl) hw (fun M3 H locs hw hR hS => ?_)
  refine W.widen (k := 2) (n := 12) (by decide) (by decide) ?_
  refine lv_aload_n X.1.1 X.1.2.1 dX9_notesOn_13 rfl (lv_at hl 0 rfl) ?_
  refine gt_10_5 X hR (okf X.2.2.1 rfl) kw_389 dX9_notesOn_14 ?_
  refine gt_7_9 X hR (okp X.2.2.1 rfl (by decide)) kw_306 dX9_notesOn_17 ?_
  refine lv_iload_n X.1.1 X.1.2.1 dX9_notesOn_20 rfl (lv_at hl 1 rfl) ?_
  have c4 := hw.1
  have hw := hw.2
  refine ra_43 X hR (okp X.2.2.1 rfl (pr_7 X.2.2.1 (okp X.2.2.1 rfl (by decide)))) c4 dX9_notesOn_21 ?_
  have r5 := hR.r 43 0 p1
  exact sx_iret X hR hS r5 hw dX9_notesOn_22 (by decide) (by decide)
theorem m_X9_notesOn {l : Launch} {G : Gx} {e0 : Nat} {α : Ax} {κ : Nat → Int} {B : Nat} {p1 : Int} (hlt : l.stackTraces = false) (hκ : kOK κ) (hp1 : inR p1) {M : Mem} {Qm : Int → Mem → Prop} {Xm : String → Mem → Prop} (hw : wp_X9_notesOn p1 M Xm Qm) : XI l yX9_notesOn (Cond.code yX9_notesOn cX9_notesOn 2 (some .int)) 8 2 12 G e0 α κ B [.ref (α 10 0), .int (Int32.ofInt p1)] M Qm Xm :=
  XI.mk hlt hκ (by decide +kernel) rfl (Nat.le_of_ble_eq_true rfl) (lv := [(0, .ref (α 10 0)), (1, .int (Int32.ofInt p1))]) rfl (fun p e s m args below meth c ls X T hR hS hl => t_X9_notesOn X T hp1 hw _ _ hR hS ls hl)
theorem cx_X9_notesOn {cc : ByteArray} {nL : Nat} {own : String} {ret : Option FieldType} {idx pc : Nat} {p1 : Int} (X : CX p m c cc nL s args own G B κ meth ret) (T : XT l c) (hp1 : inR p1) {k mc ms cells slots : Nat} (hk : 8 + 1 ≤ k) (hcel : cells + 2 ≤ mc ∧ slots + 12 ≤ ms) {M : Mem} {H : Heap} {locs : List Loc} (hR : Rp G e0 α κ B M H) (hS : va_S (fun q => B ≤ q) s.heap H locs) (k1 : Cond.methodLink own idx yX9_notesOn ∈ gw) {ls : Array Slot} (hml : ls.size = nL) {rest : List Value} (hd : decode cc pc = .ok (.invokevirtual idx, 3)) (hrest : (rest.map fun v => v.category).sum ≤ 8) {Qc : Array Value → State → Outcome → State → Prop} {Qm : Int → Mem → Prop} {Xm : String → Mem → Prop} (hw : wp_X9_notesOn p1 M Xm Qm) (kk : ∀ (r : Int) (M1 : Mem) (H1 : Heap) (locs1 : List Loc), Qm r M1 → inR r → Rp G e0 α κ B M1 H1 → va_S (fun q => B ≤ q) s.heap H1 locs1 → W p l e (rmX k mc ms) s m args below meth c H1 locs1 (cells + 2) (slots + 12) (vx_MQ below Qc (XQ G e0 α κ B Xm) args s mc ms (fun q => B ≤ q)) (F0 m (pc + 3) ls (.int (Int32.ofInt r) :: rest))) : W p l e (rmX k mc ms) s m args below meth c H locs cells slots (vx_MQ below Qc (XQ G e0 α κ B Xm) args s mc ms (fun q => B ≤ q)) (F0 m pc ls (.int (Int32.ofInt p1) :: .ref (α 10 0) :: rest)) :=
  sx_callVI 8 (n := 1) (As := [.int (Int32.ofInt p1)]) (rest := rest) X T hR hS (m_X9_notesOn T.1 X.2.2.1 hp1 hw) k1 kw_1482 kw_1483 kw_94 kw_1484 ⟨rfl, by decide +kernel, by decide +kernel, by decide +kernel⟩ (rm_ok rmX_ok hk (by decide)) (rc_10 X hR (okf X.2.2.1 rfl)) rfl rfl hrest hml hd hcel kk
def wp_X9_carried (p1 : Int) (p2 : Int) (M : Mem) (Xm : String → Mem → Prop) (Qm : Int → Mem → Prop) : Prop := wp_X9_requireColumn p2 M Xm fun (M1 : Mem) => wp_X9_refresh M1 fun (M2 : Mem) => wp_X9_requireSheets M2 Xm fun (M3 : Mem) => wp_X9_requirePage p1 M3 Xm fun (M4 : Mem) => wp_X6_carriedOut 0 p1 p2 M4 fun (x6 : Int) (M5 : Mem) => Qm x6 M5
set_option maxHeartbeats 4000000 in
set_option maxRecDepth 100000 in
theorem t_X9_carried {p1 : Int} {p2 : Int} (X : CX p m c cX9_carried 3 s args RX9 G B κ meth (some .int)) (T : XT l c) (hp1 : inR p1) (hp2 : inR p2) {M : Mem} {Xm : String → Mem → Prop} {Qm : Int → Mem → Prop} (hw : wp_X9_carried p1 p2 M Xm Qm) (H : Heap) (locs : List Loc) (hR : Rp G e0 α κ B M H) (hS : va_S (fun q => B ≤ q) s.heap H locs) (ls : Array Slot) (hl : lv_has ls 3 [(0, .ref (α 10 0)), (1, .int (Int32.ofInt p1)), (2, .int (Int32.ofInt p2))]) : WXI p l e 8 3 18 s m args below meth c G e0 α κ B Qm Xm H locs 0 0 0 ls [] := by
  have hw : wp_X9_requireColumn p2 M Xm fun (M1 : Mem) => wp_X9_refresh M1 fun (M2 : Mem) => wp_X9_requireSheets M2 Xm fun (M3 : Mem) => wp_X9_requirePage p1 M3 Xm fun (M4 : Mem) => wp_X6_carriedOut 0 p1 p2 M4 fun (x6 : Int) (M5 : Mem) => Qm x6 M5 := hw
  refine lv_aload_n X.1.1 X.1.2.1 dX9_carried_0 rfl (lv_at hl 0 rfl) ?_
  refine lv_iload_n X.1.1 X.1.2.1 dX9_carried_1 rfl (lv_at hl 2 rfl) ?_
  refine cx_X9_requireColumn X T hp2 (by decide) ⟨by decide, by decide⟩ hR hS kw_1017 hl.1 dX9_carried_2 (Nat.le_of_ble_eq_true rfl) hw (fun M1 H locs hw hR hS => ?_)
  refine W.widen (k := 1) (n := 6) (by decide) (by decide) ?_
  refine lv_aload_n X.1.1 X.1.2.1 dX9_carried_5 rfl (lv_at hl 0 rfl) ?_
  refine cs_X9_refresh X  (kc := 8) rmX_ok ⟨by decide, by decide⟩ (by decide) hR hS kw_426 hl.1 dX9_carried_6 (Nat.le_of_ble_eq_true rfl) hw (fun M2 H locs hw hR hS => ?_)
  refine lv_aload_n X.1.1 X.1.2.1 dX9_carried_9 rfl (lv_at hl 0 rfl) ?_
  refine cx_X9_requireSheets X T  (by decide) ⟨by decide, by decide⟩ hR hS kw_1424 hl.1 dX9_carried_10 (Nat.le_of_ble_eq_true rfl) hw (fun M3 H locs hw hR hS => ?_)
  refine W.widen (k := 2) (n := 12) (by decide) (by decide) ?_
  refine lv_aload_n X.1.1 X.1.2.1 dX9_carried_13 rfl (lv_at hl 0 rfl) ?_
  refine lv_iload_n X.1.1 X.1.2.1 dX9_carried_14 rfl (lv_at hl 1 rfl) ?_
  refine cx_X9_requirePage X T hp1 (by decide) ⟨by decide, by decide⟩ hR hS kw_1472 hl.1 dX9_carried_15 (Nat.le_of_ble_eq_true rfl) hw (fun M4 H locs hw hR hS => ?_)
  refine W.widen (k := 3) (n := 18) (by decide) (by decide) ?_
  refine lv_aload_n X.1.1 X.1.2.1 dX9_carried_18 rfl (lv_at hl 0 rfl) ?_
  refine gt_10_5 X hR (okf X.2.2.1 rfl) kw_389 dX9_carried_19 ?_
  refine lv_iload_n X.1.1 X.1.2.1 dX9_carried_22 rfl (lv_at hl 1 rfl) ?_
  refine lv_iload_n X.1.1 X.1.2.1 dX9_carried_23 rfl (lv_at hl 2 rfl) ?_
  refine cs_X6_carriedOut X (okp X.2.2.1 rfl (by decide)) hp1 hp2 (kc := 8) rmX_ok ⟨by decide, by decide⟩ (by decide) hR hS kw_1515 hl.1 dX9_carried_24 (Nat.le_of_ble_eq_true rfl) hw (fun x6 M5 H locs hw r7 hR hS => ?_)
  exact sx_iret X hR hS r7 hw dX9_carried_27 (by decide) (by decide)
theorem m_X9_carried {l : Launch} {G : Gx} {e0 : Nat} {α : Ax} {κ : Nat → Int} {B : Nat} {p1 : Int} {p2 : Int} (hlt : l.stackTraces = false) (hκ : kOK κ) (hp1 : inR p1) (hp2 : inR p2) {M : Mem} {Qm : Int → Mem → Prop} {Xm : String → Mem → Prop} (hw : wp_X9_carried p1 p2 M Xm Qm) : XI l yX9_carried (Cond.code yX9_carried cX9_carried 3 (some .int)) 8 3 18 G e0 α κ B [.ref (α 10 0), .int (Int32.ofInt p1), .int (Int32.ofInt p2)] M Qm Xm :=
  XI.mk hlt hκ (by decide +kernel) rfl (Nat.le_of_ble_eq_true rfl) (lv := [(0, .ref (α 10 0)), (1, .int (Int32.ofInt p1)), (2, .int (Int32.ofInt p2))]) rfl (fun p e s m args below meth c ls X T hR hS hl => t_X9_carried X T hp1 hp2 hw _ _ hR hS ls hl)
theorem cx_X9_carried {cc : ByteArray} {nL : Nat} {own : String} {ret : Option FieldType} {idx pc : Nat} {p1 : Int} {p2 : Int} (X : CX p m c cc nL s args own G B κ meth ret) (T : XT l c) (hp1 : inR p1) (hp2 : inR p2) {k mc ms cells slots : Nat} (hk : 8 + 1 ≤ k) (hcel : cells + 3 ≤ mc ∧ slots + 18 ≤ ms) {M : Mem} {H : Heap} {locs : List Loc} (hR : Rp G e0 α κ B M H) (hS : va_S (fun q => B ≤ q) s.heap H locs) (k1 : Cond.methodLink own idx yX9_carried ∈ gw) {ls : Array Slot} (hml : ls.size = nL) {rest : List Value} (hd : decode cc pc = .ok (.invokevirtual idx, 3)) (hrest : (rest.map fun v => v.category).sum ≤ 8) {Qc : Array Value → State → Outcome → State → Prop} {Qm : Int → Mem → Prop} {Xm : String → Mem → Prop} (hw : wp_X9_carried p1 p2 M Xm Qm) (kk : ∀ (r : Int) (M1 : Mem) (H1 : Heap) (locs1 : List Loc), Qm r M1 → inR r → Rp G e0 α κ B M1 H1 → va_S (fun q => B ≤ q) s.heap H1 locs1 → W p l e (rmX k mc ms) s m args below meth c H1 locs1 (cells + 3) (slots + 18) (vx_MQ below Qc (XQ G e0 α κ B Xm) args s mc ms (fun q => B ≤ q)) (F0 m (pc + 3) ls (.int (Int32.ofInt r) :: rest))) : W p l e (rmX k mc ms) s m args below meth c H locs cells slots (vx_MQ below Qc (XQ G e0 α κ B Xm) args s mc ms (fun q => B ≤ q)) (F0 m pc ls (.int (Int32.ofInt p2) :: .int (Int32.ofInt p1) :: .ref (α 10 0) :: rest)) :=
  sx_callVI 8 (n := 2) (As := [.int (Int32.ofInt p1), .int (Int32.ofInt p2)]) (rest := rest) X T hR hS (m_X9_carried T.1 X.2.2.1 hp1 hp2 hw) k1 kw_1512 kw_1513 kw_94 kw_1514 ⟨rfl, by decide +kernel, by decide +kernel, by decide +kernel⟩ (rm_ok rmX_ok hk (by decide)) (rc_10 X hR (okf X.2.2.1 rfl)) rfl rfl hrest hml hd hcel kk
def wp_X9_carriedByCells_124 (p1 : Int) (p2 : Int) (Xm : String → Mem → Prop) (Qm : Int → Mem → Prop) (K23 : Int → Int → Mem → Prop) (y3 : Int) (y4 : Int) (M : Mem) : Prop := (inR (y4 + 1)) ∧ K23 y3 (y4 + 1) M
def wp_X9_carriedByCells_23 (p1 : Int) (p2 : Int) (Xm : String → Mem → Prop) (Qm : Int → Mem → Prop) : Nat → Int → Int → Mem → Prop
  | 0 => fun _ _ _ => False
  | n + 1 => fun y3 y4 M => (((M 14 0 (-1)) ≤ y4 → Qm y3 M) ∧ (y4 < (M 14 0 (-1)) → (0 ≤ y4 ∧ y4 < M 14 0 (-1)) ∧ wp_X0_showsFigure (M 14 0 y4) M fun (x9 : Int) (M8 : Mem) => (((if x9 = 0 then (0 : Int) else (if ¬ (M8 1 (M 14 0 y4) 1) = p2 then (0 : Int) else (if ¬ (M8 6 (M8 1 (M 14 0 y4) 0) 1) = 1 then (0 : Int) else 1))) = 0 → wp_X9_carriedByCells_124 p1 p2 Xm Qm (wp_X9_carriedByCells_23 p1 p2 Xm Qm n) y3 y4 M8) ∧ (¬ (if x9 = 0 then (0 : Int) else (if ¬ (M8 1 (M 14 0 y4) 1) = p2 then (0 : Int) else (if ¬ (M8 6 (M8 1 (M 14 0 y4) 0) 1) = 1 then (0 : Int) else 1))) = 0 → (0 ≤ (M8 6 (M8 1 (M 14 0 y4) 0) 0) ∧ (M8 6 (M8 1 (M 14 0 y4) 0) 0) < 29) ∧ ((p1 < (M8 45 0 (M8 6 (M8 1 (M 14 0 y4) 0) 0)) → wp_X9_carriedByCells_124 p1 p2 Xm Qm (wp_X9_carriedByCells_23 p1 p2 Xm Qm n) y3 y4 M8) ∧ ((M8 45 0 (M8 6 (M8 1 (M 14 0 y4) 0) 0)) ≤ p1 → (inR (y3 + (M8 1 (M 14 0 y4) 9))) ∧ wp_X9_carriedByCells_124 p1 p2 Xm Qm (wp_X9_carriedByCells_23 p1 p2 Xm Qm n) (y3 + (M8 1 (M 14 0 y4) 9)) y4 M8))))))
def wp_X9_carriedByCells (p1 : Int) (p2 : Int) (M : Mem) (Xm : String → Mem → Prop) (Qm : Int → Mem → Prop) : Prop := wp_X9_requireColumn p2 M Xm fun (M1 : Mem) => wp_X9_refresh M1 fun (M2 : Mem) => wp_X9_requireSheets M2 Xm fun (M3 : Mem) => wp_X9_requirePage p1 M3 Xm fun (M4 : Mem) => (∃ n25 : Nat, wp_X9_carriedByCells_23 p1 p2 Xm Qm n25 0 0 M4)
set_option maxHeartbeats 4000000 in
set_option maxRecDepth 100000 in
theorem t_X9_carriedByCells_124 {p1 : Int} {p2 : Int} (X : CX p m c cX9_carriedByCells 7 s args RX9 G B κ meth (some .int)) (T : XT l c) (hp1 : inR p1) (hp2 : inR p2) {Xm : String → Mem → Prop} {Qm : Int → Mem → Prop} {K23 : Int → Int → Mem → Prop} (hK23 : ∀ y3 : Int, ∀ y4 : Int, ∀ M : Mem, K23 y3 y4 M → inR y3 → inR y4 → ∀ (H : Heap) (locs : List Loc), Rp G e0 α κ B M H → va_S (fun q => B ≤ q) s.heap H locs → ∀ (ls : Array Slot), lv_has ls 7 [(0, .ref (α 10 0)), (1, .int (Int32.ofInt p1)), (2, .int (Int32.ofInt p2)), (3, .int (Int32.ofInt y3)), (4, .int (Int32.ofInt y4))] → WXI p l e 8 3 18 s m args below meth c G e0 α κ B Qm Xm H locs 3 18 23 ls []) : ∀ y3 : Int, ∀ y4 : Int, ∀ M : Mem, wp_X9_carriedByCells_124 p1 p2 Xm Qm K23 y3 y4 M → inR y3 → inR y4 → ∀ (H : Heap) (locs : List Loc), Rp G e0 α κ B M H → va_S (fun q => B ≤ q) s.heap H locs → ∀ (ls : Array Slot), lv_has ls 7 [(0, .ref (α 10 0)), (1, .int (Int32.ofInt p1)), (2, .int (Int32.ofInt p2)), (3, .int (Int32.ofInt y3)), (4, .int (Int32.ofInt y4))] → WXI p l e 8 3 18 s m args below meth c G e0 α κ B Qm Xm H locs 3 18 124 ls [] := by
  intro y3 y4 M hw hy3 hy4 H locs hR hS ls hl
  have hw : (inR (y4 + 1)) ∧ K23 y3 (y4 + 1) M := hw
  have c18 := hw.1
  have hw := hw.2
  refine lv_iinc (v := Int32.ofInt (y4 + 1)) (lv' := [(4, .int (Int32.ofInt (y4 + 1))), (0, .ref (α 10 0)), (1, .int (Int32.ofInt p1)), (2, .int (Int32.ofInt p2)), (3, .int (Int32.ofInt y3))]) X.1.1 X.1.2.1 dX9_carriedByCells_124 hl (k := 4) rfl (Int32.ofInt_add _ _).symm (by decide) rfl (fun ls hl => ?_)
  refine lv_goto (tgt := 23) X.1.1 X.1.2.1 dX9_carriedByCells_127 (by decide) ?_
  exact hK23 _ _ _ hw hy3 c18 _ _ hR hS _ (lv_sub hl [1, 2, 3, 4, 0] rfl)
set_option maxHeartbeats 4000000 in
set_option maxRecDepth 100000 in
theorem t_X9_carriedByCells_23 {p1 : Int} {p2 : Int} (X : CX p m c cX9_carriedByCells 7 s args RX9 G B κ meth (some .int)) (T : XT l c) (hp1 : inR p1) (hp2 : inR p2) {Xm : String → Mem → Prop} {Qm : Int → Mem → Prop} : ∀ n : Nat, ∀ y3 : Int, ∀ y4 : Int, ∀ M : Mem, wp_X9_carriedByCells_23 p1 p2 Xm Qm n y3 y4 M → inR y3 → inR y4 → ∀ (H : Heap) (locs : List Loc), Rp G e0 α κ B M H → va_S (fun q => B ≤ q) s.heap H locs → ∀ (ls : Array Slot), lv_has ls 7 [(0, .ref (α 10 0)), (1, .int (Int32.ofInt p1)), (2, .int (Int32.ofInt p2)), (3, .int (Int32.ofInt y3)), (4, .int (Int32.ofInt y4))] → WXI p l e 8 3 18 s m args below meth c G e0 α κ B Qm Xm H locs 3 18 23 ls [] := by
  intro n
  induction n with
  | zero =>
    intro y3 y4 M hw hy3 hy4 H locs hR hS ls hl
    exact hw.elim
  | succ n ih =>
    intro y3 y4 M hw hy3 hy4 H locs hR hS ls hl
    have hw : (((M 14 0 (-1)) ≤ y4 → Qm y3 M) ∧ (y4 < (M 14 0 (-1)) → (0 ≤ y4 ∧ y4 < M 14 0 (-1)) ∧ wp_X0_showsFigure (M 14 0 y4) M fun (x9 : Int) (M8 : Mem) => (((if x9 = 0 then (0 : Int) else (if ¬ (M8 1 (M 14 0 y4) 1) = p2 then (0 : Int) else (if ¬ (M8 6 (M8 1 (M 14 0 y4) 0) 1) = 1 then (0 : Int) else 1))) = 0 → wp_X9_carriedByCells_124 p1 p2 Xm Qm (wp_X9_carriedByCells_23 p1 p2 Xm Qm n) y3 y4 M8) ∧ (¬ (if x9 = 0 then (0 : Int) else (if ¬ (M8 1 (M 14 0 y4) 1) = p2 then (0 : Int) else (if ¬ (M8 6 (M8 1 (M 14 0 y4) 0) 1) = 1 then (0 : Int) else 1))) = 0 → (0 ≤ (M8 6 (M8 1 (M 14 0 y4) 0) 0) ∧ (M8 6 (M8 1 (M 14 0 y4) 0) 0) < 29) ∧ ((p1 < (M8 45 0 (M8 6 (M8 1 (M 14 0 y4) 0) 0)) → wp_X9_carriedByCells_124 p1 p2 Xm Qm (wp_X9_carriedByCells_23 p1 p2 Xm Qm n) y3 y4 M8) ∧ ((M8 45 0 (M8 6 (M8 1 (M 14 0 y4) 0) 0)) ≤ p1 → (inR (y3 + (M8 1 (M 14 0 y4) 9))) ∧ wp_X9_carriedByCells_124 p1 p2 Xm Qm (wp_X9_carriedByCells_23 p1 p2 Xm Qm n) (y3 + (M8 1 (M 14 0 y4) 9)) y4 M8)))))) := hw
    refine lv_iload X.1.1 X.1.2.1 dX9_carriedByCells_23 (lv_at hl 4 rfl) ?_
    refine lv_aload_n X.1.1 X.1.2.1 dX9_carriedByCells_25 rfl (lv_at hl 0 rfl) ?_
    refine gt_10_0 X hR (okf X.2.2.1 rfl) kw_384 dX9_carriedByCells_26 ?_
    refine gt_4_2 X hR (okf X.2.2.1 rfl) kw_169 dX9_carriedByCells_29 ?_
    refine ls_size (by decide) (by decide) X (kc := 8) rmX_ok ⟨by decide, by decide⟩ (by decide) hR hS kw_822 hl.1 dX9_carriedByCells_32 (Nat.le_of_ble_eq_true rfl) (fun H locs hR hS => ?_)
    have r5 := hR.r 14 0 (-1)
    refine sa_icmp_ge (tgt := 130) X.1 hy4 r5 dX9_carriedByCells_35 (by decide) (fun hc => ?_) (fun hc => ?_)
    · have hw := hw.1 hc
      refine lv_iload_n X.1.1 X.1.2.1 dX9_carriedByCells_130 rfl (lv_at hl 3 rfl) ?_
      exact sx_iret X hR hS hy3 hw dX9_carriedByCells_131 (by decide) (by decide)
    · have hw := hw.2 hc
      refine lv_aload_n X.1.1 X.1.2.1 dX9_carriedByCells_38 rfl (lv_at hl 0 rfl) ?_
      refine gt_10_0 X hR (okf X.2.2.1 rfl) kw_384 dX9_carriedByCells_39 ?_
      refine gt_4_2 X hR (okf X.2.2.1 rfl) kw_169 dX9_carriedByCells_42 ?_
      refine lv_iload X.1.1 X.1.2.1 dX9_carriedByCells_45 (lv_at hl 4 rfl) ?_
      have c6 := hw.1
      have hw := hw.2
      refine ls_get (ci := 1) (by decide) (by decide) rfl X c6 (kc := 8) rmX_ok ⟨by decide, by decide⟩ (by decide) hR hS kw_1027 hl.1 dX9_carriedByCells_47 (Nat.le_of_ble_eq_true rfl) (fun H locs o7 hR hS => ?_)
      refine ck_1 X hR o7 kw_1034 dX9_carriedByCells_50 ?_
      refine lv_astore (lv' := [(5, .ref (α 1 (M 14 0 y4))), (0, .ref (α 10 0)), (1, .int (Int32.ofInt p1)), (2, .int (Int32.ofInt p2)), (3, .int (Int32.ofInt y3)), (4, .int (Int32.ofInt y4))]) X.1.1 X.1.2.1 dX9_carriedByCells_53 hl (by decide) rfl (fun ls hl => ?_)
      refine lv_aload X.1.1 X.1.2.1 dX9_carriedByCells_55 (lv_at hl 0 rfl) ?_
      refine cs_X0_showsFigure X o7 (kc := 8) rmX_ok ⟨by decide, by decide⟩ (by decide) hR hS kw_1269 hl.1 dX9_carriedByCells_57 (Nat.le_of_ble_eq_true rfl) hw (fun x9 M8 H locs hw r10 hR hS => ?_)
      have r15 := inR_ite (c := x9 = 0) (inR_c (a := 0) rfl) (inR_ite (c := ¬ (M8 1 (M 14 0 y4) 1) = p2) (inR_c (a := 0) rfl) (inR_ite (c := ¬ (M8 6 (M8 1 (M 14 0 y4) 0) 1) = 1) (inR_c (a := 0) rfl) (inR_c (a := 1) rfl)))
      refine cut_j (A := ∀ v16 : Int, v16 = (if x9 = 0 then (0 : Int) else (if ¬ (M8 1 (M 14 0 y4) 1) = p2 then (0 : Int) else (if ¬ (M8 6 (M8 1 (M 14 0 y4) 0) 1) = 1 then (0 : Int) else 1))) → WXI p l e 8 3 18 s m args below meth c G e0 α κ B Qm Xm H locs 3 18 89 ls [.int (Int32.ofInt v16)]) (fun J17 => ?_) ?_
      · refine sa_if_eq (tgt := 88) X.1 r10 dX9_carriedByCells_60 (by decide) (fun hc => ?_) (fun hc => ?_)
        · skip
          refine sa_const X.1 dX9_carriedByCells_88 ?_
          exact J17 (0) (if_pos (c := x9 = 0) hc).symm
        · skip
          refine lv_aload X.1.1 X.1.2.1 dX9_carriedByCells_63 (lv_at hl 0 rfl) ?_
          refine gt_1_1 X hR o7 kw_1049 dX9_carriedByCells_65 ?_
          refine lv_iload_n X.1.1 X.1.2.1 dX9_carriedByCells_68 rfl (lv_at hl 3 rfl) ?_
          refine cut_j (A := ∀ v13 : Int, v13 = (if ¬ (M8 1 (M 14 0 y4) 1) = p2 then (0 : Int) else (if ¬ (M8 6 (M8 1 (M 14 0 y4) 0) 1) = 1 then (0 : Int) else 1)) → WXI p l e 8 3 18 s m args below meth c G e0 α κ B Qm Xm H locs 3 18 89 ls [.int (Int32.ofInt v13)]) (fun J14 => ?_) ?_
          · refine sa_icmp_ne (tgt := 88) X.1 (hR.r 1 (M 14 0 y4) 1) hp2 dX9_carriedByCells_69 (by decide) (fun hc => ?_) (fun hc => ?_)
            · skip
              refine sa_const X.1 dX9_carriedByCells_88 ?_
              exact J14 (0) (if_pos (c := ¬ (M8 1 (M 14 0 y4) 1) = p2) hc).symm
            · skip
              refine lv_aload X.1.1 X.1.2.1 dX9_carriedByCells_72 (lv_at hl 0 rfl) ?_
              refine gt_1_0 X hR o7 kw_1043 dX9_carriedByCells_74 ?_
              refine gt_6_1 X hR (hR.2.2.2.1 _ o7) kw_961 dX9_carriedByCells_77 ?_
              refine sa_const X.1 dX9_carriedByCells_80 ?_
              refine cut_j (A := ∀ v11 : Int, v11 = (if ¬ (M8 6 (M8 1 (M 14 0 y4) 0) 1) = 1 then (0 : Int) else 1) → WXI p l e 8 3 18 s m args below meth c G e0 α κ B Qm Xm H locs 3 18 89 ls [.int (Int32.ofInt v11)]) (fun J12 => ?_) ?_
              · refine sa_icmp_ne (tgt := 88) X.1 (hR.r 6 (M8 1 (M 14 0 y4) 0) 1) (inR_c (a := 1) rfl) dX9_carriedByCells_81 (by decide) (fun hc => ?_) (fun hc => ?_)
                · skip
                  refine sa_const X.1 dX9_carriedByCells_88 ?_
                  exact J12 (0) (if_pos (c := ¬ (M8 6 (M8 1 (M 14 0 y4) 0) 1) = 1) hc).symm
                · skip
                  refine sa_const X.1 dX9_carriedByCells_84 ?_
                  refine lv_goto (tgt := 89) X.1.1 X.1.2.1 dX9_carriedByCells_85 (by decide) ?_
                  exact J12 (1) (if_neg (c := ¬ (M8 6 (M8 1 (M 14 0 y4) 0) 1) = 1) (fun z => z hc)).symm
              intro v11 hv11
              subst hv11
              exact J14 ((if ¬ (M8 6 (M8 1 (M 14 0 y4) 0) 1) = 1 then (0 : Int) else 1)) (if_neg (c := ¬ (M8 1 (M 14 0 y4) 1) = p2) (fun z => z hc)).symm
          intro v13 hv13
          subst hv13
          exact J17 ((if ¬ (M8 1 (M 14 0 y4) 1) = p2 then (0 : Int) else (if ¬ (M8 6 (M8 1 (M 14 0 y4) 0) 1) = 1 then (0 : Int) else 1))) (if_neg (c := x9 = 0) hc).symm
      intro v16 hv16
      subst hv16
      refine lv_istore (lv' := [(6, .int (Int32.ofInt (if x9 = 0 then (0 : Int) else (if ¬ (M8 1 (M 14 0 y4) 1) = p2 then (0 : Int) else (if ¬ (M8 6 (M8 1 (M 14 0 y4) 0) 1) = 1 then (0 : Int) else 1))))), (5, .ref (α 1 (M 14 0 y4))), (0, .ref (α 10 0)), (1, .int (Int32.ofInt p1)), (2, .int (Int32.ofInt p2)), (3, .int (Int32.ofInt y3)), (4, .int (Int32.ofInt y4))]) X.1.1 X.1.2.1 dX9_carriedByCells_89 hl (by decide) rfl (fun ls hl => ?_)
      refine lv_iload X.1.1 X.1.2.1 dX9_carriedByCells_91 (lv_at hl 0 rfl) ?_
      refine sa_if_eq (tgt := 124) X.1 r15 dX9_carriedByCells_93 (by decide) (fun hc => ?_) (fun hc => ?_)
      · have hw := hw.1 hc
        exact t_X9_carriedByCells_124 X T hp1 hp2 ih _ _ _ hw hy3 hy4 _ _ hR hS _ (lv_sub hl [2, 3, 4, 5, 6] rfl)
      · have hw := hw.2 hc
        refine lv_aload_n X.1.1 X.1.2.1 dX9_carriedByCells_96 rfl (lv_at hl 2 rfl) ?_
        refine gt_10_5 X hR (okf X.2.2.1 rfl) kw_389 dX9_carriedByCells_97 ?_
        refine gt_7_11 X hR (okp X.2.2.1 rfl (by decide)) kw_309 dX9_carriedByCells_100 ?_
        refine lv_aload X.1.1 X.1.2.1 dX9_carriedByCells_103 (lv_at hl 1 rfl) ?_
        refine gt_1_0 X hR o7 kw_1043 dX9_carriedByCells_105 ?_
        have o19 := hR.2.2.2.1 _ o7
        refine gt_6_0 X hR o19 kw_956 dX9_carriedByCells_108 ?_
        have r20 := hR.r 6 (M8 1 (M 14 0 y4) 0) 0
        have c21 := hw.1
        have hw := hw.2
        refine ra_45 X hR (okp X.2.2.1 rfl (pr_7 X.2.2.1 (okp X.2.2.1 rfl (by decide)))) c21 dX9_carriedByCells_111 ?_
        have r22 := hR.r 45 0 (M8 6 (M8 1 (M 14 0 y4) 0) 0)
        refine lv_iload_n X.1.1 X.1.2.1 dX9_carriedByCells_112 rfl (lv_at hl 3 rfl) ?_
        refine sa_icmp_gt (tgt := 124) X.1 r22 hp1 dX9_carriedByCells_113 (by decide) (fun hc => ?_) (fun hc => ?_)
        · have hw := hw.1 hc
          exact t_X9_carriedByCells_124 X T hp1 hp2 ih _ _ _ hw hy3 hy4 _ _ hR hS _ (lv_sub hl [2, 3, 4, 5, 6] rfl)
        · have hw := hw.2 hc
          refine lv_iload_n X.1.1 X.1.2.1 dX9_carriedByCells_116 rfl (lv_at hl 5 rfl) ?_
          refine lv_aload X.1.1 X.1.2.1 dX9_carriedByCells_117 (lv_at hl 1 rfl) ?_
          refine gt_1_9 X hR o7 kw_1069 dX9_carriedByCells_119 ?_
          have r23 := hR.r 1 (M 14 0 y4) 9
          have c24 := hw.1
          have hw := hw.2
          refine sa_iadd X.1 dX9_carriedByCells_122 ?_
          refine lv_istore_n (lv' := [(3, .int (Int32.ofInt (y3 + (M8 1 (M 14 0 y4) 9)))), (6, .int (Int32.ofInt (if x9 = 0 then (0 : Int) else (if ¬ (M8 1 (M 14 0 y4) 1) = p2 then (0 : Int) else (if ¬ (M8 6 (M8 1 (M 14 0 y4) 0) 1) = 1 then (0 : Int) else 1))))), (5, .ref (α 1 (M 14 0 y4))), (0, .ref (α 10 0)), (1, .int (Int32.ofInt p1)), (2, .int (Int32.ofInt p2)), (4, .int (Int32.ofInt y4))]) X.1.1 X.1.2.1 dX9_carriedByCells_123 rfl hl (by decide) rfl (fun ls hl => ?_)
          exact t_X9_carriedByCells_124 X T hp1 hp2 ih _ _ _ hw c24 hy4 _ _ hR hS _ (lv_sub hl [3, 4, 5, 0, 6] rfl)
set_option maxHeartbeats 4000000 in
set_option maxRecDepth 100000 in
theorem t_X9_carriedByCells {p1 : Int} {p2 : Int} (X : CX p m c cX9_carriedByCells 7 s args RX9 G B κ meth (some .int)) (T : XT l c) (hp1 : inR p1) (hp2 : inR p2) {M : Mem} {Xm : String → Mem → Prop} {Qm : Int → Mem → Prop} (hw : wp_X9_carriedByCells p1 p2 M Xm Qm) (H : Heap) (locs : List Loc) (hR : Rp G e0 α κ B M H) (hS : va_S (fun q => B ≤ q) s.heap H locs) (ls : Array Slot) (hl : lv_has ls 7 [(0, .ref (α 10 0)), (1, .int (Int32.ofInt p1)), (2, .int (Int32.ofInt p2))]) : WXI p l e 8 3 18 s m args below meth c G e0 α κ B Qm Xm H locs 0 0 0 ls [] := by
  have hw : wp_X9_requireColumn p2 M Xm fun (M1 : Mem) => wp_X9_refresh M1 fun (M2 : Mem) => wp_X9_requireSheets M2 Xm fun (M3 : Mem) => wp_X9_requirePage p1 M3 Xm fun (M4 : Mem) => (∃ n25 : Nat, wp_X9_carriedByCells_23 p1 p2 Xm Qm n25 0 0 M4) := hw
  refine lv_aload_n X.1.1 X.1.2.1 dX9_carriedByCells_0 rfl (lv_at hl 0 rfl) ?_
  refine lv_iload_n X.1.1 X.1.2.1 dX9_carriedByCells_1 rfl (lv_at hl 2 rfl) ?_
  refine cx_X9_requireColumn X T hp2 (by decide) ⟨by decide, by decide⟩ hR hS kw_1017 hl.1 dX9_carriedByCells_2 (Nat.le_of_ble_eq_true rfl) hw (fun M1 H locs hw hR hS => ?_)
  refine W.widen (k := 1) (n := 6) (by decide) (by decide) ?_
  refine lv_aload_n X.1.1 X.1.2.1 dX9_carriedByCells_5 rfl (lv_at hl 0 rfl) ?_
  refine cs_X9_refresh X  (kc := 8) rmX_ok ⟨by decide, by decide⟩ (by decide) hR hS kw_426 hl.1 dX9_carriedByCells_6 (Nat.le_of_ble_eq_true rfl) hw (fun M2 H locs hw hR hS => ?_)
  refine lv_aload_n X.1.1 X.1.2.1 dX9_carriedByCells_9 rfl (lv_at hl 0 rfl) ?_
  refine cx_X9_requireSheets X T  (by decide) ⟨by decide, by decide⟩ hR hS kw_1424 hl.1 dX9_carriedByCells_10 (Nat.le_of_ble_eq_true rfl) hw (fun M3 H locs hw hR hS => ?_)
  refine W.widen (k := 2) (n := 12) (by decide) (by decide) ?_
  refine lv_aload_n X.1.1 X.1.2.1 dX9_carriedByCells_13 rfl (lv_at hl 0 rfl) ?_
  refine lv_iload_n X.1.1 X.1.2.1 dX9_carriedByCells_14 rfl (lv_at hl 1 rfl) ?_
  refine cx_X9_requirePage X T hp1 (by decide) ⟨by decide, by decide⟩ hR hS kw_1472 hl.1 dX9_carriedByCells_15 (Nat.le_of_ble_eq_true rfl) hw (fun M4 H locs hw hR hS => ?_)
  refine W.widen (k := 3) (n := 18) (by decide) (by decide) ?_
  refine sa_const X.1 dX9_carriedByCells_18 ?_
  refine lv_istore_n (lv' := [(3, .int (Int32.ofInt 0)), (0, .ref (α 10 0)), (1, .int (Int32.ofInt p1)), (2, .int (Int32.ofInt p2))]) X.1.1 X.1.2.1 dX9_carriedByCells_19 rfl hl (by decide) rfl (fun ls hl => ?_)
  refine sa_const X.1 dX9_carriedByCells_20 ?_
  refine lv_istore (lv' := [(4, .int (Int32.ofInt 0)), (3, .int (Int32.ofInt 0)), (0, .ref (α 10 0)), (1, .int (Int32.ofInt p1)), (2, .int (Int32.ofInt p2))]) X.1.1 X.1.2.1 dX9_carriedByCells_21 hl (by decide) rfl (fun ls hl => ?_)
  obtain ⟨n25, hw⟩ := hw
  exact t_X9_carriedByCells_23 X T hp1 hp2 n25 _ _ _ hw (inR_c (a := 0) rfl) (inR_c (a := 0) rfl) _ _ hR hS _ (lv_sub hl [2, 3, 4, 1, 0] rfl)
theorem m_X9_carriedByCells {l : Launch} {G : Gx} {e0 : Nat} {α : Ax} {κ : Nat → Int} {B : Nat} {p1 : Int} {p2 : Int} (hlt : l.stackTraces = false) (hκ : kOK κ) (hp1 : inR p1) (hp2 : inR p2) {M : Mem} {Qm : Int → Mem → Prop} {Xm : String → Mem → Prop} (hw : wp_X9_carriedByCells p1 p2 M Xm Qm) : XI l yX9_carriedByCells (Cond.code yX9_carriedByCells cX9_carriedByCells 7 (some .int)) 8 3 18 G e0 α κ B [.ref (α 10 0), .int (Int32.ofInt p1), .int (Int32.ofInt p2)] M Qm Xm :=
  XI.mk hlt hκ (by decide +kernel) rfl (Nat.le_of_ble_eq_true rfl) (lv := [(0, .ref (α 10 0)), (1, .int (Int32.ofInt p1)), (2, .int (Int32.ofInt p2))]) rfl (fun p e s m args below meth c ls X T hR hS hl => t_X9_carriedByCells X T hp1 hp2 hw _ _ hR hS ls hl)
theorem cx_X9_carriedByCells {cc : ByteArray} {nL : Nat} {own : String} {ret : Option FieldType} {idx pc : Nat} {p1 : Int} {p2 : Int} (X : CX p m c cc nL s args own G B κ meth ret) (T : XT l c) (hp1 : inR p1) (hp2 : inR p2) {k mc ms cells slots : Nat} (hk : 8 + 1 ≤ k) (hcel : cells + 3 ≤ mc ∧ slots + 18 ≤ ms) {M : Mem} {H : Heap} {locs : List Loc} (hR : Rp G e0 α κ B M H) (hS : va_S (fun q => B ≤ q) s.heap H locs) (k1 : Cond.methodLink own idx yX9_carriedByCells ∈ gw) {ls : Array Slot} (hml : ls.size = nL) {rest : List Value} (hd : decode cc pc = .ok (.invokevirtual idx, 3)) (hrest : (rest.map fun v => v.category).sum ≤ 8) {Qc : Array Value → State → Outcome → State → Prop} {Qm : Int → Mem → Prop} {Xm : String → Mem → Prop} (hw : wp_X9_carriedByCells p1 p2 M Xm Qm) (kk : ∀ (r : Int) (M1 : Mem) (H1 : Heap) (locs1 : List Loc), Qm r M1 → inR r → Rp G e0 α κ B M1 H1 → va_S (fun q => B ≤ q) s.heap H1 locs1 → W p l e (rmX k mc ms) s m args below meth c H1 locs1 (cells + 3) (slots + 18) (vx_MQ below Qc (XQ G e0 α κ B Xm) args s mc ms (fun q => B ≤ q)) (F0 m (pc + 3) ls (.int (Int32.ofInt r) :: rest))) : W p l e (rmX k mc ms) s m args below meth c H locs cells slots (vx_MQ below Qc (XQ G e0 α κ B Xm) args s mc ms (fun q => B ≤ q)) (F0 m pc ls (.int (Int32.ofInt p2) :: .int (Int32.ofInt p1) :: .ref (α 10 0) :: rest)) :=
  sx_callVI 8 (n := 2) (As := [.int (Int32.ofInt p1), .int (Int32.ofInt p2)]) (rest := rest) X T hR hS (m_X9_carriedByCells T.1 X.2.2.1 hp1 hp2 hw) k1 kw_1520 kw_1521 kw_94 kw_1522 ⟨rfl, by decide +kernel, by decide +kernel, by decide +kernel⟩ (rm_ok rmX_ok hk (by decide)) (rc_10 X hR (okf X.2.2.1 rfl)) rfl rfl hrest hml hd hcel kk
end
