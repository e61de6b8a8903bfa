theorem dX6_linesOfItem_0 : decode cX6_linesOfItem 0 = .ok (.iconst 0, 1) := by decide +kernel
theorem dX6_linesOfItem_1 : decode cX6_linesOfItem 1 = .ok (.istore 4, 2) := by decide +kernel
theorem dX6_linesOfItem_3 : decode cX6_linesOfItem 3 = .ok (.iconst 0, 1) := by decide +kernel
theorem dX6_linesOfItem_4 : decode cX6_linesOfItem 4 = .ok (.iload_n 2, 1) := by decide +kernel
theorem dX6_linesOfItem_5 : decode cX6_linesOfItem 5 = .ok (.invokestatic 62, 3) := by decide +kernel
theorem dX6_linesOfItem_8 : decode cX6_linesOfItem 8 = .ok (.istore 5, 2) := by decide +kernel
theorem dX6_linesOfItem_10 : decode cX6_linesOfItem 10 = .ok (.iload 5, 2) := by decide +kernel
theorem dX6_linesOfItem_12 : decode cX6_linesOfItem 12 = .ok (.iload_n 3, 1) := by decide +kernel
theorem dX6_linesOfItem_13 : decode cX6_linesOfItem 13 = .ok (.if_icmp .ge 45, 3) := by decide +kernel
theorem dX6_linesOfItem_16 : decode cX6_linesOfItem 16 = .ok (.iload 5, 2) := by decide +kernel
theorem dX6_linesOfItem_18 : decode cX6_linesOfItem 18 = .ok (.aload_n 0, 1) := by decide +kernel
theorem dX6_linesOfItem_19 : decode cX6_linesOfItem 19 = .ok (.getfield 47, 3) := by decide +kernel
theorem dX6_linesOfItem_22 : decode cX6_linesOfItem 22 = .ok (.if_icmp .ge 36, 3) := by decide +kernel
theorem dX6_linesOfItem_25 : decode cX6_linesOfItem 25 = .ok (.iload 4, 2) := by decide +kernel
theorem dX6_linesOfItem_27 : decode cX6_linesOfItem 27 = .ok (.aload_n 0, 1) := by decide +kernel
theorem dX6_linesOfItem_28 : decode cX6_linesOfItem 28 = .ok (.getfield 9, 3) := by decide +kernel
theorem dX6_linesOfItem_31 : decode cX6_linesOfItem 31 = .ok (.iload 5, 2) := by decide +kernel
theorem dX6_linesOfItem_33 : decode cX6_linesOfItem 33 = .ok (.iaload, 1) := by decide +kernel
theorem dX6_linesOfItem_34 : decode cX6_linesOfItem 34 = .ok (.iload_n 1, 1) := by decide +kernel
theorem dX6_linesOfItem_35 : decode cX6_linesOfItem 35 = .ok (.if_icmp .ne 13, 3) := by decide +kernel
theorem dX6_linesOfItem_38 : decode cX6_linesOfItem 38 = .ok (.aload_n 0, 1) := by decide +kernel
theorem dX6_linesOfItem_39 : decode cX6_linesOfItem 39 = .ok (.getfield 18, 3) := by decide +kernel
theorem dX6_linesOfItem_42 : decode cX6_linesOfItem 42 = .ok (.iload 5, 2) := by decide +kernel
theorem dX6_linesOfItem_44 : decode cX6_linesOfItem 44 = .ok (.iaload, 1) := by decide +kernel
theorem dX6_linesOfItem_45 : decode cX6_linesOfItem 45 = .ok (.goto 4, 3) := by decide +kernel
theorem dX6_linesOfItem_48 : decode cX6_linesOfItem 48 = .ok (.iconst 0, 1) := by decide +kernel
theorem dX6_linesOfItem_49 : decode cX6_linesOfItem 49 = .ok (.iadd, 1) := by decide +kernel
theorem dX6_linesOfItem_50 : decode cX6_linesOfItem 50 = .ok (.istore 4, 2) := by decide +kernel
theorem dX6_linesOfItem_52 : decode cX6_linesOfItem 52 = .ok (.iinc 5 1, 3) := by decide +kernel
theorem dX6_linesOfItem_55 : decode cX6_linesOfItem 55 = .ok (.goto (-45), 3) := by decide +kernel
theorem dX6_linesOfItem_58 : decode cX6_linesOfItem 58 = .ok (.iload 4, 2) := by decide +kernel
theorem dX6_linesOfItem_60 : decode cX6_linesOfItem 60 = .ok (.ireturn, 1) := by decide +kernel
theorem dX6_carriedOut_0 : decode cX6_carriedOut 0 = .ok (.aload_n 0, 1) := by decide +kernel
theorem dX6_carriedOut_1 : decode cX6_carriedOut 1 = .ok (.iload_n 1, 1) := by decide +kernel
theorem dX6_carriedOut_2 : decode cX6_carriedOut 2 = .ok (.invokevirtual 54, 3) := by decide +kernel
theorem dX6_carriedOut_5 : decode cX6_carriedOut 5 = .ok (.ifCond .eq 17, 3) := by decide +kernel
theorem dX6_carriedOut_8 : decode cX6_carriedOut 8 = .ok (.iload_n 2, 1) := by decide +kernel
theorem dX6_carriedOut_9 : decode cX6_carriedOut 9 = .ok (.ifCond .lt 13, 3) := by decide +kernel
theorem dX6_carriedOut_12 : decode cX6_carriedOut 12 = .ok (.iload_n 2, 1) := by decide +kernel
theorem dX6_carriedOut_13 : decode cX6_carriedOut 13 = .ok (.bipush 6, 2) := by decide +kernel
theorem dX6_carriedOut_15 : decode cX6_carriedOut 15 = .ok (.if_icmp .ge 7, 3) := by decide +kernel
theorem dX6_carriedOut_18 : decode cX6_carriedOut 18 = .ok (.iconst 1, 1) := by decide +kernel
theorem dX6_carriedOut_19 : decode cX6_carriedOut 19 = .ok (.goto 4, 3) := by decide +kernel
theorem dX6_carriedOut_22 : decode cX6_carriedOut 22 = .ok (.iconst 0, 1) := by decide +kernel
theorem dX6_carriedOut_23 : decode cX6_carriedOut 23 = .ok (.istore_n 3, 1) := by decide +kernel
theorem dX6_carriedOut_24 : decode cX6_carriedOut 24 = .ok (.iload_n 3, 1) := by decide +kernel
theorem dX6_carriedOut_25 : decode cX6_carriedOut 25 = .ok (.ifCond .eq 17, 3) := by decide +kernel
theorem dX6_carriedOut_28 : decode cX6_carriedOut 28 = .ok (.aload_n 0, 1) := by decide +kernel
theorem dX6_carriedOut_29 : decode cX6_carriedOut 29 = .ok (.getfield 30, 3) := by decide +kernel
theorem dX6_carriedOut_32 : decode cX6_carriedOut 32 = .ok (.iload_n 1, 1) := by decide +kernel
theorem dX6_carriedOut_33 : decode cX6_carriedOut 33 = .ok (.bipush 6, 2) := by decide +kernel
theorem dX6_carriedOut_35 : decode cX6_carriedOut 35 = .ok (.imul, 1) := by decide +kernel
theorem dX6_carriedOut_36 : decode cX6_carriedOut 36 = .ok (.iload_n 2, 1) := by decide +kernel
theorem dX6_carriedOut_37 : decode cX6_carriedOut 37 = .ok (.iadd, 1) := by decide +kernel
theorem dX6_carriedOut_38 : decode cX6_carriedOut 38 = .ok (.iaload, 1) := by decide +kernel
theorem dX6_carriedOut_39 : decode cX6_carriedOut 39 = .ok (.goto 4, 3) := by decide +kernel
theorem dX6_carriedOut_42 : decode cX6_carriedOut 42 = .ok (.iconst 0, 1) := by decide +kernel
theorem dX6_carriedOut_43 : decode cX6_carriedOut 43 = .ok (.ireturn, 1) := by decide +kernel
theorem dX6_addFrame_0 : decode cX6_addFrame 0 = .ok (.iconst 0, 1) := by decide +kernel
theorem dX6_addFrame_1 : decode cX6_addFrame 1 = .ok (.istore_n 3, 1) := by decide +kernel
theorem dX6_addFrame_2 : decode cX6_addFrame 2 = .ok (.iload_n 3, 1) := by decide +kernel
theorem dX6_addFrame_3 : decode cX6_addFrame 3 = .ok (.aload_n 0, 1) := by decide +kernel
theorem dX6_addFrame_4 : decode cX6_addFrame 4 = .ok (.getfield 44, 3) := by decide +kernel
theorem dX6_addFrame_7 : decode cX6_addFrame 7 = .ok (.if_icmp .ge 70, 3) := by decide +kernel
theorem dX6_addFrame_10 : decode cX6_addFrame 10 = .ok (.iload_n 3, 1) := by decide +kernel
theorem dX6_addFrame_11 : decode cX6_addFrame 11 = .ok (.sipush 904, 3) := by decide +kernel
theorem dX6_addFrame_14 : decode cX6_addFrame 14 = .ok (.if_icmp .ge 63, 3) := by decide +kernel
theorem dX6_addFrame_17 : decode cX6_addFrame 17 = .ok (.aload_n 0, 1) := by decide +kernel
theorem dX6_addFrame_18 : decode cX6_addFrame 18 = .ok (.getfield 24, 3) := by decide +kernel
theorem dX6_addFrame_21 : decode cX6_addFrame 21 = .ok (.iload_n 3, 1) := by decide +kernel
theorem dX6_addFrame_22 : decode cX6_addFrame 22 = .ok (.dup2, 1) := by decide +kernel
theorem dX6_addFrame_23 : decode cX6_addFrame 23 = .ok (.iaload, 1) := by decide +kernel
theorem dX6_addFrame_24 : decode cX6_addFrame 24 = .ok (.iload_n 1, 1) := by decide +kernel
theorem dX6_addFrame_25 : decode cX6_addFrame 25 = .ok (.iadd, 1) := by decide +kernel
theorem dX6_addFrame_26 : decode cX6_addFrame 26 = .ok (.iastore, 1) := by decide +kernel
theorem dX6_addFrame_27 : decode cX6_addFrame 27 = .ok (.aload_n 0, 1) := by decide +kernel
theorem dX6_addFrame_28 : decode cX6_addFrame 28 = .ok (.getfield 24, 3) := by decide +kernel
theorem dX6_addFrame_31 : decode cX6_addFrame 31 = .ok (.iload_n 3, 1) := by decide +kernel
theorem dX6_addFrame_32 : decode cX6_addFrame 32 = .ok (.dup2, 1) := by decide +kernel
theorem dX6_addFrame_33 : decode cX6_addFrame 33 = .ok (.iaload, 1) := by decide +kernel
theorem dX6_addFrame_34 : decode cX6_addFrame 34 = .ok (.iload_n 3, 1) := by decide +kernel
theorem dX6_addFrame_35 : decode cX6_addFrame 35 = .ok (.ifCond .le 9, 3) := by decide +kernel
theorem dX6_addFrame_38 : decode cX6_addFrame 38 = .ok (.iconst 1, 1) := by decide +kernel
theorem dX6_addFrame_39 : decode cX6_addFrame 39 = .ok (.iload_n 2, 1) := by decide +kernel
theorem dX6_addFrame_40 : decode cX6_addFrame 40 = .ok (.iadd, 1) := by decide +kernel
theorem dX6_addFrame_41 : decode cX6_addFrame 41 = .ok (.goto 4, 3) := by decide +kernel
theorem dX6_addFrame_44 : decode cX6_addFrame 44 = .ok (.iconst 0, 1) := by decide +kernel
theorem dX6_addFrame_45 : decode cX6_addFrame 45 = .ok (.iadd, 1) := by decide +kernel
theorem dX6_addFrame_46 : decode cX6_addFrame 46 = .ok (.iastore, 1) := by decide +kernel
theorem dX6_addFrame_47 : decode cX6_addFrame 47 = .ok (.aload_n 0, 1) := by decide +kernel
theorem dX6_addFrame_48 : decode cX6_addFrame 48 = .ok (.getfield 24, 3) := by decide +kernel
theorem dX6_addFrame_51 : decode cX6_addFrame 51 = .ok (.iload_n 3, 1) := by decide +kernel
theorem dX6_addFrame_52 : decode cX6_addFrame 52 = .ok (.dup2, 1) := by decide +kernel
theorem dX6_addFrame_53 : decode cX6_addFrame 53 = .ok (.iaload, 1) := by decide +kernel
theorem dX6_addFrame_54 : decode cX6_addFrame 54 = .ok (.iload_n 3, 1) := by decide +kernel
theorem dX6_addFrame_55 : decode cX6_addFrame 55 = .ok (.aload_n 0, 1) := by decide +kernel
theorem dX6_addFrame_56 : decode cX6_addFrame 56 = .ok (.getfield 44, 3) := by decide +kernel
theorem dX6_addFrame_59 : decode cX6_addFrame 59 = .ok (.iconst 1, 1) := by decide +kernel
theorem dX6_addFrame_60 : decode cX6_addFrame 60 = .ok (.isub, 1) := by decide +kernel
theorem dX6_addFrame_61 : decode cX6_addFrame 61 = .ok (.if_icmp .ge 7, 3) := by decide +kernel
theorem dX6_addFrame_64 : decode cX6_addFrame 64 = .ok (.iload_n 2, 1) := by decide +kernel
theorem dX6_addFrame_65 : decode cX6_addFrame 65 = .ok (.goto 4, 3) := by decide +kernel
theorem dX6_addFrame_68 : decode cX6_addFrame 68 = .ok (.iconst 0, 1) := by decide +kernel
theorem dX6_addFrame_69 : decode cX6_addFrame 69 = .ok (.iadd, 1) := by decide +kernel
theorem dX6_addFrame_70 : decode cX6_addFrame 70 = .ok (.iastore, 1) := by decide +kernel
theorem dX6_addFrame_71 : decode cX6_addFrame 71 = .ok (.iinc 3 1, 3) := by decide +kernel
theorem dX6_addFrame_74 : decode cX6_addFrame 74 = .ok (.goto (-72), 3) := by decide +kernel
theorem dX6_addFrame_77 : decode cX6_addFrame 77 = .ok (.return_, 1) := by decide +kernel
theorem dX6_addFigures_0 : decode cX6_addFigures 0 = .ok (.iconst 0, 1) := by decide +kernel
theorem dX6_addFigures_1 : decode cX6_addFigures 1 = .ok (.istore 4, 2) := by decide +kernel
theorem dX6_addFigures_3 : decode cX6_addFigures 3 = .ok (.iload 4, 2) := by decide +kernel
theorem dX6_addFigures_5 : decode cX6_addFigures 5 = .ok (.bipush 6, 2) := by decide +kernel
theorem dX6_addFigures_7 : decode cX6_addFigures 7 = .ok (.if_icmp .ge 39, 3) := by decide +kernel
theorem dX6_addFigures_10 : decode cX6_addFigures 10 = .ok (.aload_n 0, 1) := by decide +kernel
theorem dX6_addFigures_11 : decode cX6_addFigures 11 = .ok (.iload_n 2, 1) := by decide +kernel
theorem dX6_addFigures_12 : decode cX6_addFigures 12 = .ok (.invokevirtual 54, 3) := by decide +kernel
theorem dX6_addFigures_15 : decode cX6_addFigures 15 = .ok (.ifCond .eq 31, 3) := by decide +kernel
theorem dX6_addFigures_18 : decode cX6_addFigures 18 = .ok (.aload_n 0, 1) := by decide +kernel
theorem dX6_addFigures_19 : decode cX6_addFigures 19 = .ok (.getfield 30, 3) := by decide +kernel
theorem dX6_addFigures_22 : decode cX6_addFigures 22 = .ok (.iload_n 2, 1) := by decide +kernel
theorem dX6_addFigures_23 : decode cX6_addFigures 23 = .ok (.bipush 6, 2) := by decide +kernel
theorem dX6_addFigures_25 : decode cX6_addFigures 25 = .ok (.imul, 1) := by decide +kernel
theorem dX6_addFigures_26 : decode cX6_addFigures 26 = .ok (.iload 4, 2) := by decide +kernel
theorem dX6_addFigures_28 : decode cX6_addFigures 28 = .ok (.iadd, 1) := by decide +kernel
theorem dX6_addFigures_29 : decode cX6_addFigures 29 = .ok (.dup2, 1) := by decide +kernel
theorem dX6_addFigures_30 : decode cX6_addFigures 30 = .ok (.iaload, 1) := by decide +kernel
theorem dX6_addFigures_31 : decode cX6_addFigures 31 = .ok (.aload_n 3, 1) := by decide +kernel
theorem dX6_addFigures_32 : decode cX6_addFigures 32 = .ok (.aload_n 1, 1) := by decide +kernel
theorem dX6_addFigures_33 : decode cX6_addFigures 33 = .ok (.iload 4, 2) := by decide +kernel
theorem dX6_addFigures_35 : decode cX6_addFigures 35 = .ok (.invokevirtual 98, 3) := by decide +kernel
theorem dX6_addFigures_38 : decode cX6_addFigures 38 = .ok (.iadd, 1) := by decide +kernel
theorem dX6_addFigures_39 : decode cX6_addFigures 39 = .ok (.iastore, 1) := by decide +kernel
theorem dX6_addFigures_40 : decode cX6_addFigures 40 = .ok (.iinc 4 1, 3) := by decide +kernel
theorem dX6_addFigures_43 : decode cX6_addFigures 43 = .ok (.goto (-40), 3) := by decide +kernel
theorem dX6_addFigures_46 : decode cX6_addFigures 46 = .ok (.return_, 1) := by decide +kernel
theorem dX6_hasSamePieces_0 : decode cX6_hasSamePieces 0 = .ok (.aload_n 0, 1) := by decide +kernel
theorem dX6_hasSamePieces_1 : decode cX6_hasSamePieces 1 = .ok (.iload_n 1, 1) := by decide +kernel
theorem dX6_hasSamePieces_2 : decode cX6_hasSamePieces 2 = .ok (.invokevirtual 58, 3) := by decide +kernel
theorem dX6_hasSamePieces_5 : decode cX6_hasSamePieces 5 = .ok (.istore_n 3, 1) := by decide +kernel
theorem dX6_hasSamePieces_6 : decode cX6_hasSamePieces 6 = .ok (.aload_n 2, 1) := by decide +kernel
theorem dX6_hasSamePieces_7 : decode cX6_hasSamePieces 7 = .ok (.iload_n 1, 1) := by decide +kernel
theorem dX6_hasSamePieces_8 : decode cX6_hasSamePieces 8 = .ok (.invokevirtual 58, 3) := by decide +kernel
theorem dX6_hasSamePieces_11 : decode cX6_hasSamePieces 11 = .ok (.istore 4, 2) := by decide +kernel
theorem dX6_hasSamePieces_13 : decode cX6_hasSamePieces 13 = .ok (.aload_n 0, 1) := by decide +kernel
theorem dX6_hasSamePieces_14 : decode cX6_hasSamePieces 14 = .ok (.iload_n 1, 1) := by decide +kernel
theorem dX6_hasSamePieces_15 : decode cX6_hasSamePieces 15 = .ok (.invokevirtual 71, 3) := by decide +kernel
theorem dX6_hasSamePieces_18 : decode cX6_hasSamePieces 18 = .ok (.iload_n 3, 1) := by decide +kernel
theorem dX6_hasSamePieces_19 : decode cX6_hasSamePieces 19 = .ok (.isub, 1) := by decide +kernel
theorem dX6_hasSamePieces_20 : decode cX6_hasSamePieces 20 = .ok (.istore 5, 2) := by decide +kernel
theorem dX6_hasSamePieces_22 : decode cX6_hasSamePieces 22 = .ok (.iload 5, 2) := by decide +kernel
theorem dX6_hasSamePieces_24 : decode cX6_hasSamePieces 24 = .ok (.aload_n 2, 1) := by decide +kernel
theorem dX6_hasSamePieces_25 : decode cX6_hasSamePieces 25 = .ok (.iload_n 1, 1) := by decide +kernel
theorem dX6_hasSamePieces_26 : decode cX6_hasSamePieces 26 = .ok (.invokevirtual 71, 3) := by decide +kernel
theorem dX6_hasSamePieces_29 : decode cX6_hasSamePieces 29 = .ok (.iload 4, 2) := by decide +kernel
theorem dX6_hasSamePieces_31 : decode cX6_hasSamePieces 31 = .ok (.isub, 1) := by decide +kernel
theorem dX6_hasSamePieces_32 : decode cX6_hasSamePieces 32 = .ok (.if_icmp .eq 5, 3) := by decide +kernel
theorem dX6_hasSamePieces_35 : decode cX6_hasSamePieces 35 = .ok (.iconst 0, 1) := by decide +kernel
theorem dX6_hasSamePieces_36 : decode cX6_hasSamePieces 36 = .ok (.ireturn, 1) := by decide +kernel
theorem dX6_hasSamePieces_37 : decode cX6_hasSamePieces 37 = .ok (.iconst 0, 1) := by decide +kernel
theorem dX6_hasSamePieces_38 : decode cX6_hasSamePieces 38 = .ok (.istore 6, 2) := by decide +kernel
theorem dX6_hasSamePieces_40 : decode cX6_hasSamePieces 40 = .ok (.iload 6, 2) := by decide +kernel
theorem dX6_hasSamePieces_42 : decode cX6_hasSamePieces 42 = .ok (.iload 5, 2) := by decide +kernel
theorem dX6_hasSamePieces_44 : decode cX6_hasSamePieces 44 = .ok (.if_icmp .ge 110, 3) := by decide +kernel
theorem dX6_hasSamePieces_47 : decode cX6_hasSamePieces 47 = .ok (.iload_n 3, 1) := by decide +kernel
theorem dX6_hasSamePieces_48 : decode cX6_hasSamePieces 48 = .ok (.iload 6, 2) := by decide +kernel
theorem dX6_hasSamePieces_50 : decode cX6_hasSamePieces 50 = .ok (.iadd, 1) := by decide +kernel
theorem dX6_hasSamePieces_51 : decode cX6_hasSamePieces 51 = .ok (.sipush 904, 3) := by decide +kernel
theorem dX6_hasSamePieces_54 : decode cX6_hasSamePieces 54 = .ok (.if_icmp .ge 100, 3) := by decide +kernel
theorem dX6_hasSamePieces_57 : decode cX6_hasSamePieces 57 = .ok (.iload 4, 2) := by decide +kernel
theorem dX6_hasSamePieces_59 : decode cX6_hasSamePieces 59 = .ok (.iload 6, 2) := by decide +kernel
theorem dX6_hasSamePieces_61 : decode cX6_hasSamePieces 61 = .ok (.iadd, 1) := by decide +kernel
theorem dX6_hasSamePieces_62 : decode cX6_hasSamePieces 62 = .ok (.sipush 904, 3) := by decide +kernel
theorem dX6_hasSamePieces_65 : decode cX6_hasSamePieces 65 = .ok (.if_icmp .ge 89, 3) := by decide +kernel
theorem dX6_hasSamePieces_68 : decode cX6_hasSamePieces 68 = .ok (.aload_n 0, 1) := by decide +kernel
theorem dX6_hasSamePieces_69 : decode cX6_hasSamePieces 69 = .ok (.getfield 9, 3) := by decide +kernel
theorem dX6_hasSamePieces_72 : decode cX6_hasSamePieces 72 = .ok (.iload_n 3, 1) := by decide +kernel
theorem dX6_hasSamePieces_73 : decode cX6_hasSamePieces 73 = .ok (.iload 6, 2) := by decide +kernel
theorem dX6_hasSamePieces_75 : decode cX6_hasSamePieces 75 = .ok (.iadd, 1) := by decide +kernel
theorem dX6_hasSamePieces_76 : decode cX6_hasSamePieces 76 = .ok (.iaload, 1) := by decide +kernel
theorem dX6_hasSamePieces_77 : decode cX6_hasSamePieces 77 = .ok (.aload_n 2, 1) := by decide +kernel
theorem dX6_hasSamePieces_78 : decode cX6_hasSamePieces 78 = .ok (.getfield 9, 3) := by decide +kernel
theorem dX6_hasSamePieces_81 : decode cX6_hasSamePieces 81 = .ok (.iload 4, 2) := by decide +kernel
theorem dX6_hasSamePieces_83 : decode cX6_hasSamePieces 83 = .ok (.iload 6, 2) := by decide +kernel
theorem dX6_hasSamePieces_85 : decode cX6_hasSamePieces 85 = .ok (.iadd, 1) := by decide +kernel
theorem dX6_hasSamePieces_86 : decode cX6_hasSamePieces 86 = .ok (.iaload, 1) := by decide +kernel
theorem dX6_hasSamePieces_87 : decode cX6_hasSamePieces 87 = .ok (.if_icmp .ne 51, 3) := by decide +kernel
theorem dX6_hasSamePieces_90 : decode cX6_hasSamePieces 90 = .ok (.aload_n 0, 1) := by decide +kernel
theorem dX6_hasSamePieces_91 : decode cX6_hasSamePieces 91 = .ok (.getfield 15, 3) := by decide +kernel
theorem dX6_hasSamePieces_94 : decode cX6_hasSamePieces 94 = .ok (.iload_n 3, 1) := by decide +kernel
theorem dX6_hasSamePieces_95 : decode cX6_hasSamePieces 95 = .ok (.iload 6, 2) := by decide +kernel
theorem dX6_hasSamePieces_97 : decode cX6_hasSamePieces 97 = .ok (.iadd, 1) := by decide +kernel
theorem dX6_hasSamePieces_98 : decode cX6_hasSamePieces 98 = .ok (.iaload, 1) := by decide +kernel
theorem dX6_hasSamePieces_99 : decode cX6_hasSamePieces 99 = .ok (.aload_n 2, 1) := by decide +kernel
theorem dX6_hasSamePieces_100 : decode cX6_hasSamePieces 100 = .ok (.getfield 15, 3) := by decide +kernel
theorem dX6_hasSamePieces_103 : decode cX6_hasSamePieces 103 = .ok (.iload 4, 2) := by decide +kernel
theorem dX6_hasSamePieces_105 : decode cX6_hasSamePieces 105 = .ok (.iload 6, 2) := by decide +kernel
theorem dX6_hasSamePieces_107 : decode cX6_hasSamePieces 107 = .ok (.iadd, 1) := by decide +kernel
theorem dX6_hasSamePieces_108 : decode cX6_hasSamePieces 108 = .ok (.iaload, 1) := by decide +kernel
theorem dX6_hasSamePieces_109 : decode cX6_hasSamePieces 109 = .ok (.if_icmp .ne 29, 3) := by decide +kernel
theorem dX6_hasSamePieces_112 : decode cX6_hasSamePieces 112 = .ok (.aload_n 0, 1) := by decide +kernel
theorem dX6_hasSamePieces_113 : decode cX6_hasSamePieces 113 = .ok (.getfield 18, 3) := by decide +kernel
theorem dX6_hasSamePieces_116 : decode cX6_hasSamePieces 116 = .ok (.iload_n 3, 1) := by decide +kernel
theorem dX6_hasSamePieces_117 : decode cX6_hasSamePieces 117 = .ok (.iload 6, 2) := by decide +kernel
theorem dX6_hasSamePieces_119 : decode cX6_hasSamePieces 119 = .ok (.iadd, 1) := by decide +kernel
theorem dX6_hasSamePieces_120 : decode cX6_hasSamePieces 120 = .ok (.iaload, 1) := by decide +kernel
theorem dX6_hasSamePieces_121 : decode cX6_hasSamePieces 121 = .ok (.aload_n 2, 1) := by decide +kernel
theorem dX6_hasSamePieces_122 : decode cX6_hasSamePieces 122 = .ok (.getfield 18, 3) := by decide +kernel
theorem dX6_hasSamePieces_125 : decode cX6_hasSamePieces 125 = .ok (.iload 4, 2) := by decide +kernel
theorem dX6_hasSamePieces_127 : decode cX6_hasSamePieces 127 = .ok (.iload 6, 2) := by decide +kernel
theorem dX6_hasSamePieces_129 : decode cX6_hasSamePieces 129 = .ok (.iadd, 1) := by decide +kernel
theorem dX6_hasSamePieces_130 : decode cX6_hasSamePieces 130 = .ok (.iaload, 1) := by decide +kernel
theorem dX6_hasSamePieces_131 : decode cX6_hasSamePieces 131 = .ok (.if_icmp .ne 7, 3) := by decide +kernel
theorem dX6_hasSamePieces_134 : decode cX6_hasSamePieces 134 = .ok (.iconst 1, 1) := by decide +kernel
theorem dX6_hasSamePieces_135 : decode cX6_hasSamePieces 135 = .ok (.goto 4, 3) := by decide +kernel
theorem dX6_hasSamePieces_138 : decode cX6_hasSamePieces 138 = .ok (.iconst 0, 1) := by decide +kernel
theorem dX6_hasSamePieces_139 : decode cX6_hasSamePieces 139 = .ok (.istore 7, 2) := by decide +kernel
theorem dX6_hasSamePieces_141 : decode cX6_hasSamePieces 141 = .ok (.iload 7, 2) := by decide +kernel
theorem dX6_hasSamePieces_143 : decode cX6_hasSamePieces 143 = .ok (.ifCond .ne 5, 3) := by decide +kernel
theorem dX6_hasSamePieces_146 : decode cX6_hasSamePieces 146 = .ok (.iconst 0, 1) := by decide +kernel
theorem dX6_hasSamePieces_147 : decode cX6_hasSamePieces 147 = .ok (.ireturn, 1) := by decide +kernel
theorem dX6_hasSamePieces_148 : decode cX6_hasSamePieces 148 = .ok (.iinc 6 1, 3) := by decide +kernel
theorem dX6_hasSamePieces_151 : decode cX6_hasSamePieces 151 = .ok (.goto (-111), 3) := by decide +kernel
theorem dX6_hasSamePieces_154 : decode cX6_hasSamePieces 154 = .ok (.iconst 1, 1) := by decide +kernel
theorem dX6_hasSamePieces_155 : decode cX6_hasSamePieces 155 = .ok (.ireturn, 1) := by decide +kernel
theorem dX6_takeFrom_0 : decode cX6_takeFrom 0 = .ok (.aload_n 0, 1) := by decide +kernel
theorem dX6_takeFrom_1 : decode cX6_takeFrom 1 = .ok (.aload_n 1, 1) := by decide +kernel
theorem dX6_takeFrom_2 : decode cX6_takeFrom 2 = .ok (.getfield 44, 3) := by decide +kernel
theorem dX6_takeFrom_5 : decode cX6_takeFrom 5 = .ok (.putfield 44, 3) := by decide +kernel
theorem dX6_takeFrom_8 : decode cX6_takeFrom 8 = .ok (.aload_n 0, 1) := by decide +kernel
theorem dX6_takeFrom_9 : decode cX6_takeFrom 9 = .ok (.aload_n 1, 1) := by decide +kernel
theorem dX6_takeFrom_10 : decode cX6_takeFrom 10 = .ok (.getfield 47, 3) := by decide +kernel
theorem dX6_takeFrom_13 : decode cX6_takeFrom 13 = .ok (.putfield 47, 3) := by decide +kernel
theorem dX6_takeFrom_16 : decode cX6_takeFrom 16 = .ok (.aload_n 0, 1) := by decide +kernel
theorem dX6_takeFrom_17 : decode cX6_takeFrom 17 = .ok (.aload_n 1, 1) := by decide +kernel
theorem dX6_takeFrom_18 : decode cX6_takeFrom 18 = .ok (.getfield 36, 3) := by decide +kernel
theorem dX6_takeFrom_21 : decode cX6_takeFrom 21 = .ok (.putfield 36, 3) := by decide +kernel
theorem dX6_takeFrom_24 : decode cX6_takeFrom 24 = .ok (.aload_n 0, 1) := by decide +kernel
theorem dX6_takeFrom_25 : decode cX6_takeFrom 25 = .ok (.getfield 47, 3) := by decide +kernel
theorem dX6_takeFrom_28 : decode cX6_takeFrom 28 = .ok (.sipush 904, 3) := by decide +kernel
theorem dX6_takeFrom_31 : decode cX6_takeFrom 31 = .ok (.invokestatic 74, 3) := by decide +kernel
theorem dX6_takeFrom_34 : decode cX6_takeFrom 34 = .ok (.istore_n 2, 1) := by decide +kernel
theorem dX6_takeFrom_35 : decode cX6_takeFrom 35 = .ok (.aload_n 0, 1) := by decide +kernel
theorem dX6_takeFrom_36 : decode cX6_takeFrom 36 = .ok (.getfield 44, 3) := by decide +kernel
theorem dX6_takeFrom_39 : decode cX6_takeFrom 39 = .ok (.sipush 904, 3) := by decide +kernel
theorem dX6_takeFrom_42 : decode cX6_takeFrom 42 = .ok (.invokestatic 74, 3) := by decide +kernel
theorem dX6_takeFrom_45 : decode cX6_takeFrom 45 = .ok (.istore_n 3, 1) := by decide +kernel
theorem dX6_takeFrom_46 : decode cX6_takeFrom 46 = .ok (.aload_n 1, 1) := by decide +kernel
theorem dX6_takeFrom_47 : decode cX6_takeFrom 47 = .ok (.getfield 9, 3) := by decide +kernel
theorem dX6_takeFrom_50 : decode cX6_takeFrom 50 = .ok (.iconst 0, 1) := by decide +kernel
theorem dX6_takeFrom_51 : decode cX6_takeFrom 51 = .ok (.aload_n 0, 1) := by decide +kernel
theorem dX6_takeFrom_52 : decode cX6_takeFrom 52 = .ok (.getfield 9, 3) := by decide +kernel
theorem dX6_takeFrom_55 : decode cX6_takeFrom 55 = .ok (.iconst 0, 1) := by decide +kernel
theorem dX6_takeFrom_56 : decode cX6_takeFrom 56 = .ok (.iload_n 2, 1) := by decide +kernel
theorem dX6_takeFrom_57 : decode cX6_takeFrom 57 = .ok (.invokestatic 109, 3) := by decide +kernel
theorem dX6_takeFrom_60 : decode cX6_takeFrom 60 = .ok (.aload_n 1, 1) := by decide +kernel
theorem dX6_takeFrom_61 : decode cX6_takeFrom 61 = .ok (.getfield 15, 3) := by decide +kernel
theorem dX6_takeFrom_64 : decode cX6_takeFrom 64 = .ok (.iconst 0, 1) := by decide +kernel
theorem dX6_takeFrom_65 : decode cX6_takeFrom 65 = .ok (.aload_n 0, 1) := by decide +kernel
theorem dX6_takeFrom_66 : decode cX6_takeFrom 66 = .ok (.getfield 15, 3) := by decide +kernel
theorem dX6_takeFrom_69 : decode cX6_takeFrom 69 = .ok (.iconst 0, 1) := by decide +kernel
theorem dX6_takeFrom_70 : decode cX6_takeFrom 70 = .ok (.iload_n 2, 1) := by decide +kernel
theorem dX6_takeFrom_71 : decode cX6_takeFrom 71 = .ok (.invokestatic 109, 3) := by decide +kernel
theorem dX6_takeFrom_74 : decode cX6_takeFrom 74 = .ok (.aload_n 1, 1) := by decide +kernel
theorem dX6_takeFrom_75 : decode cX6_takeFrom 75 = .ok (.getfield 18, 3) := by decide +kernel
theorem dX6_takeFrom_78 : decode cX6_takeFrom 78 = .ok (.iconst 0, 1) := by decide +kernel
theorem dX6_takeFrom_79 : decode cX6_takeFrom 79 = .ok (.aload_n 0, 1) := by decide +kernel
theorem dX6_takeFrom_80 : decode cX6_takeFrom 80 = .ok (.getfield 18, 3) := by decide +kernel
theorem dX6_takeFrom_83 : decode cX6_takeFrom 83 = .ok (.iconst 0, 1) := by decide +kernel
theorem dX6_takeFrom_84 : decode cX6_takeFrom 84 = .ok (.iload_n 2, 1) := by decide +kernel
theorem dX6_takeFrom_85 : decode cX6_takeFrom 85 = .ok (.invokestatic 109, 3) := by decide +kernel
theorem dX6_takeFrom_88 : decode cX6_takeFrom 88 = .ok (.aload_n 1, 1) := by decide +kernel
theorem dX6_takeFrom_89 : decode cX6_takeFrom 89 = .ok (.getfield 21, 3) := by decide +kernel
theorem dX6_takeFrom_92 : decode cX6_takeFrom 92 = .ok (.iconst 0, 1) := by decide +kernel
theorem dX6_takeFrom_93 : decode cX6_takeFrom 93 = .ok (.aload_n 0, 1) := by decide +kernel
theorem dX6_takeFrom_94 : decode cX6_takeFrom 94 = .ok (.getfield 21, 3) := by decide +kernel
theorem dX6_takeFrom_97 : decode cX6_takeFrom 97 = .ok (.iconst 0, 1) := by decide +kernel
theorem dX6_takeFrom_98 : decode cX6_takeFrom 98 = .ok (.iload_n 3, 1) := by decide +kernel
theorem dX6_takeFrom_99 : decode cX6_takeFrom 99 = .ok (.invokestatic 109, 3) := by decide +kernel
theorem dX6_takeFrom_102 : decode cX6_takeFrom 102 = .ok (.aload_n 1, 1) := by decide +kernel
theorem dX6_takeFrom_103 : decode cX6_takeFrom 103 = .ok (.getfield 27, 3) := by decide +kernel
theorem dX6_takeFrom_106 : decode cX6_takeFrom 106 = .ok (.iconst 0, 1) := by decide +kernel
theorem dX6_takeFrom_107 : decode cX6_takeFrom 107 = .ok (.aload_n 0, 1) := by decide +kernel
theorem dX6_takeFrom_108 : decode cX6_takeFrom 108 = .ok (.getfield 27, 3) := by decide +kernel
theorem dX6_takeFrom_111 : decode cX6_takeFrom 111 = .ok (.iconst 0, 1) := by decide +kernel
theorem dX6_takeFrom_112 : decode cX6_takeFrom 112 = .ok (.iload_n 3, 1) := by decide +kernel
theorem dX6_takeFrom_113 : decode cX6_takeFrom 113 = .ok (.invokestatic 109, 3) := by decide +kernel
theorem dX6_takeFrom_116 : decode cX6_takeFrom 116 = .ok (.aload_n 1, 1) := by decide +kernel
theorem dX6_takeFrom_117 : decode cX6_takeFrom 117 = .ok (.getfield 30, 3) := by decide +kernel
theorem dX6_takeFrom_120 : decode cX6_takeFrom 120 = .ok (.iconst 0, 1) := by decide +kernel
theorem dX6_takeFrom_121 : decode cX6_takeFrom 121 = .ok (.aload_n 0, 1) := by decide +kernel
theorem dX6_takeFrom_122 : decode cX6_takeFrom 122 = .ok (.getfield 30, 3) := by decide +kernel
theorem dX6_takeFrom_125 : decode cX6_takeFrom 125 = .ok (.iconst 0, 1) := by decide +kernel
theorem dX6_takeFrom_126 : decode cX6_takeFrom 126 = .ok (.iload_n 3, 1) := by decide +kernel
theorem dX6_takeFrom_127 : decode cX6_takeFrom 127 = .ok (.bipush 6, 2) := by decide +kernel
theorem dX6_takeFrom_129 : decode cX6_takeFrom 129 = .ok (.imul, 1) := by decide +kernel
theorem dX6_takeFrom_130 : decode cX6_takeFrom 130 = .ok (.invokestatic 109, 3) := by decide +kernel
theorem dX6_takeFrom_133 : decode cX6_takeFrom 133 = .ok (.return_, 1) := by decide +kernel
theorem dX8_pointOf_0 : decode cX8_pointOf 0 = .ok (.iload_n 1, 1) := by decide +kernel
theorem dX8_pointOf_1 : decode cX8_pointOf 1 = .ok (.ifCond .lt 25, 3) := by decide +kernel
theorem dX8_pointOf_4 : decode cX8_pointOf 4 = .ok (.iload_n 1, 1) := by decide +kernel
theorem dX8_pointOf_5 : decode cX8_pointOf 5 = .ok (.bipush 6, 2) := by decide +kernel
theorem dX8_pointOf_7 : decode cX8_pointOf 7 = .ok (.if_icmp .ge 19, 3) := by decide +kernel
theorem dX8_pointOf_10 : decode cX8_pointOf 10 = .ok (.aload_n 0, 1) := by decide +kernel
theorem dX8_pointOf_11 : decode cX8_pointOf 11 = .ok (.getfield 18, 3) := by decide +kernel
theorem dX8_pointOf_14 : decode cX8_pointOf 14 = .ok (.iload_n 1, 1) := by decide +kernel
theorem dX8_pointOf_15 : decode cX8_pointOf 15 = .ok (.iaload, 1) := by decide +kernel
theorem dX8_pointOf_16 : decode cX8_pointOf 16 = .ok (.aload_n 0, 1) := by decide +kernel
theorem dX8_pointOf_17 : decode cX8_pointOf 17 = .ok (.getfield 24, 3) := by decide +kernel
theorem dX8_pointOf_20 : decode cX8_pointOf 20 = .ok (.iload_n 1, 1) := by decide +kernel
theorem dX8_pointOf_21 : decode cX8_pointOf 21 = .ok (.iaload, 1) := by decide +kernel
theorem dX8_pointOf_22 : decode cX8_pointOf 22 = .ok (.isub, 1) := by decide +kernel
theorem dX8_pointOf_23 : decode cX8_pointOf 23 = .ok (.goto 4, 3) := by decide +kernel
theorem dX8_pointOf_26 : decode cX8_pointOf 26 = .ok (.iconst 0, 1) := by decide +kernel
theorem dX8_pointOf_27 : decode cX8_pointOf 27 = .ok (.ireturn, 1) := by decide +kernel
theorem dX8_measureFigures_0 : decode cX8_measureFigures 0 = .ok (.iconst 0, 1) := by decide +kernel
theorem dX8_measureFigures_1 : decode cX8_measureFigures 1 = .ok (.istore_n 1, 1) := by decide +kernel
theorem dX8_measureFigures_2 : decode cX8_measureFigures 2 = .ok (.iload_n 1, 1) := by decide +kernel
theorem dX8_measureFigures_3 : decode cX8_measureFigures 3 = .ok (.aload_n 0, 1) := by decide +kernel
theorem dX8_measureFigures_4 : decode cX8_measureFigures 4 = .ok (.getfield 33, 3) := by decide +kernel
theorem dX8_measureFigures_7 : decode cX8_measureFigures 7 = .ok (.getfield 75, 3) := by decide +kernel
theorem dX8_measureFigures_10 : decode cX8_measureFigures 10 = .ok (.invokevirtual 79, 3) := by decide +kernel
theorem dX8_measureFigures_13 : decode cX8_measureFigures 13 = .ok (.if_icmp .ge 131, 3) := by decide +kernel
theorem dX8_measureFigures_16 : decode cX8_measureFigures 16 = .ok (.aload_n 0, 1) := by decide +kernel
theorem dX8_measureFigures_17 : decode cX8_measureFigures 17 = .ok (.getfield 33, 3) := by decide +kernel
theorem dX8_measureFigures_20 : decode cX8_measureFigures 20 = .ok (.getfield 75, 3) := by decide +kernel
theorem dX8_measureFigures_23 : decode cX8_measureFigures 23 = .ok (.iload_n 1, 1) := by decide +kernel
theorem dX8_measureFigures_24 : decode cX8_measureFigures 24 = .ok (.invokevirtual 84, 3) := by decide +kernel
theorem dX8_measureFigures_27 : decode cX8_measureFigures 27 = .ok (.checkcast 88, 3) := by decide +kernel
theorem dX8_measureFigures_30 : decode cX8_measureFigures 30 = .ok (.astore_n 2, 1) := by decide +kernel
theorem dX8_measureFigures_31 : decode cX8_measureFigures 31 = .ok (.aload_n 2, 1) := by decide +kernel
theorem dX8_measureFigures_32 : decode cX8_measureFigures 32 = .ok (.invokevirtual 90, 3) := by decide +kernel
theorem dX8_measureFigures_35 : decode cX8_measureFigures 35 = .ok (.ifCond .eq 103, 3) := by decide +kernel
theorem dX8_measureFigures_38 : decode cX8_measureFigures 38 = .ok (.aload_n 2, 1) := by decide +kernel
theorem dX8_measureFigures_39 : decode cX8_measureFigures 39 = .ok (.getfield 94, 3) := by decide +kernel
theorem dX8_measureFigures_42 : decode cX8_measureFigures 42 = .ok (.bipush 6, 2) := by decide +kernel
theorem dX8_measureFigures_44 : decode cX8_measureFigures 44 = .ok (.if_icmp .ge 94, 3) := by decide +kernel
theorem dX8_measureFigures_47 : decode cX8_measureFigures 47 = .ok (.aload_n 2, 1) := by decide +kernel
theorem dX8_measureFigures_48 : decode cX8_measureFigures 48 = .ok (.getfield 94, 3) := by decide +kernel
theorem dX8_measureFigures_51 : decode cX8_measureFigures 51 = .ok (.istore_n 3, 1) := by decide +kernel
theorem dX8_measureFigures_52 : decode cX8_measureFigures 52 = .ok (.aload_n 0, 1) := by decide +kernel
theorem dX8_measureFigures_53 : decode cX8_measureFigures 53 = .ok (.getfield 21, 3) := by decide +kernel
theorem dX8_measureFigures_56 : decode cX8_measureFigures 56 = .ok (.iload_n 3, 1) := by decide +kernel
theorem dX8_measureFigures_57 : decode cX8_measureFigures 57 = .ok (.aload_n 0, 1) := by decide +kernel
theorem dX8_measureFigures_58 : decode cX8_measureFigures 58 = .ok (.getfield 21, 3) := by decide +kernel
theorem dX8_measureFigures_61 : decode cX8_measureFigures 61 = .ok (.iload_n 3, 1) := by decide +kernel
theorem dX8_measureFigures_62 : decode cX8_measureFigures 62 = .ok (.iaload, 1) := by decide +kernel
theorem dX8_measureFigures_63 : decode cX8_measureFigures 63 = .ok (.aload_n 2, 1) := by decide +kernel
theorem dX8_measureFigures_64 : decode cX8_measureFigures 64 = .ok (.getfield 98, 3) := by decide +kernel
theorem dX8_measureFigures_67 : decode cX8_measureFigures 67 = .ok (.invokestatic 101, 3) := by decide +kernel
theorem dX8_measureFigures_70 : decode cX8_measureFigures 70 = .ok (.invokestatic 53, 3) := by decide +kernel
theorem dX8_measureFigures_73 : decode cX8_measureFigures 73 = .ok (.iastore, 1) := by decide +kernel
theorem dX8_measureFigures_74 : decode cX8_measureFigures 74 = .ok (.aload_n 0, 1) := by decide +kernel
theorem dX8_measureFigures_75 : decode cX8_measureFigures 75 = .ok (.getfield 24, 3) := by decide +kernel
theorem dX8_measureFigures_78 : decode cX8_measureFigures 78 = .ok (.iload_n 3, 1) := by decide +kernel
theorem dX8_measureFigures_79 : decode cX8_measureFigures 79 = .ok (.aload_n 0, 1) := by decide +kernel
theorem dX8_measureFigures_80 : decode cX8_measureFigures 80 = .ok (.getfield 24, 3) := by decide +kernel
theorem dX8_measureFigures_83 : decode cX8_measureFigures 83 = .ok (.iload_n 3, 1) := by decide +kernel
theorem dX8_measureFigures_84 : decode cX8_measureFigures 84 = .ok (.iaload, 1) := by decide +kernel
theorem dX8_measureFigures_85 : decode cX8_measureFigures 85 = .ok (.aload_n 2, 1) := by decide +kernel
theorem dX8_measureFigures_86 : decode cX8_measureFigures 86 = .ok (.invokevirtual 105, 3) := by decide +kernel
theorem dX8_measureFigures_89 : decode cX8_measureFigures 89 = .ok (.invokestatic 53, 3) := by decide +kernel
theorem dX8_measureFigures_92 : decode cX8_measureFigures 92 = .ok (.iastore, 1) := by decide +kernel
theorem dX8_measureFigures_93 : decode cX8_measureFigures 93 = .ok (.aload_n 2, 1) := by decide +kernel
theorem dX8_measureFigures_94 : decode cX8_measureFigures 94 = .ok (.getfield 108, 3) := by decide +kernel
theorem dX8_measureFigures_97 : decode cX8_measureFigures 97 = .ok (.getfield 112, 3) := by decide +kernel
theorem dX8_measureFigures_100 : decode cX8_measureFigures 100 = .ok (.iconst 1, 1) := by decide +kernel
theorem dX8_measureFigures_101 : decode cX8_measureFigures 101 = .ok (.if_icmp .ne 37, 3) := by decide +kernel
theorem dX8_measureFigures_104 : decode cX8_measureFigures 104 = .ok (.aload_n 0, 1) := by decide +kernel
theorem dX8_measureFigures_105 : decode cX8_measureFigures 105 = .ok (.getfield 27, 3) := by decide +kernel
theorem dX8_measureFigures_108 : decode cX8_measureFigures 108 = .ok (.iload_n 3, 1) := by decide +kernel
theorem dX8_measureFigures_109 : decode cX8_measureFigures 109 = .ok (.dup2, 1) := by decide +kernel
theorem dX8_measureFigures_110 : decode cX8_measureFigures 110 = .ok (.iaload, 1) := by decide +kernel
theorem dX8_measureFigures_111 : decode cX8_measureFigures 111 = .ok (.iconst 0, 1) := by decide +kernel
theorem dX8_measureFigures_112 : decode cX8_measureFigures 112 = .ok (.aload_n 2, 1) := by decide +kernel
theorem dX8_measureFigures_113 : decode cX8_measureFigures 113 = .ok (.getfield 98, 3) := by decide +kernel
theorem dX8_measureFigures_116 : decode cX8_measureFigures 116 = .ok (.invokestatic 53, 3) := by decide +kernel
theorem dX8_measureFigures_119 : decode cX8_measureFigures 119 = .ok (.iadd, 1) := by decide +kernel
theorem dX8_measureFigures_120 : decode cX8_measureFigures 120 = .ok (.iastore, 1) := by decide +kernel
theorem dX8_measureFigures_121 : decode cX8_measureFigures 121 = .ok (.aload_n 0, 1) := by decide +kernel
theorem dX8_measureFigures_122 : decode cX8_measureFigures 122 = .ok (.getfield 30, 3) := by decide +kernel
theorem dX8_measureFigures_125 : decode cX8_measureFigures 125 = .ok (.iload_n 3, 1) := by decide +kernel
theorem dX8_measureFigures_126 : decode cX8_measureFigures 126 = .ok (.dup2, 1) := by decide +kernel
theorem dX8_measureFigures_127 : decode cX8_measureFigures 127 = .ok (.iaload, 1) := by decide +kernel
theorem dX8_measureFigures_128 : decode cX8_measureFigures 128 = .ok (.iconst 0, 1) := by decide +kernel
theorem dX8_measureFigures_129 : decode cX8_measureFigures 129 = .ok (.aload_n 2, 1) := by decide +kernel
theorem dX8_measureFigures_130 : decode cX8_measureFigures 130 = .ok (.getfield 98, 3) := by decide +kernel
theorem dX8_measureFigures_133 : decode cX8_measureFigures 133 = .ok (.invokestatic 117, 3) := by decide +kernel
theorem dX8_measureFigures_136 : decode cX8_measureFigures 136 = .ok (.iadd, 1) := by decide +kernel
theorem dX8_measureFigures_137 : decode cX8_measureFigures 137 = .ok (.iastore, 1) := by decide +kernel
theorem dX8_measureFigures_138 : decode cX8_measureFigures 138 = .ok (.iinc 1 1, 3) := by decide +kernel
theorem dX8_measureFigures_141 : decode cX8_measureFigures 141 = .ok (.goto (-139), 3) := by decide +kernel
theorem dX8_measureFigures_144 : decode cX8_measureFigures 144 = .ok (.return_, 1) := by decide +kernel
theorem dX8_measureTotals_0 : decode cX8_measureTotals 0 = .ok (.iconst 0, 1) := by decide +kernel
theorem dX8_measureTotals_1 : decode cX8_measureTotals 1 = .ok (.istore_n 1, 1) := by decide +kernel
theorem dX8_measureTotals_2 : decode cX8_measureTotals 2 = .ok (.iload_n 1, 1) := by decide +kernel
theorem dX8_measureTotals_3 : decode cX8_measureTotals 3 = .ok (.bipush 6, 2) := by decide +kernel
theorem dX8_measureTotals_5 : decode cX8_measureTotals 5 = .ok (.if_icmp .ge 77, 3) := by decide +kernel
theorem dX8_measureTotals_8 : decode cX8_measureTotals 8 = .ok (.aload_n 0, 1) := by decide +kernel
theorem dX8_measureTotals_9 : decode cX8_measureTotals 9 = .ok (.getfield 21, 3) := by decide +kernel
theorem dX8_measureTotals_12 : decode cX8_measureTotals 12 = .ok (.iload_n 1, 1) := by decide +kernel
theorem dX8_measureTotals_13 : decode cX8_measureTotals 13 = .ok (.iaload, 1) := by decide +kernel
theorem dX8_measureTotals_14 : decode cX8_measureTotals 14 = .ok (.ifCond .le 62, 3) := by decide +kernel
theorem dX8_measureTotals_17 : decode cX8_measureTotals 17 = .ok (.aload_n 0, 1) := by decide +kernel
theorem dX8_measureTotals_18 : decode cX8_measureTotals 18 = .ok (.getfield 33, 3) := by decide +kernel
theorem dX8_measureTotals_21 : decode cX8_measureTotals 21 = .ok (.iload_n 1, 1) := by decide +kernel
theorem dX8_measureTotals_22 : decode cX8_measureTotals 22 = .ok (.invokevirtual 120, 3) := by decide +kernel
theorem dX8_measureTotals_25 : decode cX8_measureTotals 25 = .ok (.ifCond .eq 51, 3) := by decide +kernel
theorem dX8_measureTotals_28 : decode cX8_measureTotals 28 = .ok (.aload_n 0, 1) := by decide +kernel
theorem dX8_measureTotals_29 : decode cX8_measureTotals 29 = .ok (.getfield 21, 3) := by decide +kernel
theorem dX8_measureTotals_32 : decode cX8_measureTotals 32 = .ok (.iload_n 1, 1) := by decide +kernel
theorem dX8_measureTotals_33 : decode cX8_measureTotals 33 = .ok (.aload_n 0, 1) := by decide +kernel
theorem dX8_measureTotals_34 : decode cX8_measureTotals 34 = .ok (.getfield 21, 3) := by decide +kernel
theorem dX8_measureTotals_37 : decode cX8_measureTotals 37 = .ok (.iload_n 1, 1) := by decide +kernel
theorem dX8_measureTotals_38 : decode cX8_measureTotals 38 = .ok (.iaload, 1) := by decide +kernel
theorem dX8_measureTotals_39 : decode cX8_measureTotals 39 = .ok (.aload_n 0, 1) := by decide +kernel
theorem dX8_measureTotals_40 : decode cX8_measureTotals 40 = .ok (.getfield 27, 3) := by decide +kernel
theorem dX8_measureTotals_43 : decode cX8_measureTotals 43 = .ok (.iload_n 1, 1) := by decide +kernel
theorem dX8_measureTotals_44 : decode cX8_measureTotals 44 = .ok (.iaload, 1) := by decide +kernel
theorem dX8_measureTotals_45 : decode cX8_measureTotals 45 = .ok (.invokestatic 101, 3) := by decide +kernel
theorem dX8_measureTotals_48 : decode cX8_measureTotals 48 = .ok (.invokestatic 53, 3) := by decide +kernel
theorem dX8_measureTotals_51 : decode cX8_measureTotals 51 = .ok (.iastore, 1) := by decide +kernel
theorem dX8_measureTotals_52 : decode cX8_measureTotals 52 = .ok (.aload_n 0, 1) := by decide +kernel
theorem dX8_measureTotals_53 : decode cX8_measureTotals 53 = .ok (.getfield 21, 3) := by decide +kernel
theorem dX8_measureTotals_56 : decode cX8_measureTotals 56 = .ok (.iload_n 1, 1) := by decide +kernel
theorem dX8_measureTotals_57 : decode cX8_measureTotals 57 = .ok (.aload_n 0, 1) := by decide +kernel
theorem dX8_measureTotals_58 : decode cX8_measureTotals 58 = .ok (.getfield 21, 3) := by decide +kernel
theorem dX8_measureTotals_61 : decode cX8_measureTotals 61 = .ok (.iload_n 1, 1) := by decide +kernel
theorem dX8_measureTotals_62 : decode cX8_measureTotals 62 = .ok (.iaload, 1) := by decide +kernel
theorem dX8_measureTotals_63 : decode cX8_measureTotals 63 = .ok (.aload_n 0, 1) := by decide +kernel
theorem dX8_measureTotals_64 : decode cX8_measureTotals 64 = .ok (.getfield 30, 3) := by decide +kernel
theorem dX8_measureTotals_67 : decode cX8_measureTotals 67 = .ok (.iload_n 1, 1) := by decide +kernel
theorem dX8_measureTotals_68 : decode cX8_measureTotals 68 = .ok (.iaload, 1) := by decide +kernel
theorem dX8_measureTotals_69 : decode cX8_measureTotals 69 = .ok (.invokestatic 101, 3) := by decide +kernel
theorem dX8_measureTotals_72 : decode cX8_measureTotals 72 = .ok (.invokestatic 53, 3) := by decide +kernel
theorem dX8_measureTotals_75 : decode cX8_measureTotals 75 = .ok (.iastore, 1) := by decide +kernel
theorem dX8_measureTotals_76 : decode cX8_measureTotals 76 = .ok (.iinc 1 1, 3) := by decide +kernel
theorem dX8_measureTotals_79 : decode cX8_measureTotals 79 = .ok (.goto (-77), 3) := by decide +kernel
theorem dX8_measureTotals_82 : decode cX8_measureTotals 82 = .ok (.return_, 1) := by decide +kernel
theorem dX8_widenOneColumn_0 : decode cX8_widenOneColumn 0 = .ok (.iconst (-1), 1) := by decide +kernel
theorem dX8_widenOneColumn_1 : decode cX8_widenOneColumn 1 = .ok (.istore_n 3, 1) := by decide +kernel
theorem dX8_widenOneColumn_2 : decode cX8_widenOneColumn 2 = .ok (.iconst (-1), 1) := by decide +kernel
theorem dX8_widenOneColumn_3 : decode cX8_widenOneColumn 3 = .ok (.istore 4, 2) := by decide +kernel
theorem dX8_widenOneColumn_5 : decode cX8_widenOneColumn 5 = .ok (.aload_n 1, 1) := by decide +kernel
theorem dX8_widenOneColumn_6 : decode cX8_widenOneColumn 6 = .ok (.getfield 94, 3) := by decide +kernel
theorem dX8_widenOneColumn_9 : decode cX8_widenOneColumn 9 = .ok (.istore 5, 2) := by decide +kernel
theorem dX8_widenOneColumn_11 : decode cX8_widenOneColumn 11 = .ok (.iload 5, 2) := by decide +kernel
theorem dX8_widenOneColumn_13 : decode cX8_widenOneColumn 13 = .ok (.aload_n 1, 1) := by decide +kernel
theorem dX8_widenOneColumn_14 : decode cX8_widenOneColumn 14 = .ok (.getfield 94, 3) := by decide +kernel
theorem dX8_widenOneColumn_17 : decode cX8_widenOneColumn 17 = .ok (.aload_n 1, 1) := by decide +kernel
theorem dX8_widenOneColumn_18 : decode cX8_widenOneColumn 18 = .ok (.getfield 145, 3) := by decide +kernel
theorem dX8_widenOneColumn_21 : decode cX8_widenOneColumn 21 = .ok (.iadd, 1) := by decide +kernel
theorem dX8_widenOneColumn_22 : decode cX8_widenOneColumn 22 = .ok (.if_icmp .ge 99, 3) := by decide +kernel
theorem dX8_widenOneColumn_25 : decode cX8_widenOneColumn 25 = .ok (.iload 5, 2) := by decide +kernel
theorem dX8_widenOneColumn_27 : decode cX8_widenOneColumn 27 = .ok (.aload_n 2, 1) := by decide +kernel
theorem dX8_widenOneColumn_28 : decode cX8_widenOneColumn 28 = .ok (.arraylength, 1) := by decide +kernel
theorem dX8_widenOneColumn_29 : decode cX8_widenOneColumn 29 = .ok (.if_icmp .ge 92, 3) := by decide +kernel
theorem dX8_widenOneColumn_32 : decode cX8_widenOneColumn 32 = .ok (.aload_n 0, 1) := by decide +kernel
theorem dX8_widenOneColumn_33 : decode cX8_widenOneColumn 33 = .ok (.getfield 33, 3) := by decide +kernel
theorem dX8_widenOneColumn_36 : decode cX8_widenOneColumn 36 = .ok (.iload 5, 2) := by decide +kernel
theorem dX8_widenOneColumn_38 : decode cX8_widenOneColumn 38 = .ok (.invokevirtual 148, 3) := by decide +kernel
theorem dX8_widenOneColumn_41 : decode cX8_widenOneColumn 41 = .ok (.ifCond .eq 74, 3) := by decide +kernel
theorem dX8_widenOneColumn_44 : decode cX8_widenOneColumn 44 = .ok (.iload 5, 2) := by decide +kernel
theorem dX8_widenOneColumn_46 : decode cX8_widenOneColumn 46 = .ok (.istore 4, 2) := by decide +kernel
theorem dX8_widenOneColumn_48 : decode cX8_widenOneColumn 48 = .ok (.iload 5, 2) := by decide +kernel
theorem dX8_widenOneColumn_50 : decode cX8_widenOneColumn 50 = .ok (.aload_n 0, 1) := by decide +kernel
theorem dX8_widenOneColumn_51 : decode cX8_widenOneColumn 51 = .ok (.getfield 33, 3) := by decide +kernel
theorem dX8_widenOneColumn_54 : decode cX8_widenOneColumn 54 = .ok (.getfield 151, 3) := by decide +kernel
theorem dX8_widenOneColumn_57 : decode cX8_widenOneColumn 57 = .ok (.invokevirtual 79, 3) := by decide +kernel
theorem dX8_widenOneColumn_60 : decode cX8_widenOneColumn 60 = .ok (.if_icmp .ge 29, 3) := by decide +kernel
theorem dX8_widenOneColumn_63 : decode cX8_widenOneColumn 63 = .ok (.aload_n 0, 1) := by decide +kernel
theorem dX8_widenOneColumn_64 : decode cX8_widenOneColumn 64 = .ok (.getfield 33, 3) := by decide +kernel
theorem dX8_widenOneColumn_67 : decode cX8_widenOneColumn 67 = .ok (.getfield 151, 3) := by decide +kernel
theorem dX8_widenOneColumn_70 : decode cX8_widenOneColumn 70 = .ok (.iload 5, 2) := by decide +kernel
theorem dX8_widenOneColumn_72 : decode cX8_widenOneColumn 72 = .ok (.invokevirtual 84, 3) := by decide +kernel
theorem dX8_widenOneColumn_75 : decode cX8_widenOneColumn 75 = .ok (.checkcast 154, 3) := by decide +kernel
theorem dX8_widenOneColumn_78 : decode cX8_widenOneColumn 78 = .ok (.getfield 156, 3) := by decide +kernel
theorem dX8_widenOneColumn_81 : decode cX8_widenOneColumn 81 = .ok (.iconst 1, 1) := by decide +kernel
theorem dX8_widenOneColumn_82 : decode cX8_widenOneColumn 82 = .ok (.if_icmp .eq 7, 3) := by decide +kernel
theorem dX8_widenOneColumn_85 : decode cX8_widenOneColumn 85 = .ok (.iconst 1, 1) := by decide +kernel
theorem dX8_widenOneColumn_86 : decode cX8_widenOneColumn 86 = .ok (.goto 4, 3) := by decide +kernel
theorem dX8_widenOneColumn_89 : decode cX8_widenOneColumn 89 = .ok (.iconst 0, 1) := by decide +kernel
theorem dX8_widenOneColumn_90 : decode cX8_widenOneColumn 90 = .ok (.istore 6, 2) := by decide +kernel
theorem dX8_widenOneColumn_92 : decode cX8_widenOneColumn 92 = .ok (.iload 6, 2) := by decide +kernel
theorem dX8_widenOneColumn_94 : decode cX8_widenOneColumn 94 = .ok (.ifCond .eq 21, 3) := by decide +kernel
theorem dX8_widenOneColumn_97 : decode cX8_widenOneColumn 97 = .ok (.iload_n 3, 1) := by decide +kernel
theorem dX8_widenOneColumn_98 : decode cX8_widenOneColumn 98 = .ok (.iconst (-1), 1) := by decide +kernel
theorem dX8_widenOneColumn_99 : decode cX8_widenOneColumn 99 = .ok (.if_icmp .eq 13, 3) := by decide +kernel
theorem dX8_widenOneColumn_102 : decode cX8_widenOneColumn 102 = .ok (.aload_n 2, 1) := by decide +kernel
theorem dX8_widenOneColumn_103 : decode cX8_widenOneColumn 103 = .ok (.iload 5, 2) := by decide +kernel
theorem dX8_widenOneColumn_105 : decode cX8_widenOneColumn 105 = .ok (.iaload, 1) := by decide +kernel
theorem dX8_widenOneColumn_106 : decode cX8_widenOneColumn 106 = .ok (.aload_n 2, 1) := by decide +kernel
theorem dX8_widenOneColumn_107 : decode cX8_widenOneColumn 107 = .ok (.iload_n 3, 1) := by decide +kernel
theorem dX8_widenOneColumn_108 : decode cX8_widenOneColumn 108 = .ok (.iaload, 1) := by decide +kernel
theorem dX8_widenOneColumn_109 : decode cX8_widenOneColumn 109 = .ok (.if_icmp .ge 6, 3) := by decide +kernel
theorem dX8_widenOneColumn_112 : decode cX8_widenOneColumn 112 = .ok (.iload 5, 2) := by decide +kernel
theorem dX8_widenOneColumn_114 : decode cX8_widenOneColumn 114 = .ok (.istore_n 3, 1) := by decide +kernel
theorem dX8_widenOneColumn_115 : decode cX8_widenOneColumn 115 = .ok (.iinc 5 1, 3) := by decide +kernel
theorem dX8_widenOneColumn_118 : decode cX8_widenOneColumn 118 = .ok (.goto (-107), 3) := by decide +kernel
theorem dX8_widenOneColumn_121 : decode cX8_widenOneColumn 121 = .ok (.iload_n 3, 1) := by decide +kernel
theorem dX8_widenOneColumn_122 : decode cX8_widenOneColumn 122 = .ok (.iconst (-1), 1) := by decide +kernel
theorem dX8_widenOneColumn_123 : decode cX8_widenOneColumn 123 = .ok (.if_icmp .ne 8, 3) := by decide +kernel
theorem dX8_widenOneColumn_126 : decode cX8_widenOneColumn 126 = .ok (.iload 4, 2) := by decide +kernel
theorem dX8_widenOneColumn_128 : decode cX8_widenOneColumn 128 = .ok (.goto 4, 3) := by decide +kernel
theorem dX8_widenOneColumn_131 : decode cX8_widenOneColumn 131 = .ok (.iload_n 3, 1) := by decide +kernel
theorem dX8_widenOneColumn_132 : decode cX8_widenOneColumn 132 = .ok (.istore 5, 2) := by decide +kernel
theorem dX8_widenOneColumn_134 : decode cX8_widenOneColumn 134 = .ok (.iload 5, 2) := by decide +kernel
theorem dX8_widenOneColumn_136 : decode cX8_widenOneColumn 136 = .ok (.ifCond .lt 18, 3) := by decide +kernel
theorem dX8_widenOneColumn_139 : decode cX8_widenOneColumn 139 = .ok (.iload 5, 2) := by decide +kernel
theorem dX8_widenOneColumn_141 : decode cX8_widenOneColumn 141 = .ok (.aload_n 2, 1) := by decide +kernel
theorem dX8_widenOneColumn_142 : decode cX8_widenOneColumn 142 = .ok (.arraylength, 1) := by decide +kernel
theorem dX8_widenOneColumn_143 : decode cX8_widenOneColumn 143 = .ok (.if_icmp .ge 11, 3) := by decide +kernel
theorem dX8_widenOneColumn_146 : decode cX8_widenOneColumn 146 = .ok (.aload_n 2, 1) := by decide +kernel
theorem dX8_widenOneColumn_147 : decode cX8_widenOneColumn 147 = .ok (.iload 5, 2) := by decide +kernel
theorem dX8_widenOneColumn_149 : decode cX8_widenOneColumn 149 = .ok (.dup2, 1) := by decide +kernel
theorem dX8_widenOneColumn_150 : decode cX8_widenOneColumn 150 = .ok (.iaload, 1) := by decide +kernel
theorem dX8_widenOneColumn_151 : decode cX8_widenOneColumn 151 = .ok (.iconst 1, 1) := by decide +kernel
theorem dX8_widenOneColumn_152 : decode cX8_widenOneColumn 152 = .ok (.iadd, 1) := by decide +kernel
theorem dX8_widenOneColumn_153 : decode cX8_widenOneColumn 153 = .ok (.iastore, 1) := by decide +kernel
theorem dX8_widenOneColumn_154 : decode cX8_widenOneColumn 154 = .ok (.return_, 1) := by decide +kernel
theorem dX8_lastShownOf_0 : decode cX8_lastShownOf 0 = .ok (.iconst (-1), 1) := by decide +kernel
theorem dX8_lastShownOf_1 : decode cX8_lastShownOf 1 = .ok (.istore_n 2, 1) := by decide +kernel
theorem dX8_lastShownOf_2 : decode cX8_lastShownOf 2 = .ok (.aload_n 1, 1) := by decide +kernel
theorem dX8_lastShownOf_3 : decode cX8_lastShownOf 3 = .ok (.getfield 94, 3) := by decide +kernel
theorem dX8_lastShownOf_6 : decode cX8_lastShownOf 6 = .ok (.istore_n 3, 1) := by decide +kernel
theorem dX8_lastShownOf_7 : decode cX8_lastShownOf 7 = .ok (.iload_n 3, 1) := by decide +kernel
theorem dX8_lastShownOf_8 : decode cX8_lastShownOf 8 = .ok (.aload_n 1, 1) := by decide +kernel
theorem dX8_lastShownOf_9 : decode cX8_lastShownOf 9 = .ok (.getfield 94, 3) := by decide +kernel
theorem dX8_lastShownOf_12 : decode cX8_lastShownOf 12 = .ok (.aload_n 1, 1) := by decide +kernel
theorem dX8_lastShownOf_13 : decode cX8_lastShownOf 13 = .ok (.getfield 145, 3) := by decide +kernel
theorem dX8_lastShownOf_16 : decode cX8_lastShownOf 16 = .ok (.iadd, 1) := by decide +kernel
theorem dX8_lastShownOf_17 : decode cX8_lastShownOf 17 = .ok (.if_icmp .ge 26, 3) := by decide +kernel
theorem dX8_lastShownOf_20 : decode cX8_lastShownOf 20 = .ok (.aload_n 0, 1) := by decide +kernel
theorem dX8_lastShownOf_21 : decode cX8_lastShownOf 21 = .ok (.getfield 33, 3) := by decide +kernel
theorem dX8_lastShownOf_24 : decode cX8_lastShownOf 24 = .ok (.iload_n 3, 1) := by decide +kernel
theorem dX8_lastShownOf_25 : decode cX8_lastShownOf 25 = .ok (.invokevirtual 148, 3) := by decide +kernel
theorem dX8_lastShownOf_28 : decode cX8_lastShownOf 28 = .ok (.ifCond .eq 7, 3) := by decide +kernel
theorem dX8_lastShownOf_31 : decode cX8_lastShownOf 31 = .ok (.iload_n 3, 1) := by decide +kernel
theorem dX8_lastShownOf_32 : decode cX8_lastShownOf 32 = .ok (.goto 4, 3) := by decide +kernel
theorem dX8_lastShownOf_35 : decode cX8_lastShownOf 35 = .ok (.iload_n 2, 1) := by decide +kernel
theorem dX8_lastShownOf_36 : decode cX8_lastShownOf 36 = .ok (.istore_n 2, 1) := by decide +kernel
theorem dX8_lastShownOf_37 : decode cX8_lastShownOf 37 = .ok (.iinc 3 1, 3) := by decide +kernel
theorem dX8_lastShownOf_40 : decode cX8_lastShownOf 40 = .ok (.goto (-33), 3) := by decide +kernel
theorem dX8_lastShownOf_43 : decode cX8_lastShownOf 43 = .ok (.iload_n 2, 1) := by decide +kernel
theorem dX8_lastShownOf_44 : decode cX8_lastShownOf 44 = .ok (.ireturn, 1) := by decide +kernel
theorem dX8_wantedBy_0 : decode cX8_wantedBy 0 = .ok (.aload_n 0, 1) := by decide +kernel
theorem dX8_wantedBy_1 : decode cX8_wantedBy 1 = .ok (.getfield 156, 3) := by decide +kernel
theorem dX8_wantedBy_4 : decode cX8_wantedBy 4 = .ok (.iconst 1, 1) := by decide +kernel
theorem dX8_wantedBy_5 : decode cX8_wantedBy 5 = .ok (.if_icmp .ne 8, 3) := by decide +kernel
theorem dX8_wantedBy_8 : decode cX8_wantedBy 8 = .ok (.aload_n 0, 1) := by decide +kernel
theorem dX8_wantedBy_9 : decode cX8_wantedBy 9 = .ok (.getfield 173, 3) := by decide +kernel
theorem dX8_wantedBy_12 : decode cX8_wantedBy 12 = .ok (.ireturn, 1) := by decide +kernel
theorem dX8_wantedBy_13 : decode cX8_wantedBy 13 = .ok (.aload_n 0, 1) := by decide +kernel
theorem dX8_wantedBy_14 : decode cX8_wantedBy 14 = .ok (.getfield 156, 3) := by decide +kernel
theorem dX8_wantedBy_17 : decode cX8_wantedBy 17 = .ok (.iconst 2, 1) := by decide +kernel
theorem dX8_wantedBy_18 : decode cX8_wantedBy 18 = .ok (.if_icmp .ne 17, 3) := by decide +kernel
theorem dX8_wantedBy_21 : decode cX8_wantedBy 21 = .ok (.aload_n 0, 1) := by decide +kernel
theorem dX8_wantedBy_22 : decode cX8_wantedBy 22 = .ok (.getfield 173, 3) := by decide +kernel
theorem dX8_wantedBy_25 : decode cX8_wantedBy 25 = .ok (.iload_n 1, 1) := by decide +kernel
theorem dX8_wantedBy_26 : decode cX8_wantedBy 26 = .ok (.imul, 1) := by decide +kernel
theorem dX8_wantedBy_27 : decode cX8_wantedBy 27 = .ok (.bipush 100, 2) := by decide +kernel
theorem dX8_wantedBy_29 : decode cX8_wantedBy 29 = .ok (.invokestatic 176, 3) := by decide +kernel
theorem dX8_wantedBy_32 : decode cX8_wantedBy 32 = .ok (.goto 4, 3) := by decide +kernel
theorem dX8_wantedBy_35 : decode cX8_wantedBy 35 = .ok (.iconst 0, 1) := by decide +kernel
theorem dX8_wantedBy_36 : decode cX8_wantedBy 36 = .ok (.ireturn, 1) := by decide +kernel
theorem dX8_giveAll_0 : decode cX8_giveAll 0 = .ok (.iconst 0, 1) := by decide +kernel
theorem dX8_giveAll_1 : decode cX8_giveAll 1 = .ok (.istore_n 1, 1) := by decide +kernel
theorem dX8_giveAll_2 : decode cX8_giveAll 2 = .ok (.iload_n 1, 1) := by decide +kernel
theorem dX8_giveAll_3 : decode cX8_giveAll 3 = .ok (.bipush 6, 2) := by decide +kernel
theorem dX8_giveAll_5 : decode cX8_giveAll 5 = .ok (.if_icmp .ge 32, 3) := by decide +kernel
theorem dX8_giveAll_8 : decode cX8_giveAll 8 = .ok (.aload_n 0, 1) := by decide +kernel
theorem dX8_giveAll_9 : decode cX8_giveAll 9 = .ok (.getfield 33, 3) := by decide +kernel
theorem dX8_giveAll_12 : decode cX8_giveAll 12 = .ok (.iload_n 1, 1) := by decide +kernel
theorem dX8_giveAll_13 : decode cX8_giveAll 13 = .ok (.invokevirtual 163, 3) := by decide +kernel
theorem dX8_giveAll_16 : decode cX8_giveAll 16 = .ok (.ifCond .eq 15, 3) := by decide +kernel
theorem dX8_giveAll_19 : decode cX8_giveAll 19 = .ok (.aload_n 0, 1) := by decide +kernel
theorem dX8_giveAll_20 : decode cX8_giveAll 20 = .ok (.getfield 18, 3) := by decide +kernel
theorem dX8_giveAll_23 : decode cX8_giveAll 23 = .ok (.iload_n 1, 1) := by decide +kernel
theorem dX8_giveAll_24 : decode cX8_giveAll 24 = .ok (.aload_n 0, 1) := by decide +kernel
theorem dX8_giveAll_25 : decode cX8_giveAll 25 = .ok (.getfield 15, 3) := by decide +kernel
theorem dX8_giveAll_28 : decode cX8_giveAll 28 = .ok (.iload_n 1, 1) := by decide +kernel
theorem dX8_giveAll_29 : decode cX8_giveAll 29 = .ok (.iaload, 1) := by decide +kernel
theorem dX8_giveAll_30 : decode cX8_giveAll 30 = .ok (.iastore, 1) := by decide +kernel
theorem dX8_giveAll_31 : decode cX8_giveAll 31 = .ok (.iinc 1 1, 3) := by decide +kernel
theorem dX8_giveAll_34 : decode cX8_giveAll 34 = .ok (.goto (-32), 3) := by decide +kernel
theorem dX8_giveAll_37 : decode cX8_giveAll 37 = .ok (.return_, 1) := by decide +kernel
theorem dX8_giveInProportion_0 : decode cX8_giveInProportion 0 = .ok (.iload_n 2, 1) := by decide +kernel
theorem dX8_giveInProportion_1 : decode cX8_giveInProportion 1 = .ok (.ifCond .gt 4, 3) := by decide +kernel
theorem dX8_giveInProportion_4 : decode cX8_giveInProportion 4 = .ok (.return_, 1) := by decide +kernel
theorem dX8_giveInProportion_5 : decode cX8_giveInProportion 5 = .ok (.iload_n 1, 1) := by decide +kernel
theorem dX8_giveInProportion_6 : decode cX8_giveInProportion 6 = .ok (.istore_n 3, 1) := by decide +kernel
theorem dX8_giveInProportion_7 : decode cX8_giveInProportion 7 = .ok (.iconst 0, 1) := by decide +kernel
theorem dX8_giveInProportion_8 : decode cX8_giveInProportion 8 = .ok (.istore 4, 2) := by decide +kernel
theorem dX8_giveInProportion_10 : decode cX8_giveInProportion 10 = .ok (.iload 4, 2) := by decide +kernel
theorem dX8_giveInProportion_12 : decode cX8_giveInProportion 12 = .ok (.bipush 6, 2) := by decide +kernel
theorem dX8_giveInProportion_14 : decode cX8_giveInProportion 14 = .ok (.if_icmp .ge 59, 3) := by decide +kernel
theorem dX8_giveInProportion_17 : decode cX8_giveInProportion 17 = .ok (.aload_n 0, 1) := by decide +kernel
theorem dX8_giveInProportion_18 : decode cX8_giveInProportion 18 = .ok (.getfield 33, 3) := by decide +kernel
theorem dX8_giveInProportion_21 : decode cX8_giveInProportion 21 = .ok (.iload 4, 2) := by decide +kernel
theorem dX8_giveInProportion_23 : decode cX8_giveInProportion 23 = .ok (.invokevirtual 163, 3) := by decide +kernel
theorem dX8_giveInProportion_26 : decode cX8_giveInProportion 26 = .ok (.ifCond .eq 41, 3) := by decide +kernel
theorem dX8_giveInProportion_29 : decode cX8_giveInProportion 29 = .ok (.iload_n 1, 1) := by decide +kernel
theorem dX8_giveInProportion_30 : decode cX8_giveInProportion 30 = .ok (.aload_n 0, 1) := by decide +kernel
theorem dX8_giveInProportion_31 : decode cX8_giveInProportion 31 = .ok (.getfield 15, 3) := by decide +kernel
theorem dX8_giveInProportion_34 : decode cX8_giveInProportion 34 = .ok (.iload 4, 2) := by decide +kernel
theorem dX8_giveInProportion_36 : decode cX8_giveInProportion 36 = .ok (.iaload, 1) := by decide +kernel
theorem dX8_giveInProportion_37 : decode cX8_giveInProportion 37 = .ok (.aload_n 0, 1) := by decide +kernel
theorem dX8_giveInProportion_38 : decode cX8_giveInProportion 38 = .ok (.getfield 9, 3) := by decide +kernel
theorem dX8_giveInProportion_41 : decode cX8_giveInProportion 41 = .ok (.iload 4, 2) := by decide +kernel
theorem dX8_giveInProportion_43 : decode cX8_giveInProportion 43 = .ok (.iaload, 1) := by decide +kernel
theorem dX8_giveInProportion_44 : decode cX8_giveInProportion 44 = .ok (.isub, 1) := by decide +kernel
theorem dX8_giveInProportion_45 : decode cX8_giveInProportion 45 = .ok (.imul, 1) := by decide +kernel
theorem dX8_giveInProportion_46 : decode cX8_giveInProportion 46 = .ok (.iload_n 2, 1) := by decide +kernel
theorem dX8_giveInProportion_47 : decode cX8_giveInProportion 47 = .ok (.idiv, 1) := by decide +kernel
theorem dX8_giveInProportion_48 : decode cX8_giveInProportion 48 = .ok (.istore 5, 2) := by decide +kernel
theorem dX8_giveInProportion_50 : decode cX8_giveInProportion 50 = .ok (.aload_n 0, 1) := by decide +kernel
theorem dX8_giveInProportion_51 : decode cX8_giveInProportion 51 = .ok (.getfield 18, 3) := by decide +kernel
theorem dX8_giveInProportion_54 : decode cX8_giveInProportion 54 = .ok (.iload 4, 2) := by decide +kernel
theorem dX8_giveInProportion_56 : decode cX8_giveInProportion 56 = .ok (.dup2, 1) := by decide +kernel
theorem dX8_giveInProportion_57 : decode cX8_giveInProportion 57 = .ok (.iaload, 1) := by decide +kernel
theorem dX8_giveInProportion_58 : decode cX8_giveInProportion 58 = .ok (.iload 5, 2) := by decide +kernel
theorem dX8_giveInProportion_60 : decode cX8_giveInProportion 60 = .ok (.iadd, 1) := by decide +kernel
theorem dX8_giveInProportion_61 : decode cX8_giveInProportion 61 = .ok (.iastore, 1) := by decide +kernel
theorem dX8_giveInProportion_62 : decode cX8_giveInProportion 62 = .ok (.iload_n 3, 1) := by decide +kernel
theorem dX8_giveInProportion_63 : decode cX8_giveInProportion 63 = .ok (.iload 5, 2) := by decide +kernel
theorem dX8_giveInProportion_65 : decode cX8_giveInProportion 65 = .ok (.isub, 1) := by decide +kernel
theorem dX8_giveInProportion_66 : decode cX8_giveInProportion 66 = .ok (.istore_n 3, 1) := by decide +kernel
theorem dX8_giveInProportion_67 : decode cX8_giveInProportion 67 = .ok (.iinc 4 1, 3) := by decide +kernel
theorem dX8_giveInProportion_70 : decode cX8_giveInProportion 70 = .ok (.goto (-60), 3) := by decide +kernel
theorem dX8_giveInProportion_73 : decode cX8_giveInProportion 73 = .ok (.iconst 0, 1) := by decide +kernel
theorem dX8_giveInProportion_74 : decode cX8_giveInProportion 74 = .ok (.istore 4, 2) := by decide +kernel
theorem dX8_giveInProportion_76 : decode cX8_giveInProportion 76 = .ok (.iload 4, 2) := by decide +kernel
theorem dX8_giveInProportion_78 : decode cX8_giveInProportion 78 = .ok (.bipush 6, 2) := by decide +kernel
theorem dX8_giveInProportion_80 : decode cX8_giveInProportion 80 = .ok (.if_icmp .ge 56, 3) := by decide +kernel
theorem dX8_giveInProportion_83 : decode cX8_giveInProportion 83 = .ok (.iload_n 3, 1) := by decide +kernel
theorem dX8_giveInProportion_84 : decode cX8_giveInProportion 84 = .ok (.ifCond .le 52, 3) := by decide +kernel
theorem dX8_giveInProportion_87 : decode cX8_giveInProportion 87 = .ok (.aload_n 0, 1) := by decide +kernel
theorem dX8_giveInProportion_88 : decode cX8_giveInProportion 88 = .ok (.getfield 33, 3) := by decide +kernel
theorem dX8_giveInProportion_91 : decode cX8_giveInProportion 91 = .ok (.iload 4, 2) := by decide +kernel
theorem dX8_giveInProportion_93 : decode cX8_giveInProportion 93 = .ok (.invokevirtual 163, 3) := by decide +kernel
theorem dX8_giveInProportion_96 : decode cX8_giveInProportion 96 = .ok (.ifCond .eq 34, 3) := by decide +kernel
theorem dX8_giveInProportion_99 : decode cX8_giveInProportion 99 = .ok (.aload_n 0, 1) := by decide +kernel
theorem dX8_giveInProportion_100 : decode cX8_giveInProportion 100 = .ok (.getfield 18, 3) := by decide +kernel
theorem dX8_giveInProportion_103 : decode cX8_giveInProportion 103 = .ok (.iload 4, 2) := by decide +kernel
theorem dX8_giveInProportion_105 : decode cX8_giveInProportion 105 = .ok (.iaload, 1) := by decide +kernel
theorem dX8_giveInProportion_106 : decode cX8_giveInProportion 106 = .ok (.aload_n 0, 1) := by decide +kernel
theorem dX8_giveInProportion_107 : decode cX8_giveInProportion 107 = .ok (.getfield 15, 3) := by decide +kernel
theorem dX8_giveInProportion_110 : decode cX8_giveInProportion 110 = .ok (.iload 4, 2) := by decide +kernel
theorem dX8_giveInProportion_112 : decode cX8_giveInProportion 112 = .ok (.iaload, 1) := by decide +kernel
theorem dX8_giveInProportion_113 : decode cX8_giveInProportion 113 = .ok (.if_icmp .ge 17, 3) := by decide +kernel
theorem dX8_giveInProportion_116 : decode cX8_giveInProportion 116 = .ok (.aload_n 0, 1) := by decide +kernel
theorem dX8_giveInProportion_117 : decode cX8_giveInProportion 117 = .ok (.getfield 18, 3) := by decide +kernel
theorem dX8_giveInProportion_120 : decode cX8_giveInProportion 120 = .ok (.iload 4, 2) := by decide +kernel
theorem dX8_giveInProportion_122 : decode cX8_giveInProportion 122 = .ok (.dup2, 1) := by decide +kernel
theorem dX8_giveInProportion_123 : decode cX8_giveInProportion 123 = .ok (.iaload, 1) := by decide +kernel
theorem dX8_giveInProportion_124 : decode cX8_giveInProportion 124 = .ok (.iconst 1, 1) := by decide +kernel
theorem dX8_giveInProportion_125 : decode cX8_giveInProportion 125 = .ok (.iadd, 1) := by decide +kernel
theorem dX8_giveInProportion_126 : decode cX8_giveInProportion 126 = .ok (.iastore, 1) := by decide +kernel
theorem dX8_giveInProportion_127 : decode cX8_giveInProportion 127 = .ok (.iinc 3 (-1), 3) := by decide +kernel
theorem dX8_giveInProportion_130 : decode cX8_giveInProportion 130 = .ok (.iinc 4 1, 3) := by decide +kernel
theorem dX8_giveInProportion_133 : decode cX8_giveInProportion 133 = .ok (.goto (-57), 3) := by decide +kernel
theorem dX8_giveInProportion_136 : decode cX8_giveInProportion 136 = .ok (.return_, 1) := by decide +kernel
theorem dX9_linesOfRowsOf_0 : decode cX9_linesOfRowsOf 0 = .ok (.iconst 0, 1) := by decide +kernel
theorem dX9_linesOfRowsOf_1 : decode cX9_linesOfRowsOf 1 = .ok (.istore 4, 2) := by decide +kernel
theorem dX9_linesOfRowsOf_3 : decode cX9_linesOfRowsOf 3 = .ok (.aload_n 1, 1) := by decide +kernel
theorem dX9_linesOfRowsOf_4 : decode cX9_linesOfRowsOf 4 = .ok (.getfield 186, 3) := by decide +kernel
theorem dX9_linesOfRowsOf_7 : decode cX9_linesOfRowsOf 7 = .ok (.getfield 393, 3) := by decide +kernel
theorem dX9_linesOfRowsOf_10 : decode cX9_linesOfRowsOf 10 = .ok (.aload_n 1, 1) := by decide +kernel
theorem dX9_linesOfRowsOf_11 : decode cX9_linesOfRowsOf 11 = .ok (.getfield 170, 3) := by decide +kernel
theorem dX9_linesOfRowsOf_14 : decode cX9_linesOfRowsOf 14 = .ok (.iadd, 1) := by decide +kernel
theorem dX9_linesOfRowsOf_15 : decode cX9_linesOfRowsOf 15 = .ok (.aload_n 0, 1) := by decide +kernel
theorem dX9_linesOfRowsOf_16 : decode cX9_linesOfRowsOf 16 = .ok (.getfield 12, 3) := by decide +kernel
theorem dX9_linesOfRowsOf_19 : decode cX9_linesOfRowsOf 19 = .ok (.getfield 379, 3) := by decide +kernel
theorem dX9_linesOfRowsOf_22 : decode cX9_linesOfRowsOf 22 = .ok (.invokevirtual 80, 3) := by decide +kernel
theorem dX9_linesOfRowsOf_25 : decode cX9_linesOfRowsOf 25 = .ok (.invokestatic 359, 3) := by decide +kernel
theorem dX9_linesOfRowsOf_28 : decode cX9_linesOfRowsOf 28 = .ok (.istore 5, 2) := by decide +kernel
theorem dX9_linesOfRowsOf_30 : decode cX9_linesOfRowsOf 30 = .ok (.aload_n 1, 1) := by decide +kernel
theorem dX9_linesOfRowsOf_31 : decode cX9_linesOfRowsOf 31 = .ok (.getfield 186, 3) := by decide +kernel
theorem dX9_linesOfRowsOf_34 : decode cX9_linesOfRowsOf 34 = .ok (.getfield 393, 3) := by decide +kernel
theorem dX9_linesOfRowsOf_37 : decode cX9_linesOfRowsOf 37 = .ok (.istore 6, 2) := by decide +kernel
theorem dX9_linesOfRowsOf_39 : decode cX9_linesOfRowsOf 39 = .ok (.iload 6, 2) := by decide +kernel
theorem dX9_linesOfRowsOf_41 : decode cX9_linesOfRowsOf 41 = .ok (.iload 5, 2) := by decide +kernel
theorem dX9_linesOfRowsOf_43 : decode cX9_linesOfRowsOf 43 = .ok (.if_icmp .ge 41, 3) := by decide +kernel
theorem dX9_linesOfRowsOf_46 : decode cX9_linesOfRowsOf 46 = .ok (.iload 4, 2) := by decide +kernel
theorem dX9_linesOfRowsOf_48 : decode cX9_linesOfRowsOf 48 = .ok (.aload_n 0, 1) := by decide +kernel
theorem dX9_linesOfRowsOf_49 : decode cX9_linesOfRowsOf 49 = .ok (.getfield 42, 3) := by decide +kernel
theorem dX9_linesOfRowsOf_52 : decode cX9_linesOfRowsOf 52 = .ok (.aload_n 0, 1) := by decide +kernel
theorem dX9_linesOfRowsOf_53 : decode cX9_linesOfRowsOf 53 = .ok (.getfield 12, 3) := by decide +kernel
theorem dX9_linesOfRowsOf_56 : decode cX9_linesOfRowsOf 56 = .ok (.getfield 379, 3) := by decide +kernel
theorem dX9_linesOfRowsOf_59 : decode cX9_linesOfRowsOf 59 = .ok (.iload 6, 2) := by decide +kernel
theorem dX9_linesOfRowsOf_61 : decode cX9_linesOfRowsOf 61 = .ok (.invokevirtual 123, 3) := by decide +kernel
theorem dX9_linesOfRowsOf_64 : decode cX9_linesOfRowsOf 64 = .ok (.checkcast 127, 3) := by decide +kernel
theorem dX9_linesOfRowsOf_67 : decode cX9_linesOfRowsOf 67 = .ok (.getfield 399, 3) := by decide +kernel
theorem dX9_linesOfRowsOf_70 : decode cX9_linesOfRowsOf 70 = .ok (.iload_n 2, 1) := by decide +kernel
theorem dX9_linesOfRowsOf_71 : decode cX9_linesOfRowsOf 71 = .ok (.iload_n 3, 1) := by decide +kernel
theorem dX9_linesOfRowsOf_72 : decode cX9_linesOfRowsOf 72 = .ok (.invokevirtual 349, 3) := by decide +kernel
theorem dX9_linesOfRowsOf_75 : decode cX9_linesOfRowsOf 75 = .ok (.iadd, 1) := by decide +kernel
theorem dX9_linesOfRowsOf_76 : decode cX9_linesOfRowsOf 76 = .ok (.istore 4, 2) := by decide +kernel
theorem dX9_linesOfRowsOf_78 : decode cX9_linesOfRowsOf 78 = .ok (.iinc 6 1, 3) := by decide +kernel
theorem dX9_linesOfRowsOf_81 : decode cX9_linesOfRowsOf 81 = .ok (.goto (-42), 3) := by decide +kernel
theorem dX9_linesOfRowsOf_84 : decode cX9_linesOfRowsOf 84 = .ok (.iload 4, 2) := by decide +kernel
theorem dX9_linesOfRowsOf_86 : decode cX9_linesOfRowsOf 86 = .ok (.ireturn, 1) := by decide +kernel
section
variable {p : Program} {l : Launch} {e : Env} {s : State} {m : MethodId} {args : Array Value} {below : List Frame} {meth : Method} {c : Code} {G : Gx} {e0 : Nat} {α : Ax} {κ : Nat → Int} {B : Nat}
def wp_X6_linesOfItem_58 (u0 : Int) (p1 : Int) (p2 : Int) (p3 : Int) (Qm : Int → Mem → Prop) (y4 : Int) (M : Mem) : Prop := Qm y4 M
def wp_X6_linesOfItem_10 (u0 : Int) (p1 : Int) (p2 : Int) (p3 : Int) (Qm : Int → Mem → Prop) : Nat → Int → Int → Mem → Prop
  | 0 => fun _ _ _ => False
  | n + 1 => fun y4 y5 M => ((p3 ≤ y5 → wp_X6_linesOfItem_58 u0 p1 p2 p3 Qm y4 M) ∧ (y5 < p3 → (((M 7 u0 2) ≤ y5 → wp_X6_linesOfItem_58 u0 p1 p2 p3 Qm y4 M) ∧ (y5 < (M 7 u0 2) → (0 ≤ y5 ∧ y5 < 904) ∧ ((M 38 u0 y5) = p1 → (0 ≤ y5 ∧ y5 < 904) ∧ True) ∧ (inR (y4 + (if ¬ (M 38 u0 y5) = p1 then (0 : Int) else (M 40 u0 y5)))) ∧ (inR (y5 + 1)) ∧ wp_X6_linesOfItem_10 u0 p1 p2 p3 Qm n (y4 + (if ¬ (M 38 u0 y5) = p1 then (0 : Int) else (M 40 u0 y5))) (y5 + 1) M))))
def wp_X6_linesOfItem (u0 : Int) (p1 : Int) (p2 : Int) (p3 : Int) (M : Mem) (Qm : Int → Mem → Prop) : Prop := (∃ n11 : Nat, wp_X6_linesOfItem_10 u0 p1 p2 p3 Qm n11 0 (max 0 p2) M)
set_option maxHeartbeats 4000000 in
set_option maxRecDepth 100000 in
theorem t_X6_linesOfItem_58 {u0 : Int} {p1 : Int} {p2 : Int} {p3 : Int} (X : CX p m c cX6_linesOfItem 6 s args RX6 G B κ meth (some .int)) (hu0 : okk κ 7 u0) (hp1 : inR p1) (hp2 : inR p2) (hp3 : inR p3) {Qm : Int → Mem → Prop} : ∀ y4 : Int, ∀ M : Mem, wp_X6_linesOfItem_58 u0 p1 p2 p3 Qm y4 M → inR y4 → ∀ (H : Heap) (locs : List Loc), Rp G e0 α κ B M H → va_S (fun q => B ≤ q) s.heap H locs → ∀ (ls : Array Slot), lv_has ls 6 [(4, .int (Int32.ofInt y4))] → WI p l e 1 s m args below meth c G e0 α κ B Qm H locs 58 ls [] := by
  intro y4 M hw hy4 H locs hR hS ls hl
  have hw : Qm y4 M := hw
  refine lv_iload X.1.1 X.1.2.1 dX6_linesOfItem_58 (lv_at hl 0 rfl) ?_
  exact sa_iret X.1 X.2.2.2.1 X.2.2.2.2 hR hS hy4 hw dX6_linesOfItem_60
set_option maxHeartbeats 4000000 in
set_option maxRecDepth 100000 in
theorem t_X6_linesOfItem_10 {u0 : Int} {p1 : Int} {p2 : Int} {p3 : Int} (X : CX p m c cX6_linesOfItem 6 s args RX6 G B κ meth (some .int)) (hu0 : okk κ 7 u0) (hp1 : inR p1) (hp2 : inR p2) (hp3 : inR p3) {Qm : Int → Mem → Prop} : ∀ n : Nat, ∀ y4 : Int, ∀ y5 : Int, ∀ M : Mem, wp_X6_linesOfItem_10 u0 p1 p2 p3 Qm n y4 y5 M → inR y4 → inR y5 → ∀ (H : Heap) (locs : List Loc), Rp G e0 α κ B M H → va_S (fun q => B ≤ q) s.heap H locs → ∀ (ls : Array Slot), lv_has ls 6 [(0, .ref (α 7 u0)), (1, .int (Int32.ofInt p1)), (3, .int (Int32.ofInt p3)), (4, .int (Int32.ofInt y4)), (5, .int (Int32.ofInt y5))] → WI p l e 1 s m args below meth c G e0 α κ B Qm H locs 10 ls [] := by
  intro n
  induction n with
  | zero =>
    intro y4 y5 M hw hy4 hy5 H locs hR hS ls hl
    exact hw.elim
  | succ n ih =>
    intro y4 y5 M hw hy4 hy5 H locs hR hS ls hl
    have hw : ((p3 ≤ y5 → wp_X6_linesOfItem_58 u0 p1 p2 p3 Qm y4 M) ∧ (y5 < p3 → (((M 7 u0 2) ≤ y5 → wp_X6_linesOfItem_58 u0 p1 p2 p3 Qm y4 M) ∧ (y5 < (M 7 u0 2) → (0 ≤ y5 ∧ y5 < 904) ∧ ((M 38 u0 y5) = p1 → (0 ≤ y5 ∧ y5 < 904) ∧ True) ∧ (inR (y4 + (if ¬ (M 38 u0 y5) = p1 then (0 : Int) else (M 40 u0 y5)))) ∧ (inR (y5 + 1)) ∧ wp_X6_linesOfItem_10 u0 p1 p2 p3 Qm n (y4 + (if ¬ (M 38 u0 y5) = p1 then (0 : Int) else (M 40 u0 y5))) (y5 + 1) M)))) := hw
    refine lv_iload X.1.1 X.1.2.1 dX6_linesOfItem_10 (lv_at hl 4 rfl) ?_
    refine lv_iload_n X.1.1 X.1.2.1 dX6_linesOfItem_12 rfl (lv_at hl 2 rfl) ?_
    refine sa_icmp_ge (tgt := 58) X.1 hy5 hp3 dX6_linesOfItem_13 (by decide) (fun hc => ?_) (fun hc => ?_)
    · have hw := hw.1 hc
      exact t_X6_linesOfItem_58 X hu0 hp1 hp2 hp3 _ _ hw hy4 _ _ hR hS _ (lv_sub hl [3] rfl)
    · have hw := hw.2 hc
      refine lv_iload X.1.1 X.1.2.1 dX6_linesOfItem_16 (lv_at hl 4 rfl) ?_
      refine lv_aload_n X.1.1 X.1.2.1 dX6_linesOfItem_18 rfl (lv_at hl 0 rfl) ?_
      refine gt_7_2 X hR hu0 kw_245 dX6_linesOfItem_19 ?_
      have r1 := hR.r 7 u0 2
      refine sa_icmp_ge (tgt := 58) X.1 hy5 r1 dX6_linesOfItem_22 (by decide) (fun hc => ?_) (fun hc => ?_)
      · have hw := hw.1 hc
        exact t_X6_linesOfItem_58 X hu0 hp1 hp2 hp3 _ _ hw hy4 _ _ hR hS _ (lv_sub hl [3] rfl)
      · have hw := hw.2 hc
        refine lv_iload X.1.1 X.1.2.1 dX6_linesOfItem_25 (lv_at hl 3 rfl) ?_
        refine lv_aload_n X.1.1 X.1.2.1 dX6_linesOfItem_27 rfl (lv_at hl 0 rfl) ?_
        refine gt_7_4 X hR hu0 kw_247 dX6_linesOfItem_28 ?_
        refine lv_iload X.1.1 X.1.2.1 dX6_linesOfItem_31 (lv_at hl 4 rfl) ?_
        have c2 := hw.1
        have hw := hw.2
        refine ra_38 X hR (okp X.2.2.1 rfl (pr_7 X.2.2.1 hu0)) c2 dX6_linesOfItem_33 ?_
        have r3 := hR.r 38 u0 y5
        refine lv_iload_n X.1.1 X.1.2.1 dX6_linesOfItem_34 rfl (lv_at hl 1 rfl) ?_
        have s5 := hw.1
        have hw := hw.2
        have r6 := inR_ite (c := ¬ (M 38 u0 y5) = p1) (inR_c (a := 0) rfl) (hR.r 40 u0 y5)
        refine cut_j (A := ∀ v7 : Int, v7 = (if ¬ (M 38 u0 y5) = p1 then (0 : Int) else (M 40 u0 y5)) → WI p l e 1 s m args below meth c G e0 α κ B Qm H locs 49 ls [.int (Int32.ofInt v7), .int (Int32.ofInt y4)]) (fun J8 => ?_) ?_
        · refine sa_icmp_ne (tgt := 48) X.1 r3 hp1 dX6_linesOfItem_35 (by decide) (fun hc => ?_) (fun hc => ?_)
          · skip
            refine sa_const X.1 dX6_linesOfItem_48 ?_
            exact J8 (0) (if_pos (c := ¬ (M 38 u0 y5) = p1) hc).symm
          · have hw := s5 hc
            refine lv_aload_n X.1.1 X.1.2.1 dX6_linesOfItem_38 rfl (lv_at hl 0 rfl) ?_
            refine gt_7_6 X hR hu0 kw_249 dX6_linesOfItem_39 ?_
            refine lv_iload X.1.1 X.1.2.1 dX6_linesOfItem_42 (lv_at hl 4 rfl) ?_
            have c4 := hw.1
            have hw := hw.2
            refine ra_40 X hR (okp X.2.2.1 rfl (pr_7 X.2.2.1 hu0)) c4 dX6_linesOfItem_44 ?_
            refine lv_goto (tgt := 49) X.1.1 X.1.2.1 dX6_linesOfItem_45 (by decide) ?_
            exact J8 ((M 40 u0 y5)) (if_neg (c := ¬ (M 38 u0 y5) = p1) (fun z => z hc)).symm
        intro v7 hv7
        subst hv7
        have c9 := hw.1
        have hw := hw.2
        refine sa_iadd X.1 dX6_linesOfItem_49 ?_
        refine lv_istore (lv' := [(4, .int (Int32.ofInt (y4 + (if ¬ (M 38 u0 y5) = p1 then (0 : Int) else (M 40 u0 y5))))), (0, .ref (α 7 u0)), (1, .int (Int32.ofInt p1)), (3, .int (Int32.ofInt p3)), (5, .int (Int32.ofInt y5))]) X.1.1 X.1.2.1 dX6_linesOfItem_50 hl (by decide) rfl (fun ls hl => ?_)
        have c10 := hw.1
        have hw := hw.2
        refine lv_iinc (v := Int32.ofInt (y5 + 1)) (lv' := [(5, .int (Int32.ofInt (y5 + 1))), (4, .int (Int32.ofInt (y4 + (if ¬ (M 38 u0 y5) = p1 then (0 : Int) else (M 40 u0 y5))))), (0, .ref (α 7 u0)), (1, .int (Int32.ofInt p1)), (3, .int (Int32.ofInt p3))]) X.1.1 X.1.2.1 dX6_linesOfItem_52 hl (k := 4) rfl (Int32.ofInt_add _ _).symm (by decide) rfl (fun ls hl => ?_)
        refine lv_goto (tgt := 10) X.1.1 X.1.2.1 dX6_linesOfItem_55 (by decide) ?_
        exact ih _ _ _ hw c9 c10 _ _ hR hS _ (lv_sub hl [2, 3, 4, 1, 0] rfl)
set_option maxHeartbeats 4000000 in
set_option maxRecDepth 100000 in
theorem t_X6_linesOfItem {u0 : Int} {p1 : Int} {p2 : Int} {p3 : Int} (X : CX p m c cX6_linesOfItem 6 s args RX6 G B κ meth (some .int)) (hu0 : okk κ 7 u0) (hp1 : inR p1) (hp2 : inR p2) (hp3 : inR p3) {M : Mem} {Qm : Int → Mem → Prop} (hw : wp_X6_linesOfItem u0 p1 p2 p3 M Qm) (H : Heap) (locs : List Loc) (hR : Rp G e0 α κ B M H) (hS : va_S (fun q => B ≤ q) s.heap H locs) (ls : Array Slot) (hl : lv_has ls 6 [(0, .ref (α 7 u0)), (1, .int (Int32.ofInt p1)), (2, .int (Int32.ofInt p2)), (3, .int (Int32.ofInt p3))]) : WI p l e 1 s m args below meth c G e0 α κ B Qm H locs 0 ls [] := by
  have hw : (∃ n11 : Nat, wp_X6_linesOfItem_10 u0 p1 p2 p3 Qm n11 0 (max 0 p2) M) := hw
  refine sa_const X.1 dX6_linesOfItem_0 ?_
  refine lv_istore (lv' := [(4, .int (Int32.ofInt 0)), (0, .ref (α 7 u0)), (1, .int (Int32.ofInt p1)), (2, .int (Int32.ofInt p2)), (3, .int (Int32.ofInt p3))]) X.1.1 X.1.2.1 dX6_linesOfItem_1 hl (by decide) rfl (fun ls hl => ?_)
  refine sa_const X.1 dX6_linesOfItem_3 ?_
  refine lv_iload_n X.1.1 X.1.2.1 dX6_linesOfItem_4 rfl (lv_at hl 3 rfl) ?_
  refine sa_max (R := rmL 1) X.1 (inR_c (a := 0) rfl) hp2 hl.1 kw_658 kmath_max_s kmath_i kmath_max_c (by decide) (Nat.le_of_ble_eq_true rfl) rm_c dX6_linesOfItem_5 ?_
  refine lv_istore (lv' := [(5, .int (Int32.ofInt (max 0 p2))), (4, .int (Int32.ofInt 0)), (0, .ref (α 7 u0)), (1, .int (Int32.ofInt p1)), (2, .int (Int32.ofInt p2)), (3, .int (Int32.ofInt p3))]) X.1.1 X.1.2.1 dX6_linesOfItem_8 hl (by decide) rfl (fun ls hl => ?_)
  obtain ⟨n11, hw⟩ := hw
  exact t_X6_linesOfItem_10 X hu0 hp1 hp2 hp3 n11 _ _ _ hw (inR_c (a := 0) rfl) (inR_max (inR_c (a := 0) rfl) hp2) _ _ hR hS _ (lv_sub hl [2, 3, 5, 1, 0] rfl)
theorem m_X6_linesOfItem {l : Launch} {G : Gx} {e0 : Nat} {α : Ax} {κ : Nat → Int} {B : Nat} {u0 : Int} {p1 : Int} {p2 : Int} {p3 : Int} (hκ : kOK κ) (hu0 : okk κ 7 u0) (hp1 : inR p1) (hp2 : inR p2) (hp3 : inR p3) {M : Mem} {Qm : Int → Mem → Prop} (hw : wp_X6_linesOfItem u0 p1 p2 p3 M Qm) : CI l yX6_linesOfItem (Cond.code yX6_linesOfItem cX6_linesOfItem 6 (some .int)) 1 G e0 α κ B [.ref (α 7 u0), .int (Int32.ofInt p1), .int (Int32.ofInt p2), .int (Int32.ofInt p3)] M Qm :=
  CI.mk hκ (by decide +kernel) rfl (Nat.le_of_ble_eq_true rfl) (lv := [(0, .ref (α 7 u0)), (1, .int (Int32.ofInt p1)), (2, .int (Int32.ofInt p2)), (3, .int (Int32.ofInt p3))]) rfl (fun p e s m args below meth c ls X hR hS hl => t_X6_linesOfItem X hu0 hp1 hp2 hp3 hw _ _ hR hS ls hl)
theorem cs_X6_linesOfItem {cc : ByteArray} {nL : Nat} {own : String} {ret : Option FieldType} {idx pc : Nat} {u0 : Int} {p1 : Int} {p2 : Int} {p3 : Int} (X : CX p m c cc nL s args own G B κ meth ret) (hu0 : okk κ 7 u0) (hp1 : inR p1) (hp2 : inR p2) (hp3 : inR p3) {kc : Nat} {R : Room} {cells slots : Nat} (hRr : RmOK R kc) (hcel : cells ≤ R.cells ∧ slots ≤ R.slots) (hk : 1 + 1 ≤ kc) {M : Mem} {H : Heap} {locs : List Loc} (hR : Rp G e0 α κ B M H) (hS : va_S (fun q => B ≤ q) s.heap H locs) (k1 : Cond.methodLink own idx yX6_linesOfItem ∈ gw) {ls : Array Slot} (hml : ls.size = nL) {rest : List Value} (hd : decode cc pc = .ok (.invokevirtual idx, 3)) (hrest : (rest.map fun v => v.category).sum ≤ 8) {Q : State → Prop} {Qm : Int → Mem → Prop} (hw : wp_X6_linesOfItem u0 p1 p2 p3 M Qm) (kk : ∀ (r : Int) (M1 : Mem) (H1 : Heap) (locs1 : List Loc), Qm r M1 → inR r → Rp G e0 α κ B M1 H1 → va_S (fun q => B ≤ q) s.heap H1 locs1 → W p l e R s m args below meth c H1 locs1 cells slots Q (F0 m (pc + 3) ls (.int (Int32.ofInt r) :: rest))) : W p l e R s m args below meth c H locs cells slots Q (F0 m pc ls (.int (Int32.ofInt p3) :: .int (Int32.ofInt p2) :: .int (Int32.ofInt p1) :: .ref (α 7 u0) :: rest)) :=
  sa_callVI 1 (n := 3) (As := [.int (Int32.ofInt p1), .int (Int32.ofInt p2), .int (Int32.ofInt p3)]) (rest := rest) X.1 X.2.1 hR hS (m_X6_linesOfItem X.2.2.1 hu0 hp1 hp2 hp3 hw) k1 kw_1368 kw_1369 kw_46 kw_1370 ⟨rfl, by decide +kernel, by decide +kernel, by decide +kernel⟩ (rm_ok hRr hk (by decide)) (rc_7 X hR hu0) rfl rfl hrest hml hd hcel kk
def wp_X6_carriedOut (u0 : Int) (p1 : Int) (p2 : Int) (M : Mem) (Qm : Int → Mem → Prop) : Prop := wp_X6_hasPage u0 p1 M fun (x2 : Int) (M1 : Mem) => (¬ (if x2 = 0 then (0 : Int) else (if p2 < 0 then (0 : Int) else (if 6 ≤ p2 then (0 : Int) else 1))) = 0 → (inR (p1 * 6)) ∧ (inR ((p1 * 6) + p2)) ∧ (0 ≤ ((p1 * 6) + p2) ∧ ((p1 * 6) + p2) < 5424) ∧ True) ∧ Qm (if (if x2 = 0 then (0 : Int) else (if p2 < 0 then (0 : Int) else (if 6 ≤ p2 then (0 : Int) else 1))) = 0 then (0 : Int) else (M1 44 u0 ((p1 * 6) + p2))) M1
set_option maxHeartbeats 4000000 in
set_option maxRecDepth 100000 in
theorem t_X6_carriedOut {u0 : Int} {p1 : Int} {p2 : Int} (X : CX p m c cX6_carriedOut 4 s args RX6 G B κ meth (some .int)) (hu0 : okk κ 7 u0) (hp1 : inR p1) (hp2 : inR p2) {M : Mem} {Qm : Int → Mem → Prop} (hw : wp_X6_carriedOut u0 p1 p2 M Qm) (H : Heap) (locs : List Loc) (hR : Rp G e0 α κ B M H) (hS : va_S (fun q => B ≤ q) s.heap H locs) (ls : Array Slot) (hl : lv_has ls 4 [(0, .ref (α 7 u0)), (1, .int (Int32.ofInt p1)), (2, .int (Int32.ofInt p2))]) : WI p l e 1 s m args below meth c G e0 α κ B Qm H locs 0 ls [] := by
  have hw : wp_X6_hasPage u0 p1 M fun (x2 : Int) (M1 : Mem) => (¬ (if x2 = 0 then (0 : Int) else (if p2 < 0 then (0 : Int) else (if 6 ≤ p2 then (0 : Int) else 1))) = 0 → (inR (p1 * 6)) ∧ (inR ((p1 * 6) + p2)) ∧ (0 ≤ ((p1 * 6) + p2) ∧ ((p1 * 6) + p2) < 5424) ∧ True) ∧ Qm (if (if x2 = 0 then (0 : Int) else (if p2 < 0 then (0 : Int) else (if 6 ≤ p2 then (0 : Int) else 1))) = 0 then (0 : Int) else (M1 44 u0 ((p1 * 6) + p2))) M1 := hw
  refine lv_aload_n X.1.1 X.1.2.1 dX6_carriedOut_0 rfl (lv_at hl 0 rfl) ?_
  refine lv_iload_n X.1.1 X.1.2.1 dX6_carriedOut_1 rfl (lv_at hl 1 rfl) ?_
  refine cs_X6_hasPage X hu0 hp1 (kc := 1) rmL_ok rm_c (by decide) hR hS kw_622 hl.1 dX6_carriedOut_2 (Nat.le_of_ble_eq_true rfl) hw (fun x2 M1 H locs hw r3 hR hS => ?_)
  have r8 := inR_ite (c := x2 = 0) (inR_c (a := 0) rfl) (inR_ite (c := p2 < 0) (inR_c (a := 0) rfl) (inR_ite (c := 6 ≤ p2) (inR_c (a := 0) rfl) (inR_c (a := 1) rfl)))
  refine cut_j (A := ∀ v9 : Int, v9 = (if x2 = 0 then (0 : Int) else (if p2 < 0 then (0 : Int) else (if 6 ≤ p2 then (0 : Int) else 1))) → WI p l e 1 s m args below meth c G e0 α κ B Qm H locs 23 ls [.int (Int32.ofInt v9)]) (fun J10 => ?_) ?_
  · refine sa_if_eq (tgt := 22) X.1 r3 dX6_carriedOut_5 (by decide) (fun hc => ?_) (fun hc => ?_)
    · skip
      refine sa_const X.1 dX6_carriedOut_22 ?_
      exact J10 (0) (if_pos (c := x2 = 0) hc).symm
    · skip
      refine lv_iload_n X.1.1 X.1.2.1 dX6_carriedOut_8 rfl (lv_at hl 2 rfl) ?_
      refine cut_j (A := ∀ v6 : Int, v6 = (if p2 < 0 then (0 : Int) else (if 6 ≤ p2 then (0 : Int) else 1)) → WI p l e 1 s m args below meth c G e0 α κ B Qm H locs 23 ls [.int (Int32.ofInt v6)]) (fun J7 => ?_) ?_
      · refine sa_if_lt (tgt := 22) X.1 hp2 dX6_carriedOut_9 (by decide) (fun hc => ?_) (fun hc => ?_)
        · skip
          refine sa_const X.1 dX6_carriedOut_22 ?_
          exact J7 (0) (if_pos (c := p2 < 0) hc).symm
        · skip
          refine lv_iload_n X.1.1 X.1.2.1 dX6_carriedOut_12 rfl (lv_at hl 2 rfl) ?_
          refine sa_bipush X.1 dX6_carriedOut_13 (by decide) ?_
          refine cut_j (A := ∀ v4 : Int, v4 = (if 6 ≤ p2 then (0 : Int) else 1) → WI p l e 1 s m args below meth c G e0 α κ B Qm H locs 23 ls [.int (Int32.ofInt v4)]) (fun J5 => ?_) ?_
          · refine sa_icmp_ge (tgt := 22) X.1 hp2 (inR_c (a := 6) rfl) dX6_carriedOut_15 (by decide) (fun hc => ?_) (fun hc => ?_)
            · skip
              refine sa_const X.1 dX6_carriedOut_22 ?_
              exact J5 (0) (if_pos (c := 6 ≤ p2) hc).symm
            · skip
              refine sa_const X.1 dX6_carriedOut_18 ?_
              refine lv_goto (tgt := 23) X.1.1 X.1.2.1 dX6_carriedOut_19 (by decide) ?_
              exact J5 (1) (if_neg (c := 6 ≤ p2) (Int.not_le.mpr hc)).symm
          intro v4 hv4
          subst hv4
          exact J7 ((if 6 ≤ p2 then (0 : Int) else 1)) (if_neg (c := p2 < 0) (Int.not_lt.mpr hc)).symm
      intro v6 hv6
      subst hv6
      exact J10 ((if p2 < 0 then (0 : Int) else (if 6 ≤ p2 then (0 : Int) else 1))) (if_neg (c := x2 = 0) hc).symm
  intro v9 hv9
  subst hv9
  refine lv_istore_n (lv' := [(3, .int (Int32.ofInt (if x2 = 0 then (0 : Int) else (if p2 < 0 then (0 : Int) else (if 6 ≤ p2 then (0 : Int) else 1))))), (0, .ref (α 7 u0)), (1, .int (Int32.ofInt p1)), (2, .int (Int32.ofInt p2))]) X.1.1 X.1.2.1 dX6_carriedOut_23 rfl hl (by decide) rfl (fun ls hl => ?_)
  refine lv_iload_n X.1.1 X.1.2.1 dX6_carriedOut_24 rfl (lv_at hl 0 rfl) ?_
  have s14 := hw.1
  have hw := hw.2
  have r15 := inR_ite (c := (if x2 = 0 then (0 : Int) else (if p2 < 0 then (0 : Int) else (if 6 ≤ p2 then (0 : Int) else 1))) = 0) (inR_c (a := 0) rfl) (hR.r 44 u0 ((p1 * 6) + p2))
  refine cut_j (A := ∀ v16 : Int, v16 = (if (if x2 = 0 then (0 : Int) else (if p2 < 0 then (0 : Int) else (if 6 ≤ p2 then (0 : Int) else 1))) = 0 then (0 : Int) else (M1 44 u0 ((p1 * 6) + p2))) → WI p l e 1 s m args below meth c G e0 α κ B Qm H locs 43 ls [.int (Int32.ofInt v16)]) (fun J17 => ?_) ?_
  · refine sa_if_eq (tgt := 42) X.1 r8 dX6_carriedOut_25 (by decide) (fun hc => ?_) (fun hc => ?_)
    · skip
      refine sa_const X.1 dX6_carriedOut_42 ?_
      exact J17 (0) (if_pos (c := (if x2 = 0 then (0 : Int) else (if p2 < 0 then (0 : Int) else (if 6 ≤ p2 then (0 : Int) else 1))) = 0) hc).symm
    · have hw := s14 hc
      refine lv_aload_n X.1.1 X.1.2.1 dX6_carriedOut_28 rfl (lv_at hl 1 rfl) ?_
      refine gt_7_10 X hR hu0 kw_255 dX6_carriedOut_29 ?_
      refine lv_iload_n X.1.1 X.1.2.1 dX6_carriedOut_32 rfl (lv_at hl 2 rfl) ?_
      refine sa_bipush X.1 dX6_carriedOut_33 (by decide) ?_
      have c11 := hw.1
      have hw := hw.2
      refine sa_imul X.1 dX6_carriedOut_35 ?_
      refine lv_iload_n X.1.1 X.1.2.1 dX6_carriedOut_36 rfl (lv_at hl 3 rfl) ?_
      have c12 := hw.1
      have hw := hw.2
      refine sa_iadd X.1 dX6_carriedOut_37 ?_
      have c13 := hw.1
      have hw := hw.2
      refine ra_44 X hR (okp X.2.2.1 rfl (pr_7 X.2.2.1 hu0)) c13 dX6_carriedOut_38 ?_
      refine lv_goto (tgt := 43) X.1.1 X.1.2.1 dX6_carriedOut_39 (by decide) ?_
      exact J17 ((M1 44 u0 ((p1 * 6) + p2))) (if_neg (c := (if x2 = 0 then (0 : Int) else (if p2 < 0 then (0 : Int) else (if 6 ≤ p2 then (0 : Int) else 1))) = 0) hc).symm
  intro v16 hv16
  subst hv16
  exact sa_iret X.1 X.2.2.2.1 X.2.2.2.2 hR hS r15 hw dX6_carriedOut_43
theorem m_X6_carriedOut {l : Launch} {G : Gx} {e0 : Nat} {α : Ax} {κ : Nat → Int} {B : Nat} {u0 : Int} {p1 : Int} {p2 : Int} (hκ : kOK κ) (hu0 : okk κ 7 u0) (hp1 : inR p1) (hp2 : inR p2) {M : Mem} {Qm : Int → Mem → Prop} (hw : wp_X6_carriedOut u0 p1 p2 M Qm) : CI l yX6_carriedOut (Cond.code yX6_carriedOut cX6_carriedOut 4 (some .int)) 1 G e0 α κ B [.ref (α 7 u0), .int (Int32.ofInt p1), .int (Int32.ofInt p2)] M Qm :=
  CI.mk hκ (by decide +kernel) rfl (Nat.le_of_ble_eq_true rfl) (lv := [(0, .ref (α 7 u0)), (1, .int (Int32.ofInt p1)), (2, .int (Int32.ofInt p2))]) rfl (fun p e s m args below meth c ls X hR hS hl => t_X6_carriedOut X hu0 hp1 hp2 hw _ _ hR hS ls hl)
theorem cs_X6_carriedOut {cc : ByteArray} {nL : Nat} {own : String} {ret : Option FieldType} {idx pc : Nat} {u0 : Int} {p1 : Int} {p2 : Int} (X : CX p m c cc nL s args own G B κ meth ret) (hu0 : okk κ 7 u0) (hp1 : inR p1) (hp2 : inR p2) {kc : Nat} {R : Room} {cells slots : Nat} (hRr : RmOK R kc) (hcel : cells ≤ R.cells ∧ slots ≤ R.slots) (hk : 1 + 1 ≤ kc) {M : Mem} {H : Heap} {locs : List Loc} (hR : Rp G e0 α κ B M H) (hS : va_S (fun q => B ≤ q) s.heap H locs) (k1 : Cond.methodLink own idx yX6_carriedOut ∈ gw) {ls : Array Slot} (hml : ls.size = nL) {rest : List Value} (hd : decode cc pc = .ok (.invokevirtual idx, 3)) (hrest : (rest.map fun v => v.category).sum ≤ 8) {Q : State → Prop} {Qm : Int → Mem → Prop} (hw : wp_X6_carriedOut u0 p1 p2 M Qm) (kk : ∀ (r : Int) (M1 : Mem) (H1 : Heap) (locs1 : List Loc), Qm r M1 → inR r → Rp G e0 α κ B M1 H1 → va_S (fun q => B ≤ q) s.heap H1 locs1 → W p l e R s m args below meth c H1 locs1 cells slots Q (F0 m (pc + 3) ls (.int (Int32.ofInt r) :: rest))) : W p l e R s m args below meth c H locs cells slots Q (F0 m pc ls (.int (Int32.ofInt p2) :: .int (Int32.ofInt p1) :: .ref (α 7 u0) :: rest)) :=
  sa_callVI 1 (n := 2) (As := [.int (Int32.ofInt p1), .int (Int32.ofInt p2)]) (rest := rest) X.1 X.2.1 hR hS (m_X6_carriedOut X.2.2.1 hu0 hp1 hp2 hw) k1 kw_619 kw_620 kw_46 kw_621 ⟨rfl, by decide +kernel, by decide +kernel, by decide +kernel⟩ (rm_ok hRr hk (by decide)) (rc_7 X hR hu0) rfl rfl hrest hml hd hcel kk
def wp_X6_addFrame_77 (u0 : Int) (p1 : Int) (p2 : Int) (Qm : Mem → Prop) (M : Mem) : Prop := Qm M
def wp_X6_addFrame_2 (u0 : Int) (p1 : Int) (p2 : Int) (Qm : Mem → Prop) : Nat → Int → Mem → Prop
  | 0 => fun _ _ => False
  | n + 1 => fun y3 M => (((M 7 u0 1) ≤ y3 → wp_X6_addFrame_77 u0 p1 p2 Qm M) ∧ (y3 < (M 7 u0 1) → ((904 ≤ y3 → wp_X6_addFrame_77 u0 p1 p2 Qm M) ∧ (y3 < 904 → (0 ≤ y3 ∧ y3 < 904) ∧ (inR ((M 42 u0 y3) + p1)) ∧ (0 ≤ y3 ∧ y3 < 904) ∧ ∀ M6 : Mem, M6 = up M 42 u0 y3 ((M 42 u0 y3) + p1) → (0 ≤ y3 ∧ y3 < 904) ∧ (0 < y3 → (inR (1 + p2)) ∧ True) ∧ (inR (if y3 ≤ 0 then (0 : Int) else (1 + p2))) ∧ (inR ((M6 42 u0 y3) + (if y3 ≤ 0 then (0 : Int) else (1 + p2)))) ∧ (0 ≤ y3 ∧ y3 < 904) ∧ ∀ M17 : Mem, M17 = up M6 42 u0 y3 ((M6 42 u0 y3) + (if y3 ≤ 0 then (0 : Int) else (1 + p2))) → (0 ≤ y3 ∧ y3 < 904) ∧ (inR ((M17 7 u0 1) - 1)) ∧ (inR ((M17 42 u0 y3) + (if ((M17 7 u0 1) - 1) ≤ y3 then (0 : Int) else p2))) ∧ (0 ≤ y3 ∧ y3 < 904) ∧ ∀ M28 : Mem, M28 = up M17 42 u0 y3 ((M17 42 u0 y3) + (if ((M17 7 u0 1) - 1) ≤ y3 then (0 : Int) else p2)) → (inR (y3 + 1)) ∧ wp_X6_addFrame_2 u0 p1 p2 Qm n (y3 + 1) M28))))
def wp_X6_addFrame (u0 : Int) (p1 : Int) (p2 : Int) (M : Mem) (Qm : Mem → Prop) : Prop := (∃ n31 : Nat, wp_X6_addFrame_2 u0 p1 p2 Qm n31 0 M)
set_option maxHeartbeats 4000000 in
set_option maxRecDepth 100000 in
theorem t_X6_addFrame_77 {u0 : Int} {p1 : Int} {p2 : Int} (X : CX p m c cX6_addFrame 4 s args RX6 G B κ meth none) (hu0 : okk κ 7 u0) (hp1 : inR p1) (hp2 : inR p2) {Qm : Mem → Prop} : ∀ M : Mem, wp_X6_addFrame_77 u0 p1 p2 Qm M → ∀ (H : Heap) (locs : List Loc), Rp G e0 α κ B M H → va_S (fun q => B ≤ q) s.heap H locs → ∀ (ls : Array Slot), lv_has ls 4 [] → WV p l e 0 s m args below meth c G e0 α κ B Qm H locs 77 ls [] := by
  intro M hw H locs hR hS ls hl
  have hw : Qm M := hw
  exact sa_vret X.1 X.2.2.2.1 X.2.2.2.2 hR hS hw dX6_addFrame_77
set_option maxHeartbeats 4000000 in
set_option maxRecDepth 100000 in
theorem t_X6_addFrame_2 {u0 : Int} {p1 : Int} {p2 : Int} (X : CX p m c cX6_addFrame 4 s args RX6 G B κ meth none) (hu0 : okk κ 7 u0) (hp1 : inR p1) (hp2 : inR p2) {Qm : Mem → Prop} : ∀ n : Nat, ∀ y3 : Int, ∀ M : Mem, wp_X6_addFrame_2 u0 p1 p2 Qm n y3 M → inR y3 → ∀ (H : Heap) (locs : List Loc), Rp G e0 α κ B M H → va_S (fun q => B ≤ q) s.heap H locs → ∀ (ls : Array Slot), lv_has ls 4 [(0, .ref (α 7 u0)), (1, .int (Int32.ofInt p1)), (2, .int (Int32.ofInt p2)), (3, .int (Int32.ofInt y3))] → WV p l e 0 s m args below meth c G e0 α κ B Qm H locs 2 ls [] := by
  intro n
  induction n with
  | zero =>
    intro y3 M hw hy3 H locs hR hS ls hl
    exact hw.elim
  | succ n ih =>
    intro y3 M hw hy3 H locs hR hS ls hl
    have hw : (((M 7 u0 1) ≤ y3 → wp_X6_addFrame_77 u0 p1 p2 Qm M) ∧ (y3 < (M 7 u0 1) → ((904 ≤ y3 → wp_X6_addFrame_77 u0 p1 p2 Qm M) ∧ (y3 < 904 → (0 ≤ y3 ∧ y3 < 904) ∧ (inR ((M 42 u0 y3) + p1)) ∧ (0 ≤ y3 ∧ y3 < 904) ∧ ∀ M6 : Mem, M6 = up M 42 u0 y3 ((M 42 u0 y3) + p1) → (0 ≤ y3 ∧ y3 < 904) ∧ (0 < y3 → (inR (1 + p2)) ∧ True) ∧ (inR (if y3 ≤ 0 then (0 : Int) else (1 + p2))) ∧ (inR ((M6 42 u0 y3) + (if y3 ≤ 0 then (0 : Int) else (1 + p2)))) ∧ (0 ≤ y3 ∧ y3 < 904) ∧ ∀ M17 : Mem, M17 = up M6 42 u0 y3 ((M6 42 u0 y3) + (if y3 ≤ 0 then (0 : Int) else (1 + p2))) → (0 ≤ y3 ∧ y3 < 904) ∧ (inR ((M17 7 u0 1) - 1)) ∧ (inR ((M17 42 u0 y3) + (if ((M17 7 u0 1) - 1) ≤ y3 then (0 : Int) else p2))) ∧ (0 ≤ y3 ∧ y3 < 904) ∧ ∀ M28 : Mem, M28 = up M17 42 u0 y3 ((M17 42 u0 y3) + (if ((M17 7 u0 1) - 1) ≤ y3 then (0 : Int) else p2)) → (inR (y3 + 1)) ∧ wp_X6_addFrame_2 u0 p1 p2 Qm n (y3 + 1) M28)))) := hw
    refine lv_iload_n X.1.1 X.1.2.1 dX6_addFrame_2 rfl (lv_at hl 3 rfl) ?_
    refine lv_aload_n X.1.1 X.1.2.1 dX6_addFrame_3 rfl (lv_at hl 0 rfl) ?_
    refine gt_7_1 X hR hu0 kw_242 dX6_addFrame_4 ?_
    have r1 := hR.r 7 u0 1
    refine sa_icmp_ge (tgt := 77) X.1 hy3 r1 dX6_addFrame_7 (by decide) (fun hc => ?_) (fun hc => ?_)
    · have hw := hw.1 hc
      exact t_X6_addFrame_77 X hu0 hp1 hp2 _ hw _ _ hR hS _ (lv_sub hl [] rfl)
    · have hw := hw.2 hc
      refine lv_iload_n X.1.1 X.1.2.1 dX6_addFrame_10 rfl (lv_at hl 3 rfl) ?_
      refine sa_sipush X.1 dX6_addFrame_11 (by decide) ?_
      refine sa_icmp_ge (tgt := 77) X.1 hy3 (inR_c (a := 904) rfl) dX6_addFrame_14 (by decide) (fun hc => ?_) (fun hc => ?_)
      · have hw := hw.1 hc
        exact t_X6_addFrame_77 X hu0 hp1 hp2 _ hw _ _ hR hS _ (lv_sub hl [] rfl)
      · have hw := hw.2 hc
        refine lv_aload_n X.1.1 X.1.2.1 dX6_addFrame_17 rfl (lv_at hl 0 rfl) ?_
        refine gt_7_8 X hR hu0 kw_251 dX6_addFrame_18 ?_
        refine lv_iload_n X.1.1 X.1.2.1 dX6_addFrame_21 rfl (lv_at hl 3 rfl) ?_
        refine lv_dup2_11 X.1.1 X.1.2.1 dX6_addFrame_22 rfl rfl ?_
        have c2 := hw.1
        have hw := hw.2
        refine ra_42 X hR (okp X.2.2.1 rfl (pr_7 X.2.2.1 hu0)) c2 dX6_addFrame_23 ?_
        have r3 := hR.r 42 u0 y3
        refine lv_iload_n X.1.1 X.1.2.1 dX6_addFrame_24 rfl (lv_at hl 1 rfl) ?_
        have c4 := hw.1
        have hw := hw.2
        refine sa_iadd X.1 dX6_addFrame_25 ?_
        have c5 := hw.1
        have hw := hw.2
        refine wa_42 X hR hS (okp X.2.2.1 rfl (pr_7 X.2.2.1 hu0)) c5 c4 dX6_addFrame_26 (fun H locs hR hS => ?_)
        obtain ⟨M6, e7⟩ : ∃ z : Mem, z = up M 42 u0 y3 ((M 42 u0 y3) + p1) := ⟨_, rfl⟩
        rw [← e7] at hR
        have hw := hw M6 e7
        refine lv_aload_n X.1.1 X.1.2.1 dX6_addFrame_27 rfl (lv_at hl 0 rfl) ?_
        refine gt_7_8 X hR hu0 kw_251 dX6_addFrame_28 ?_
        refine lv_iload_n X.1.1 X.1.2.1 dX6_addFrame_31 rfl (lv_at hl 3 rfl) ?_
        refine lv_dup2_11 X.1.1 X.1.2.1 dX6_addFrame_32 rfl rfl ?_
        have c8 := hw.1
        have hw := hw.2
        refine ra_42 X hR (okp X.2.2.1 rfl (pr_7 X.2.2.1 hu0)) c8 dX6_addFrame_33 ?_
        have r9 := hR.r 42 u0 y3
        refine lv_iload_n X.1.1 X.1.2.1 dX6_addFrame_34 rfl (lv_at hl 3 rfl) ?_
        have s11 := hw.1
        have hw := hw.2
        have c12 := hw.1
        have hw := hw.2
        refine cut_j (A := ∀ v13 : Int, v13 = (if y3 ≤ 0 then (0 : Int) else (1 + p2)) → WV p l e 0 s m args below meth c G e0 α κ B Qm H locs 45 ls [.int (Int32.ofInt v13), .int (Int32.ofInt (M6 42 u0 y3)), .int (Int32.ofInt y3), .ref (α 42 u0)]) (fun J14 => ?_) ?_
        · refine sa_if_le (tgt := 44) X.1 hy3 dX6_addFrame_35 (by decide) (fun hc => ?_) (fun hc => ?_)
          · skip
            refine sa_const X.1 dX6_addFrame_44 ?_
            exact J14 (0) (if_pos (c := y3 ≤ 0) hc).symm
          · have hw := s11 hc
            refine sa_const X.1 dX6_addFrame_38 ?_
            refine lv_iload_n X.1.1 X.1.2.1 dX6_addFrame_39 rfl (lv_at hl 2 rfl) ?_
            have c10 := hw.1
            have hw := hw.2
            refine sa_iadd X.1 dX6_addFrame_40 ?_
            refine lv_goto (tgt := 45) X.1.1 X.1.2.1 dX6_addFrame_41 (by decide) ?_
            exact J14 ((1 + p2)) (if_neg (c := y3 ≤ 0) (Int.not_le.mpr hc)).symm
        intro v13 hv13
        subst hv13
        have c15 := hw.1
        have hw := hw.2
        refine sa_iadd X.1 dX6_addFrame_45 ?_
        have c16 := hw.1
        have hw := hw.2
        refine wa_42 X hR hS (okp X.2.2.1 rfl (pr_7 X.2.2.1 hu0)) c16 c15 dX6_addFrame_46 (fun H locs hR hS => ?_)
        obtain ⟨M17, e18⟩ : ∃ z : Mem, z = up M6 42 u0 y3 ((M6 42 u0 y3) + (if y3 ≤ 0 then (0 : Int) else (1 + p2))) := ⟨_, rfl⟩
        rw [← e18] at hR
        have hw := hw M17 e18
        refine lv_aload_n X.1.1 X.1.2.1 dX6_addFrame_47 rfl (lv_at hl 0 rfl) ?_
        refine gt_7_8 X hR hu0 kw_251 dX6_addFrame_48 ?_
        refine lv_iload_n X.1.1 X.1.2.1 dX6_addFrame_51 rfl (lv_at hl 3 rfl) ?_
        refine lv_dup2_11 X.1.1 X.1.2.1 dX6_addFrame_52 rfl rfl ?_
        have c19 := hw.1
        have hw := hw.2
        refine ra_42 X hR (okp X.2.2.1 rfl (pr_7 X.2.2.1 hu0)) c19 dX6_addFrame_53 ?_
        have r20 := hR.r 42 u0 y3
        refine lv_iload_n X.1.1 X.1.2.1 dX6_addFrame_54 rfl (lv_at hl 3 rfl) ?_
        refine lv_aload_n X.1.1 X.1.2.1 dX6_addFrame_55 rfl (lv_at hl 0 rfl) ?_
        refine gt_7_1 X hR hu0 kw_242 dX6_addFrame_56 ?_
        have r21 := hR.r 7 u0 1
        refine sa_const X.1 dX6_addFrame_59 ?_
        have c22 := hw.1
        have hw := hw.2
        refine sa_isub X.1 dX6_addFrame_60 ?_
        have r23 := inR_ite (c := ((M17 7 u0 1) - 1) ≤ y3) (inR_c (a := 0) rfl) hp2
        refine cut_j (A := ∀ v24 : Int, v24 = (if ((M17 7 u0 1) - 1) ≤ y3 then (0 : Int) else p2) → WV p l e 0 s m args below meth c G e0 α κ B Qm H locs 69 ls [.int (Int32.ofInt v24), .int (Int32.ofInt (M17 42 u0 y3)), .int (Int32.ofInt y3), .ref (α 42 u0)]) (fun J25 => ?_) ?_
        · refine sa_icmp_ge (tgt := 68) X.1 hy3 c22 dX6_addFrame_61 (by decide) (fun hc => ?_) (fun hc => ?_)
          · skip
            refine sa_const X.1 dX6_addFrame_68 ?_
            exact J25 (0) (if_pos (c := ((M17 7 u0 1) - 1) ≤ y3) hc).symm
          · skip
            refine lv_iload_n X.1.1 X.1.2.1 dX6_addFrame_64 rfl (lv_at hl 2 rfl) ?_
            refine lv_goto (tgt := 69) X.1.1 X.1.2.1 dX6_addFrame_65 (by decide) ?_
            exact J25 (p2) (if_neg (c := ((M17 7 u0 1) - 1) ≤ y3) (Int.not_le.mpr hc)).symm
        intro v24 hv24
        subst hv24
        have c26 := hw.1
        have hw := hw.2
        refine sa_iadd X.1 dX6_addFrame_69 ?_
        have c27 := hw.1
        have hw := hw.2
        refine wa_42 X hR hS (okp X.2.2.1 rfl (pr_7 X.2.2.1 hu0)) c27 c26 dX6_addFrame_70 (fun H locs hR hS => ?_)
        obtain ⟨M28, e29⟩ : ∃ z : Mem, z = up M17 42 u0 y3 ((M17 42 u0 y3) + (if ((M17 7 u0 1) - 1) ≤ y3 then (0 : Int) else p2)) := ⟨_, rfl⟩
        rw [← e29] at hR
        have hw := hw M28 e29
        have c30 := hw.1
        have hw := hw.2
        refine lv_iinc (v := Int32.ofInt (y3 + 1)) (lv' := [(3, .int (Int32.ofInt (y3 + 1))), (0, .ref (α 7 u0)), (1, .int (Int32.ofInt p1)), (2, .int (Int32.ofInt p2))]) X.1.1 X.1.2.1 dX6_addFrame_71 hl (k := 3) rfl (Int32.ofInt_add _ _).symm (by decide) rfl (fun ls hl => ?_)
        refine lv_goto (tgt := 2) X.1.1 X.1.2.1 dX6_addFrame_74 (by decide) ?_
        exact ih _ _ hw c30 _ _ hR hS _ (lv_sub hl [1, 2, 3, 0] rfl)
set_option maxHeartbeats 4000000 in
set_option maxRecDepth 100000 in
theorem t_X6_addFrame {u0 : Int} {p1 : Int} {p2 : Int} (X : CX p m c cX6_addFrame 4 s args RX6 G B κ meth none) (hu0 : okk κ 7 u0) (hp1 : inR p1) (hp2 : inR p2) {M : Mem} {Qm : Mem → Prop} (hw : wp_X6_addFrame u0 p1 p2 M Qm) (H : Heap) (locs : List Loc) (hR : Rp G e0 α κ B M H) (hS : va_S (fun q => B ≤ q) s.heap H locs) (ls : Array Slot) (hl : lv_has ls 4 [(0, .ref (α 7 u0)), (1, .int (Int32.ofInt p1)), (2, .int (Int32.ofInt p2))]) : WV p l e 0 s m args below meth c G e0 α κ B Qm H locs 0 ls [] := by
  have hw : (∃ n31 : Nat, wp_X6_addFrame_2 u0 p1 p2 Qm n31 0 M) := hw
  refine sa_const X.1 dX6_addFrame_0 ?_
  refine lv_istore_n (lv' := [(3, .int (Int32.ofInt 0)), (0, .ref (α 7 u0)), (1, .int (Int32.ofInt p1)), (2, .int (Int32.ofInt p2))]) X.1.1 X.1.2.1 dX6_addFrame_1 rfl hl (by decide) rfl (fun ls hl => ?_)
  obtain ⟨n31, hw⟩ := hw
  exact t_X6_addFrame_2 X hu0 hp1 hp2 n31 _ _ hw (inR_c (a := 0) rfl) _ _ hR hS _ (lv_sub hl [1, 2, 3, 0] rfl)
theorem m_X6_addFrame {l : Launch} {G : Gx} {e0 : Nat} {α : Ax} {κ : Nat → Int} {B : Nat} {u0 : Int} {p1 : Int} {p2 : Int} (hκ : kOK κ) (hu0 : okk κ 7 u0) (hp1 : inR p1) (hp2 : inR p2) {M : Mem} {Qm : Mem → Prop} (hw : wp_X6_addFrame u0 p1 p2 M Qm) : CV l yX6_addFrame (Cond.code yX6_addFrame cX6_addFrame 4 none) 0 G e0 α κ B [.ref (α 7 u0), .int (Int32.ofInt p1), .int (Int32.ofInt p2)] M Qm :=
  CV.mk hκ (by decide +kernel) rfl (Nat.le_of_ble_eq_true rfl) (lv := [(0, .ref (α 7 u0)), (1, .int (Int32.ofInt p1)), (2, .int (Int32.ofInt p2))]) rfl (fun p e s m args below meth c ls X hR hS hl => t_X6_addFrame X hu0 hp1 hp2 hw _ _ hR hS ls hl)
theorem cs_X6_addFrame {cc : ByteArray} {nL : Nat} {own : String} {ret : Option FieldType} {idx pc : Nat} {u0 : Int} {p1 : Int} {p2 : Int} (X : CX p m c cc nL s args own G B κ meth ret) (hu0 : okk κ 7 u0) (hp1 : inR p1) (hp2 : inR p2) {kc : Nat} {R : Room} {cells slots : Nat} (hRr : RmOK R kc) (hcel : cells ≤ R.cells ∧ slots ≤ R.slots) (hk : 0 + 1 ≤ kc) {M : Mem} {H : Heap} {locs : List Loc} (hR : Rp G e0 α κ B M H) (hS : va_S (fun q => B ≤ q) s.heap H locs) (k1 : Cond.methodLink own idx yX6_addFrame ∈ gw) {ls : Array Slot} (hml : ls.size = nL) {rest : List Value} (hd : decode cc pc = .ok (.invokevirtual idx, 3)) (hrest : (rest.map fun v => v.category).sum ≤ 8) {Q : State → Prop} {Qm : Mem → Prop} (hw : wp_X6_addFrame u0 p1 p2 M Qm) (kk : ∀ (M1 : Mem) (H1 : Heap) (locs1 : List Loc), Qm M1 → Rp G e0 α κ B M1 H1 → va_S (fun q => B ≤ q) s.heap H1 locs1 → W p l e R s m args below meth c H1 locs1 cells slots Q (F0 m (pc + 3) ls (rest))) : W p l e R s m args below meth c H locs cells slots Q (F0 m pc ls (.int (Int32.ofInt p2) :: .int (Int32.ofInt p1) :: .ref (α 7 u0) :: rest)) :=
  sa_callVV 0 (n := 2) (As := [.int (Int32.ofInt p1), .int (Int32.ofInt p2)]) (rest := rest) X.1 X.2.1 hR hS (m_X6_addFrame X.2.2.1 hu0 hp1 hp2 hw) k1 kw_611 kw_612 kw_46 kw_613 ⟨rfl, by decide +kernel, by decide +kernel, by decide +kernel⟩ (rm_ok hRr hk (by decide)) (rc_7 X hR hu0) rfl rfl hrest hml hd hcel kk
def wp_X6_addFigures_46 (u0 : Int) (u1 : Int) (p2 : Int) (Qm : Mem → Prop) (M : Mem) : Prop := Qm M
def wp_X6_addFigures_3 (u0 : Int) (u1 : Int) (p2 : Int) (Qm : Mem → Prop) : Nat → Int → Mem → Prop
  | 0 => fun _ _ => False
  | n + 1 => fun y4 M => ((6 ≤ y4 → wp_X6_addFigures_46 u0 u1 p2 Qm M) ∧ (y4 < 6 → wp_X6_hasPage u0 p2 M fun (x2 : Int) (M1 : Mem) => ((x2 = 0 → wp_X6_addFigures_46 u0 u1 p2 Qm M1) ∧ (¬ x2 = 0 → (inR (p2 * 6)) ∧ (inR ((p2 * 6) + y4)) ∧ (0 ≤ ((p2 * 6) + y4) ∧ ((p2 * 6) + y4) < 5424) ∧ wp_X3_figureAt u1 y4 M1 fun (x9 : Int) (M8 : Mem) => (inR ((M1 44 u0 ((p2 * 6) + y4)) + x9)) ∧ (0 ≤ ((p2 * 6) + y4) ∧ ((p2 * 6) + y4) < 5424) ∧ ∀ M13 : Mem, M13 = up M8 44 u0 ((p2 * 6) + y4) ((M1 44 u0 ((p2 * 6) + y4)) + x9) → (inR (y4 + 1)) ∧ wp_X6_addFigures_3 u0 u1 p2 Qm n (y4 + 1) M13))))
def wp_X6_addFigures (u0 : Int) (u1 : Int) (p2 : Int) (M : Mem) (Qm : Mem → Prop) : Prop := (∃ n16 : Nat, wp_X6_addFigures_3 u0 u1 p2 Qm n16 0 M)
set_option maxHeartbeats 4000000 in
set_option maxRecDepth 100000 in
theorem t_X6_addFigures_46 {u0 : Int} {u1 : Int} {p2 : Int} (X : CX p m c cX6_addFigures 5 s args RX6 G B κ meth none) (hu0 : okk κ 7 u0) (hu1 : okk κ 6 u1) (hp2 : inR p2) {Qm : Mem → Prop} : ∀ M : Mem, wp_X6_addFigures_46 u0 u1 p2 Qm M → ∀ (H : Heap) (locs : List Loc), Rp G e0 α κ B M H → va_S (fun q => B ≤ q) s.heap H locs → ∀ (ls : Array Slot), lv_has ls 5 [] → WV p l e 4 s m args below meth c G e0 α κ B Qm H locs 46 ls [] := by
  intro M hw H locs hR hS ls hl
  have hw : Qm M := hw
  exact sa_vret X.1 X.2.2.2.1 X.2.2.2.2 hR hS hw dX6_addFigures_46
set_option maxHeartbeats 4000000 in
set_option maxRecDepth 100000 in
theorem t_X6_addFigures_3 {u0 : Int} {u1 : Int} {p2 : Int} (X : CX p m c cX6_addFigures 5 s args RX6 G B κ meth none) (hu0 : okk κ 7 u0) (hu1 : okk κ 6 u1) (hp2 : inR p2) {Qm : Mem → Prop} : ∀ n : Nat, ∀ y4 : Int, ∀ M : Mem, wp_X6_addFigures_3 u0 u1 p2 Qm n y4 M → inR y4 → ∀ (H : Heap) (locs : List Loc), Rp G e0 α κ B M H → va_S (fun q => B ≤ q) s.heap H locs → ∀ (ls : Array Slot), lv_has ls 5 [(0, .ref (α 7 u0)), (1, .ref (α 6 u1)), (2, .int (Int32.ofInt p2)), (3, .ref (α 4 0)), (4, .int (Int32.ofInt y4))] → WV p l e 4 s m args below meth c G e0 α κ B Qm H locs 3 ls [] := by
  intro n
  induction n with
  | zero =>
    intro y4 M hw hy4 H locs hR hS ls hl
    exact hw.elim
  | succ n ih =>
    intro y4 M hw hy4 H locs hR hS ls hl
    have hw : ((6 ≤ y4 → wp_X6_addFigures_46 u0 u1 p2 Qm M) ∧ (y4 < 6 → wp_X6_hasPage u0 p2 M fun (x2 : Int) (M1 : Mem) => ((x2 = 0 → wp_X6_addFigures_46 u0 u1 p2 Qm M1) ∧ (¬ x2 = 0 → (inR (p2 * 6)) ∧ (inR ((p2 * 6) + y4)) ∧ (0 ≤ ((p2 * 6) + y4) ∧ ((p2 * 6) + y4) < 5424) ∧ wp_X3_figureAt u1 y4 M1 fun (x9 : Int) (M8 : Mem) => (inR ((M1 44 u0 ((p2 * 6) + y4)) + x9)) ∧ (0 ≤ ((p2 * 6) + y4) ∧ ((p2 * 6) + y4) < 5424) ∧ ∀ M13 : Mem, M13 = up M8 44 u0 ((p2 * 6) + y4) ((M1 44 u0 ((p2 * 6) + y4)) + x9) → (inR (y4 + 1)) ∧ wp_X6_addFigures_3 u0 u1 p2 Qm n (y4 + 1) M13)))) := hw
    refine lv_iload X.1.1 X.1.2.1 dX6_addFigures_3 (lv_at hl 4 rfl) ?_
    refine sa_bipush X.1 dX6_addFigures_5 (by decide) ?_
    refine sa_icmp_ge (tgt := 46) X.1 hy4 (inR_c (a := 6) rfl) dX6_addFigures_7 (by decide) (fun hc => ?_) (fun hc => ?_)
    · have hw := hw.1 hc
      exact t_X6_addFigures_46 X hu0 hu1 hp2 _ hw _ _ hR hS _ (lv_sub hl [] rfl)
    · have hw := hw.2 hc
      refine lv_aload_n X.1.1 X.1.2.1 dX6_addFigures_10 rfl (lv_at hl 0 rfl) ?_
      refine lv_iload_n X.1.1 X.1.2.1 dX6_addFigures_11 rfl (lv_at hl 2 rfl) ?_
      refine cs_X6_hasPage X hu0 hp2 (kc := 4) rmL_ok rm_c (by decide) hR hS kw_622 hl.1 dX6_addFigures_12 (Nat.le_of_ble_eq_true rfl) hw (fun x2 M1 H locs hw r3 hR hS => ?_)
      refine sa_if_eq (tgt := 46) X.1 r3 dX6_addFigures_15 (by decide) (fun hc => ?_) (fun hc => ?_)
      · have hw := hw.1 hc
        exact t_X6_addFigures_46 X hu0 hu1 hp2 _ hw _ _ hR hS _ (lv_sub hl [] rfl)
      · have hw := hw.2 hc
        refine lv_aload_n X.1.1 X.1.2.1 dX6_addFigures_18 rfl (lv_at hl 0 rfl) ?_
        refine gt_7_10 X hR hu0 kw_255 dX6_addFigures_19 ?_
        refine lv_iload_n X.1.1 X.1.2.1 dX6_addFigures_22 rfl (lv_at hl 2 rfl) ?_
        refine sa_bipush X.1 dX6_addFigures_23 (by decide) ?_
        have c4 := hw.1
        have hw := hw.2
        refine sa_imul X.1 dX6_addFigures_25 ?_
        refine lv_iload X.1.1 X.1.2.1 dX6_addFigures_26 (lv_at hl 4 rfl) ?_
        have c5 := hw.1
        have hw := hw.2
        refine sa_iadd X.1 dX6_addFigures_28 ?_
        refine lv_dup2_11 X.1.1 X.1.2.1 dX6_addFigures_29 rfl rfl ?_
        have c6 := hw.1
        have hw := hw.2
        refine ra_44 X hR (okp X.2.2.1 rfl (pr_7 X.2.2.1 hu0)) c6 dX6_addFigures_30 ?_
        have r7 := hR.r 44 u0 ((p2 * 6) + y4)
        refine lv_aload_n X.1.1 X.1.2.1 dX6_addFigures_31 rfl (lv_at hl 3 rfl) ?_
        refine lv_aload_n X.1.1 X.1.2.1 dX6_addFigures_32 rfl (lv_at hl 1 rfl) ?_
        refine lv_iload X.1.1 X.1.2.1 dX6_addFigures_33 (lv_at hl 4 rfl) ?_
        refine cs_X3_figureAt X hu1 hy4 (kc := 4) rmL_ok rm_c (by decide) hR hS kw_649 hl.1 dX6_addFigures_35 (Nat.le_of_ble_eq_true rfl) hw (fun x9 M8 H locs hw r10 hR hS => ?_)
        have c11 := hw.1
        have hw := hw.2
        refine sa_iadd X.1 dX6_addFigures_38 ?_
        have c12 := hw.1
        have hw := hw.2
        refine wa_44 X hR hS (okp X.2.2.1 rfl (pr_7 X.2.2.1 hu0)) c12 c11 dX6_addFigures_39 (fun H locs hR hS => ?_)
        obtain ⟨M13, e14⟩ : ∃ z : Mem, z = up M8 44 u0 ((p2 * 6) + y4) ((M1 44 u0 ((p2 * 6) + y4)) + x9) := ⟨_, rfl⟩
        rw [← e14] at hR
        have hw := hw M13 e14
        have c15 := hw.1
        have hw := hw.2
        refine lv_iinc (v := Int32.ofInt (y4 + 1)) (lv' := [(4, .int (Int32.ofInt (y4 + 1))), (0, .ref (α 7 u0)), (1, .ref (α 6 u1)), (2, .int (Int32.ofInt p2)), (3, .ref (α 4 0))]) X.1.1 X.1.2.1 dX6_addFigures_40 hl (k := 4) rfl (Int32.ofInt_add _ _).symm (by decide) rfl (fun ls hl => ?_)
        refine lv_goto (tgt := 3) X.1.1 X.1.2.1 dX6_addFigures_43 (by decide) ?_
        exact ih _ _ hw c15 _ _ hR hS _ (lv_sub hl [1, 2, 3, 4, 0] rfl)
set_option maxHeartbeats 4000000 in
set_option maxRecDepth 100000 in
theorem t_X6_addFigures {u0 : Int} {u1 : Int} {p2 : Int} (X : CX p m c cX6_addFigures 5 s args RX6 G B κ meth none) (hu0 : okk κ 7 u0) (hu1 : okk κ 6 u1) (hp2 : inR p2) {M : Mem} {Qm : Mem → Prop} (hw : wp_X6_addFigures u0 u1 p2 M Qm) (H : Heap) (locs : List Loc) (hR : Rp G e0 α κ B M H) (hS : va_S (fun q => B ≤ q) s.heap H locs) (ls : Array Slot) (hl : lv_has ls 5 [(0, .ref (α 7 u0)), (1, .ref (α 6 u1)), (2, .int (Int32.ofInt p2)), (3, .ref (α 4 0))]) : WV p l e 4 s m args below meth c G e0 α κ B Qm H locs 0 ls [] := by
  have hw : (∃ n16 : Nat, wp_X6_addFigures_3 u0 u1 p2 Qm n16 0 M) := hw
  refine sa_const X.1 dX6_addFigures_0 ?_
  refine lv_istore (lv' := [(4, .int (Int32.ofInt 0)), (0, .ref (α 7 u0)), (1, .ref (α 6 u1)), (2, .int (Int32.ofInt p2)), (3, .ref (α 4 0))]) X.1.1 X.1.2.1 dX6_addFigures_1 hl (by decide) rfl (fun ls hl => ?_)
  obtain ⟨n16, hw⟩ := hw
  exact t_X6_addFigures_3 X hu0 hu1 hp2 n16 _ _ hw (inR_c (a := 0) rfl) _ _ hR hS _ (lv_sub hl [1, 2, 3, 4, 0] rfl)
theorem m_X6_addFigures {l : Launch} {G : Gx} {e0 : Nat} {α : Ax} {κ : Nat → Int} {B : Nat} {u0 : Int} {u1 : Int} {p2 : Int} (hκ : kOK κ) (hu0 : okk κ 7 u0) (hu1 : okk κ 6 u1) (hp2 : inR p2) {M : Mem} {Qm : Mem → Prop} (hw : wp_X6_addFigures u0 u1 p2 M Qm) : CV l yX6_addFigures (Cond.code yX6_addFigures cX6_addFigures 5 none) 4 G e0 α κ B [.ref (α 7 u0), .ref (α 6 u1), .int (Int32.ofInt p2), .ref (α 4 0)] M Qm :=
  CV.mk hκ (by decide +kernel) rfl (Nat.le_of_ble_eq_true rfl) (lv := [(0, .ref (α 7 u0)), (1, .ref (α 6 u1)), (2, .int (Int32.ofInt p2)), (3, .ref (α 4 0))]) rfl (fun p e s m args below meth c ls X hR hS hl => t_X6_addFigures X hu0 hu1 hp2 hw _ _ hR hS ls hl)
theorem cs_X6_addFigures {cc : ByteArray} {nL : Nat} {own : String} {ret : Option FieldType} {idx pc : Nat} {u0 : Int} {u1 : Int} {p2 : Int} (X : CX p m c cc nL s args own G B κ meth ret) (hu0 : okk κ 7 u0) (hu1 : okk κ 6 u1) (hp2 : inR p2) {kc : Nat} {R : Room} {cells slots : Nat} (hRr : RmOK R kc) (hcel : cells ≤ R.cells ∧ slots ≤ R.slots) (hk : 4 + 1 ≤ kc) {M : Mem} {H : Heap} {locs : List Loc} (hR : Rp G e0 α κ B M H) (hS : va_S (fun q => B ≤ q) s.heap H locs) (k1 : Cond.methodLink own idx yX6_addFigures ∈ gw) {ls : Array Slot} (hml : ls.size = nL) {rest : List Value} (hd : decode cc pc = .ok (.invokevirtual idx, 3)) (hrest : (rest.map fun v => v.category).sum ≤ 8) {Q : State → Prop} {Qm : Mem → Prop} (hw : wp_X6_addFigures u0 u1 p2 M Qm) (kk : ∀ (M1 : Mem) (H1 : Heap) (locs1 : List Loc), Qm M1 → Rp G e0 α κ B M1 H1 → va_S (fun q => B ≤ q) s.heap H1 locs1 → W p l e R s m args below meth c H1 locs1 cells slots Q (F0 m (pc + 3) ls (rest))) : W p l e R s m args below meth c H locs cells slots Q (F0 m pc ls (.ref (α 4 0) :: .int (Int32.ofInt p2) :: .ref (α 6 u1) :: .ref (α 7 u0) :: rest)) :=
  sa_callVV 4 (n := 3) (As := [.ref (α 6 u1), .int (Int32.ofInt p2), .ref (α 4 0)]) (rest := rest) X.1 X.2.1 hR hS (m_X6_addFigures X.2.2.1 hu0 hu1 hp2 hw) k1 kw_647 kw_19 kw_46 kw_648 ⟨rfl, by decide +kernel, by decide +kernel, by decide +kernel⟩ (rm_ok hRr hk (by decide)) (rc_7 X hR hu0) rfl rfl hrest hml hd hcel kk
def wp_X6_hasSamePieces_154 (u0 : Int) (p1 : Int) (u2 : Int) (Qm : Int → Mem → Prop) (M : Mem) : Prop := Qm 1 M
def wp_X6_hasSamePieces_40 (u0 : Int) (p1 : Int) (u2 : Int) (Qm : Int → Mem → Prop) : Nat → Int → Int → Int → Int → Mem → Prop
  | 0 => fun _ _ _ _ _ => False
  | n + 1 => fun y3 y4 y5 y6 M => ((y5 ≤ y6 → wp_X6_hasSamePieces_154 u0 p1 u2 Qm M) ∧ (y6 < y5 → (inR (y3 + y6)) ∧ ((904 ≤ (y3 + y6) → wp_X6_hasSamePieces_154 u0 p1 u2 Qm M) ∧ ((y3 + y6) < 904 → (inR (y4 + y6)) ∧ ((904 ≤ (y4 + y6) → wp_X6_hasSamePieces_154 u0 p1 u2 Qm M) ∧ ((y4 + y6) < 904 → (inR (y3 + y6)) ∧ (0 ≤ (y3 + y6) ∧ (y3 + y6) < 904) ∧ (inR (y4 + y6)) ∧ (0 ≤ (y4 + y6) ∧ (y4 + y6) < 904) ∧ ((M 38 u0 (y3 + y6)) = (M 38 u2 (y4 + y6)) → (inR (y3 + y6)) ∧ (0 ≤ (y3 + y6) ∧ (y3 + y6) < 904) ∧ (inR (y4 + y6)) ∧ (0 ≤ (y4 + y6) ∧ (y4 + y6) < 904) ∧ ((M 39 u0 (y3 + y6)) = (M 39 u2 (y4 + y6)) → (inR (y3 + y6)) ∧ (0 ≤ (y3 + y6) ∧ (y3 + y6) < 904) ∧ (inR (y4 + y6)) ∧ (0 ≤ (y4 + y6) ∧ (y4 + y6) < 904) ∧ True) ∧ True) ∧ ((¬ (if ¬ (M 38 u0 (y3 + y6)) = (M 38 u2 (y4 + y6)) then (0 : Int) else (if ¬ (M 39 u0 (y3 + y6)) = (M 39 u2 (y4 + y6)) then (0 : Int) else (if ¬ (M 40 u0 (y3 + y6)) = (M 40 u2 (y4 + y6)) then (0 : Int) else 1))) = 0 → (inR (y6 + 1)) ∧ wp_X6_hasSamePieces_40 u0 p1 u2 Qm n y3 y4 y5 (y6 + 1) M) ∧ ((if ¬ (M 38 u0 (y3 + y6)) = (M 38 u2 (y4 + y6)) then (0 : Int) else (if ¬ (M 39 u0 (y3 + y6)) = (M 39 u2 (y4 + y6)) then (0 : Int) else (if ¬ (M 40 u0 (y3 + y6)) = (M 40 u2 (y4 + y6)) then (0 : Int) else 1))) = 0 → Qm 0 M))))))))
def wp_X6_hasSamePieces (u0 : Int) (p1 : Int) (u2 : Int) (M : Mem) (Qm : Int → Mem → Prop) : Prop := wp_X6_pieceBeginOf u0 p1 M fun (x2 : Int) (M1 : Mem) => wp_X6_pieceBeginOf u2 p1 M1 fun (x5 : Int) (M4 : Mem) => wp_X6_pieceEndOf u0 p1 M4 fun (x8 : Int) (M7 : Mem) => (inR (x8 - x2)) ∧ wp_X6_pieceEndOf u2 p1 M7 fun (x12 : Int) (M11 : Mem) => (inR (x12 - x5)) ∧ (((x8 - x2) = (x12 - x5) → (∃ n41 : Nat, wp_X6_hasSamePieces_40 u0 p1 u2 Qm n41 x2 x5 (x8 - x2) 0 M11)) ∧ (¬ (x8 - x2) = (x12 - x5) → Qm 0 M11))
set_option maxHeartbeats 4000000 in
set_option maxRecDepth 100000 in
theorem t_X6_hasSamePieces_154 {u0 : Int} {p1 : Int} {u2 : Int} (X : CX p m c cX6_hasSamePieces 8 s args RX6 G B κ meth (some .boolean)) (hu0 : okk κ 7 u0) (hp1 : inR p1) (hu2 : okk κ 7 u2) {Qm : Int → Mem → Prop} : ∀ M : Mem, wp_X6_hasSamePieces_154 u0 p1 u2 Qm M → ∀ (H : Heap) (locs : List Loc), Rp G e0 α κ B M H → va_S (fun q => B ≤ q) s.heap H locs → ∀ (ls : Array Slot), lv_has ls 8 [] → WI p l e 3 s m args below meth c G e0 α κ B Qm H locs 154 ls [] := by
  intro M hw H locs hR hS ls hl
  have hw : Qm 1 M := hw
  refine sa_const X.1 dX6_hasSamePieces_154 ?_
  exact sa_zret X.1 X.2.2.2.1 X.2.2.2.2 hR hS (Or.inr rfl) hw dX6_hasSamePieces_155
set_option maxHeartbeats 4000000 in
set_option maxRecDepth 100000 in
theorem t_X6_hasSamePieces_40 {u0 : Int} {p1 : Int} {u2 : Int} (X : CX p m c cX6_hasSamePieces 8 s args RX6 G B κ meth (some .boolean)) (hu0 : okk κ 7 u0) (hp1 : inR p1) (hu2 : okk κ 7 u2) {Qm : Int → Mem → Prop} : ∀ n : Nat, ∀ y3 : Int, ∀ y4 : Int, ∀ y5 : Int, ∀ y6 : Int, ∀ M : Mem, wp_X6_hasSamePieces_40 u0 p1 u2 Qm n y3 y4 y5 y6 M → inR y3 → inR y4 → inR y5 → inR y6 → ∀ (H : Heap) (locs : List Loc), Rp G e0 α κ B M H → va_S (fun q => B ≤ q) s.heap H locs → ∀ (ls : Array Slot), lv_has ls 8 [(0, .ref (α 7 u0)), (2, .ref (α 7 u2)), (3, .int (Int32.ofInt y3)), (4, .int (Int32.ofInt y4)), (5, .int (Int32.ofInt y5)), (6, .int (Int32.ofInt y6))] → WI p l e 3 s m args below meth c G e0 α κ B Qm H locs 40 ls [] := by
  intro n
  induction n with
  | zero =>
    intro y3 y4 y5 y6 M hw hy3 hy4 hy5 hy6 H locs hR hS ls hl
    exact hw.elim
  | succ n ih =>
    intro y3 y4 y5 y6 M hw hy3 hy4 hy5 hy6 H locs hR hS ls hl
    have hw : ((y5 ≤ y6 → wp_X6_hasSamePieces_154 u0 p1 u2 Qm M) ∧ (y6 < y5 → (inR (y3 + y6)) ∧ ((904 ≤ (y3 + y6) → wp_X6_hasSamePieces_154 u0 p1 u2 Qm M) ∧ ((y3 + y6) < 904 → (inR (y4 + y6)) ∧ ((904 ≤ (y4 + y6) → wp_X6_hasSamePieces_154 u0 p1 u2 Qm M) ∧ ((y4 + y6) < 904 → (inR (y3 + y6)) ∧ (0 ≤ (y3 + y6) ∧ (y3 + y6) < 904) ∧ (inR (y4 + y6)) ∧ (0 ≤ (y4 + y6) ∧ (y4 + y6) < 904) ∧ ((M 38 u0 (y3 + y6)) = (M 38 u2 (y4 + y6)) → (inR (y3 + y6)) ∧ (0 ≤ (y3 + y6) ∧ (y3 + y6) < 904) ∧ (inR (y4 + y6)) ∧ (0 ≤ (y4 + y6) ∧ (y4 + y6) < 904) ∧ ((M 39 u0 (y3 + y6)) = (M 39 u2 (y4 + y6)) → (inR (y3 + y6)) ∧ (0 ≤ (y3 + y6) ∧ (y3 + y6) < 904) ∧ (inR (y4 + y6)) ∧ (0 ≤ (y4 + y6) ∧ (y4 + y6) < 904) ∧ True) ∧ True) ∧ ((¬ (if ¬ (M 38 u0 (y3 + y6)) = (M 38 u2 (y4 + y6)) then (0 : Int) else (if ¬ (M 39 u0 (y3 + y6)) = (M 39 u2 (y4 + y6)) then (0 : Int) else (if ¬ (M 40 u0 (y3 + y6)) = (M 40 u2 (y4 + y6)) then (0 : Int) else 1))) = 0 → (inR (y6 + 1)) ∧ wp_X6_hasSamePieces_40 u0 p1 u2 Qm n y3 y4 y5 (y6 + 1) M) ∧ ((if ¬ (M 38 u0 (y3 + y6)) = (M 38 u2 (y4 + y6)) then (0 : Int) else (if ¬ (M 39 u0 (y3 + y6)) = (M 39 u2 (y4 + y6)) then (0 : Int) else (if ¬ (M 40 u0 (y3 + y6)) = (M 40 u2 (y4 + y6)) then (0 : Int) else 1))) = 0 → Qm 0 M)))))))) := hw
    refine lv_iload X.1.1 X.1.2.1 dX6_hasSamePieces_40 (lv_at hl 5 rfl) ?_
    refine lv_iload X.1.1 X.1.2.1 dX6_hasSamePieces_42 (lv_at hl 4 rfl) ?_
    refine sa_icmp_ge (tgt := 154) X.1 hy6 hy5 dX6_hasSamePieces_44 (by decide) (fun hc => ?_) (fun hc => ?_)
    · have hw := hw.1 hc
      exact t_X6_hasSamePieces_154 X hu0 hp1 hu2 _ hw _ _ hR hS _ (lv_sub hl [] rfl)
    · have hw := hw.2 hc
      refine lv_iload_n X.1.1 X.1.2.1 dX6_hasSamePieces_47 rfl (lv_at hl 2 rfl) ?_
      refine lv_iload X.1.1 X.1.2.1 dX6_hasSamePieces_48 (lv_at hl 5 rfl) ?_
      have c15 := hw.1
      have hw := hw.2
      refine sa_iadd X.1 dX6_hasSamePieces_50 ?_
      refine sa_sipush X.1 dX6_hasSamePieces_51 (by decide) ?_
      refine sa_icmp_ge (tgt := 154) X.1 c15 (inR_c (a := 904) rfl) dX6_hasSamePieces_54 (by decide) (fun hc => ?_) (fun hc => ?_)
      · have hw := hw.1 hc
        exact t_X6_hasSamePieces_154 X hu0 hp1 hu2 _ hw _ _ hR hS _ (lv_sub hl [] rfl)
      · have hw := hw.2 hc
        refine lv_iload X.1.1 X.1.2.1 dX6_hasSamePieces_57 (lv_at hl 3 rfl) ?_
        refine lv_iload X.1.1 X.1.2.1 dX6_hasSamePieces_59 (lv_at hl 5 rfl) ?_
        have c16 := hw.1
        have hw := hw.2
        refine sa_iadd X.1 dX6_hasSamePieces_61 ?_
        refine sa_sipush X.1 dX6_hasSamePieces_62 (by decide) ?_
        refine sa_icmp_ge (tgt := 154) X.1 c16 (inR_c (a := 904) rfl) dX6_hasSamePieces_65 (by decide) (fun hc => ?_) (fun hc => ?_)
        · have hw := hw.1 hc
          exact t_X6_hasSamePieces_154 X hu0 hp1 hu2 _ hw _ _ hR hS _ (lv_sub hl [] rfl)
        · have hw := hw.2 hc
          refine lv_aload_n X.1.1 X.1.2.1 dX6_hasSamePieces_68 rfl (lv_at hl 0 rfl) ?_
          refine gt_7_4 X hR hu0 kw_247 dX6_hasSamePieces_69 ?_
          refine lv_iload_n X.1.1 X.1.2.1 dX6_hasSamePieces_72 rfl (lv_at hl 2 rfl) ?_
          refine lv_iload X.1.1 X.1.2.1 dX6_hasSamePieces_73 (lv_at hl 5 rfl) ?_
          have c17 := hw.1
          have hw := hw.2
          refine sa_iadd X.1 dX6_hasSamePieces_75 ?_
          have c18 := hw.1
          have hw := hw.2
          refine ra_38 X hR (okp X.2.2.1 rfl (pr_7 X.2.2.1 hu0)) c18 dX6_hasSamePieces_76 ?_
          have r19 := hR.r 38 u0 (y3 + y6)
          refine lv_aload_n X.1.1 X.1.2.1 dX6_hasSamePieces_77 rfl (lv_at hl 1 rfl) ?_
          refine gt_7_4 X hR hu2 kw_247 dX6_hasSamePieces_78 ?_
          refine lv_iload X.1.1 X.1.2.1 dX6_hasSamePieces_81 (lv_at hl 3 rfl) ?_
          refine lv_iload X.1.1 X.1.2.1 dX6_hasSamePieces_83 (lv_at hl 5 rfl) ?_
          have c20 := hw.1
          have hw := hw.2
          refine sa_iadd X.1 dX6_hasSamePieces_85 ?_
          have c21 := hw.1
          have hw := hw.2
          refine ra_38 X hR (okp X.2.2.1 rfl (pr_7 X.2.2.1 hu2)) c21 dX6_hasSamePieces_86 ?_
          have r22 := hR.r 38 u2 (y4 + y6)
          have s36 := hw.1
          have hw := hw.2
          have r37 := inR_ite (c := ¬ (M 38 u0 (y3 + y6)) = (M 38 u2 (y4 + y6))) (inR_c (a := 0) rfl) (inR_ite (c := ¬ (M 39 u0 (y3 + y6)) = (M 39 u2 (y4 + y6))) (inR_c (a := 0) rfl) (inR_ite (c := ¬ (M 40 u0 (y3 + y6)) = (M 40 u2 (y4 + y6))) (inR_c (a := 0) rfl) (inR_c (a := 1) rfl)))
          refine cut_j (A := ∀ v38 : Int, v38 = (if ¬ (M 38 u0 (y3 + y6)) = (M 38 u2 (y4 + y6)) then (0 : Int) else (if ¬ (M 39 u0 (y3 + y6)) = (M 39 u2 (y4 + y6)) then (0 : Int) else (if ¬ (M 40 u0 (y3 + y6)) = (M 40 u2 (y4 + y6)) then (0 : Int) else 1))) → WI p l e 3 s m args below meth c G e0 α κ B Qm H locs 139 ls [.int (Int32.ofInt v38)]) (fun J39 => ?_) ?_
          · refine sa_icmp_ne (tgt := 138) X.1 r19 r22 dX6_hasSamePieces_87 (by decide) (fun hc => ?_) (fun hc => ?_)
            · skip
              refine sa_const X.1 dX6_hasSamePieces_138 ?_
              exact J39 (0) (if_pos (c := ¬ (M 38 u0 (y3 + y6)) = (M 38 u2 (y4 + y6))) hc).symm
            · have hw := s36 hc
              refine lv_aload_n X.1.1 X.1.2.1 dX6_hasSamePieces_90 rfl (lv_at hl 0 rfl) ?_
              refine gt_7_5 X hR hu0 kw_248 dX6_hasSamePieces_91 ?_
              refine lv_iload_n X.1.1 X.1.2.1 dX6_hasSamePieces_94 rfl (lv_at hl 2 rfl) ?_
              refine lv_iload X.1.1 X.1.2.1 dX6_hasSamePieces_95 (lv_at hl 5 rfl) ?_
              have c23 := hw.1
              have hw := hw.2
              refine sa_iadd X.1 dX6_hasSamePieces_97 ?_
              have c24 := hw.1
              have hw := hw.2
              refine ra_39 X hR (okp X.2.2.1 rfl (pr_7 X.2.2.1 hu0)) c24 dX6_hasSamePieces_98 ?_
              refine lv_aload_n X.1.1 X.1.2.1 dX6_hasSamePieces_99 rfl (lv_at hl 1 rfl) ?_
              refine gt_7_5 X hR hu2 kw_248 dX6_hasSamePieces_100 ?_
              refine lv_iload X.1.1 X.1.2.1 dX6_hasSamePieces_103 (lv_at hl 3 rfl) ?_
              refine lv_iload X.1.1 X.1.2.1 dX6_hasSamePieces_105 (lv_at hl 5 rfl) ?_
              have c25 := hw.1
              have hw := hw.2
              refine sa_iadd X.1 dX6_hasSamePieces_107 ?_
              have c26 := hw.1
              have hw := hw.2
              refine ra_39 X hR (okp X.2.2.1 rfl (pr_7 X.2.2.1 hu2)) c26 dX6_hasSamePieces_108 ?_
              have s33 := hw.1
              have hw := hw.2
              refine cut_j (A := ∀ v34 : Int, v34 = (if ¬ (M 39 u0 (y3 + y6)) = (M 39 u2 (y4 + y6)) then (0 : Int) else (if ¬ (M 40 u0 (y3 + y6)) = (M 40 u2 (y4 + y6)) then (0 : Int) else 1)) → WI p l e 3 s m args below meth c G e0 α κ B Qm H locs 139 ls [.int (Int32.ofInt v34)]) (fun J35 => ?_) ?_
              · refine sa_icmp_ne (tgt := 138) X.1 (hR.r 39 u0 (y3 + y6)) (hR.r 39 u2 (y4 + y6)) dX6_hasSamePieces_109 (by decide) (fun hc => ?_) (fun hc => ?_)
                · skip
                  refine sa_const X.1 dX6_hasSamePieces_138 ?_
                  exact J35 (0) (if_pos (c := ¬ (M 39 u0 (y3 + y6)) = (M 39 u2 (y4 + y6))) hc).symm
                · have hw := s33 hc
                  refine lv_aload_n X.1.1 X.1.2.1 dX6_hasSamePieces_112 rfl (lv_at hl 0 rfl) ?_
                  refine gt_7_6 X hR hu0 kw_249 dX6_hasSamePieces_113 ?_
                  refine lv_iload_n X.1.1 X.1.2.1 dX6_hasSamePieces_116 rfl (lv_at hl 2 rfl) ?_
                  refine lv_iload X.1.1 X.1.2.1 dX6_hasSamePieces_117 (lv_at hl 5 rfl) ?_
                  have c27 := hw.1
                  have hw := hw.2
                  refine sa_iadd X.1 dX6_hasSamePieces_119 ?_
                  have c28 := hw.1
                  have hw := hw.2
                  refine ra_40 X hR (okp X.2.2.1 rfl (pr_7 X.2.2.1 hu0)) c28 dX6_hasSamePieces_120 ?_
                  refine lv_aload_n X.1.1 X.1.2.1 dX6_hasSamePieces_121 rfl (lv_at hl 1 rfl) ?_
                  refine gt_7_6 X hR hu2 kw_249 dX6_hasSamePieces_122 ?_
                  refine lv_iload X.1.1 X.1.2.1 dX6_hasSamePieces_125 (lv_at hl 3 rfl) ?_
                  refine lv_iload X.1.1 X.1.2.1 dX6_hasSamePieces_127 (lv_at hl 5 rfl) ?_
                  have c29 := hw.1
                  have hw := hw.2
                  refine sa_iadd X.1 dX6_hasSamePieces_129 ?_
                  have c30 := hw.1
                  have hw := hw.2
                  refine ra_40 X hR (okp X.2.2.1 rfl (pr_7 X.2.2.1 hu2)) c30 dX6_hasSamePieces_130 ?_
                  refine cut_j (A := ∀ v31 : Int, v31 = (if ¬ (M 40 u0 (y3 + y6)) = (M 40 u2 (y4 + y6)) then (0 : Int) else 1) → WI p l e 3 s m args below meth c G e0 α κ B Qm H locs 139 ls [.int (Int32.ofInt v31)]) (fun J32 => ?_) ?_
                  · refine sa_icmp_ne (tgt := 138) X.1 (hR.r 40 u0 (y3 + y6)) (hR.r 40 u2 (y4 + y6)) dX6_hasSamePieces_131 (by decide) (fun hc => ?_) (fun hc => ?_)
                    · skip
                      refine sa_const X.1 dX6_hasSamePieces_138 ?_
                      exact J32 (0) (if_pos (c := ¬ (M 40 u0 (y3 + y6)) = (M 40 u2 (y4 + y6))) hc).symm
                    · skip
                      refine sa_const X.1 dX6_hasSamePieces_134 ?_
                      refine lv_goto (tgt := 139) X.1.1 X.1.2.1 dX6_hasSamePieces_135 (by decide) ?_
                      exact J32 (1) (if_neg (c := ¬ (M 40 u0 (y3 + y6)) = (M 40 u2 (y4 + y6))) (fun z => z hc)).symm
                  intro v31 hv31
                  subst hv31
                  exact J35 ((if ¬ (M 40 u0 (y3 + y6)) = (M 40 u2 (y4 + y6)) then (0 : Int) else 1)) (if_neg (c := ¬ (M 39 u0 (y3 + y6)) = (M 39 u2 (y4 + y6))) (fun z => z hc)).symm
              intro v34 hv34
              subst hv34
              exact J39 ((if ¬ (M 39 u0 (y3 + y6)) = (M 39 u2 (y4 + y6)) then (0 : Int) else (if ¬ (M 40 u0 (y3 + y6)) = (M 40 u2 (y4 + y6)) then (0 : Int) else 1))) (if_neg (c := ¬ (M 38 u0 (y3 + y6)) = (M 38 u2 (y4 + y6))) (fun z => z hc)).symm
          intro v38 hv38
          subst hv38
          refine lv_istore (lv' := [(7, .int (Int32.ofInt (if ¬ (M 38 u0 (y3 + y6)) = (M 38 u2 (y4 + y6)) then (0 : Int) else (if ¬ (M 39 u0 (y3 + y6)) = (M 39 u2 (y4 + y6)) then (0 : Int) else (if ¬ (M 40 u0 (y3 + y6)) = (M 40 u2 (y4 + y6)) then (0 : Int) else 1))))), (0, .ref (α 7 u0)), (2, .ref (α 7 u2)), (3, .int (Int32.ofInt y3)), (4, .int (Int32.ofInt y4)), (5, .int (Int32.ofInt y5)), (6, .int (Int32.ofInt y6))]) X.1.1 X.1.2.1 dX6_hasSamePieces_139 hl (by decide) rfl (fun ls hl => ?_)
          refine lv_iload X.1.1 X.1.2.1 dX6_hasSamePieces_141 (lv_at hl 0 rfl) ?_
          refine sa_if_ne (tgt := 148) X.1 r37 dX6_hasSamePieces_143 (by decide) (fun hc => ?_) (fun hc => ?_)
          · have hw := hw.1 hc
            have c40 := hw.1
            have hw := hw.2
            refine lv_iinc (v := Int32.ofInt (y6 + 1)) (lv' := [(6, .int (Int32.ofInt (y6 + 1))), (7, .int (Int32.ofInt (if ¬ (M 38 u0 (y3 + y6)) = (M 38 u2 (y4 + y6)) then (0 : Int) else (if ¬ (M 39 u0 (y3 + y6)) = (M 39 u2 (y4 + y6)) then (0 : Int) else (if ¬ (M 40 u0 (y3 + y6)) = (M 40 u2 (y4 + y6)) then (0 : Int) else 1))))), (0, .ref (α 7 u0)), (2, .ref (α 7 u2)), (3, .int (Int32.ofInt y3)), (4, .int (Int32.ofInt y4)), (5, .int (Int32.ofInt y5))]) X.1.1 X.1.2.1 dX6_hasSamePieces_148 hl (k := 6) rfl (Int32.ofInt_add _ _).symm (by decide) rfl (fun ls hl => ?_)
            refine lv_goto (tgt := 40) X.1.1 X.1.2.1 dX6_hasSamePieces_151 (by decide) ?_
            exact ih _ _ _ _ _ hw hy3 hy4 hy5 c40 _ _ hR hS _ (lv_sub hl [2, 3, 4, 5, 6, 0] rfl)
          · have hw := hw.2 hc
            refine sa_const X.1 dX6_hasSamePieces_146 ?_
            exact sa_zret X.1 X.2.2.2.1 X.2.2.2.2 hR hS (Or.inl rfl) hw dX6_hasSamePieces_147
set_option maxHeartbeats 4000000 in
set_option maxRecDepth 100000 in
theorem t_X6_hasSamePieces {u0 : Int} {p1 : Int} {u2 : Int} (X : CX p m c cX6_hasSamePieces 8 s args RX6 G B κ meth (some .boolean)) (hu0 : okk κ 7 u0) (hp1 : inR p1) (hu2 : okk κ 7 u2) {M : Mem} {Qm : Int → Mem → Prop} (hw : wp_X6_hasSamePieces u0 p1 u2 M Qm) (H : Heap) (locs : List Loc) (hR : Rp G e0 α κ B M H) (hS : va_S (fun q => B ≤ q) s.heap H locs) (ls : Array Slot) (hl : lv_has ls 8 [(0, .ref (α 7 u0)), (1, .int (Int32.ofInt p1)), (2, .ref (α 7 u2))]) : WI p l e 3 s m args below meth c G e0 α κ B Qm H locs 0 ls [] := by
  have hw : wp_X6_pieceBeginOf u0 p1 M fun (x2 : Int) (M1 : Mem) => wp_X6_pieceBeginOf u2 p1 M1 fun (x5 : Int) (M4 : Mem) => wp_X6_pieceEndOf u0 p1 M4 fun (x8 : Int) (M7 : Mem) => (inR (x8 - x2)) ∧ wp_X6_pieceEndOf u2 p1 M7 fun (x12 : Int) (M11 : Mem) => (inR (x12 - x5)) ∧ (((x8 - x2) = (x12 - x5) → (∃ n41 : Nat, wp_X6_hasSamePieces_40 u0 p1 u2 Qm n41 x2 x5 (x8 - x2) 0 M11)) ∧ (¬ (x8 - x2) = (x12 - x5) → Qm 0 M11)) := hw
  refine lv_aload_n X.1.1 X.1.2.1 dX6_hasSamePieces_0 rfl (lv_at hl 0 rfl) ?_
  refine lv_iload_n X.1.1 X.1.2.1 dX6_hasSamePieces_1 rfl (lv_at hl 1 rfl) ?_
  refine cs_X6_pieceBeginOf X hu0 hp1 (kc := 3) rmL_ok rm_c (by decide) hR hS kw_630 hl.1 dX6_hasSamePieces_2 (Nat.le_of_ble_eq_true rfl) hw (fun x2 M1 H locs hw r3 hR hS => ?_)
  refine lv_istore_n (lv' := [(3, .int (Int32.ofInt x2)), (0, .ref (α 7 u0)), (1, .int (Int32.ofInt p1)), (2, .ref (α 7 u2))]) X.1.1 X.1.2.1 dX6_hasSamePieces_5 rfl hl (by decide) rfl (fun ls hl => ?_)
  refine lv_aload_n X.1.1 X.1.2.1 dX6_hasSamePieces_6 rfl (lv_at hl 3 rfl) ?_
  refine lv_iload_n X.1.1 X.1.2.1 dX6_hasSamePieces_7 rfl (lv_at hl 2 rfl) ?_
  refine cs_X6_pieceBeginOf X hu2 hp1 (kc := 3) rmL_ok rm_c (by decide) hR hS kw_630 hl.1 dX6_hasSamePieces_8 (Nat.le_of_ble_eq_true rfl) hw (fun x5 M4 H locs hw r6 hR hS => ?_)
  refine lv_istore (lv' := [(4, .int (Int32.ofInt x5)), (3, .int (Int32.ofInt x2)), (0, .ref (α 7 u0)), (1, .int (Int32.ofInt p1)), (2, .ref (α 7 u2))]) X.1.1 X.1.2.1 dX6_hasSamePieces_11 hl (by decide) rfl (fun ls hl => ?_)
  refine lv_aload_n X.1.1 X.1.2.1 dX6_hasSamePieces_13 rfl (lv_at hl 2 rfl) ?_
  refine lv_iload_n X.1.1 X.1.2.1 dX6_hasSamePieces_14 rfl (lv_at hl 3 rfl) ?_
  refine cs_X6_pieceEndOf X hu0 hp1 (kc := 3) rmL_ok rm_c (by decide) hR hS kw_626 hl.1 dX6_hasSamePieces_15 (Nat.le_of_ble_eq_true rfl) hw (fun x8 M7 H locs hw r9 hR hS => ?_)
  refine lv_iload_n X.1.1 X.1.2.1 dX6_hasSamePieces_18 rfl (lv_at hl 1 rfl) ?_
  have c10 := hw.1
  have hw := hw.2
  refine sa_isub X.1 dX6_hasSamePieces_19 ?_
  refine lv_istore (lv' := [(5, .int (Int32.ofInt (x8 - x2))), (4, .int (Int32.ofInt x5)), (3, .int (Int32.ofInt x2)), (0, .ref (α 7 u0)), (1, .int (Int32.ofInt p1)), (2, .ref (α 7 u2))]) X.1.1 X.1.2.1 dX6_hasSamePieces_20 hl (by decide) rfl (fun ls hl => ?_)
  refine lv_iload X.1.1 X.1.2.1 dX6_hasSamePieces_22 (lv_at hl 0 rfl) ?_
  refine lv_aload_n X.1.1 X.1.2.1 dX6_hasSamePieces_24 rfl (lv_at hl 5 rfl) ?_
  refine lv_iload_n X.1.1 X.1.2.1 dX6_hasSamePieces_25 rfl (lv_at hl 4 rfl) ?_
  refine cs_X6_pieceEndOf X hu2 hp1 (kc := 3) rmL_ok rm_c (by decide) hR hS kw_626 hl.1 dX6_hasSamePieces_26 (Nat.le_of_ble_eq_true rfl) hw (fun x12 M11 H locs hw r13 hR hS => ?_)
  refine lv_iload X.1.1 X.1.2.1 dX6_hasSamePieces_29 (lv_at hl 1 rfl) ?_
  have c14 := hw.1
  have hw := hw.2
  refine sa_isub X.1 dX6_hasSamePieces_31 ?_
  refine sa_icmp_eq (tgt := 37) X.1 c10 c14 dX6_hasSamePieces_32 (by decide) (fun hc => ?_) (fun hc => ?_)
  · have hw := hw.1 hc
    refine sa_const X.1 dX6_hasSamePieces_37 ?_
    refine lv_istore (lv' := [(6, .int (Int32.ofInt 0)), (5, .int (Int32.ofInt (x8 - x2))), (4, .int (Int32.ofInt x5)), (3, .int (Int32.ofInt x2)), (0, .ref (α 7 u0)), (1, .int (Int32.ofInt p1)), (2, .ref (α 7 u2))]) X.1.1 X.1.2.1 dX6_hasSamePieces_38 hl (by decide) rfl (fun ls hl => ?_)
    obtain ⟨n41, hw⟩ := hw
    exact t_X6_hasSamePieces_40 X hu0 hp1 hu2 n41 _ _ _ _ _ hw r3 r6 c10 (inR_c (a := 0) rfl) _ _ hR hS _ (lv_sub hl [4, 6, 3, 2, 1, 0] rfl)
  · have hw := hw.2 hc
    refine sa_const X.1 dX6_hasSamePieces_35 ?_
    exact sa_zret X.1 X.2.2.2.1 X.2.2.2.2 hR hS (Or.inl rfl) hw dX6_hasSamePieces_36
theorem m_X6_hasSamePieces {l : Launch} {G : Gx} {e0 : Nat} {α : Ax} {κ : Nat → Int} {B : Nat} {u0 : Int} {p1 : Int} {u2 : Int} (hκ : kOK κ) (hu0 : okk κ 7 u0) (hp1 : inR p1) (hu2 : okk κ 7 u2) {M : Mem} {Qm : Int → Mem → Prop} (hw : wp_X6_hasSamePieces u0 p1 u2 M Qm) : CI l yX6_hasSamePieces (Cond.code yX6_hasSamePieces cX6_hasSamePieces 8 (some .boolean)) 3 G e0 α κ B [.ref (α 7 u0), .int (Int32.ofInt p1), .ref (α 7 u2)] M Qm :=
  CI.mk hκ (by decide +kernel) rfl (Nat.le_of_ble_eq_true rfl) (lv := [(0, .ref (α 7 u0)), (1, .int (Int32.ofInt p1)), (2, .ref (α 7 u2))]) rfl (fun p e s m args below meth c ls X hR hS hl => t_X6_hasSamePieces X hu0 hp1 hu2 hw _ _ hR hS ls hl)
theorem cs_X6_hasSamePieces {cc : ByteArray} {nL : Nat} {own : String} {ret : Option FieldType} {idx pc : Nat} {u0 : Int} {p1 : Int} {u2 : Int} (X : CX p m c cc nL s args own G B κ meth ret) (hu0 : okk κ 7 u0) (hp1 : inR p1) (hu2 : okk κ 7 u2) {kc : Nat} {R : Room} {cells slots : Nat} (hRr : RmOK R kc) (hcel : cells ≤ R.cells ∧ slots ≤ R.slots) (hk : 3 + 1 ≤ kc) {M : Mem} {H : Heap} {locs : List Loc} (hR : Rp G e0 α κ B M H) (hS : va_S (fun q => B ≤ q) s.heap H locs) (k1 : Cond.methodLink own idx yX6_hasSamePieces ∈ gw) {ls : Array Slot} (hml : ls.size = nL) {rest : List Value} (hd : decode cc pc = .ok (.invokevirtual idx, 3)) (hrest : (rest.map fun v => v.category).sum ≤ 8) {Q : State → Prop} {Qm : Int → Mem → Prop} (hw : wp_X6_hasSamePieces u0 p1 u2 M Qm) (kk : ∀ (r : Int) (M1 : Mem) (H1 : Heap) (locs1 : List Loc), Qm r M1 → inR r → Rp G e0 α κ B M1 H1 → va_S (fun q => B ≤ q) s.heap H1 locs1 → W p l e R s m args below meth c H1 locs1 cells slots Q (F0 m (pc + 3) ls (.int (Int32.ofInt r) :: rest))) : W p l e R s m args below meth c H locs cells slots Q (F0 m pc ls (.ref (α 7 u2) :: .int (Int32.ofInt p1) :: .ref (α 7 u0) :: rest)) :=
  sa_callVI 3 (n := 2) (As := [.int (Int32.ofInt p1), .ref (α 7 u2)]) (rest := rest) X.1 X.2.1 hR hS (m_X6_hasSamePieces X.2.2.1 hu0 hp1 hu2 hw) k1 kw_665 kw_21 kw_46 kw_666 ⟨rfl, by decide +kernel, by decide +kernel, by decide +kernel⟩ (rm_ok hRr hk (by decide)) (rc_7 X hR hu0) rfl rfl hrest hml hd hcel kk
def wp_X6_takeFrom (u0 : Int) (u1 : Int) (M : Mem) (Qm : Mem → Prop) : Prop := ∀ M2 : Mem, M2 = up M 7 u0 1 (M 7 u1 1) → ∀ M5 : Mem, M5 = up M2 7 u0 2 (M2 7 u1 2) → ∀ M8 : Mem, M8 = up M5 7 u0 3 (M5 7 u1 3) → (0 ≤ (min (M8 7 u0 2) 904) ∧ (min (M8 7 u0 2) 904) ≤ 904 ∧ (min (M8 7 u0 2) 904) ≤ 904) ∧ ∀ M13 : Mem, M13 = cpM M8 38 u1 38 u0 (min (M8 7 u0 2) 904) → (0 ≤ (min (M8 7 u0 2) 904) ∧ (min (M8 7 u0 2) 904) ≤ 904 ∧ (min (M8 7 u0 2) 904) ≤ 904) ∧ ∀ M16 : Mem, M16 = cpM M13 39 u1 39 u0 (min (M8 7 u0 2) 904) → (0 ≤ (min (M8 7 u0 2) 904) ∧ (min (M8 7 u0 2) 904) ≤ 904 ∧ (min (M8 7 u0 2) 904) ≤ 904) ∧ ∀ M19 : Mem, M19 = cpM M16 40 u1 40 u0 (min (M8 7 u0 2) 904) → (0 ≤ (min (M8 7 u0 1) 904) ∧ (min (M8 7 u0 1) 904) ≤ 904 ∧ (min (M8 7 u0 1) 904) ≤ 904) ∧ ∀ M22 : Mem, M22 = cpM M19 41 u1 41 u0 (min (M8 7 u0 1) 904) → (0 ≤ (min (M8 7 u0 1) 904) ∧ (min (M8 7 u0 1) 904) ≤ 904 ∧ (min (M8 7 u0 1) 904) ≤ 904) ∧ ∀ M25 : Mem, M25 = cpM M22 43 u1 43 u0 (min (M8 7 u0 1) 904) → (inR ((min (M8 7 u0 1) 904) * 6)) ∧ (0 ≤ ((min (M8 7 u0 1) 904) * 6) ∧ ((min (M8 7 u0 1) 904) * 6) ≤ 5424 ∧ ((min (M8 7 u0 1) 904) * 6) ≤ 5424) ∧ ∀ M29 : Mem, M29 = cpM M25 44 u1 44 u0 ((min (M8 7 u0 1) 904) * 6) → Qm M29
set_option maxHeartbeats 4000000 in
set_option maxRecDepth 100000 in
theorem t_X6_takeFrom {u0 : Int} {u1 : Int} (X : CX p m c cX6_takeFrom 4 s args RX6 G B κ meth none) (hu0 : okk κ 7 u0) (hu1 : okk κ 7 u1) {M : Mem} {Qm : Mem → Prop} (hw : wp_X6_takeFrom u0 u1 M Qm) (H : Heap) (locs : List Loc) (hR : Rp G e0 α κ B M H) (hS : va_S (fun q => B ≤ q) s.heap H locs) (ls : Array Slot) (hl : lv_has ls 4 [(0, .ref (α 7 u0)), (1, .ref (α 7 u1))]) : WV p l e 1 s m args below meth c G e0 α κ B Qm H locs 0 ls [] := by
  have hw : ∀ M2 : Mem, M2 = up M 7 u0 1 (M 7 u1 1) → ∀ M5 : Mem, M5 = up M2 7 u0 2 (M2 7 u1 2) → ∀ M8 : Mem, M8 = up M5 7 u0 3 (M5 7 u1 3) → (0 ≤ (min (M8 7 u0 2) 904) ∧ (min (M8 7 u0 2) 904) ≤ 904 ∧ (min (M8 7 u0 2) 904) ≤ 904) ∧ ∀ M13 : Mem, M13 = cpM M8 38 u1 38 u0 (min (M8 7 u0 2) 904) → (0 ≤ (min (M8 7 u0 2) 904) ∧ (min (M8 7 u0 2) 904) ≤ 904 ∧ (min (M8 7 u0 2) 904) ≤ 904) ∧ ∀ M16 : Mem, M16 = cpM M13 39 u1 39 u0 (min (M8 7 u0 2) 904) → (0 ≤ (min (M8 7 u0 2) 904) ∧ (min (M8 7 u0 2) 904) ≤ 904 ∧ (min (M8 7 u0 2) 904) ≤ 904) ∧ ∀ M19 : Mem, M19 = cpM M16 40 u1 40 u0 (min (M8 7 u0 2) 904) → (0 ≤ (min (M8 7 u0 1) 904) ∧ (min (M8 7 u0 1) 904) ≤ 904 ∧ (min (M8 7 u0 1) 904) ≤ 904) ∧ ∀ M22 : Mem, M22 = cpM M19 41 u1 41 u0 (min (M8 7 u0 1) 904) → (0 ≤ (min (M8 7 u0 1) 904) ∧ (min (M8 7 u0 1) 904) ≤ 904 ∧ (min (M8 7 u0 1) 904) ≤ 904) ∧ ∀ M25 : Mem, M25 = cpM M22 43 u1 43 u0 (min (M8 7 u0 1) 904) → (inR ((min (M8 7 u0 1) 904) * 6)) ∧ (0 ≤ ((min (M8 7 u0 1) 904) * 6) ∧ ((min (M8 7 u0 1) 904) * 6) ≤ 5424 ∧ ((min (M8 7 u0 1) 904) * 6) ≤ 5424) ∧ ∀ M29 : Mem, M29 = cpM M25 44 u1 44 u0 ((min (M8 7 u0 1) 904) * 6) → Qm M29 := hw
  refine lv_aload_n X.1.1 X.1.2.1 dX6_takeFrom_0 rfl (lv_at hl 0 rfl) ?_
  refine lv_aload_n X.1.1 X.1.2.1 dX6_takeFrom_1 rfl (lv_at hl 1 rfl) ?_
  refine gt_7_1 X hR hu1 kw_242 dX6_takeFrom_2 ?_
  have r1 := hR.r 7 u1 1
  refine pt_7_1 X hR hS hu0 r1 kw_242 dX6_takeFrom_5 (fun H locs hR hS => ?_)
  obtain ⟨M2, e3⟩ : ∃ z : Mem, z = up M 7 u0 1 (M 7 u1 1) := ⟨_, rfl⟩
  rw [← e3] at hR
  have hw := hw M2 e3
  refine lv_aload_n X.1.1 X.1.2.1 dX6_takeFrom_8 rfl (lv_at hl 0 rfl) ?_
  refine lv_aload_n X.1.1 X.1.2.1 dX6_takeFrom_9 rfl (lv_at hl 1 rfl) ?_
  refine gt_7_2 X hR hu1 kw_245 dX6_takeFrom_10 ?_
  have r4 := hR.r 7 u1 2
  refine pt_7_2 X hR hS hu0 r4 kw_245 dX6_takeFrom_13 (fun H locs hR hS => ?_)
  obtain ⟨M5, e6⟩ : ∃ z : Mem, z = up M2 7 u0 2 (M2 7 u1 2) := ⟨_, rfl⟩
  rw [← e6] at hR
  have hw := hw M5 e6
  refine lv_aload_n X.1.1 X.1.2.1 dX6_takeFrom_16 rfl (lv_at hl 0 rfl) ?_
  refine lv_aload_n X.1.1 X.1.2.1 dX6_takeFrom_17 rfl (lv_at hl 1 rfl) ?_
  refine gt_7_3 X hR hu1 kw_246 dX6_takeFrom_18 ?_
  have r7 := hR.r 7 u1 3
  refine pt_7_3 X hR hS hu0 r7 kw_246 dX6_takeFrom_21 (fun H locs hR hS => ?_)
  obtain ⟨M8, e9⟩ : ∃ z : Mem, z = up M5 7 u0 3 (M5 7 u1 3) := ⟨_, rfl⟩
  rw [← e9] at hR
  have hw := hw M8 e9
  refine lv_aload_n X.1.1 X.1.2.1 dX6_takeFrom_24 rfl (lv_at hl 0 rfl) ?_
  refine gt_7_2 X hR hu0 kw_245 dX6_takeFrom_25 ?_
  have r10 := hR.r 7 u0 2
  refine sa_sipush X.1 dX6_takeFrom_28 (by decide) ?_
  refine sa_min (R := rmL 1) X.1 r10 (inR_c (a := 904) rfl) kw_634 hl.1 kmath_min_s kmath_i kmath_min_c (by decide) (Nat.le_of_ble_eq_true rfl) rm_c dX6_takeFrom_31 ?_
  refine lv_istore_n (lv' := [(2, .int (Int32.ofInt (min (M8 7 u0 2) 904))), (0, .ref (α 7 u0)), (1, .ref (α 7 u1))]) X.1.1 X.1.2.1 dX6_takeFrom_34 rfl hl (by decide) rfl (fun ls hl => ?_)
  refine lv_aload_n X.1.1 X.1.2.1 dX6_takeFrom_35 rfl (lv_at hl 1 rfl) ?_
  refine gt_7_1 X hR hu0 kw_242 dX6_takeFrom_36 ?_
  have r11 := hR.r 7 u0 1
  refine sa_sipush X.1 dX6_takeFrom_39 (by decide) ?_
  refine sa_min (R := rmL 1) X.1 r11 (inR_c (a := 904) rfl) kw_634 hl.1 kmath_min_s kmath_i kmath_min_c (by decide) (Nat.le_of_ble_eq_true rfl) rm_c dX6_takeFrom_42 ?_
  refine lv_istore_n (lv' := [(3, .int (Int32.ofInt (min (M8 7 u0 1) 904))), (2, .int (Int32.ofInt (min (M8 7 u0 2) 904))), (0, .ref (α 7 u0)), (1, .ref (α 7 u1))]) X.1.1 X.1.2.1 dX6_takeFrom_45 rfl hl (by decide) rfl (fun ls hl => ?_)
  refine lv_aload_n X.1.1 X.1.2.1 dX6_takeFrom_46 rfl (lv_at hl 3 rfl) ?_
  refine gt_7_4 X hR hu1 kw_247 dX6_takeFrom_47 ?_
  refine sa_const X.1 dX6_takeFrom_50 ?_
  refine lv_aload_n X.1.1 X.1.2.1 dX6_takeFrom_51 rfl (lv_at hl 2 rfl) ?_
  refine gt_7_4 X hR hu0 kw_247 dX6_takeFrom_52 ?_
  refine sa_const X.1 dX6_takeFrom_55 ?_
  refine lv_iload_n X.1.1 X.1.2.1 dX6_takeFrom_56 rfl (lv_at hl 1 rfl) ?_
  have c12 := hw.1
  have hw := hw.2
  refine sa_copy (R := rmL 1) AI_38 AI_38 X hR hS (okp X.2.2.1 rfl (pr_7 X.2.2.1 hu1)) (okp X.2.2.1 rfl (pr_7 X.2.2.1 hu0)) c12 kw_671 knat kst_copy kin_sys hl.1 (by decide) (by decide) dX6_takeFrom_57 (fun H locs hR hS => ?_)
  obtain ⟨M13, e14⟩ : ∃ z : Mem, z = cpM M8 38 u1 38 u0 (min (M8 7 u0 2) 904) := ⟨_, rfl⟩
  rw [← e14] at hR
  have hw := hw M13 e14
  refine lv_aload_n X.1.1 X.1.2.1 dX6_takeFrom_60 rfl (lv_at hl 3 rfl) ?_
  refine gt_7_5 X hR hu1 kw_248 dX6_takeFrom_61 ?_
  refine sa_const X.1 dX6_takeFrom_64 ?_
  refine lv_aload_n X.1.1 X.1.2.1 dX6_takeFrom_65 rfl (lv_at hl 2 rfl) ?_
  refine gt_7_5 X hR hu0 kw_248 dX6_takeFrom_66 ?_
  refine sa_const X.1 dX6_takeFrom_69 ?_
  refine lv_iload_n X.1.1 X.1.2.1 dX6_takeFrom_70 rfl (lv_at hl 1 rfl) ?_
  have c15 := hw.1
  have hw := hw.2
  refine sa_copy (R := rmL 1) AI_39 AI_39 X hR hS (okp X.2.2.1 rfl (pr_7 X.2.2.1 hu1)) (okp X.2.2.1 rfl (pr_7 X.2.2.1 hu0)) c15 kw_671 knat kst_copy kin_sys hl.1 (by decide) (by decide) dX6_takeFrom_71 (fun H locs hR hS => ?_)
  obtain ⟨M16, e17⟩ : ∃ z : Mem, z = cpM M13 39 u1 39 u0 (min (M8 7 u0 2) 904) := ⟨_, rfl⟩
  rw [← e17] at hR
  have hw := hw M16 e17
  refine lv_aload_n X.1.1 X.1.2.1 dX6_takeFrom_74 rfl (lv_at hl 3 rfl) ?_
  refine gt_7_6 X hR hu1 kw_249 dX6_takeFrom_75 ?_
  refine sa_const X.1 dX6_takeFrom_78 ?_
  refine lv_aload_n X.1.1 X.1.2.1 dX6_takeFrom_79 rfl (lv_at hl 2 rfl) ?_
  refine gt_7_6 X hR hu0 kw_249 dX6_takeFrom_80 ?_
  refine sa_const X.1 dX6_takeFrom_83 ?_
  refine lv_iload_n X.1.1 X.1.2.1 dX6_takeFrom_84 rfl (lv_at hl 1 rfl) ?_
  have c18 := hw.1
  have hw := hw.2
  refine sa_copy (R := rmL 1) AI_40 AI_40 X hR hS (okp X.2.2.1 rfl (pr_7 X.2.2.1 hu1)) (okp X.2.2.1 rfl (pr_7 X.2.2.1 hu0)) c18 kw_671 knat kst_copy kin_sys hl.1 (by decide) (by decide) dX6_takeFrom_85 (fun H locs hR hS => ?_)
  obtain ⟨M19, e20⟩ : ∃ z : Mem, z = cpM M16 40 u1 40 u0 (min (M8 7 u0 2) 904) := ⟨_, rfl⟩
  rw [← e20] at hR
  have hw := hw M19 e20
  refine lv_aload_n X.1.1 X.1.2.1 dX6_takeFrom_88 rfl (lv_at hl 3 rfl) ?_
  refine gt_7_7 X hR hu1 kw_250 dX6_takeFrom_89 ?_
  refine sa_const X.1 dX6_takeFrom_92 ?_
  refine lv_aload_n X.1.1 X.1.2.1 dX6_takeFrom_93 rfl (lv_at hl 2 rfl) ?_
  refine gt_7_7 X hR hu0 kw_250 dX6_takeFrom_94 ?_
  refine sa_const X.1 dX6_takeFrom_97 ?_
  refine lv_iload_n X.1.1 X.1.2.1 dX6_takeFrom_98 rfl (lv_at hl 0 rfl) ?_
  have c21 := hw.1
  have hw := hw.2
  refine sa_copy (R := rmL 1) AI_41 AI_41 X hR hS (okp X.2.2.1 rfl (pr_7 X.2.2.1 hu1)) (okp X.2.2.1 rfl (pr_7 X.2.2.1 hu0)) c21 kw_671 knat kst_copy kin_sys hl.1 (by decide) (by decide) dX6_takeFrom_99 (fun H locs hR hS => ?_)
  obtain ⟨M22, e23⟩ : ∃ z : Mem, z = cpM M19 41 u1 41 u0 (min (M8 7 u0 1) 904) := ⟨_, rfl⟩
  rw [← e23] at hR
  have hw := hw M22 e23
  refine lv_aload_n X.1.1 X.1.2.1 dX6_takeFrom_102 rfl (lv_at hl 3 rfl) ?_
  refine gt_7_9 X hR hu1 kw_253 dX6_takeFrom_103 ?_
  refine sa_const X.1 dX6_takeFrom_106 ?_
  refine lv_aload_n X.1.1 X.1.2.1 dX6_takeFrom_107 rfl (lv_at hl 2 rfl) ?_
  refine gt_7_9 X hR hu0 kw_253 dX6_takeFrom_108 ?_
  refine sa_const X.1 dX6_takeFrom_111 ?_
  refine lv_iload_n X.1.1 X.1.2.1 dX6_takeFrom_112 rfl (lv_at hl 0 rfl) ?_
  have c24 := hw.1
  have hw := hw.2
  refine sa_copy (R := rmL 1) AI_43 AI_43 X hR hS (okp X.2.2.1 rfl (pr_7 X.2.2.1 hu1)) (okp X.2.2.1 rfl (pr_7 X.2.2.1 hu0)) c24 kw_671 knat kst_copy kin_sys hl.1 (by decide) (by decide) dX6_takeFrom_113 (fun H locs hR hS => ?_)
  obtain ⟨M25, e26⟩ : ∃ z : Mem, z = cpM M22 43 u1 43 u0 (min (M8 7 u0 1) 904) := ⟨_, rfl⟩
  rw [← e26] at hR
  have hw := hw M25 e26
  refine lv_aload_n X.1.1 X.1.2.1 dX6_takeFrom_116 rfl (lv_at hl 3 rfl) ?_
  refine gt_7_10 X hR hu1 kw_255 dX6_takeFrom_117 ?_
  refine sa_const X.1 dX6_takeFrom_120 ?_
  refine lv_aload_n X.1.1 X.1.2.1 dX6_takeFrom_121 rfl (lv_at hl 2 rfl) ?_
  refine gt_7_10 X hR hu0 kw_255 dX6_takeFrom_122 ?_
  refine sa_const X.1 dX6_takeFrom_125 ?_
  refine lv_iload_n X.1.1 X.1.2.1 dX6_takeFrom_126 rfl (lv_at hl 0 rfl) ?_
  refine sa_bipush X.1 dX6_takeFrom_127 (by decide) ?_
  have c27 := hw.1
  have hw := hw.2
  refine sa_imul X.1 dX6_takeFrom_129 ?_
  have c28 := hw.1
  have hw := hw.2
  refine sa_copy (R := rmL 1) AI_44 AI_44 X hR hS (okp X.2.2.1 rfl (pr_7 X.2.2.1 hu1)) (okp X.2.2.1 rfl (pr_7 X.2.2.1 hu0)) c28 kw_671 knat kst_copy kin_sys hl.1 (by decide) (by decide) dX6_takeFrom_130 (fun H locs hR hS => ?_)
  obtain ⟨M29, e30⟩ : ∃ z : Mem, z = cpM M25 44 u1 44 u0 ((min (M8 7 u0 1) 904) * 6) := ⟨_, rfl⟩
  rw [← e30] at hR
  have hw := hw M29 e30
  exact sa_vret X.1 X.2.2.2.1 X.2.2.2.2 hR hS hw dX6_takeFrom_133
theorem m_X6_takeFrom {l : Launch} {G : Gx} {e0 : Nat} {α : Ax} {κ : Nat → Int} {B : Nat} {u0 : Int} {u1 : Int} (hκ : kOK κ) (hu0 : okk κ 7 u0) (hu1 : okk κ 7 u1) {M : Mem} {Qm : Mem → Prop} (hw : wp_X6_takeFrom u0 u1 M Qm) : CV l yX6_takeFrom (Cond.code yX6_takeFrom cX6_takeFrom 4 none) 1 G e0 α κ B [.ref (α 7 u0), .ref (α 7 u1)] M Qm :=
  CV.mk hκ (by decide +kernel) rfl (Nat.le_of_ble_eq_true rfl) (lv := [(0, .ref (α 7 u0)), (1, .ref (α 7 u1))]) rfl (fun p e s m args below meth c ls X hR hS hl => t_X6_takeFrom X hu0 hu1 hw _ _ hR hS ls hl)
theorem cs_X6_takeFrom {cc : ByteArray} {nL : Nat} {own : String} {ret : Option FieldType} {idx pc : Nat} {u0 : Int} {u1 : Int} (X : CX p m c cc nL s args own G B κ meth ret) (hu0 : okk κ 7 u0) (hu1 : okk κ 7 u1) {kc : Nat} {R : Room} {cells slots : Nat} (hRr : RmOK R kc) (hcel : cells ≤ R.cells ∧ slots ≤ R.slots) (hk : 1 + 1 ≤ kc) {M : Mem} {H : Heap} {locs : List Loc} (hR : Rp G e0 α κ B M H) (hS : va_S (fun q => B ≤ q) s.heap H locs) (k1 : Cond.methodLink own idx yX6_takeFrom ∈ gw) {ls : Array Slot} (hml : ls.size = nL) {rest : List Value} (hd : decode cc pc = .ok (.invokevirtual idx, 3)) (hrest : (rest.map fun v => v.category).sum ≤ 8) {Q : State → Prop} {Qm : Mem → Prop} (hw : wp_X6_takeFrom u0 u1 M Qm) (kk : ∀ (M1 : Mem) (H1 : Heap) (locs1 : List Loc), Qm M1 → Rp G e0 α κ B M1 H1 → va_S (fun q => B ≤ q) s.heap H1 locs1 → W p l e R s m args below meth c H1 locs1 cells slots Q (F0 m (pc + 3) ls (rest))) : W p l e R s m args below meth c H locs cells slots Q (F0 m pc ls (.ref (α 7 u1) :: .ref (α 7 u0) :: rest)) :=
  sa_callVV 1 (n := 1) (As := [.ref (α 7 u1)]) (rest := rest) X.1 X.2.1 hR hS (m_X6_takeFrom X.2.2.1 hu0 hu1 hw) k1 kw_668 kw_669 kw_46 kw_670 ⟨rfl, by decide +kernel, by decide +kernel, by decide +kernel⟩ (rm_ok hRr hk (by decide)) (rc_7 X hR hu0) rfl rfl hrest hml hd hcel kk
def wp_X8_pointOf (u0 : Int) (p1 : Int) (M : Mem) (Qm : Int → Mem → Prop) : Prop := (0 ≤ p1 → (p1 < 6 → (0 ≤ p1 ∧ p1 < 6) ∧ (0 ≤ p1 ∧ p1 < 6) ∧ (inR ((M 51 u0 p1) - (M 53 u0 p1))) ∧ True) ∧ (inR (if 6 ≤ p1 then (0 : Int) else ((M 51 u0 p1) - (M 53 u0 p1)))) ∧ True) ∧ (inR (if p1 < 0 then (0 : Int) else (if 6 ≤ p1 then (0 : Int) else ((M 51 u0 p1) - (M 53 u0 p1))))) ∧ Qm (if p1 < 0 then (0 : Int) else (if 6 ≤ p1 then (0 : Int) else ((M 51 u0 p1) - (M 53 u0 p1)))) M
set_option maxHeartbeats 4000000 in
set_option maxRecDepth 100000 in
theorem t_X8_pointOf {u0 : Int} {p1 : Int} (X : CX p m c cX8_pointOf 2 s args RX8 G B κ meth (some .int)) (hu0 : okk κ 9 u0) (hp1 : inR p1) {M : Mem} {Qm : Int → Mem → Prop} (hw : wp_X8_pointOf u0 p1 M Qm) (H : Heap) (locs : List Loc) (hR : Rp G e0 α κ B M H) (hS : va_S (fun q => B ≤ q) s.heap H locs) (ls : Array Slot) (hl : lv_has ls 2 [(0, .ref (α 9 u0)), (1, .int (Int32.ofInt p1))]) : WI p l e 0 s m args below meth c G e0 α κ B Qm H locs 0 ls [] := by
  have hw : (0 ≤ p1 → (p1 < 6 → (0 ≤ p1 ∧ p1 < 6) ∧ (0 ≤ p1 ∧ p1 < 6) ∧ (inR ((M 51 u0 p1) - (M 53 u0 p1))) ∧ True) ∧ (inR (if 6 ≤ p1 then (0 : Int) else ((M 51 u0 p1) - (M 53 u0 p1)))) ∧ True) ∧ (inR (if p1 < 0 then (0 : Int) else (if 6 ≤ p1 then (0 : Int) else ((M 51 u0 p1) - (M 53 u0 p1))))) ∧ Qm (if p1 < 0 then (0 : Int) else (if 6 ≤ p1 then (0 : Int) else ((M 51 u0 p1) - (M 53 u0 p1)))) M := hw
  refine lv_iload_n X.1.1 X.1.2.1 dX8_pointOf_0 rfl (lv_at hl 1 rfl) ?_
  have s8 := hw.1
  have hw := hw.2
  have c9 := hw.1
  have hw := hw.2
  refine cut_j (A := ∀ v10 : Int, v10 = (if p1 < 0 then (0 : Int) else (if 6 ≤ p1 then (0 : Int) else ((M 51 u0 p1) - (M 53 u0 p1)))) → WI p l e 0 s m args below meth c G e0 α κ B Qm H locs 27 ls [.int (Int32.ofInt v10)]) (fun J11 => ?_) ?_
  · refine sa_if_lt (tgt := 26) X.1 hp1 dX8_pointOf_1 (by decide) (fun hc => ?_) (fun hc => ?_)
    · skip
      refine sa_const X.1 dX8_pointOf_26 ?_
      exact J11 (0) (if_pos (c := p1 < 0) hc).symm
    · have hw := s8 hc
      refine lv_iload_n X.1.1 X.1.2.1 dX8_pointOf_4 rfl (lv_at hl 1 rfl) ?_
      refine sa_bipush X.1 dX8_pointOf_5 (by decide) ?_
      have s4 := hw.1
      have hw := hw.2
      have c5 := hw.1
      have hw := hw.2
      refine cut_j (A := ∀ v6 : Int, v6 = (if 6 ≤ p1 then (0 : Int) else ((M 51 u0 p1) - (M 53 u0 p1))) → WI p l e 0 s m args below meth c G e0 α κ B Qm H locs 27 ls [.int (Int32.ofInt v6)]) (fun J7 => ?_) ?_
      · refine sa_icmp_ge (tgt := 26) X.1 hp1 (inR_c (a := 6) rfl) dX8_pointOf_7 (by decide) (fun hc => ?_) (fun hc => ?_)
        · skip
          refine sa_const X.1 dX8_pointOf_26 ?_
          exact J7 (0) (if_pos (c := 6 ≤ p1) hc).symm
        · have hw := s4 hc
          refine lv_aload_n X.1.1 X.1.2.1 dX8_pointOf_10 rfl (lv_at hl 0 rfl) ?_
          refine gt_9_3 X hR hu0 kw_160 dX8_pointOf_11 ?_
          refine lv_iload_n X.1.1 X.1.2.1 dX8_pointOf_14 rfl (lv_at hl 1 rfl) ?_
          have c1 := hw.1
          have hw := hw.2
          refine ra_51 X hR (okp X.2.2.1 rfl (pr_9 X.2.2.1 hu0)) c1 dX8_pointOf_15 ?_
          refine lv_aload_n X.1.1 X.1.2.1 dX8_pointOf_16 rfl (lv_at hl 0 rfl) ?_
          refine gt_9_5 X hR hu0 kw_164 dX8_pointOf_17 ?_
          refine lv_iload_n X.1.1 X.1.2.1 dX8_pointOf_20 rfl (lv_at hl 1 rfl) ?_
          have c2 := hw.1
          have hw := hw.2
          refine ra_53 X hR (okp X.2.2.1 rfl (pr_9 X.2.2.1 hu0)) c2 dX8_pointOf_21 ?_
          have c3 := hw.1
          have hw := hw.2
          refine sa_isub X.1 dX8_pointOf_22 ?_
          refine lv_goto (tgt := 27) X.1.1 X.1.2.1 dX8_pointOf_23 (by decide) ?_
          exact J7 (((M 51 u0 p1) - (M 53 u0 p1))) (if_neg (c := 6 ≤ p1) (Int.not_le.mpr hc)).symm
      intro v6 hv6
      subst hv6
      exact J11 ((if 6 ≤ p1 then (0 : Int) else ((M 51 u0 p1) - (M 53 u0 p1)))) (if_neg (c := p1 < 0) (Int.not_lt.mpr hc)).symm
  intro v10 hv10
  subst hv10
  exact sa_iret X.1 X.2.2.2.1 X.2.2.2.2 hR hS c9 hw dX8_pointOf_27
theorem m_X8_pointOf {l : Launch} {G : Gx} {e0 : Nat} {α : Ax} {κ : Nat → Int} {B : Nat} {u0 : Int} {p1 : Int} (hκ : kOK κ) (hu0 : okk κ 9 u0) (hp1 : inR p1) {M : Mem} {Qm : Int → Mem → Prop} (hw : wp_X8_pointOf u0 p1 M Qm) : CI l yX8_pointOf (Cond.code yX8_pointOf cX8_pointOf 2 (some .int)) 0 G e0 α κ B [.ref (α 9 u0), .int (Int32.ofInt p1)] M Qm :=
  CI.mk hκ (by decide +kernel) rfl (Nat.le_of_ble_eq_true rfl) (lv := [(0, .ref (α 9 u0)), (1, .int (Int32.ofInt p1))]) rfl (fun p e s m args below meth c ls X hR hS hl => t_X8_pointOf X hu0 hp1 hw _ _ hR hS ls hl)
theorem cs_X8_pointOf {cc : ByteArray} {nL : Nat} {own : String} {ret : Option FieldType} {idx pc : Nat} {u0 : Int} {p1 : Int} (X : CX p m c cc nL s args own G B κ meth ret) (hu0 : okk κ 9 u0) (hp1 : inR p1) {kc : Nat} {R : Room} {cells slots : Nat} (hRr : RmOK R kc) (hcel : cells ≤ R.cells ∧ slots ≤ R.slots) (hk : 0 + 1 ≤ kc) {M : Mem} {H : Heap} {locs : List Loc} (hR : Rp G e0 α κ B M H) (hS : va_S (fun q => B ≤ q) s.heap H locs) (k1 : Cond.methodLink own idx yX8_pointOf ∈ gw) {ls : Array Slot} (hml : ls.size = nL) {rest : List Value} (hd : decode cc pc = .ok (.invokevirtual idx, 3)) (hrest : (rest.map fun v => v.category).sum ≤ 8) {Q : State → Prop} {Qm : Int → Mem → Prop} (hw : wp_X8_pointOf u0 p1 M Qm) (kk : ∀ (r : Int) (M1 : Mem) (H1 : Heap) (locs1 : List Loc), Qm r M1 → inR r → Rp G e0 α κ B M1 H1 → va_S (fun q => B ≤ q) s.heap H1 locs1 → W p l e R s m args below meth c H1 locs1 cells slots Q (F0 m (pc + 3) ls (.int (Int32.ofInt r) :: rest))) : W p l e R s m args below meth c H locs cells slots Q (F0 m pc ls (.int (Int32.ofInt p1) :: .ref (α 9 u0) :: rest)) :=
  sa_callVI 0 (n := 1) (As := [.int (Int32.ofInt p1)]) (rest := rest) X.1 X.2.1 hR hS (m_X8_pointOf X.2.2.1 hu0 hp1 hw) k1 kw_1301 kw_1302 kw_43 kw_1303 ⟨rfl, by decide +kernel, by decide +kernel, by decide +kernel⟩ (rm_ok hRr hk (by decide)) (rc_9 X hR hu0) rfl rfl hrest hml hd hcel kk
def wp_X8_measureFigures_138 (u0 : Int) (Qm : Mem → Prop) (K2 : Int → Mem → Prop) (y1 : Int) (M : Mem) : Prop := (inR (y1 + 1)) ∧ K2 (y1 + 1) M
def wp_X8_measureFigures_2 (u0 : Int) (Qm : Mem → Prop) : Nat → Int → Mem → Prop
  | 0 => fun _ _ => False
  | n + 1 => fun y1 M => (((M 14 0 (-1)) ≤ y1 → Qm M) ∧ (y1 < (M 14 0 (-1)) → (0 ≤ y1 ∧ y1 < M 14 0 (-1)) ∧ wp_X0_showsFigure (M 14 0 y1) M fun (x5 : Int) (M4 : Mem) => ((x5 = 0 → wp_X8_measureFigures_138 u0 Qm (wp_X8_measureFigures_2 u0 Qm n) y1 M4) ∧ (¬ x5 = 0 → ((6 ≤ (M4 1 (M 14 0 y1) 1) → wp_X8_measureFigures_138 u0 Qm (wp_X8_measureFigures_2 u0 Qm n) y1 M4) ∧ ((M4 1 (M 14 0 y1) 1) < 6 → (0 ≤ (M4 1 (M 14 0 y1) 1) ∧ (M4 1 (M 14 0 y1) 1) < 6) ∧ wp_X9_leftPart (M4 1 (M 14 0 y1) 9) M4 fun (x14 : Int) (M13 : Mem) => (0 ≤ (M4 1 (M 14 0 y1) 1) ∧ (M4 1 (M 14 0 y1) 1) < 6) ∧ ∀ M17 : Mem, M17 = up M13 52 u0 (M4 1 (M 14 0 y1) 1) (max (M4 52 u0 (M4 1 (M 14 0 y1) 1)) x14) → (0 ≤ (M4 1 (M 14 0 y1) 1) ∧ (M4 1 (M 14 0 y1) 1) < 6) ∧ wp_X0_rightPart (M 14 0 y1) M17 fun (x22 : Int) (M21 : Mem) => (0 ≤ (M4 1 (M 14 0 y1) 1) ∧ (M4 1 (M 14 0 y1) 1) < 6) ∧ ∀ M25 : Mem, M25 = up M21 53 u0 (M4 1 (M 14 0 y1) 1) (max (M17 53 u0 (M4 1 (M 14 0 y1) 1)) x22) → ((¬ (M25 6 (M25 1 (M 14 0 y1) 0) 1) = 1 → wp_X8_measureFigures_138 u0 Qm (wp_X8_measureFigures_2 u0 Qm n) y1 M25) ∧ ((M25 6 (M25 1 (M 14 0 y1) 0) 1) = 1 → (0 ≤ (M4 1 (M 14 0 y1) 1) ∧ (M4 1 (M 14 0 y1) 1) < 6) ∧ (inR ((M25 54 u0 (M4 1 (M 14 0 y1) 1)) + (max 0 (M25 1 (M 14 0 y1) 9)))) ∧ (0 ≤ (M4 1 (M 14 0 y1) 1) ∧ (M4 1 (M 14 0 y1) 1) < 6) ∧ ∀ M34 : Mem, M34 = up M25 54 u0 (M4 1 (M 14 0 y1) 1) ((M25 54 u0 (M4 1 (M 14 0 y1) 1)) + (max 0 (M25 1 (M 14 0 y1) 9))) → (0 ≤ (M4 1 (M 14 0 y1) 1) ∧ (M4 1 (M 14 0 y1) 1) < 6) ∧ (inR ((M34 55 u0 (M4 1 (M 14 0 y1) 1)) + (min 0 (M34 1 (M 14 0 y1) 9)))) ∧ (0 ≤ (M4 1 (M 14 0 y1) 1) ∧ (M4 1 (M 14 0 y1) 1) < 6) ∧ ∀ M41 : Mem, M41 = up M34 55 u0 (M4 1 (M 14 0 y1) 1) ((M34 55 u0 (M4 1 (M 14 0 y1) 1)) + (min 0 (M34 1 (M 14 0 y1) 9))) → wp_X8_measureFigures_138 u0 Qm (wp_X8_measureFigures_2 u0 Qm n) y1 M41))))))))
def wp_X8_measureFigures (u0 : Int) (M : Mem) (Qm : Mem → Prop) : Prop := (∃ n43 : Nat, wp_X8_measureFigures_2 u0 Qm n43 0 M)
set_option maxHeartbeats 4000000 in
set_option maxRecDepth 100000 in
theorem t_X8_measureFigures_138 {u0 : Int} (X : CX p m c cX8_measureFigures 4 s args RX8 G B κ meth none) (hu0 : okk κ 9 u0) {Qm : Mem → Prop} {K2 : Int → Mem → Prop} (hK2 : ∀ y1 : Int, ∀ M : Mem, K2 y1 M → inR y1 → ∀ (H : Heap) (locs : List Loc), Rp G e0 α κ B M H → va_S (fun q => B ≤ q) s.heap H locs → ∀ (ls : Array Slot), lv_has ls 4 [(0, .ref (α 9 u0)), (1, .int (Int32.ofInt y1))] → WV p l e 3 s m args below meth c G e0 α κ B Qm H locs 2 ls []) : ∀ y1 : Int, ∀ M : Mem, wp_X8_measureFigures_138 u0 Qm K2 y1 M → inR y1 → ∀ (H : Heap) (locs : List Loc), Rp G e0 α κ B M H → va_S (fun q => B ≤ q) s.heap H locs → ∀ (ls : Array Slot), lv_has ls 4 [(0, .ref (α 9 u0)), (1, .int (Int32.ofInt y1))] → WV p l e 3 s m args below meth c G e0 α κ B Qm H locs 138 ls [] := by
  intro y1 M hw hy1 H locs hR hS ls hl
  have hw : (inR (y1 + 1)) ∧ K2 (y1 + 1) M := hw
  have c7 := hw.1
  have hw := hw.2
  refine lv_iinc (v := Int32.ofInt (y1 + 1)) (lv' := [(1, .int (Int32.ofInt (y1 + 1))), (0, .ref (α 9 u0))]) X.1.1 X.1.2.1 dX8_measureFigures_138 hl (k := 1) rfl (Int32.ofInt_add _ _).symm (by decide) rfl (fun ls hl => ?_)
  refine lv_goto (tgt := 2) X.1.1 X.1.2.1 dX8_measureFigures_141 (by decide) ?_
  exact hK2 _ _ hw c7 _ _ hR hS _ (lv_sub hl [1, 0] rfl)
set_option maxHeartbeats 4000000 in
set_option maxRecDepth 100000 in
theorem t_X8_measureFigures_2 {u0 : Int} (X : CX p m c cX8_measureFigures 4 s args RX8 G B κ meth none) (hu0 : okk κ 9 u0) {Qm : Mem → Prop} : ∀ n : Nat, ∀ y1 : Int, ∀ M : Mem, wp_X8_measureFigures_2 u0 Qm n y1 M → inR y1 → ∀ (H : Heap) (locs : List Loc), Rp G e0 α κ B M H → va_S (fun q => B ≤ q) s.heap H locs → ∀ (ls : Array Slot), lv_has ls 4 [(0, .ref (α 9 u0)), (1, .int (Int32.ofInt y1))] → WV p l e 3 s m args below meth c G e0 α κ B Qm H locs 2 ls [] := by
  intro n
  induction n with
  | zero =>
    intro y1 M hw hy1 H locs hR hS ls hl
    exact hw.elim
  | succ n ih =>
    intro y1 M hw hy1 H locs hR hS ls hl
    have hw : (((M 14 0 (-1)) ≤ y1 → Qm M) ∧ (y1 < (M 14 0 (-1)) → (0 ≤ y1 ∧ y1 < M 14 0 (-1)) ∧ wp_X0_showsFigure (M 14 0 y1) M fun (x5 : Int) (M4 : Mem) => ((x5 = 0 → wp_X8_measureFigures_138 u0 Qm (wp_X8_measureFigures_2 u0 Qm n) y1 M4) ∧ (¬ x5 = 0 → ((6 ≤ (M4 1 (M 14 0 y1) 1) → wp_X8_measureFigures_138 u0 Qm (wp_X8_measureFigures_2 u0 Qm n) y1 M4) ∧ ((M4 1 (M 14 0 y1) 1) < 6 → (0 ≤ (M4 1 (M 14 0 y1) 1) ∧ (M4 1 (M 14 0 y1) 1) < 6) ∧ wp_X9_leftPart (M4 1 (M 14 0 y1) 9) M4 fun (x14 : Int) (M13 : Mem) => (0 ≤ (M4 1 (M 14 0 y1) 1) ∧ (M4 1 (M 14 0 y1) 1) < 6) ∧ ∀ M17 : Mem, M17 = up M13 52 u0 (M4 1 (M 14 0 y1) 1) (max (M4 52 u0 (M4 1 (M 14 0 y1) 1)) x14) → (0 ≤ (M4 1 (M 14 0 y1) 1) ∧ (M4 1 (M 14 0 y1) 1) < 6) ∧ wp_X0_rightPart (M 14 0 y1) M17 fun (x22 : Int) (M21 : Mem) => (0 ≤ (M4 1 (M 14 0 y1) 1) ∧ (M4 1 (M 14 0 y1) 1) < 6) ∧ ∀ M25 : Mem, M25 = up M21 53 u0 (M4 1 (M 14 0 y1) 1) (max (M17 53 u0 (M4 1 (M 14 0 y1) 1)) x22) → ((¬ (M25 6 (M25 1 (M 14 0 y1) 0) 1) = 1 → wp_X8_measureFigures_138 u0 Qm (wp_X8_measureFigures_2 u0 Qm n) y1 M25) ∧ ((M25 6 (M25 1 (M 14 0 y1) 0) 1) = 1 → (0 ≤ (M4 1 (M 14 0 y1) 1) ∧ (M4 1 (M 14 0 y1) 1) < 6) ∧ (inR ((M25 54 u0 (M4 1 (M 14 0 y1) 1)) + (max 0 (M25 1 (M 14 0 y1) 9)))) ∧ (0 ≤ (M4 1 (M 14 0 y1) 1) ∧ (M4 1 (M 14 0 y1) 1) < 6) ∧ ∀ M34 : Mem, M34 = up M25 54 u0 (M4 1 (M 14 0 y1) 1) ((M25 54 u0 (M4 1 (M 14 0 y1) 1)) + (max 0 (M25 1 (M 14 0 y1) 9))) → (0 ≤ (M4 1 (M 14 0 y1) 1) ∧ (M4 1 (M 14 0 y1) 1) < 6) ∧ (inR ((M34 55 u0 (M4 1 (M 14 0 y1) 1)) + (min 0 (M34 1 (M 14 0 y1) 9)))) ∧ (0 ≤ (M4 1 (M 14 0 y1) 1) ∧ (M4 1 (M 14 0 y1) 1) < 6) ∧ ∀ M41 : Mem, M41 = up M34 55 u0 (M4 1 (M 14 0 y1) 1) ((M34 55 u0 (M4 1 (M 14 0 y1) 1)) + (min 0 (M34 1 (M 14 0 y1) 9))) → wp_X8_measureFigures_138 u0 Qm (wp_X8_measureFigures_2 u0 Qm n) y1 M41)))))))) := hw
    refine lv_iload_n X.1.1 X.1.2.1 dX8_measureFigures_2 rfl (lv_at hl 1 rfl) ?_
    refine lv_aload_n X.1.1 X.1.2.1 dX8_measureFigures_3 rfl (lv_at hl 0 rfl) ?_
    refine gt_9_0 X hR hu0 kw_155 dX8_measureFigures_4 ?_
    refine gt_4_2 X hR (okf X.2.2.1 rfl) kw_122 dX8_measureFigures_7 ?_
    refine ls_size (by decide) (by decide) X (kc := 3) rmL_ok rm_c (by decide) hR hS kw_389 hl.1 dX8_measureFigures_10 (Nat.le_of_ble_eq_true rfl) (fun H locs hR hS => ?_)
    have r1 := hR.r 14 0 (-1)
    refine sa_icmp_ge (tgt := 144) X.1 hy1 r1 dX8_measureFigures_13 (by decide) (fun hc => ?_) (fun hc => ?_)
    · have hw := hw.1 hc
      exact sa_vret X.1 X.2.2.2.1 X.2.2.2.2 hR hS hw dX8_measureFigures_144
    · have hw := hw.2 hc
      refine lv_aload_n X.1.1 X.1.2.1 dX8_measureFigures_16 rfl (lv_at hl 0 rfl) ?_
      refine gt_9_0 X hR hu0 kw_155 dX8_measureFigures_17 ?_
      refine gt_4_2 X hR (okf X.2.2.1 rfl) kw_122 dX8_measureFigures_20 ?_
      refine lv_iload_n X.1.1 X.1.2.1 dX8_measureFigures_23 rfl (lv_at hl 1 rfl) ?_
      have c2 := hw.1
      have hw := hw.2
      refine ls_get (ci := 1) (by decide) (by decide) rfl X c2 (kc := 3) rmL_ok rm_c (by decide) hR hS kw_393 hl.1 dX8_measureFigures_24 (Nat.le_of_ble_eq_true rfl) (fun H locs o3 hR hS => ?_)
      refine ck_1 X hR o3 kw_407 dX8_measureFigures_27 ?_
      refine lv_astore_n (lv' := [(2, .ref (α 1 (M 14 0 y1))), (0, .ref (α 9 u0)), (1, .int (Int32.ofInt y1))]) X.1.1 X.1.2.1 dX8_measureFigures_30 rfl hl (by decide) rfl (fun ls hl => ?_)
      refine lv_aload_n X.1.1 X.1.2.1 dX8_measureFigures_31 rfl (lv_at hl 0 rfl) ?_
      refine cs_X0_showsFigure X o3 (kc := 3) rmL_ok rm_c (by decide) hR hS kw_408 hl.1 dX8_measureFigures_32 (Nat.le_of_ble_eq_true rfl) hw (fun x5 M4 H locs hw r6 hR hS => ?_)
      refine sa_if_eq (tgt := 138) X.1 r6 dX8_measureFigures_35 (by decide) (fun hc => ?_) (fun hc => ?_)
      · have hw := hw.1 hc
        exact t_X8_measureFigures_138 X hu0 ih _ _ hw hy1 _ _ hR hS _ (lv_sub hl [1, 2] rfl)
      · have hw := hw.2 hc
        refine lv_aload_n X.1.1 X.1.2.1 dX8_measureFigures_38 rfl (lv_at hl 0 rfl) ?_
        refine gt_1_1 X hR o3 kw_988 dX8_measureFigures_39 ?_
        have r8 := hR.r 1 (M 14 0 y1) 1
        refine sa_bipush X.1 dX8_measureFigures_42 (by decide) ?_
        refine sa_icmp_ge (tgt := 138) X.1 r8 (inR_c (a := 6) rfl) dX8_measureFigures_44 (by decide) (fun hc => ?_) (fun hc => ?_)
        · have hw := hw.1 hc
          exact t_X8_measureFigures_138 X hu0 ih _ _ hw hy1 _ _ hR hS _ (lv_sub hl [1, 2] rfl)
        · have hw := hw.2 hc
          refine lv_aload_n X.1.1 X.1.2.1 dX8_measureFigures_47 rfl (lv_at hl 0 rfl) ?_
          refine gt_1_1 X hR o3 kw_988 dX8_measureFigures_48 ?_
          have r9 := hR.r 1 (M 14 0 y1) 1
          refine lv_istore_n (lv' := [(3, .int (Int32.ofInt (M4 1 (M 14 0 y1) 1))), (2, .ref (α 1 (M 14 0 y1))), (0, .ref (α 9 u0)), (1, .int (Int32.ofInt y1))]) X.1.1 X.1.2.1 dX8_measureFigures_51 rfl hl (by decide) rfl (fun ls hl => ?_)
          refine lv_aload_n X.1.1 X.1.2.1 dX8_measureFigures_52 rfl (lv_at hl 2 rfl) ?_
          refine gt_9_4 X hR hu0 kw_163 dX8_measureFigures_53 ?_
          refine lv_iload_n X.1.1 X.1.2.1 dX8_measureFigures_56 rfl (lv_at hl 0 rfl) ?_
          refine lv_aload_n X.1.1 X.1.2.1 dX8_measureFigures_57 rfl (lv_at hl 2 rfl) ?_
          refine gt_9_4 X hR hu0 kw_163 dX8_measureFigures_58 ?_
          refine lv_iload_n X.1.1 X.1.2.1 dX8_measureFigures_61 rfl (lv_at hl 0 rfl) ?_
          have c10 := hw.1
          have hw := hw.2
          refine ra_52 X hR (okp X.2.2.1 rfl (pr_9 X.2.2.1 hu0)) c10 dX8_measureFigures_62 ?_
          have r11 := hR.r 52 u0 (M4 1 (M 14 0 y1) 1)
          refine lv_aload_n X.1.1 X.1.2.1 dX8_measureFigures_63 rfl (lv_at hl 1 rfl) ?_
          refine gt_1_9 X hR o3 kw_1008 dX8_measureFigures_64 ?_
          have r12 := hR.r 1 (M 14 0 y1) 9
          refine csN_X9_leftPart X r12 (kc := 3) rmL_ok rm_c (by decide) hR hS kn_416 hl.1 dX8_measureFigures_67 (Nat.le_of_ble_eq_true rfl) hw (fun x14 M13 H locs hw r15 hR hS => ?_)
          refine sa_max (R := rmL 3) X.1 r11 r15 hl.1 kw_419 kmath_max_s kmath_i kmath_max_c (by decide) (Nat.le_of_ble_eq_true rfl) rm_c dX8_measureFigures_70 ?_
          have c16 := hw.1
          have hw := hw.2
          refine wa_52 X hR hS (okp X.2.2.1 rfl (pr_9 X.2.2.1 hu0)) c16 (inR_max r11 r15) dX8_measureFigures_73 (fun H locs hR hS => ?_)
          obtain ⟨M17, e18⟩ : ∃ z : Mem, z = up M13 52 u0 (M4 1 (M 14 0 y1) 1) (max (M4 52 u0 (M4 1 (M 14 0 y1) 1)) x14) := ⟨_, rfl⟩
          rw [← e18] at hR
          have hw := hw M17 e18
          refine lv_aload_n X.1.1 X.1.2.1 dX8_measureFigures_74 rfl (lv_at hl 2 rfl) ?_
          refine gt_9_5 X hR hu0 kw_164 dX8_measureFigures_75 ?_
          refine lv_iload_n X.1.1 X.1.2.1 dX8_measureFigures_78 rfl (lv_at hl 0 rfl) ?_
          refine lv_aload_n X.1.1 X.1.2.1 dX8_measureFigures_79 rfl (lv_at hl 2 rfl) ?_
          refine gt_9_5 X hR hu0 kw_164 dX8_measureFigures_80 ?_
          refine lv_iload_n X.1.1 X.1.2.1 dX8_measureFigures_83 rfl (lv_at hl 0 rfl) ?_
          have c19 := hw.1
          have hw := hw.2
          refine ra_53 X hR (okp X.2.2.1 rfl (pr_9 X.2.2.1 hu0)) c19 dX8_measureFigures_84 ?_
          have r20 := hR.r 53 u0 (M4 1 (M 14 0 y1) 1)
          refine lv_aload_n X.1.1 X.1.2.1 dX8_measureFigures_85 rfl (lv_at hl 1 rfl) ?_
          refine cs_X0_rightPart X o3 (kc := 3) rmL_ok rm_c (by decide) hR hS kw_422 hl.1 dX8_measureFigures_86 (Nat.le_of_ble_eq_true rfl) hw (fun x22 M21 H locs hw r23 hR hS => ?_)
          refine sa_max (R := rmL 3) X.1 r20 r23 hl.1 kw_419 kmath_max_s kmath_i kmath_max_c (by decide) (Nat.le_of_ble_eq_true rfl) rm_c dX8_measureFigures_89 ?_
          have c24 := hw.1
          have hw := hw.2
          refine wa_53 X hR hS (okp X.2.2.1 rfl (pr_9 X.2.2.1 hu0)) c24 (inR_max r20 r23) dX8_measureFigures_92 (fun H locs hR hS => ?_)
          obtain ⟨M25, e26⟩ : ∃ z : Mem, z = up M21 53 u0 (M4 1 (M 14 0 y1) 1) (max (M17 53 u0 (M4 1 (M 14 0 y1) 1)) x22) := ⟨_, rfl⟩
          rw [← e26] at hR
          have hw := hw M25 e26
          refine lv_aload_n X.1.1 X.1.2.1 dX8_measureFigures_93 rfl (lv_at hl 1 rfl) ?_
          refine gt_1_0 X hR o3 kw_984 dX8_measureFigures_94 ?_
          have o27 := hR.2.2.2.1 _ o3
          refine gt_6_1 X hR o27 kw_894 dX8_measureFigures_97 ?_
          have r28 := hR.r 6 (M25 1 (M 14 0 y1) 0) 1
          refine sa_const X.1 dX8_measureFigures_100 ?_
          refine sa_icmp_ne (tgt := 138) X.1 r28 (inR_c (a := 1) rfl) dX8_measureFigures_101 (by decide) (fun hc => ?_) (fun hc => ?_)
          · have hw := hw.1 hc
            exact t_X8_measureFigures_138 X hu0 ih _ _ hw hy1 _ _ hR hS _ (lv_sub hl [2, 3] rfl)
          · have hw := hw.2 hc
            refine lv_aload_n X.1.1 X.1.2.1 dX8_measureFigures_104 rfl (lv_at hl 2 rfl) ?_
            refine gt_9_6 X hR hu0 kw_165 dX8_measureFigures_105 ?_
            refine lv_iload_n X.1.1 X.1.2.1 dX8_measureFigures_108 rfl (lv_at hl 0 rfl) ?_
            refine lv_dup2_11 X.1.1 X.1.2.1 dX8_measureFigures_109 rfl rfl ?_
            have c29 := hw.1
            have hw := hw.2
            refine ra_54 X hR (okp X.2.2.1 rfl (pr_9 X.2.2.1 hu0)) c29 dX8_measureFigures_110 ?_
            have r30 := hR.r 54 u0 (M4 1 (M 14 0 y1) 1)
            refine sa_const X.1 dX8_measureFigures_111 ?_
            refine lv_aload_n X.1.1 X.1.2.1 dX8_measureFigures_112 rfl (lv_at hl 1 rfl) ?_
            refine gt_1_9 X hR o3 kw_1008 dX8_measureFigures_113 ?_
            have r31 := hR.r 1 (M 14 0 y1) 9
            refine sa_max (R := rmL 3) X.1 (inR_c (a := 0) rfl) r31 hl.1 kw_419 kmath_max_s kmath_i kmath_max_c (by decide) (Nat.le_of_ble_eq_true rfl) rm_c dX8_measureFigures_116 ?_
            have c32 := hw.1
            have hw := hw.2
            refine sa_iadd X.1 dX8_measureFigures_119 ?_
            have c33 := hw.1
            have hw := hw.2
            refine wa_54 X hR hS (okp X.2.2.1 rfl (pr_9 X.2.2.1 hu0)) c33 c32 dX8_measureFigures_120 (fun H locs hR hS => ?_)
            obtain ⟨M34, e35⟩ : ∃ z : Mem, z = up M25 54 u0 (M4 1 (M 14 0 y1) 1) ((M25 54 u0 (M4 1 (M 14 0 y1) 1)) + (max 0 (M25 1 (M 14 0 y1) 9))) := ⟨_, rfl⟩
            rw [← e35] at hR
            have hw := hw M34 e35
            refine lv_aload_n X.1.1 X.1.2.1 dX8_measureFigures_121 rfl (lv_at hl 2 rfl) ?_
            refine gt_9_7 X hR hu0 kw_166 dX8_measureFigures_122 ?_
            refine lv_iload_n X.1.1 X.1.2.1 dX8_measureFigures_125 rfl (lv_at hl 0 rfl) ?_
            refine lv_dup2_11 X.1.1 X.1.2.1 dX8_measureFigures_126 rfl rfl ?_
            have c36 := hw.1
            have hw := hw.2
            refine ra_55 X hR (okp X.2.2.1 rfl (pr_9 X.2.2.1 hu0)) c36 dX8_measureFigures_127 ?_
            have r37 := hR.r 55 u0 (M4 1 (M 14 0 y1) 1)
            refine sa_const X.1 dX8_measureFigures_128 ?_
            refine lv_aload_n X.1.1 X.1.2.1 dX8_measureFigures_129 rfl (lv_at hl 1 rfl) ?_
            refine gt_1_9 X hR o3 kw_1008 dX8_measureFigures_130 ?_
            have r38 := hR.r 1 (M 14 0 y1) 9
            refine sa_min (R := rmL 3) X.1 (inR_c (a := 0) rfl) r38 kw_426 hl.1 kmath_min_s kmath_i kmath_min_c (by decide) (Nat.le_of_ble_eq_true rfl) rm_c dX8_measureFigures_133 ?_
            have c39 := hw.1
            have hw := hw.2
            refine sa_iadd X.1 dX8_measureFigures_136 ?_
            have c40 := hw.1
            have hw := hw.2
            refine wa_55 X hR hS (okp X.2.2.1 rfl (pr_9 X.2.2.1 hu0)) c40 c39 dX8_measureFigures_137 (fun H locs hR hS => ?_)
            obtain ⟨M41, e42⟩ : ∃ z : Mem, z = up M34 55 u0 (M4 1 (M 14 0 y1) 1) ((M34 55 u0 (M4 1 (M 14 0 y1) 1)) + (min 0 (M34 1 (M 14 0 y1) 9))) := ⟨_, rfl⟩
            rw [← e42] at hR
            have hw := hw M41 e42
            exact t_X8_measureFigures_138 X hu0 ih _ _ hw hy1 _ _ hR hS _ (lv_sub hl [2, 3] rfl)
set_option maxHeartbeats 4000000 in
set_option maxRecDepth 100000 in
theorem t_X8_measureFigures {u0 : Int} (X : CX p m c cX8_measureFigures 4 s args RX8 G B κ meth none) (hu0 : okk κ 9 u0) {M : Mem} {Qm : Mem → Prop} (hw : wp_X8_measureFigures u0 M Qm) (H : Heap) (locs : List Loc) (hR : Rp G e0 α κ B M H) (hS : va_S (fun q => B ≤ q) s.heap H locs) (ls : Array Slot) (hl : lv_has ls 4 [(0, .ref (α 9 u0))]) : WV p l e 3 s m args below meth c G e0 α κ B Qm H locs 0 ls [] := by
  have hw : (∃ n43 : Nat, wp_X8_measureFigures_2 u0 Qm n43 0 M) := hw
  refine sa_const X.1 dX8_measureFigures_0 ?_
  refine lv_istore_n (lv' := [(1, .int (Int32.ofInt 0)), (0, .ref (α 9 u0))]) X.1.1 X.1.2.1 dX8_measureFigures_1 rfl hl (by decide) rfl (fun ls hl => ?_)
  obtain ⟨n43, hw⟩ := hw
  exact t_X8_measureFigures_2 X hu0 n43 _ _ hw (inR_c (a := 0) rfl) _ _ hR hS _ (lv_sub hl [1, 0] rfl)
theorem m_X8_measureFigures {l : Launch} {G : Gx} {e0 : Nat} {α : Ax} {κ : Nat → Int} {B : Nat} {u0 : Int} (hκ : kOK κ) (hu0 : okk κ 9 u0) {M : Mem} {Qm : Mem → Prop} (hw : wp_X8_measureFigures u0 M Qm) : CV l yX8_measureFigures (Cond.code yX8_measureFigures cX8_measureFigures 4 none) 3 G e0 α κ B [.ref (α 9 u0)] M Qm :=
  CV.mk hκ (by decide +kernel) rfl (Nat.le_of_ble_eq_true rfl) (lv := [(0, .ref (α 9 u0))]) rfl (fun p e s m args below meth c ls X hR hS hl => t_X8_measureFigures X hu0 hw _ _ hR hS ls hl)
theorem cs_X8_measureFigures {cc : ByteArray} {nL : Nat} {own : String} {ret : Option FieldType} {idx pc : Nat} {u0 : Int} (X : CX p m c cc nL s args own G B κ meth ret) (hu0 : okk κ 9 u0) {kc : Nat} {R : Room} {cells slots : Nat} (hRr : RmOK R kc) (hcel : cells ≤ R.cells ∧ slots ≤ R.slots) (hk : 3 + 1 ≤ kc) {M : Mem} {H : Heap} {locs : List Loc} (hR : Rp G e0 α κ B M H) (hS : va_S (fun q => B ≤ q) s.heap H locs) (k1 : Cond.methodLink own idx yX8_measureFigures ∈ gw) {ls : Array Slot} (hml : ls.size = nL) {rest : List Value} (hd : decode cc pc = .ok (.invokevirtual idx, 3)) (hrest : (rest.map fun v => v.category).sum ≤ 8) {Q : State → Prop} {Qm : Mem → Prop} (hw : wp_X8_measureFigures u0 M Qm) (kk : ∀ (M1 : Mem) (H1 : Heap) (locs1 : List Loc), Qm M1 → Rp G e0 α κ B M1 H1 → va_S (fun q => B ≤ q) s.heap H1 locs1 → W p l e R s m args below meth c H1 locs1 cells slots Q (F0 m (pc + 3) ls (rest))) : W p l e R s m args below meth c H locs cells slots Q (F0 m pc ls (.ref (α 9 u0) :: rest)) :=
  sa_callVV 3 (n := 0) (As := []) (rest := rest) X.1 X.2.1 hR hS (m_X8_measureFigures X.2.2.1 hu0 hw) k1 kw_387 kw_2 kw_43 kw_388 ⟨rfl, by decide +kernel, by decide +kernel, by decide +kernel⟩ (rm_ok hRr hk (by decide)) (rc_9 X hR hu0) rfl rfl hrest hml hd hcel kk
def wp_X8_measureTotals_76 (u0 : Int) (Qm : Mem → Prop) (K2 : Int → Mem → Prop) (y1 : Int) (M : Mem) : Prop := (inR (y1 + 1)) ∧ K2 (y1 + 1) M
def wp_X8_measureTotals_2 (u0 : Int) (Qm : Mem → Prop) : Nat → Int → Mem → Prop
  | 0 => fun _ _ => False
  | n + 1 => fun y1 M => ((6 ≤ y1 → Qm M) ∧ (y1 < 6 → (0 ≤ y1 ∧ y1 < 6) ∧ (((M 52 u0 y1) ≤ 0 → wp_X8_measureTotals_76 u0 Qm (wp_X8_measureTotals_2 u0 Qm n) y1 M) ∧ (0 < (M 52 u0 y1) → wp_X3_isTotalled y1 M fun (x5 : Int) (M4 : Mem) => ((x5 = 0 → wp_X8_measureTotals_76 u0 Qm (wp_X8_measureTotals_2 u0 Qm n) y1 M4) ∧ (¬ x5 = 0 → (0 ≤ y1 ∧ y1 < 6) ∧ (0 ≤ y1 ∧ y1 < 6) ∧ wp_X9_leftPart (M4 54 u0 y1) M4 fun (x12 : Int) (M11 : Mem) => (0 ≤ y1 ∧ y1 < 6) ∧ ∀ M15 : Mem, M15 = up M11 52 u0 y1 (max (M4 52 u0 y1) x12) → (0 ≤ y1 ∧ y1 < 6) ∧ (0 ≤ y1 ∧ y1 < 6) ∧ wp_X9_leftPart (M15 55 u0 y1) M15 fun (x22 : Int) (M21 : Mem) => (0 ≤ y1 ∧ y1 < 6) ∧ ∀ M25 : Mem, M25 = up M21 52 u0 y1 (max (M15 52 u0 y1) x22) → wp_X8_measureTotals_76 u0 Qm (wp_X8_measureTotals_2 u0 Qm n) y1 M25))))))
def wp_X8_measureTotals (u0 : Int) (M : Mem) (Qm : Mem → Prop) : Prop := (∃ n27 : Nat, wp_X8_measureTotals_2 u0 Qm n27 0 M)
set_option maxHeartbeats 4000000 in
set_option maxRecDepth 100000 in
theorem t_X8_measureTotals_76 {u0 : Int} (X : CX p m c cX8_measureTotals 2 s args RX8 G B κ meth none) (hu0 : okk κ 9 u0) {Qm : Mem → Prop} {K2 : Int → Mem → Prop} (hK2 : ∀ y1 : Int, ∀ M : Mem, K2 y1 M → inR y1 → ∀ (H : Heap) (locs : List Loc), Rp G e0 α κ B M H → va_S (fun q => B ≤ q) s.heap H locs → ∀ (ls : Array Slot), lv_has ls 2 [(0, .ref (α 9 u0)), (1, .int (Int32.ofInt y1))] → WV p l e 4 s m args below meth c G e0 α κ B Qm H locs 2 ls []) : ∀ y1 : Int, ∀ M : Mem, wp_X8_measureTotals_76 u0 Qm K2 y1 M → inR y1 → ∀ (H : Heap) (locs : List Loc), Rp G e0 α κ B M H → va_S (fun q => B ≤ q) s.heap H locs → ∀ (ls : Array Slot), lv_has ls 2 [(0, .ref (α 9 u0)), (1, .int (Int32.ofInt y1))] → WV p l e 4 s m args below meth c G e0 α κ B Qm H locs 76 ls [] := by
  intro y1 M hw hy1 H locs hR hS ls hl
  have hw : (inR (y1 + 1)) ∧ K2 (y1 + 1) M := hw
  have c3 := hw.1
  have hw := hw.2
  refine lv_iinc (v := Int32.ofInt (y1 + 1)) (lv' := [(1, .int (Int32.ofInt (y1 + 1))), (0, .ref (α 9 u0))]) X.1.1 X.1.2.1 dX8_measureTotals_76 hl (k := 1) rfl (Int32.ofInt_add _ _).symm (by decide) rfl (fun ls hl => ?_)
  refine lv_goto (tgt := 2) X.1.1 X.1.2.1 dX8_measureTotals_79 (by decide) ?_
  exact hK2 _ _ hw c3 _ _ hR hS _ (lv_sub hl [1, 0] rfl)
set_option maxHeartbeats 4000000 in
set_option maxRecDepth 100000 in
theorem t_X8_measureTotals_2 {u0 : Int} (X : CX p m c cX8_measureTotals 2 s args RX8 G B κ meth none) (hu0 : okk κ 9 u0) {Qm : Mem → Prop} : ∀ n : Nat, ∀ y1 : Int, ∀ M : Mem, wp_X8_measureTotals_2 u0 Qm n y1 M → inR y1 → ∀ (H : Heap) (locs : List Loc), Rp G e0 α κ B M H → va_S (fun q => B ≤ q) s.heap H locs → ∀ (ls : Array Slot), lv_has ls 2 [(0, .ref (α 9 u0)), (1, .int (Int32.ofInt y1))] → WV p l e 4 s m args below meth c G e0 α κ B Qm H locs 2 ls [] := by
  intro n
  induction n with
  | zero =>
    intro y1 M hw hy1 H locs hR hS ls hl
    exact hw.elim
  | succ n ih =>
    intro y1 M hw hy1 H locs hR hS ls hl
    have hw : ((6 ≤ y1 → Qm M) ∧ (y1 < 6 → (0 ≤ y1 ∧ y1 < 6) ∧ (((M 52 u0 y1) ≤ 0 → wp_X8_measureTotals_76 u0 Qm (wp_X8_measureTotals_2 u0 Qm n) y1 M) ∧ (0 < (M 52 u0 y1) → wp_X3_isTotalled y1 M fun (x5 : Int) (M4 : Mem) => ((x5 = 0 → wp_X8_measureTotals_76 u0 Qm (wp_X8_measureTotals_2 u0 Qm n) y1 M4) ∧ (¬ x5 = 0 → (0 ≤ y1 ∧ y1 < 6) ∧ (0 ≤ y1 ∧ y1 < 6) ∧ wp_X9_leftPart (M4 54 u0 y1) M4 fun (x12 : Int) (M11 : Mem) => (0 ≤ y1 ∧ y1 < 6) ∧ ∀ M15 : Mem, M15 = up M11 52 u0 y1 (max (M4 52 u0 y1) x12) → (0 ≤ y1 ∧ y1 < 6) ∧ (0 ≤ y1 ∧ y1 < 6) ∧ wp_X9_leftPart (M15 55 u0 y1) M15 fun (x22 : Int) (M21 : Mem) => (0 ≤ y1 ∧ y1 < 6) ∧ ∀ M25 : Mem, M25 = up M21 52 u0 y1 (max (M15 52 u0 y1) x22) → wp_X8_measureTotals_76 u0 Qm (wp_X8_measureTotals_2 u0 Qm n) y1 M25)))))) := hw
    refine lv_iload_n X.1.1 X.1.2.1 dX8_measureTotals_2 rfl (lv_at hl 1 rfl) ?_
    refine sa_bipush X.1 dX8_measureTotals_3 (by decide) ?_
    refine sa_icmp_ge (tgt := 82) X.1 hy1 (inR_c (a := 6) rfl) dX8_measureTotals_5 (by decide) (fun hc => ?_) (fun hc => ?_)
    · have hw := hw.1 hc
      exact sa_vret X.1 X.2.2.2.1 X.2.2.2.2 hR hS hw dX8_measureTotals_82
    · have hw := hw.2 hc
      refine lv_aload_n X.1.1 X.1.2.1 dX8_measureTotals_8 rfl (lv_at hl 0 rfl) ?_
      refine gt_9_4 X hR hu0 kw_163 dX8_measureTotals_9 ?_
      refine lv_iload_n X.1.1 X.1.2.1 dX8_measureTotals_12 rfl (lv_at hl 1 rfl) ?_
      have c1 := hw.1
      have hw := hw.2
      refine ra_52 X hR (okp X.2.2.1 rfl (pr_9 X.2.2.1 hu0)) c1 dX8_measureTotals_13 ?_
      have r2 := hR.r 52 u0 y1
      refine sa_if_le (tgt := 76) X.1 r2 dX8_measureTotals_14 (by decide) (fun hc => ?_) (fun hc => ?_)
      · have hw := hw.1 hc
        exact t_X8_measureTotals_76 X hu0 ih _ _ hw hy1 _ _ hR hS _ (lv_sub hl [0, 1] rfl)
      · have hw := hw.2 hc
        refine lv_aload_n X.1.1 X.1.2.1 dX8_measureTotals_17 rfl (lv_at hl 0 rfl) ?_
        refine gt_9_0 X hR hu0 kw_155 dX8_measureTotals_18 ?_
        refine lv_iload_n X.1.1 X.1.2.1 dX8_measureTotals_21 rfl (lv_at hl 1 rfl) ?_
        refine cs_X3_isTotalled X hy1 (kc := 4) rmL_ok rm_c (by decide) hR hS kw_433 hl.1 dX8_measureTotals_22 (Nat.le_of_ble_eq_true rfl) hw (fun x5 M4 H locs hw r6 hR hS => ?_)
        refine sa_if_eq (tgt := 76) X.1 r6 dX8_measureTotals_25 (by decide) (fun hc => ?_) (fun hc => ?_)
        · have hw := hw.1 hc
          exact t_X8_measureTotals_76 X hu0 ih _ _ hw hy1 _ _ hR hS _ (lv_sub hl [0, 1] rfl)
        · have hw := hw.2 hc
          refine lv_aload_n X.1.1 X.1.2.1 dX8_measureTotals_28 rfl (lv_at hl 0 rfl) ?_
          refine gt_9_4 X hR hu0 kw_163 dX8_measureTotals_29 ?_
          refine lv_iload_n X.1.1 X.1.2.1 dX8_measureTotals_32 rfl (lv_at hl 1 rfl) ?_
          refine lv_aload_n X.1.1 X.1.2.1 dX8_measureTotals_33 rfl (lv_at hl 0 rfl) ?_
          refine gt_9_4 X hR hu0 kw_163 dX8_measureTotals_34 ?_
          refine lv_iload_n X.1.1 X.1.2.1 dX8_measureTotals_37 rfl (lv_at hl 1 rfl) ?_
          have c7 := hw.1
          have hw := hw.2
          refine ra_52 X hR (okp X.2.2.1 rfl (pr_9 X.2.2.1 hu0)) c7 dX8_measureTotals_38 ?_
          have r8 := hR.r 52 u0 y1
          refine lv_aload_n X.1.1 X.1.2.1 dX8_measureTotals_39 rfl (lv_at hl 0 rfl) ?_
          refine gt_9_6 X hR hu0 kw_165 dX8_measureTotals_40 ?_
          refine lv_iload_n X.1.1 X.1.2.1 dX8_measureTotals_43 rfl (lv_at hl 1 rfl) ?_
          have c9 := hw.1
          have hw := hw.2
          refine ra_54 X hR (okp X.2.2.1 rfl (pr_9 X.2.2.1 hu0)) c9 dX8_measureTotals_44 ?_
          have r10 := hR.r 54 u0 y1
          refine csN_X9_leftPart X r10 (kc := 4) rmL_ok rm_c (by decide) hR hS kn_416 hl.1 dX8_measureTotals_45 (Nat.le_of_ble_eq_true rfl) hw (fun x12 M11 H locs hw r13 hR hS => ?_)
          refine sa_max (R := rmL 4) X.1 r8 r13 hl.1 kw_419 kmath_max_s kmath_i kmath_max_c (by decide) (Nat.le_of_ble_eq_true rfl) rm_c dX8_measureTotals_48 ?_
          have c14 := hw.1
          have hw := hw.2
          refine wa_52 X hR hS (okp X.2.2.1 rfl (pr_9 X.2.2.1 hu0)) c14 (inR_max r8 r13) dX8_measureTotals_51 (fun H locs hR hS => ?_)
          obtain ⟨M15, e16⟩ : ∃ z : Mem, z = up M11 52 u0 y1 (max (M4 52 u0 y1) x12) := ⟨_, rfl⟩
          rw [← e16] at hR
          have hw := hw M15 e16
          refine lv_aload_n X.1.1 X.1.2.1 dX8_measureTotals_52 rfl (lv_at hl 0 rfl) ?_
          refine gt_9_4 X hR hu0 kw_163 dX8_measureTotals_53 ?_
          refine lv_iload_n X.1.1 X.1.2.1 dX8_measureTotals_56 rfl (lv_at hl 1 rfl) ?_
          refine lv_aload_n X.1.1 X.1.2.1 dX8_measureTotals_57 rfl (lv_at hl 0 rfl) ?_
          refine gt_9_4 X hR hu0 kw_163 dX8_measureTotals_58 ?_
          refine lv_iload_n X.1.1 X.1.2.1 dX8_measureTotals_61 rfl (lv_at hl 1 rfl) ?_
          have c17 := hw.1
          have hw := hw.2
          refine ra_52 X hR (okp X.2.2.1 rfl (pr_9 X.2.2.1 hu0)) c17 dX8_measureTotals_62 ?_
          have r18 := hR.r 52 u0 y1
          refine lv_aload_n X.1.1 X.1.2.1 dX8_measureTotals_63 rfl (lv_at hl 0 rfl) ?_
          refine gt_9_7 X hR hu0 kw_166 dX8_measureTotals_64 ?_
          refine lv_iload_n X.1.1 X.1.2.1 dX8_measureTotals_67 rfl (lv_at hl 1 rfl) ?_
          have c19 := hw.1
          have hw := hw.2
          refine ra_55 X hR (okp X.2.2.1 rfl (pr_9 X.2.2.1 hu0)) c19 dX8_measureTotals_68 ?_
          have r20 := hR.r 55 u0 y1
          refine csN_X9_leftPart X r20 (kc := 4) rmL_ok rm_c (by decide) hR hS kn_416 hl.1 dX8_measureTotals_69 (Nat.le_of_ble_eq_true rfl) hw (fun x22 M21 H locs hw r23 hR hS => ?_)
          refine sa_max (R := rmL 4) X.1 r18 r23 hl.1 kw_419 kmath_max_s kmath_i kmath_max_c (by decide) (Nat.le_of_ble_eq_true rfl) rm_c dX8_measureTotals_72 ?_
          have c24 := hw.1
          have hw := hw.2
          refine wa_52 X hR hS (okp X.2.2.1 rfl (pr_9 X.2.2.1 hu0)) c24 (inR_max r18 r23) dX8_measureTotals_75 (fun H locs hR hS => ?_)
          obtain ⟨M25, e26⟩ : ∃ z : Mem, z = up M21 52 u0 y1 (max (M15 52 u0 y1) x22) := ⟨_, rfl⟩
          rw [← e26] at hR
          have hw := hw M25 e26
          exact t_X8_measureTotals_76 X hu0 ih _ _ hw hy1 _ _ hR hS _ (lv_sub hl [0, 1] rfl)
set_option maxHeartbeats 4000000 in
set_option maxRecDepth 100000 in
theorem t_X8_measureTotals {u0 : Int} (X : CX p m c cX8_measureTotals 2 s args RX8 G B κ meth none) (hu0 : okk κ 9 u0) {M : Mem} {Qm : Mem → Prop} (hw : wp_X8_measureTotals u0 M Qm) (H : Heap) (locs : List Loc) (hR : Rp G e0 α κ B M H) (hS : va_S (fun q => B ≤ q) s.heap H locs) (ls : Array Slot) (hl : lv_has ls 2 [(0, .ref (α 9 u0))]) : WV p l e 4 s m args below meth c G e0 α κ B Qm H locs 0 ls [] := by
  have hw : (∃ n27 : Nat, wp_X8_measureTotals_2 u0 Qm n27 0 M) := hw
  refine sa_const X.1 dX8_measureTotals_0 ?_
  refine lv_istore_n (lv' := [(1, .int (Int32.ofInt 0)), (0, .ref (α 9 u0))]) X.1.1 X.1.2.1 dX8_measureTotals_1 rfl hl (by decide) rfl (fun ls hl => ?_)
  obtain ⟨n27, hw⟩ := hw
  exact t_X8_measureTotals_2 X hu0 n27 _ _ hw (inR_c (a := 0) rfl) _ _ hR hS _ (lv_sub hl [1, 0] rfl)
theorem m_X8_measureTotals {l : Launch} {G : Gx} {e0 : Nat} {α : Ax} {κ : Nat → Int} {B : Nat} {u0 : Int} (hκ : kOK κ) (hu0 : okk κ 9 u0) {M : Mem} {Qm : Mem → Prop} (hw : wp_X8_measureTotals u0 M Qm) : CV l yX8_measureTotals (Cond.code yX8_measureTotals cX8_measureTotals 2 none) 4 G e0 α κ B [.ref (α 9 u0)] M Qm :=
  CV.mk hκ (by decide +kernel) rfl (Nat.le_of_ble_eq_true rfl) (lv := [(0, .ref (α 9 u0))]) rfl (fun p e s m args below meth c ls X hR hS hl => t_X8_measureTotals X hu0 hw _ _ hR hS ls hl)
theorem cs_X8_measureTotals {cc : ByteArray} {nL : Nat} {own : String} {ret : Option FieldType} {idx pc : Nat} {u0 : Int} (X : CX p m c cc nL s args own G B κ meth ret) (hu0 : okk κ 9 u0) {kc : Nat} {R : Room} {cells slots : Nat} (hRr : RmOK R kc) (hcel : cells ≤ R.cells ∧ slots ≤ R.slots) (hk : 4 + 1 ≤ kc) {M : Mem} {H : Heap} {locs : List Loc} (hR : Rp G e0 α κ B M H) (hS : va_S (fun q => B ≤ q) s.heap H locs) (k1 : Cond.methodLink own idx yX8_measureTotals ∈ gw) {ls : Array Slot} (hml : ls.size = nL) {rest : List Value} (hd : decode cc pc = .ok (.invokevirtual idx, 3)) (hrest : (rest.map fun v => v.category).sum ≤ 8) {Q : State → Prop} {Qm : Mem → Prop} (hw : wp_X8_measureTotals u0 M Qm) (kk : ∀ (M1 : Mem) (H1 : Heap) (locs1 : List Loc), Qm M1 → Rp G e0 α κ B M1 H1 → va_S (fun q => B ≤ q) s.heap H1 locs1 → W p l e R s m args below meth c H1 locs1 cells slots Q (F0 m (pc + 3) ls (rest))) : W p l e R s m args below meth c H locs cells slots Q (F0 m pc ls (.ref (α 9 u0) :: rest)) :=
  sa_callVV 4 (n := 0) (As := []) (rest := rest) X.1 X.2.1 hR hS (m_X8_measureTotals X.2.2.1 hu0 hw) k1 kw_431 kw_3 kw_43 kw_432 ⟨rfl, by decide +kernel, by decide +kernel, by decide +kernel⟩ (rm_ok hRr hk (by decide)) (rc_9 X hR hu0) rfl rfl hrest hml hd hcel kk
def wp_X8_widenOneColumn_154 (u0 : Int) (u1 : Int) (a2 : Nat) (b2 : Int) (Qm : Mem → Prop) (M : Mem) : Prop := Qm M
def wp_X8_widenOneColumn_121 (u0 : Int) (u1 : Int) (a2 : Nat) (b2 : Int) (Qm : Mem → Prop) (y3 : Int) (y4 : Int) (M : Mem) : Prop := (((if ¬ y3 = (-1) then y3 else y4) < 0 → wp_X8_widenOneColumn_154 u0 u1 a2 b2 Qm M) ∧ (0 ≤ (if ¬ y3 = (-1) then y3 else y4) → ((6 ≤ (if ¬ y3 = (-1) then y3 else y4) → wp_X8_widenOneColumn_154 u0 u1 a2 b2 Qm M) ∧ ((if ¬ y3 = (-1) then y3 else y4) < 6 → (0 ≤ (if ¬ y3 = (-1) then y3 else y4) ∧ (if ¬ y3 = (-1) then y3 else y4) < 6) ∧ (inR ((M a2 b2 (if ¬ y3 = (-1) then y3 else y4)) + 1)) ∧ (0 ≤ (if ¬ y3 = (-1) then y3 else y4) ∧ (if ¬ y3 = (-1) then y3 else y4) < 6) ∧ ∀ M12 : Mem, M12 = up M a2 b2 (if ¬ y3 = (-1) then y3 else y4) ((M a2 b2 (if ¬ y3 = (-1) then y3 else y4)) + 1) → wp_X8_widenOneColumn_154 u0 u1 a2 b2 Qm M12))))
def wp_X8_widenOneColumn_115 (u0 : Int) (u1 : Int) (a2 : Nat) (b2 : Int) (Qm : Mem → Prop) (K11 : Int → Int → Int → Mem → Prop) (y3 : Int) (y4 : Int) (y5 : Int) (M : Mem) : Prop := (inR (y5 + 1)) ∧ K11 y3 y4 (y5 + 1) M
def wp_X8_widenOneColumn_89 (u0 : Int) (u1 : Int) (a2 : Nat) (b2 : Int) (Qm : Mem → Prop) (K11 : Int → Int → Int → Mem → Prop) (y3 : Int) (y4 : Int) (y5 : Int) (M : Mem) : Prop := wp_X8_widenOneColumn_115 u0 u1 a2 b2 Qm K11 y3 y4 y5 M
def wp_X8_widenOneColumn_112 (u0 : Int) (u1 : Int) (a2 : Nat) (b2 : Int) (Qm : Mem → Prop) (K11 : Int → Int → Int → Mem → Prop) (y4 : Int) (y5 : Int) (M : Mem) : Prop := wp_X8_widenOneColumn_115 u0 u1 a2 b2 Qm K11 y5 y4 y5 M
def wp_X8_widenOneColumn_11 (u0 : Int) (u1 : Int) (a2 : Nat) (b2 : Int) (Qm : Mem → Prop) : Nat → Int → Int → Int → Mem → Prop
  | 0 => fun _ _ _ _ => False
  | n + 1 => fun y3 y4 y5 M => (inR ((M 1 u1 1) + (M 1 u1 3))) ∧ ((((M 1 u1 1) + (M 1 u1 3)) ≤ y5 → wp_X8_widenOneColumn_121 u0 u1 a2 b2 Qm y3 y4 M) ∧ (y5 < ((M 1 u1 1) + (M 1 u1 3)) → ((6 ≤ y5 → wp_X8_widenOneColumn_121 u0 u1 a2 b2 Qm y3 y4 M) ∧ (y5 < 6 → wp_X3_isShown y5 M fun (x15 : Int) (M14 : Mem) => ((x15 = 0 → wp_X8_widenOneColumn_115 u0 u1 a2 b2 Qm (wp_X8_widenOneColumn_11 u0 u1 a2 b2 Qm n) y3 y4 y5 M14) ∧ (¬ x15 = 0 → (((M14 12 0 (-1)) ≤ y5 → wp_X8_widenOneColumn_89 u0 u1 a2 b2 Qm (wp_X8_widenOneColumn_11 u0 u1 a2 b2 Qm n) y3 y5 y5 M14) ∧ (y5 < (M14 12 0 (-1)) → (0 ≤ y5 ∧ y5 < M14 12 0 (-1)) ∧ (((if (M14 2 (M14 12 0 y5) 0) = 1 then (0 : Int) else 1) = 0 → wp_X8_widenOneColumn_115 u0 u1 a2 b2 Qm (wp_X8_widenOneColumn_11 u0 u1 a2 b2 Qm n) y3 y5 y5 M14) ∧ (¬ (if (M14 2 (M14 12 0 y5) 0) = 1 then (0 : Int) else 1) = 0 → ((y3 = (-1) → wp_X8_widenOneColumn_112 u0 u1 a2 b2 Qm (wp_X8_widenOneColumn_11 u0 u1 a2 b2 Qm n) y5 y5 M14) ∧ (¬ y3 = (-1) → (0 ≤ y5 ∧ y5 < 6) ∧ (0 ≤ y3 ∧ y3 < 6) ∧ (((M14 a2 b2 y3) ≤ (M14 a2 b2 y5) → wp_X8_widenOneColumn_115 u0 u1 a2 b2 Qm (wp_X8_widenOneColumn_11 u0 u1 a2 b2 Qm n) y3 y5 y5 M14) ∧ ((M14 a2 b2 y5) < (M14 a2 b2 y3) → wp_X8_widenOneColumn_112 u0 u1 a2 b2 Qm (wp_X8_widenOneColumn_11 u0 u1 a2 b2 Qm n) y5 y5 M14))))))))))))))
def wp_X8_widenOneColumn (u0 : Int) (u1 : Int) (a2 : Nat) (b2 : Int) (M : Mem) (Qm : Mem → Prop) : Prop := (∃ n29 : Nat, wp_X8_widenOneColumn_11 u0 u1 a2 b2 Qm n29 (-1) (-1) (M 1 u1 1) M)
set_option maxHeartbeats 4000000 in
set_option maxRecDepth 100000 in
theorem t_X8_widenOneColumn_154 {u0 : Int} {u1 : Int} {a2 : Nat} {b2 : Int} (X : CX p m c cX8_widenOneColumn 7 s args RX8 G B κ meth none) (hu0 : okk κ 9 u0) (hu1 : okk κ 1 u1) (ha2 : A6 a2) (hoa2 : okk κ a2 b2) {Qm : Mem → Prop} : ∀ M : Mem, wp_X8_widenOneColumn_154 u0 u1 a2 b2 Qm M → ∀ (H : Heap) (locs : List Loc), Rp G e0 α κ B M H → va_S (fun q => B ≤ q) s.heap H locs → ∀ (ls : Array Slot), lv_has ls 7 [] → WV p l e 3 s m args below meth c G e0 α κ B Qm H locs 154 ls [] := by
  intro M hw H locs hR hS ls hl
  have hw : Qm M := hw
  exact sa_vret X.1 X.2.2.2.1 X.2.2.2.2 hR hS hw dX8_widenOneColumn_154
set_option maxHeartbeats 4000000 in
set_option maxRecDepth 100000 in
theorem t_X8_widenOneColumn_121 {u0 : Int} {u1 : Int} {a2 : Nat} {b2 : Int} (X : CX p m c cX8_widenOneColumn 7 s args RX8 G B κ meth none) (hu0 : okk κ 9 u0) (hu1 : okk κ 1 u1) (ha2 : A6 a2) (hoa2 : okk κ a2 b2) {Qm : Mem → Prop} : ∀ y3 : Int, ∀ y4 : Int, ∀ M : Mem, wp_X8_widenOneColumn_121 u0 u1 a2 b2 Qm y3 y4 M → inR y3 → inR y4 → ∀ (H : Heap) (locs : List Loc), Rp G e0 α κ B M H → va_S (fun q => B ≤ q) s.heap H locs → ∀ (ls : Array Slot), lv_has ls 7 [(2, .ref (α a2 b2)), (3, .int (Int32.ofInt y3)), (4, .int (Int32.ofInt y4))] → WV p l e 3 s m args below meth c G e0 α κ B Qm H locs 121 ls [] := by
  intro y3 y4 M hw hy3 hy4 H locs hR hS ls hl
  have hw : (((if ¬ y3 = (-1) then y3 else y4) < 0 → wp_X8_widenOneColumn_154 u0 u1 a2 b2 Qm M) ∧ (0 ≤ (if ¬ y3 = (-1) then y3 else y4) → ((6 ≤ (if ¬ y3 = (-1) then y3 else y4) → wp_X8_widenOneColumn_154 u0 u1 a2 b2 Qm M) ∧ ((if ¬ y3 = (-1) then y3 else y4) < 6 → (0 ≤ (if ¬ y3 = (-1) then y3 else y4) ∧ (if ¬ y3 = (-1) then y3 else y4) < 6) ∧ (inR ((M a2 b2 (if ¬ y3 = (-1) then y3 else y4)) + 1)) ∧ (0 ≤ (if ¬ y3 = (-1) then y3 else y4) ∧ (if ¬ y3 = (-1) then y3 else y4) < 6) ∧ ∀ M12 : Mem, M12 = up M a2 b2 (if ¬ y3 = (-1) then y3 else y4) ((M a2 b2 (if ¬ y3 = (-1) then y3 else y4)) + 1) → wp_X8_widenOneColumn_154 u0 u1 a2 b2 Qm M12)))) := hw
  refine lv_iload_n X.1.1 X.1.2.1 dX8_widenOneColumn_121 rfl (lv_at hl 1 rfl) ?_
  refine sa_const X.1 dX8_widenOneColumn_122 ?_
  have r5 := inR_ite (c := ¬ y3 = (-1)) hy3 hy4
  refine cut_j (A := ∀ v6 : Int, v6 = (if ¬ y3 = (-1) then y3 else y4) → WV p l e 3 s m args below meth c G e0 α κ B Qm H locs 132 ls [.int (Int32.ofInt v6)]) (fun J7 => ?_) ?_
  · refine sa_icmp_ne (tgt := 131) X.1 hy3 (inR_c (a := -1) rfl) dX8_widenOneColumn_123 (by decide) (fun hc => ?_) (fun hc => ?_)
    · skip
      refine lv_iload_n X.1.1 X.1.2.1 dX8_widenOneColumn_131 rfl (lv_at hl 1 rfl) ?_
      exact J7 (y3) (if_pos (c := ¬ y3 = (-1)) hc).symm
    · skip
      refine lv_iload X.1.1 X.1.2.1 dX8_widenOneColumn_126 (lv_at hl 2 rfl) ?_
      refine lv_goto (tgt := 132) X.1.1 X.1.2.1 dX8_widenOneColumn_128 (by decide) ?_
      exact J7 (y4) (if_neg (c := ¬ y3 = (-1)) (fun z => z hc)).symm
  intro v6 hv6
  subst hv6
  refine lv_istore (lv' := [(5, .int (Int32.ofInt (if ¬ y3 = (-1) then y3 else y4))), (2, .ref (α a2 b2)), (3, .int (Int32.ofInt y3)), (4, .int (Int32.ofInt y4))]) X.1.1 X.1.2.1 dX8_widenOneColumn_132 hl (by decide) rfl (fun ls hl => ?_)
  refine lv_iload X.1.1 X.1.2.1 dX8_widenOneColumn_134 (lv_at hl 0 rfl) ?_
  refine sa_if_lt (tgt := 154) X.1 r5 dX8_widenOneColumn_136 (by decide) (fun hc => ?_) (fun hc => ?_)
  · have hw := hw.1 hc
    exact t_X8_widenOneColumn_154 X hu0 hu1 ha2 hoa2 _ hw _ _ hR hS _ (lv_sub hl [] rfl)
  · have hw := hw.2 hc
    refine lv_iload X.1.1 X.1.2.1 dX8_widenOneColumn_139 (lv_at hl 0 rfl) ?_
    refine lv_aload_n X.1.1 X.1.2.1 dX8_widenOneColumn_141 rfl (lv_at hl 1 rfl) ?_
    refine sa_alen (A6_AI ha2) X hR hoa2 dX8_widenOneColumn_142 ?_
    rw [ha2.2.2.2]
    rw [show ((6 : Nat) : Int) = 6 from rfl]
    refine sa_icmp_ge (tgt := 154) X.1 r5 (inR_c (a := 6) rfl) dX8_widenOneColumn_143 (by decide) (fun hc => ?_) (fun hc => ?_)
    · have hw := hw.1 hc
      exact t_X8_widenOneColumn_154 X hu0 hu1 ha2 hoa2 _ hw _ _ hR hS _ (lv_sub hl [] rfl)
    · have hw := hw.2 hc
      refine lv_aload_n X.1.1 X.1.2.1 dX8_widenOneColumn_146 rfl (lv_at hl 1 rfl) ?_
      refine lv_iload X.1.1 X.1.2.1 dX8_widenOneColumn_147 (lv_at hl 0 rfl) ?_
      refine lv_dup2_11 X.1.1 X.1.2.1 dX8_widenOneColumn_149 rfl rfl ?_
      have c8 := hw.1
      have hw := hw.2
      refine ra_A6 ha2 X hR hoa2 c8 dX8_widenOneColumn_150 ?_
      have r9 := hR.r a2 b2 (if ¬ y3 = (-1) then y3 else y4)
      refine sa_const X.1 dX8_widenOneColumn_151 ?_
      have c10 := hw.1
      have hw := hw.2
      refine sa_iadd X.1 dX8_widenOneColumn_152 ?_
      have c11 := hw.1
      have hw := hw.2
      refine wa_A6 ha2 X hR hS hoa2 c11 c10 dX8_widenOneColumn_153 (fun H locs hR hS => ?_)
      obtain ⟨M12, e13⟩ : ∃ z : Mem, z = up M a2 b2 (if ¬ y3 = (-1) then y3 else y4) ((M a2 b2 (if ¬ y3 = (-1) then y3 else y4)) + 1) := ⟨_, rfl⟩
      rw [← e13] at hR
      have hw := hw M12 e13
      exact t_X8_widenOneColumn_154 X hu0 hu1 ha2 hoa2 _ hw _ _ hR hS _ (lv_sub hl [] rfl)
set_option maxHeartbeats 4000000 in
set_option maxRecDepth 100000 in
theorem t_X8_widenOneColumn_115 {u0 : Int} {u1 : Int} {a2 : Nat} {b2 : Int} (X : CX p m c cX8_widenOneColumn 7 s args RX8 G B κ meth none) (hu0 : okk κ 9 u0) (hu1 : okk κ 1 u1) (ha2 : A6 a2) (hoa2 : okk κ a2 b2) {Qm : Mem → Prop} {K11 : Int → Int → Int → Mem → Prop} (hK11 : ∀ y3 : Int, ∀ y4 : Int, ∀ y5 : Int, ∀ M : Mem, K11 y3 y4 y5 M → inR y3 → inR y4 → inR y5 → ∀ (H : Heap) (locs : List Loc), Rp G e0 α κ B M H → va_S (fun q => B ≤ q) s.heap H locs → ∀ (ls : Array Slot), lv_has ls 7 [(0, .ref (α 9 u0)), (1, .ref (α 1 u1)), (2, .ref (α a2 b2)), (3, .int (Int32.ofInt y3)), (4, .int (Int32.ofInt y4)), (5, .int (Int32.ofInt y5))] → WV p l e 3 s m args below meth c G e0 α κ B Qm H locs 11 ls []) : ∀ y3 : Int, ∀ y4 : Int, ∀ y5 : Int, ∀ M : Mem, wp_X8_widenOneColumn_115 u0 u1 a2 b2 Qm K11 y3 y4 y5 M → inR y3 → inR y4 → inR y5 → ∀ (H : Heap) (locs : List Loc), Rp G e0 α κ B M H → va_S (fun q => B ≤ q) s.heap H locs → ∀ (ls : Array Slot), lv_has ls 7 [(0, .ref (α 9 u0)), (1, .ref (α 1 u1)), (2, .ref (α a2 b2)), (3, .int (Int32.ofInt y3)), (4, .int (Int32.ofInt y4)), (5, .int (Int32.ofInt y5))] → WV p l e 3 s m args below meth c G e0 α κ B Qm H locs 115 ls [] := by
  intro y3 y4 y5 M hw hy3 hy4 hy5 H locs hR hS ls hl
  have hw : (inR (y5 + 1)) ∧ K11 y3 y4 (y5 + 1) M := hw
  have c17 := hw.1
  have hw := hw.2
  refine lv_iinc (v := Int32.ofInt (y5 + 1)) (lv' := [(5, .int (Int32.ofInt (y5 + 1))), (0, .ref (α 9 u0)), (1, .ref (α 1 u1)), (2, .ref (α a2 b2)), (3, .int (Int32.ofInt y3)), (4, .int (Int32.ofInt y4))]) X.1.1 X.1.2.1 dX8_widenOneColumn_115 hl (k := 5) rfl (Int32.ofInt_add _ _).symm (by decide) rfl (fun ls hl => ?_)
  refine lv_goto (tgt := 11) X.1.1 X.1.2.1 dX8_widenOneColumn_118 (by decide) ?_
  exact hK11 _ _ _ _ hw hy3 hy4 c17 _ _ hR hS _ (lv_sub hl [1, 2, 3, 4, 5, 0] rfl)
set_option maxHeartbeats 4000000 in
set_option maxRecDepth 100000 in
theorem t_X8_widenOneColumn_89 {u0 : Int} {u1 : Int} {a2 : Nat} {b2 : Int} (X : CX p m c cX8_widenOneColumn 7 s args RX8 G B κ meth none) (hu0 : okk κ 9 u0) (hu1 : okk κ 1 u1) (ha2 : A6 a2) (hoa2 : okk κ a2 b2) {Qm : Mem → Prop} {K11 : Int → Int → Int → Mem → Prop} (hK11 : ∀ y3 : Int, ∀ y4 : Int, ∀ y5 : Int, ∀ M : Mem, K11 y3 y4 y5 M → inR y3 → inR y4 → inR y5 → ∀ (H : Heap) (locs : List Loc), Rp G e0 α κ B M H → va_S (fun q => B ≤ q) s.heap H locs → ∀ (ls : Array Slot), lv_has ls 7 [(0, .ref (α 9 u0)), (1, .ref (α 1 u1)), (2, .ref (α a2 b2)), (3, .int (Int32.ofInt y3)), (4, .int (Int32.ofInt y4)), (5, .int (Int32.ofInt y5))] → WV p l e 3 s m args below meth c G e0 α κ B Qm H locs 11 ls []) : ∀ y3 : Int, ∀ y4 : Int, ∀ y5 : Int, ∀ M : Mem, wp_X8_widenOneColumn_89 u0 u1 a2 b2 Qm K11 y3 y4 y5 M → inR y3 → inR y4 → inR y5 → ∀ (H : Heap) (locs : List Loc), Rp G e0 α κ B M H → va_S (fun q => B ≤ q) s.heap H locs → ∀ (ls : Array Slot), lv_has ls 7 [(0, .ref (α 9 u0)), (1, .ref (α 1 u1)), (2, .ref (α a2 b2)), (3, .int (Int32.ofInt y3)), (4, .int (Int32.ofInt y4)), (5, .int (Int32.ofInt y5))] → WV p l e 3 s m args below meth c G e0 α κ B Qm H locs 89 ls [] := by
  intro y3 y4 y5 M hw hy3 hy4 hy5 H locs hR hS ls hl
  have hw : wp_X8_widenOneColumn_115 u0 u1 a2 b2 Qm K11 y3 y4 y5 M := hw
  refine sa_const X.1 dX8_widenOneColumn_89 ?_
  refine lv_istore (lv' := [(6, .int (Int32.ofInt 0)), (0, .ref (α 9 u0)), (1, .ref (α 1 u1)), (2, .ref (α a2 b2)), (3, .int (Int32.ofInt y3)), (4, .int (Int32.ofInt y4)), (5, .int (Int32.ofInt y5))]) X.1.1 X.1.2.1 dX8_widenOneColumn_90 hl (by decide) rfl (fun ls hl => ?_)
  refine lv_iload X.1.1 X.1.2.1 dX8_widenOneColumn_92 (lv_at hl 0 rfl) ?_
  refine sa_if_eq (tgt := 115) X.1 (inR_c (a := 0) rfl) dX8_widenOneColumn_94 (by decide) (fun hc => ?_) (fun hc => absurd hc (by decide))
  exact t_X8_widenOneColumn_115 X hu0 hu1 ha2 hoa2 hK11 _ _ _ _ hw hy3 hy4 hy5 _ _ hR hS _ (lv_sub hl [1, 2, 3, 4, 5, 6] rfl)
set_option maxHeartbeats 4000000 in
set_option maxRecDepth 100000 in
theorem t_X8_widenOneColumn_112 {u0 : Int} {u1 : Int} {a2 : Nat} {b2 : Int} (X : CX p m c cX8_widenOneColumn 7 s args RX8 G B κ meth none) (hu0 : okk κ 9 u0) (hu1 : okk κ 1 u1) (ha2 : A6 a2) (hoa2 : okk κ a2 b2) {Qm : Mem → Prop} {K11 : Int → Int → Int → Mem → Prop} (hK11 : ∀ y3 : Int, ∀ y4 : Int, ∀ y5 : Int, ∀ M : Mem, K11 y3 y4 y5 M → inR y3 → inR y4 → inR y5 → ∀ (H : Heap) (locs : List Loc), Rp G e0 α κ B M H → va_S (fun q => B ≤ q) s.heap H locs → ∀ (ls : Array Slot), lv_has ls 7 [(0, .ref (α 9 u0)), (1, .ref (α 1 u1)), (2, .ref (α a2 b2)), (3, .int (Int32.ofInt y3)), (4, .int (Int32.ofInt y4)), (5, .int (Int32.ofInt y5))] → WV p l e 3 s m args below meth c G e0 α κ B Qm H locs 11 ls []) : ∀ y4 : Int, ∀ y5 : Int, ∀ M : Mem, wp_X8_widenOneColumn_112 u0 u1 a2 b2 Qm K11 y4 y5 M → inR y4 → inR y5 → ∀ (H : Heap) (locs : List Loc), Rp G e0 α κ B M H → va_S (fun q => B ≤ q) s.heap H locs → ∀ (ls : Array Slot), lv_has ls 7 [(0, .ref (α 9 u0)), (1, .ref (α 1 u1)), (2, .ref (α a2 b2)), (4, .int (Int32.ofInt y4)), (5, .int (Int32.ofInt y5))] → WV p l e 3 s m args below meth c G e0 α κ B Qm H locs 112 ls [] := by
  intro y4 y5 M hw hy4 hy5 H locs hR hS ls hl
  have hw : wp_X8_widenOneColumn_115 u0 u1 a2 b2 Qm K11 y5 y4 y5 M := hw
  refine lv_iload X.1.1 X.1.2.1 dX8_widenOneColumn_112 (lv_at hl 4 rfl) ?_
  refine lv_istore_n (lv' := [(3, .int (Int32.ofInt y5)), (0, .ref (α 9 u0)), (1, .ref (α 1 u1)), (2, .ref (α a2 b2)), (4, .int (Int32.ofInt y4)), (5, .int (Int32.ofInt y5))]) X.1.1 X.1.2.1 dX8_widenOneColumn_114 rfl hl (by decide) rfl (fun ls hl => ?_)
  exact t_X8_widenOneColumn_115 X hu0 hu1 ha2 hoa2 hK11 _ _ _ _ hw hy5 hy4 hy5 _ _ hR hS _ (lv_sub hl [1, 2, 3, 0, 4, 5] rfl)
set_option maxHeartbeats 4000000 in
set_option maxRecDepth 100000 in
theorem t_X8_widenOneColumn_11 {u0 : Int} {u1 : Int} {a2 : Nat} {b2 : Int} (X : CX p m c cX8_widenOneColumn 7 s args RX8 G B κ meth none) (hu0 : okk κ 9 u0) (hu1 : okk κ 1 u1) (ha2 : A6 a2) (hoa2 : okk κ a2 b2) {Qm : Mem → Prop} : ∀ n : Nat, ∀ y3 : Int, ∀ y4 : Int, ∀ y5 : Int, ∀ M : Mem, wp_X8_widenOneColumn_11 u0 u1 a2 b2 Qm n y3 y4 y5 M → inR y3 → inR y4 → inR y5 → ∀ (H : Heap) (locs : List Loc), Rp G e0 α κ B M H → va_S (fun q => B ≤ q) s.heap H locs → ∀ (ls : Array Slot), lv_has ls 7 [(0, .ref (α 9 u0)), (1, .ref (α 1 u1)), (2, .ref (α a2 b2)), (3, .int (Int32.ofInt y3)), (4, .int (Int32.ofInt y4)), (5, .int (Int32.ofInt y5))] → WV p l e 3 s m args below meth c G e0 α κ B Qm H locs 11 ls [] := by
  intro n
  induction n with
  | zero =>
    intro y3 y4 y5 M hw hy3 hy4 hy5 H locs hR hS ls hl
    exact hw.elim
  | succ n ih =>
    intro y3 y4 y5 M hw hy3 hy4 hy5 H locs hR hS ls hl
    have hw : (inR ((M 1 u1 1) + (M 1 u1 3))) ∧ ((((M 1 u1 1) + (M 1 u1 3)) ≤ y5 → wp_X8_widenOneColumn_121 u0 u1 a2 b2 Qm y3 y4 M) ∧ (y5 < ((M 1 u1 1) + (M 1 u1 3)) → ((6 ≤ y5 → wp_X8_widenOneColumn_121 u0 u1 a2 b2 Qm y3 y4 M) ∧ (y5 < 6 → wp_X3_isShown y5 M fun (x15 : Int) (M14 : Mem) => ((x15 = 0 → wp_X8_widenOneColumn_115 u0 u1 a2 b2 Qm (wp_X8_widenOneColumn_11 u0 u1 a2 b2 Qm n) y3 y4 y5 M14) ∧ (¬ x15 = 0 → (((M14 12 0 (-1)) ≤ y5 → wp_X8_widenOneColumn_89 u0 u1 a2 b2 Qm (wp_X8_widenOneColumn_11 u0 u1 a2 b2 Qm n) y3 y5 y5 M14) ∧ (y5 < (M14 12 0 (-1)) → (0 ≤ y5 ∧ y5 < M14 12 0 (-1)) ∧ (((if (M14 2 (M14 12 0 y5) 0) = 1 then (0 : Int) else 1) = 0 → wp_X8_widenOneColumn_115 u0 u1 a2 b2 Qm (wp_X8_widenOneColumn_11 u0 u1 a2 b2 Qm n) y3 y5 y5 M14) ∧ (¬ (if (M14 2 (M14 12 0 y5) 0) = 1 then (0 : Int) else 1) = 0 → ((y3 = (-1) → wp_X8_widenOneColumn_112 u0 u1 a2 b2 Qm (wp_X8_widenOneColumn_11 u0 u1 a2 b2 Qm n) y5 y5 M14) ∧ (¬ y3 = (-1) → (0 ≤ y5 ∧ y5 < 6) ∧ (0 ≤ y3 ∧ y3 < 6) ∧ (((M14 a2 b2 y3) ≤ (M14 a2 b2 y5) → wp_X8_widenOneColumn_115 u0 u1 a2 b2 Qm (wp_X8_widenOneColumn_11 u0 u1 a2 b2 Qm n) y3 y5 y5 M14) ∧ ((M14 a2 b2 y5) < (M14 a2 b2 y3) → wp_X8_widenOneColumn_112 u0 u1 a2 b2 Qm (wp_X8_widenOneColumn_11 u0 u1 a2 b2 Qm n) y5 y5 M14)))))))))))))) := hw
    refine lv_iload X.1.1 X.1.2.1 dX8_widenOneColumn_11 (lv_at hl 5 rfl) ?_
    refine lv_aload_n X.1.1 X.1.2.1 dX8_widenOneColumn_13 rfl (lv_at hl 1 rfl) ?_
    refine gt_1_1 X hR hu1 kw_988 dX8_widenOneColumn_14 ?_
    have r2 := hR.r 1 u1 1
    refine lv_aload_n X.1.1 X.1.2.1 dX8_widenOneColumn_17 rfl (lv_at hl 1 rfl) ?_
    refine gt_1_3 X hR hu1 kw_997 dX8_widenOneColumn_18 ?_
    have r3 := hR.r 1 u1 3
    have c4 := hw.1
    have hw := hw.2
    refine sa_iadd X.1 dX8_widenOneColumn_21 ?_
    refine sa_icmp_ge (tgt := 121) X.1 hy5 c4 dX8_widenOneColumn_22 (by decide) (fun hc => ?_) (fun hc => ?_)
    · have hw := hw.1 hc
      exact t_X8_widenOneColumn_121 X hu0 hu1 ha2 hoa2 _ _ _ hw hy3 hy4 _ _ hR hS _ (lv_sub hl [2, 3, 4] rfl)
    · have hw := hw.2 hc
      refine lv_iload X.1.1 X.1.2.1 dX8_widenOneColumn_25 (lv_at hl 5 rfl) ?_
      refine lv_aload_n X.1.1 X.1.2.1 dX8_widenOneColumn_27 rfl (lv_at hl 2 rfl) ?_
      refine sa_alen (A6_AI ha2) X hR hoa2 dX8_widenOneColumn_28 ?_
      rw [ha2.2.2.2]
      rw [show ((6 : Nat) : Int) = 6 from rfl]
      refine sa_icmp_ge (tgt := 121) X.1 hy5 (inR_c (a := 6) rfl) dX8_widenOneColumn_29 (by decide) (fun hc => ?_) (fun hc => ?_)
      · have hw := hw.1 hc
        exact t_X8_widenOneColumn_121 X hu0 hu1 ha2 hoa2 _ _ _ hw hy3 hy4 _ _ hR hS _ (lv_sub hl [2, 3, 4] rfl)
      · have hw := hw.2 hc
        refine lv_aload_n X.1.1 X.1.2.1 dX8_widenOneColumn_32 rfl (lv_at hl 0 rfl) ?_
        refine gt_9_0 X hR hu0 kw_155 dX8_widenOneColumn_33 ?_
        refine lv_iload X.1.1 X.1.2.1 dX8_widenOneColumn_36 (lv_at hl 5 rfl) ?_
        refine cs_X3_isShown X hy5 (kc := 3) rmL_ok rm_c (by decide) hR hS kw_452 hl.1 dX8_widenOneColumn_38 (Nat.le_of_ble_eq_true rfl) hw (fun x15 M14 H locs hw r16 hR hS => ?_)
        refine sa_if_eq (tgt := 115) X.1 r16 dX8_widenOneColumn_41 (by decide) (fun hc => ?_) (fun hc => ?_)
        · have hw := hw.1 hc
          exact t_X8_widenOneColumn_115 X hu0 hu1 ha2 hoa2 ih _ _ _ _ hw hy3 hy4 hy5 _ _ hR hS _ (lv_sub hl [0, 1, 2, 3, 4, 5] rfl)
        · have hw := hw.2 hc
          refine lv_iload X.1.1 X.1.2.1 dX8_widenOneColumn_44 (lv_at hl 5 rfl) ?_
          refine lv_istore (lv' := [(4, .int (Int32.ofInt y5)), (0, .ref (α 9 u0)), (1, .ref (α 1 u1)), (2, .ref (α a2 b2)), (3, .int (Int32.ofInt y3)), (5, .int (Int32.ofInt y5))]) X.1.1 X.1.2.1 dX8_widenOneColumn_46 hl (by decide) rfl (fun ls hl => ?_)
          refine lv_iload X.1.1 X.1.2.1 dX8_widenOneColumn_48 (lv_at hl 5 rfl) ?_
          refine lv_aload_n X.1.1 X.1.2.1 dX8_widenOneColumn_50 rfl (lv_at hl 1 rfl) ?_
          refine gt_9_0 X hR hu0 kw_155 dX8_widenOneColumn_51 ?_
          refine gt_4_0 X hR (okf X.2.2.1 rfl) kw_114 dX8_widenOneColumn_54 ?_
          refine ls_size (by decide) (by decide) X (kc := 3) rmL_ok rm_c (by decide) hR hS kw_389 hl.1 dX8_widenOneColumn_57 (Nat.le_of_ble_eq_true rfl) (fun H locs hR hS => ?_)
          have r18 := hR.r 12 0 (-1)
          refine sa_icmp_ge (tgt := 89) X.1 hy5 r18 dX8_widenOneColumn_60 (by decide) (fun hc => ?_) (fun hc => ?_)
          · have hw := hw.1 hc
            exact t_X8_widenOneColumn_89 X hu0 hu1 ha2 hoa2 ih _ _ _ _ hw hy3 hy5 hy5 _ _ hR hS _ (lv_sub hl [1, 2, 3, 4, 0, 5] rfl)
          · have hw := hw.2 hc
            refine lv_aload_n X.1.1 X.1.2.1 dX8_widenOneColumn_63 rfl (lv_at hl 1 rfl) ?_
            refine gt_9_0 X hR hu0 kw_155 dX8_widenOneColumn_64 ?_
            refine gt_4_0 X hR (okf X.2.2.1 rfl) kw_114 dX8_widenOneColumn_67 ?_
            refine lv_iload X.1.1 X.1.2.1 dX8_widenOneColumn_70 (lv_at hl 5 rfl) ?_
            have c19 := hw.1
            have hw := hw.2
            refine ls_get (ci := 2) (by decide) (by decide) rfl X c19 (kc := 3) rmL_ok rm_c (by decide) hR hS kw_393 hl.1 dX8_widenOneColumn_72 (Nat.le_of_ble_eq_true rfl) (fun H locs o20 hR hS => ?_)
            refine ck_2 X hR o20 kw_476 dX8_widenOneColumn_75 ?_
            refine gt_2_0 X hR o20 kw_784 dX8_widenOneColumn_78 ?_
            have r21 := hR.r 2 (M14 12 0 y5) 0
            refine sa_const X.1 dX8_widenOneColumn_81 ?_
            have r22 := inR_ite (c := (M14 2 (M14 12 0 y5) 0) = 1) (inR_c (a := 0) rfl) (inR_c (a := 1) rfl)
            refine cut_j (A := ∀ v23 : Int, v23 = (if (M14 2 (M14 12 0 y5) 0) = 1 then (0 : Int) else 1) → WV p l e 3 s m args below meth c G e0 α κ B Qm H locs 90 ls [.int (Int32.ofInt v23)]) (fun J24 => ?_) ?_
            · refine sa_icmp_eq (tgt := 89) X.1 r21 (inR_c (a := 1) rfl) dX8_widenOneColumn_82 (by decide) (fun hc => ?_) (fun hc => ?_)
              · skip
                refine sa_const X.1 dX8_widenOneColumn_89 ?_
                exact J24 (0) (if_pos (c := (M14 2 (M14 12 0 y5) 0) = 1) hc).symm
              · skip
                refine sa_const X.1 dX8_widenOneColumn_85 ?_
                refine lv_goto (tgt := 90) X.1.1 X.1.2.1 dX8_widenOneColumn_86 (by decide) ?_
                exact J24 (1) (if_neg (c := (M14 2 (M14 12 0 y5) 0) = 1) hc).symm
            intro v23 hv23
            subst hv23
            refine lv_istore (lv' := [(6, .int (Int32.ofInt (if (M14 2 (M14 12 0 y5) 0) = 1 then (0 : Int) else 1))), (4, .int (Int32.ofInt y5)), (0, .ref (α 9 u0)), (1, .ref (α 1 u1)), (2, .ref (α a2 b2)), (3, .int (Int32.ofInt y3)), (5, .int (Int32.ofInt y5))]) X.1.1 X.1.2.1 dX8_widenOneColumn_90 hl (by decide) rfl (fun ls hl => ?_)
            refine lv_iload X.1.1 X.1.2.1 dX8_widenOneColumn_92 (lv_at hl 0 rfl) ?_
            refine sa_if_eq (tgt := 115) X.1 r22 dX8_widenOneColumn_94 (by decide) (fun hc => ?_) (fun hc => ?_)
            · have hw := hw.1 hc
              exact t_X8_widenOneColumn_115 X hu0 hu1 ha2 hoa2 ih _ _ _ _ hw hy3 hy5 hy5 _ _ hR hS _ (lv_sub hl [2, 3, 4, 5, 1, 6] rfl)
            · have hw := hw.2 hc
              refine lv_iload_n X.1.1 X.1.2.1 dX8_widenOneColumn_97 rfl (lv_at hl 5 rfl) ?_
              refine sa_const X.1 dX8_widenOneColumn_98 ?_
              refine sa_icmp_eq (tgt := 112) X.1 hy3 (inR_c (a := -1) rfl) dX8_widenOneColumn_99 (by decide) (fun hc => ?_) (fun hc => ?_)
              · have hw := hw.1 hc
                exact t_X8_widenOneColumn_112 X hu0 hu1 ha2 hoa2 ih _ _ _ hw hy5 hy5 _ _ hR hS _ (lv_sub hl [2, 3, 4, 1, 6] rfl)
              · have hw := hw.2 hc
                refine lv_aload_n X.1.1 X.1.2.1 dX8_widenOneColumn_102 rfl (lv_at hl 4 rfl) ?_
                refine lv_iload X.1.1 X.1.2.1 dX8_widenOneColumn_103 (lv_at hl 6 rfl) ?_
                have c25 := hw.1
                have hw := hw.2
                refine ra_A6 ha2 X hR hoa2 c25 dX8_widenOneColumn_105 ?_
                have r26 := hR.r a2 b2 y5
                refine lv_aload_n X.1.1 X.1.2.1 dX8_widenOneColumn_106 rfl (lv_at hl 4 rfl) ?_
                refine lv_iload_n X.1.1 X.1.2.1 dX8_widenOneColumn_107 rfl (lv_at hl 5 rfl) ?_
                have c27 := hw.1
                have hw := hw.2
                refine ra_A6 ha2 X hR hoa2 c27 dX8_widenOneColumn_108 ?_
                have r28 := hR.r a2 b2 y3
                refine sa_icmp_ge (tgt := 115) X.1 r26 r28 dX8_widenOneColumn_109 (by decide) (fun hc => ?_) (fun hc => ?_)
                · have hw := hw.1 hc
                  exact t_X8_widenOneColumn_115 X hu0 hu1 ha2 hoa2 ih _ _ _ _ hw hy3 hy5 hy5 _ _ hR hS _ (lv_sub hl [2, 3, 4, 5, 1, 6] rfl)
                · have hw := hw.2 hc
                  exact t_X8_widenOneColumn_112 X hu0 hu1 ha2 hoa2 ih _ _ _ hw hy5 hy5 _ _ hR hS _ (lv_sub hl [2, 3, 4, 1, 6] rfl)
set_option maxHeartbeats 4000000 in
set_option maxRecDepth 100000 in
theorem t_X8_widenOneColumn {u0 : Int} {u1 : Int} {a2 : Nat} {b2 : Int} (X : CX p m c cX8_widenOneColumn 7 s args RX8 G B κ meth none) (hu0 : okk κ 9 u0) (hu1 : okk κ 1 u1) (ha2 : A6 a2) (hoa2 : okk κ a2 b2) {M : Mem} {Qm : Mem → Prop} (hw : wp_X8_widenOneColumn u0 u1 a2 b2 M Qm) (H : Heap) (locs : List Loc) (hR : Rp G e0 α κ B M H) (hS : va_S (fun q => B ≤ q) s.heap H locs) (ls : Array Slot) (hl : lv_has ls 7 [(0, .ref (α 9 u0)), (1, .ref (α 1 u1)), (2, .ref (α a2 b2))]) : WV p l e 3 s m args below meth c G e0 α κ B Qm H locs 0 ls [] := by
  have hw : (∃ n29 : Nat, wp_X8_widenOneColumn_11 u0 u1 a2 b2 Qm n29 (-1) (-1) (M 1 u1 1) M) := hw
  refine sa_const X.1 dX8_widenOneColumn_0 ?_
  refine lv_istore_n (lv' := [(3, .int (Int32.ofInt (-1))), (0, .ref (α 9 u0)), (1, .ref (α 1 u1)), (2, .ref (α a2 b2))]) X.1.1 X.1.2.1 dX8_widenOneColumn_1 rfl hl (by decide) rfl (fun ls hl => ?_)
  refine sa_const X.1 dX8_widenOneColumn_2 ?_
  refine lv_istore (lv' := [(4, .int (Int32.ofInt (-1))), (3, .int (Int32.ofInt (-1))), (0, .ref (α 9 u0)), (1, .ref (α 1 u1)), (2, .ref (α a2 b2))]) X.1.1 X.1.2.1 dX8_widenOneColumn_3 hl (by decide) rfl (fun ls hl => ?_)
  refine lv_aload_n X.1.1 X.1.2.1 dX8_widenOneColumn_5 rfl (lv_at hl 3 rfl) ?_
  refine gt_1_1 X hR hu1 kw_988 dX8_widenOneColumn_6 ?_
  have r1 := hR.r 1 u1 1
  refine lv_istore (lv' := [(5, .int (Int32.ofInt (M 1 u1 1))), (4, .int (Int32.ofInt (-1))), (3, .int (Int32.ofInt (-1))), (0, .ref (α 9 u0)), (1, .ref (α 1 u1)), (2, .ref (α a2 b2))]) X.1.1 X.1.2.1 dX8_widenOneColumn_9 hl (by decide) rfl (fun ls hl => ?_)
  obtain ⟨n29, hw⟩ := hw
  exact t_X8_widenOneColumn_11 X hu0 hu1 ha2 hoa2 n29 _ _ _ _ hw (inR_c (a := -1) rfl) (inR_c (a := -1) rfl) r1 _ _ hR hS _ (lv_sub hl [3, 4, 5, 2, 1, 0] rfl)
theorem m_X8_widenOneColumn {l : Launch} {G : Gx} {e0 : Nat} {α : Ax} {κ : Nat → Int} {B : Nat} {u0 : Int} {u1 : Int} {a2 : Nat} {b2 : Int} (hκ : kOK κ) (hu0 : okk κ 9 u0) (hu1 : okk κ 1 u1) (ha2 : A6 a2) (hoa2 : okk κ a2 b2) {M : Mem} {Qm : Mem → Prop} (hw : wp_X8_widenOneColumn u0 u1 a2 b2 M Qm) : CV l yX8_widenOneColumn (Cond.code yX8_widenOneColumn cX8_widenOneColumn 7 none) 3 G e0 α κ B [.ref (α 9 u0), .ref (α 1 u1), .ref (α a2 b2)] M Qm :=
  CV.mk hκ (by decide +kernel) rfl (Nat.le_of_ble_eq_true rfl) (lv := [(0, .ref (α 9 u0)), (1, .ref (α 1 u1)), (2, .ref (α a2 b2))]) rfl (fun p e s m args below meth c ls X hR hS hl => t_X8_widenOneColumn X hu0 hu1 ha2 hoa2 hw _ _ hR hS ls hl)
theorem cs_X8_widenOneColumn {cc : ByteArray} {nL : Nat} {own : String} {ret : Option FieldType} {idx pc : Nat} {u0 : Int} {u1 : Int} {a2 : Nat} {b2 : Int} (X : CX p m c cc nL s args own G B κ meth ret) (hu0 : okk κ 9 u0) (hu1 : okk κ 1 u1) (ha2 : A6 a2) (hoa2 : okk κ a2 b2) {kc : Nat} {R : Room} {cells slots : Nat} (hRr : RmOK R kc) (hcel : cells ≤ R.cells ∧ slots ≤ R.slots) (hk : 3 + 1 ≤ kc) {M : Mem} {H : Heap} {locs : List Loc} (hR : Rp G e0 α κ B M H) (hS : va_S (fun q => B ≤ q) s.heap H locs) (k1 : Cond.methodLink own idx yX8_widenOneColumn ∈ gw) {ls : Array Slot} (hml : ls.size = nL) {rest : List Value} (hd : decode cc pc = .ok (.invokevirtual idx, 3)) (hrest : (rest.map fun v => v.category).sum ≤ 8) {Q : State → Prop} {Qm : Mem → Prop} (hw : wp_X8_widenOneColumn u0 u1 a2 b2 M Qm) (kk : ∀ (M1 : Mem) (H1 : Heap) (locs1 : List Loc), Qm M1 → Rp G e0 α κ B M1 H1 → va_S (fun q => B ≤ q) s.heap H1 locs1 → W p l e R s m args below meth c H1 locs1 cells slots Q (F0 m (pc + 3) ls (rest))) : W p l e R s m args below meth c H locs cells slots Q (F0 m pc ls (.ref (α a2 b2) :: .ref (α 1 u1) :: .ref (α 9 u0) :: rest)) :=
  sa_callVV 3 (n := 2) (As := [.ref (α 1 u1), .ref (α a2 b2)]) (rest := rest) X.1 X.2.1 hR hS (m_X8_widenOneColumn X.2.2.1 hu0 hu1 ha2 hoa2 hw) k1 kw_474 kw_7 kw_43 kw_475 ⟨rfl, by decide +kernel, by decide +kernel, by decide +kernel⟩ (rm_ok hRr hk (by decide)) (rc_9 X hR hu0) rfl rfl hrest hml hd hcel kk
def wp_X8_lastShownOf_7 (u0 : Int) (u1 : Int) (Qm : Int → Mem → Prop) : Nat → Int → Int → Mem → Prop
  | 0 => fun _ _ _ => False
  | n + 1 => fun y2 y3 M => (inR ((M 1 u1 1) + (M 1 u1 3))) ∧ ((((M 1 u1 1) + (M 1 u1 3)) ≤ y3 → Qm y2 M) ∧ (y3 < ((M 1 u1 1) + (M 1 u1 3)) → wp_X3_isShown y3 M fun (x6 : Int) (M5 : Mem) => (inR (y3 + 1)) ∧ wp_X8_lastShownOf_7 u0 u1 Qm n (if x6 = 0 then y2 else y3) (y3 + 1) M5))
def wp_X8_lastShownOf (u0 : Int) (u1 : Int) (M : Mem) (Qm : Int → Mem → Prop) : Prop := (∃ n12 : Nat, wp_X8_lastShownOf_7 u0 u1 Qm n12 (-1) (M 1 u1 1) M)
set_option maxHeartbeats 4000000 in
set_option maxRecDepth 100000 in
theorem t_X8_lastShownOf_7 {u0 : Int} {u1 : Int} (X : CX p m c cX8_lastShownOf 4 s args RX8 G B κ meth (some .int)) (hu0 : okk κ 9 u0) (hu1 : okk κ 1 u1) {Qm : Int → Mem → Prop} : ∀ n : Nat, ∀ y2 : Int, ∀ y3 : Int, ∀ M : Mem, wp_X8_lastShownOf_7 u0 u1 Qm n y2 y3 M → inR y2 → inR y3 → ∀ (H : Heap) (locs : List Loc), Rp G e0 α κ B M H → va_S (fun q => B ≤ q) s.heap H locs → ∀ (ls : Array Slot), lv_has ls 4 [(0, .ref (α 9 u0)), (1, .ref (α 1 u1)), (2, .int (Int32.ofInt y2)), (3, .int (Int32.ofInt y3))] → WI p l e 1 s m args below meth c G e0 α κ B Qm H locs 7 ls [] := by
  intro n
  induction n with
  | zero =>
    intro y2 y3 M hw hy2 hy3 H locs hR hS ls hl
    exact hw.elim
  | succ n ih =>
    intro y2 y3 M hw hy2 hy3 H locs hR hS ls hl
    have hw : (inR ((M 1 u1 1) + (M 1 u1 3))) ∧ ((((M 1 u1 1) + (M 1 u1 3)) ≤ y3 → Qm y2 M) ∧ (y3 < ((M 1 u1 1) + (M 1 u1 3)) → wp_X3_isShown y3 M fun (x6 : Int) (M5 : Mem) => (inR (y3 + 1)) ∧ wp_X8_lastShownOf_7 u0 u1 Qm n (if x6 = 0 then y2 else y3) (y3 + 1) M5)) := hw
    refine lv_iload_n X.1.1 X.1.2.1 dX8_lastShownOf_7 rfl (lv_at hl 3 rfl) ?_
    refine lv_aload_n X.1.1 X.1.2.1 dX8_lastShownOf_8 rfl (lv_at hl 1 rfl) ?_
    refine gt_1_1 X hR hu1 kw_988 dX8_lastShownOf_9 ?_
    have r2 := hR.r 1 u1 1
    refine lv_aload_n X.1.1 X.1.2.1 dX8_lastShownOf_12 rfl (lv_at hl 1 rfl) ?_
    refine gt_1_3 X hR hu1 kw_997 dX8_lastShownOf_13 ?_
    have r3 := hR.r 1 u1 3
    have c4 := hw.1
    have hw := hw.2
    refine sa_iadd X.1 dX8_lastShownOf_16 ?_
    refine sa_icmp_ge (tgt := 43) X.1 hy3 c4 dX8_lastShownOf_17 (by decide) (fun hc => ?_) (fun hc => ?_)
    · have hw := hw.1 hc
      refine lv_iload_n X.1.1 X.1.2.1 dX8_lastShownOf_43 rfl (lv_at hl 2 rfl) ?_
      exact sa_iret X.1 X.2.2.2.1 X.2.2.2.2 hR hS hy2 hw dX8_lastShownOf_44
    · have hw := hw.2 hc
      refine lv_aload_n X.1.1 X.1.2.1 dX8_lastShownOf_20 rfl (lv_at hl 0 rfl) ?_
      refine gt_9_0 X hR hu0 kw_155 dX8_lastShownOf_21 ?_
      refine lv_iload_n X.1.1 X.1.2.1 dX8_lastShownOf_24 rfl (lv_at hl 3 rfl) ?_
      refine cs_X3_isShown X hy3 (kc := 1) rmL_ok rm_c (by decide) hR hS kw_452 hl.1 dX8_lastShownOf_25 (Nat.le_of_ble_eq_true rfl) hw (fun x6 M5 H locs hw r7 hR hS => ?_)
      have r8 := inR_ite (c := x6 = 0) hy2 hy3
      refine cut_j (A := ∀ v9 : Int, v9 = (if x6 = 0 then y2 else y3) → WI p l e 1 s m args below meth c G e0 α κ B Qm H locs 36 ls [.int (Int32.ofInt v9)]) (fun J10 => ?_) ?_
      · refine sa_if_eq (tgt := 35) X.1 r7 dX8_lastShownOf_28 (by decide) (fun hc => ?_) (fun hc => ?_)
        · skip
          refine lv_iload_n X.1.1 X.1.2.1 dX8_lastShownOf_35 rfl (lv_at hl 2 rfl) ?_
          exact J10 (y2) (if_pos (c := x6 = 0) hc).symm
        · skip
          refine lv_iload_n X.1.1 X.1.2.1 dX8_lastShownOf_31 rfl (lv_at hl 3 rfl) ?_
          refine lv_goto (tgt := 36) X.1.1 X.1.2.1 dX8_lastShownOf_32 (by decide) ?_
          exact J10 (y3) (if_neg (c := x6 = 0) hc).symm
      intro v9 hv9
      subst hv9
      refine lv_istore_n (lv' := [(2, .int (Int32.ofInt (if x6 = 0 then y2 else y3))), (0, .ref (α 9 u0)), (1, .ref (α 1 u1)), (3, .int (Int32.ofInt y3))]) X.1.1 X.1.2.1 dX8_lastShownOf_36 rfl hl (by decide) rfl (fun ls hl => ?_)
      have c11 := hw.1
      have hw := hw.2
      refine lv_iinc (v := Int32.ofInt (y3 + 1)) (lv' := [(3, .int (Int32.ofInt (y3 + 1))), (2, .int (Int32.ofInt (if x6 = 0 then y2 else y3))), (0, .ref (α 9 u0)), (1, .ref (α 1 u1))]) X.1.1 X.1.2.1 dX8_lastShownOf_37 hl (k := 3) rfl (Int32.ofInt_add _ _).symm (by decide) rfl (fun ls hl => ?_)
      refine lv_goto (tgt := 7) X.1.1 X.1.2.1 dX8_lastShownOf_40 (by decide) ?_
      exact ih _ _ _ hw r8 c11 _ _ hR hS _ (lv_sub hl [2, 3, 1, 0] rfl)
set_option maxHeartbeats 4000000 in
set_option maxRecDepth 100000 in
theorem t_X8_lastShownOf {u0 : Int} {u1 : Int} (X : CX p m c cX8_lastShownOf 4 s args RX8 G B κ meth (some .int)) (hu0 : okk κ 9 u0) (hu1 : okk κ 1 u1) {M : Mem} {Qm : Int → Mem → Prop} (hw : wp_X8_lastShownOf u0 u1 M Qm) (H : Heap) (locs : List Loc) (hR : Rp G e0 α κ B M H) (hS : va_S (fun q => B ≤ q) s.heap H locs) (ls : Array Slot) (hl : lv_has ls 4 [(0, .ref (α 9 u0)), (1, .ref (α 1 u1))]) : WI p l e 1 s m args below meth c G e0 α κ B Qm H locs 0 ls [] := by
  have hw : (∃ n12 : Nat, wp_X8_lastShownOf_7 u0 u1 Qm n12 (-1) (M 1 u1 1) M) := hw
  refine sa_const X.1 dX8_lastShownOf_0 ?_
  refine lv_istore_n (lv' := [(2, .int (Int32.ofInt (-1))), (0, .ref (α 9 u0)), (1, .ref (α 1 u1))]) X.1.1 X.1.2.1 dX8_lastShownOf_1 rfl hl (by decide) rfl (fun ls hl => ?_)
  refine lv_aload_n X.1.1 X.1.2.1 dX8_lastShownOf_2 rfl (lv_at hl 2 rfl) ?_
  refine gt_1_1 X hR hu1 kw_988 dX8_lastShownOf_3 ?_
  have r1 := hR.r 1 u1 1
  refine lv_istore_n (lv' := [(3, .int (Int32.ofInt (M 1 u1 1))), (2, .int (Int32.ofInt (-1))), (0, .ref (α 9 u0)), (1, .ref (α 1 u1))]) X.1.1 X.1.2.1 dX8_lastShownOf_6 rfl hl (by decide) rfl (fun ls hl => ?_)
  obtain ⟨n12, hw⟩ := hw
  exact t_X8_lastShownOf_7 X hu0 hu1 n12 _ _ _ hw (inR_c (a := -1) rfl) r1 _ _ hR hS _ (lv_sub hl [2, 3, 1, 0] rfl)
theorem m_X8_lastShownOf {l : Launch} {G : Gx} {e0 : Nat} {α : Ax} {κ : Nat → Int} {B : Nat} {u0 : Int} {u1 : Int} (hκ : kOK κ) (hu0 : okk κ 9 u0) (hu1 : okk κ 1 u1) {M : Mem} {Qm : Int → Mem → Prop} (hw : wp_X8_lastShownOf u0 u1 M Qm) : CI l yX8_lastShownOf (Cond.code yX8_lastShownOf cX8_lastShownOf 4 (some .int)) 1 G e0 α κ B [.ref (α 9 u0), .ref (α 1 u1)] M Qm :=
  CI.mk hκ (by decide +kernel) rfl (Nat.le_of_ble_eq_true rfl) (lv := [(0, .ref (α 9 u0)), (1, .ref (α 1 u1))]) rfl (fun p e s m args below meth c ls X hR hS hl => t_X8_lastShownOf X hu0 hu1 hw _ _ hR hS ls hl)
theorem cs_X8_lastShownOf {cc : ByteArray} {nL : Nat} {own : String} {ret : Option FieldType} {idx pc : Nat} {u0 : Int} {u1 : Int} (X : CX p m c cc nL s args own G B κ meth ret) (hu0 : okk κ 9 u0) (hu1 : okk κ 1 u1) {kc : Nat} {R : Room} {cells slots : Nat} (hRr : RmOK R kc) (hcel : cells ≤ R.cells ∧ slots ≤ R.slots) (hk : 1 + 1 ≤ kc) {M : Mem} {H : Heap} {locs : List Loc} (hR : Rp G e0 α κ B M H) (hS : va_S (fun q => B ≤ q) s.heap H locs) (k1 : Cond.methodLink own idx yX8_lastShownOf ∈ gw) {ls : Array Slot} (hml : ls.size = nL) {rest : List Value} (hd : decode cc pc = .ok (.invokevirtual idx, 3)) (hrest : (rest.map fun v => v.category).sum ≤ 8) {Q : State → Prop} {Qm : Int → Mem → Prop} (hw : wp_X8_lastShownOf u0 u1 M Qm) (kk : ∀ (r : Int) (M1 : Mem) (H1 : Heap) (locs1 : List Loc), Qm r M1 → inR r → Rp G e0 α κ B M1 H1 → va_S (fun q => B ≤ q) s.heap H1 locs1 → W p l e R s m args below meth c H1 locs1 cells slots Q (F0 m (pc + 3) ls (.int (Int32.ofInt r) :: rest))) : W p l e R s m args below meth c H locs cells slots Q (F0 m pc ls (.ref (α 1 u1) :: .ref (α 9 u0) :: rest)) :=
  sa_callVI 1 (n := 1) (As := [.ref (α 1 u1)]) (rest := rest) X.1 X.2.1 hR hS (m_X8_lastShownOf X.2.2.1 hu0 hu1 hw) k1 kw_450 kw_5 kw_43 kw_451 ⟨rfl, by decide +kernel, by decide +kernel, by decide +kernel⟩ (rm_ok hRr hk (by decide)) (rc_9 X hR hu0) rfl rfl hrest hml hd hcel kk
def wp_X8_wantedBy_36 (u0 : Int) (p1 : Int) (Qm : Int → Mem → Prop) (z0 : Int) (M : Mem) : Prop := Qm z0 M
def wp_X8_wantedBy (u0 : Int) (p1 : Int) (M : Mem) (Qm : Int → Mem → Prop) : Prop := ((¬ (M 2 u0 0) = 1 → ((¬ (M 2 u0 0) = 2 → wp_X8_wantedBy_36 u0 p1 Qm 0 M) ∧ ((M 2 u0 0) = 2 → (inR ((M 2 u0 1) * p1)) ∧ (inR (((M 2 u0 1) * p1) / 100)) ∧ wp_X8_wantedBy_36 u0 p1 Qm (((M 2 u0 1) * p1) / 100) M))) ∧ ((M 2 u0 0) = 1 → Qm (M 2 u0 1) M))
set_option maxHeartbeats 4000000 in
set_option maxRecDepth 100000 in
theorem t_X8_wantedBy_36 {u0 : Int} {p1 : Int} (X : CX p m c cX8_wantedBy 2 s args RX8 G B κ meth (some .int)) (hu0 : okk κ 2 u0) (hp1 : inR p1) {Qm : Int → Mem → Prop} : ∀ z0 : Int, ∀ M : Mem, wp_X8_wantedBy_36 u0 p1 Qm z0 M → inR z0 → ∀ (H : Heap) (locs : List Loc), Rp G e0 α κ B M H → va_S (fun q => B ≤ q) s.heap H locs → ∀ (ls : Array Slot), lv_has ls 2 [] → WI p l e 1 s m args below meth c G e0 α κ B Qm H locs 36 ls [.int (Int32.ofInt z0)] := by
  intro z0 M hw hz0 H locs hR hS ls hl
  have hw : Qm z0 M := hw
  exact sa_iret X.1 X.2.2.2.1 X.2.2.2.2 hR hS hz0 hw dX8_wantedBy_36
set_option maxHeartbeats 4000000 in
set_option maxRecDepth 100000 in
theorem t_X8_wantedBy {u0 : Int} {p1 : Int} (X : CX p m c cX8_wantedBy 2 s args RX8 G B κ meth (some .int)) (hu0 : okk κ 2 u0) (hp1 : inR p1) {M : Mem} {Qm : Int → Mem → Prop} (hw : wp_X8_wantedBy u0 p1 M Qm) (H : Heap) (locs : List Loc) (hR : Rp G e0 α κ B M H) (hS : va_S (fun q => B ≤ q) s.heap H locs) (ls : Array Slot) (hl : lv_has ls 2 [(0, .ref (α 2 u0)), (1, .int (Int32.ofInt p1))]) : WI p l e 1 s m args below meth c G e0 α κ B Qm H locs 0 ls [] := by
  have hw : ((¬ (M 2 u0 0) = 1 → ((¬ (M 2 u0 0) = 2 → wp_X8_wantedBy_36 u0 p1 Qm 0 M) ∧ ((M 2 u0 0) = 2 → (inR ((M 2 u0 1) * p1)) ∧ (inR (((M 2 u0 1) * p1) / 100)) ∧ wp_X8_wantedBy_36 u0 p1 Qm (((M 2 u0 1) * p1) / 100) M))) ∧ ((M 2 u0 0) = 1 → Qm (M 2 u0 1) M)) := hw
  refine lv_aload_n X.1.1 X.1.2.1 dX8_wantedBy_0 rfl (lv_at hl 0 rfl) ?_
  refine gt_2_0 X hR hu0 kw_784 dX8_wantedBy_1 ?_
  have r1 := hR.r 2 u0 0
  refine sa_const X.1 dX8_wantedBy_4 ?_
  refine sa_icmp_ne (tgt := 13) X.1 r1 (inR_c (a := 1) rfl) dX8_wantedBy_5 (by decide) (fun hc => ?_) (fun hc => ?_)
  · have hw := hw.1 hc
    refine lv_aload_n X.1.1 X.1.2.1 dX8_wantedBy_13 rfl (lv_at hl 0 rfl) ?_
    refine gt_2_0 X hR hu0 kw_784 dX8_wantedBy_14 ?_
    have r2 := hR.r 2 u0 0
    refine sa_const X.1 dX8_wantedBy_17 ?_
    refine sa_icmp_ne (tgt := 35) X.1 r2 (inR_c (a := 2) rfl) dX8_wantedBy_18 (by decide) (fun hc => ?_) (fun hc => ?_)
    · have hw := hw.1 hc
      refine sa_const X.1 dX8_wantedBy_35 ?_
      exact t_X8_wantedBy_36 X hu0 hp1 _ _ hw (inR_c (a := 0) rfl) _ _ hR hS _ (lv_sub hl [] rfl)
    · have hw := hw.2 hc
      refine lv_aload_n X.1.1 X.1.2.1 dX8_wantedBy_21 rfl (lv_at hl 0 rfl) ?_
      refine gt_2_1 X hR hu0 kw_787 dX8_wantedBy_22 ?_
      have r3 := hR.r 2 u0 1
      refine lv_iload_n X.1.1 X.1.2.1 dX8_wantedBy_25 rfl (lv_at hl 1 rfl) ?_
      have c4 := hw.1
      have hw := hw.2
      refine sa_imul X.1 dX8_wantedBy_26 ?_
      refine sa_bipush X.1 dX8_wantedBy_27 (by decide) ?_
      refine ls_floor X c4 (kc := 1) rmL_ok rm_c (by decide) hR hS kw_492 hl.1 dX8_wantedBy_29 (Nat.le_of_ble_eq_true rfl) (fun H locs hR hS => ?_)
      have c5 := hw.1
      have hw := hw.2
      refine lv_goto (tgt := 36) X.1.1 X.1.2.1 dX8_wantedBy_32 (by decide) ?_
      exact t_X8_wantedBy_36 X hu0 hp1 _ _ hw c5 _ _ hR hS _ (lv_sub hl [] rfl)
  · have hw := hw.2 hc
    refine lv_aload_n X.1.1 X.1.2.1 dX8_wantedBy_8 rfl (lv_at hl 0 rfl) ?_
    refine gt_2_1 X hR hu0 kw_787 dX8_wantedBy_9 ?_
    have r6 := hR.r 2 u0 1
    exact sa_iret X.1 X.2.2.2.1 X.2.2.2.2 hR hS r6 hw dX8_wantedBy_12
theorem m_X8_wantedBy {l : Launch} {G : Gx} {e0 : Nat} {α : Ax} {κ : Nat → Int} {B : Nat} {u0 : Int} {p1 : Int} (hκ : kOK κ) (hu0 : okk κ 2 u0) (hp1 : inR p1) {M : Mem} {Qm : Int → Mem → Prop} (hw : wp_X8_wantedBy u0 p1 M Qm) : CI l yX8_wantedBy (Cond.code yX8_wantedBy cX8_wantedBy 2 (some .int)) 1 G e0 α κ B [.ref (α 2 u0), .int (Int32.ofInt p1)] M Qm :=
  CI.mk hκ (by decide +kernel) rfl (Nat.le_of_ble_eq_true rfl) (lv := [(0, .ref (α 2 u0)), (1, .int (Int32.ofInt p1))]) rfl (fun p e s m args below meth c ls X hR hS hl => t_X8_wantedBy X hu0 hp1 hw _ _ hR hS ls hl)
theorem cs_X8_wantedBy {cc : ByteArray} {nL : Nat} {own : String} {ret : Option FieldType} {idx pc : Nat} {u0 : Int} {p1 : Int} (X : CX p m c cc nL s args own G B κ meth ret) (hu0 : okk κ 2 u0) (hp1 : inR p1) {kc : Nat} {R : Room} {cells slots : Nat} (hRr : RmOK R kc) (hcel : cells ≤ R.cells ∧ slots ≤ R.slots) (hk : 1 + 1 ≤ kc) {M : Mem} {H : Heap} {locs : List Loc} (hR : Rp G e0 α κ B M H) (hS : va_S (fun q => B ≤ q) s.heap H locs) (k1 : Cond.methodLink own idx yX8_wantedBy ∈ gw) {ls : Array Slot} (hml : ls.size = nL) {rest : List Value} (hd : decode cc pc = .ok (.invokestatic idx, 3)) (hrest : (rest.map fun v => v.category).sum ≤ 8) {Q : State → Prop} {Qm : Int → Mem → Prop} (hw : wp_X8_wantedBy u0 p1 M Qm) (kk : ∀ (r : Int) (M1 : Mem) (H1 : Heap) (locs1 : List Loc), Qm r M1 → inR r → Rp G e0 α κ B M1 H1 → va_S (fun q => B ≤ q) s.heap H1 locs1 → W p l e R s m args below meth c H1 locs1 cells slots Q (F0 m (pc + 3) ls (.int (Int32.ofInt r) :: rest))) : W p l e R s m args below meth c H locs cells slots Q (F0 m pc ls (.int (Int32.ofInt p1) :: .ref (α 2 u0) :: rest)) :=
  sa_callSI 1 (n := 2) (As := [.ref (α 2 u0), .int (Int32.ofInt p1)]) (rest := rest) X.1 X.2.1 hR hS (m_X8_wantedBy X.2.2.1 hu0 hp1 hw) k1 kw_490 kw_43 kw_491 ⟨by decide +kernel, by decide +kernel, by decide +kernel⟩ (rm_ok hRr hk (by decide)) rfl rfl hrest hml hd hcel kk
def wp_X8_giveAll_31 (u0 : Int) (Qm : Mem → Prop) (K2 : Int → Mem → Prop) (y1 : Int) (M : Mem) : Prop := (inR (y1 + 1)) ∧ K2 (y1 + 1) M
def wp_X8_giveAll_2 (u0 : Int) (Qm : Mem → Prop) : Nat → Int → Mem → Prop
  | 0 => fun _ _ => False
  | n + 1 => fun y1 M => ((6 ≤ y1 → Qm M) ∧ (y1 < 6 → wp_X3_isShownContent y1 M fun (x2 : Int) (M1 : Mem) => ((x2 = 0 → wp_X8_giveAll_31 u0 Qm (wp_X8_giveAll_2 u0 Qm n) y1 M1) ∧ (¬ x2 = 0 → (0 ≤ y1 ∧ y1 < 6) ∧ (0 ≤ y1 ∧ y1 < 6) ∧ ∀ M8 : Mem, M8 = up M1 51 u0 y1 (M1 50 u0 y1) → wp_X8_giveAll_31 u0 Qm (wp_X8_giveAll_2 u0 Qm n) y1 M8))))
def wp_X8_giveAll (u0 : Int) (M : Mem) (Qm : Mem → Prop) : Prop := (∃ n10 : Nat, wp_X8_giveAll_2 u0 Qm n10 0 M)
set_option maxHeartbeats 4000000 in
set_option maxRecDepth 100000 in
theorem t_X8_giveAll_31 {u0 : Int} (X : CX p m c cX8_giveAll 2 s args RX8 G B κ meth none) (hu0 : okk κ 9 u0) {Qm : Mem → Prop} {K2 : Int → Mem → Prop} (hK2 : ∀ y1 : Int, ∀ M : Mem, K2 y1 M → inR y1 → ∀ (H : Heap) (locs : List Loc), Rp G e0 α κ B M H → va_S (fun q => B ≤ q) s.heap H locs → ∀ (ls : Array Slot), lv_has ls 2 [(0, .ref (α 9 u0)), (1, .int (Int32.ofInt y1))] → WV p l e 4 s m args below meth c G e0 α κ B Qm H locs 2 ls []) : ∀ y1 : Int, ∀ M : Mem, wp_X8_giveAll_31 u0 Qm K2 y1 M → inR y1 → ∀ (H : Heap) (locs : List Loc), Rp G e0 α κ B M H → va_S (fun q => B ≤ q) s.heap H locs → ∀ (ls : Array Slot), lv_has ls 2 [(0, .ref (α 9 u0)), (1, .int (Int32.ofInt y1))] → WV p l e 4 s m args below meth c G e0 α κ B Qm H locs 31 ls [] := by
  intro y1 M hw hy1 H locs hR hS ls hl
  have hw : (inR (y1 + 1)) ∧ K2 (y1 + 1) M := hw
  have c4 := hw.1
  have hw := hw.2
  refine lv_iinc (v := Int32.ofInt (y1 + 1)) (lv' := [(1, .int (Int32.ofInt (y1 + 1))), (0, .ref (α 9 u0))]) X.1.1 X.1.2.1 dX8_giveAll_31 hl (k := 1) rfl (Int32.ofInt_add _ _).symm (by decide) rfl (fun ls hl => ?_)
  refine lv_goto (tgt := 2) X.1.1 X.1.2.1 dX8_giveAll_34 (by decide) ?_
  exact hK2 _ _ hw c4 _ _ hR hS _ (lv_sub hl [1, 0] rfl)
set_option maxHeartbeats 4000000 in
set_option maxRecDepth 100000 in
theorem t_X8_giveAll_2 {u0 : Int} (X : CX p m c cX8_giveAll 2 s args RX8 G B κ meth none) (hu0 : okk κ 9 u0) {Qm : Mem → Prop} : ∀ n : Nat, ∀ y1 : Int, ∀ M : Mem, wp_X8_giveAll_2 u0 Qm n y1 M → inR y1 → ∀ (H : Heap) (locs : List Loc), Rp G e0 α κ B M H → va_S (fun q => B ≤ q) s.heap H locs → ∀ (ls : Array Slot), lv_has ls 2 [(0, .ref (α 9 u0)), (1, .int (Int32.ofInt y1))] → WV p l e 4 s m args below meth c G e0 α κ B Qm H locs 2 ls [] := by
  intro n
  induction n with
  | zero =>
    intro y1 M hw hy1 H locs hR hS ls hl
    exact hw.elim
  | succ n ih =>
    intro y1 M hw hy1 H locs hR hS ls hl
    have hw : ((6 ≤ y1 → Qm M) ∧ (y1 < 6 → wp_X3_isShownContent y1 M fun (x2 : Int) (M1 : Mem) => ((x2 = 0 → wp_X8_giveAll_31 u0 Qm (wp_X8_giveAll_2 u0 Qm n) y1 M1) ∧ (¬ x2 = 0 → (0 ≤ y1 ∧ y1 < 6) ∧ (0 ≤ y1 ∧ y1 < 6) ∧ ∀ M8 : Mem, M8 = up M1 51 u0 y1 (M1 50 u0 y1) → wp_X8_giveAll_31 u0 Qm (wp_X8_giveAll_2 u0 Qm n) y1 M8)))) := hw
    refine lv_iload_n X.1.1 X.1.2.1 dX8_giveAll_2 rfl (lv_at hl 1 rfl) ?_
    refine sa_bipush X.1 dX8_giveAll_3 (by decide) ?_
    refine sa_icmp_ge (tgt := 37) X.1 hy1 (inR_c (a := 6) rfl) dX8_giveAll_5 (by decide) (fun hc => ?_) (fun hc => ?_)
    · have hw := hw.1 hc
      exact sa_vret X.1 X.2.2.2.1 X.2.2.2.2 hR hS hw dX8_giveAll_37
    · have hw := hw.2 hc
      refine lv_aload_n X.1.1 X.1.2.1 dX8_giveAll_8 rfl (lv_at hl 0 rfl) ?_
      refine gt_9_0 X hR hu0 kw_155 dX8_giveAll_9 ?_
      refine lv_iload_n X.1.1 X.1.2.1 dX8_giveAll_12 rfl (lv_at hl 1 rfl) ?_
      refine cs_X3_isShownContent X hy1 (kc := 4) rmL_ok rm_c (by decide) hR hS kw_495 hl.1 dX8_giveAll_13 (Nat.le_of_ble_eq_true rfl) hw (fun x2 M1 H locs hw r3 hR hS => ?_)
      refine sa_if_eq (tgt := 31) X.1 r3 dX8_giveAll_16 (by decide) (fun hc => ?_) (fun hc => ?_)
      · have hw := hw.1 hc
        exact t_X8_giveAll_31 X hu0 ih _ _ hw hy1 _ _ hR hS _ (lv_sub hl [0, 1] rfl)
      · have hw := hw.2 hc
        refine lv_aload_n X.1.1 X.1.2.1 dX8_giveAll_19 rfl (lv_at hl 0 rfl) ?_
        refine gt_9_3 X hR hu0 kw_160 dX8_giveAll_20 ?_
        refine lv_iload_n X.1.1 X.1.2.1 dX8_giveAll_23 rfl (lv_at hl 1 rfl) ?_
        refine lv_aload_n X.1.1 X.1.2.1 dX8_giveAll_24 rfl (lv_at hl 0 rfl) ?_
        refine gt_9_2 X hR hu0 kw_158 dX8_giveAll_25 ?_
        refine lv_iload_n X.1.1 X.1.2.1 dX8_giveAll_28 rfl (lv_at hl 1 rfl) ?_
        have c5 := hw.1
        have hw := hw.2
        refine ra_50 X hR (okp X.2.2.1 rfl (pr_9 X.2.2.1 hu0)) c5 dX8_giveAll_29 ?_
        have r6 := hR.r 50 u0 y1
        have c7 := hw.1
        have hw := hw.2
        refine wa_51 X hR hS (okp X.2.2.1 rfl (pr_9 X.2.2.1 hu0)) c7 r6 dX8_giveAll_30 (fun H locs hR hS => ?_)
        obtain ⟨M8, e9⟩ : ∃ z : Mem, z = up M1 51 u0 y1 (M1 50 u0 y1) := ⟨_, rfl⟩
        rw [← e9] at hR
        have hw := hw M8 e9
        exact t_X8_giveAll_31 X hu0 ih _ _ hw hy1 _ _ hR hS _ (lv_sub hl [0, 1] rfl)
set_option maxHeartbeats 4000000 in
set_option maxRecDepth 100000 in
theorem t_X8_giveAll {u0 : Int} (X : CX p m c cX8_giveAll 2 s args RX8 G B κ meth none) (hu0 : okk κ 9 u0) {M : Mem} {Qm : Mem → Prop} (hw : wp_X8_giveAll u0 M Qm) (H : Heap) (locs : List Loc) (hR : Rp G e0 α κ B M H) (hS : va_S (fun q => B ≤ q) s.heap H locs) (ls : Array Slot) (hl : lv_has ls 2 [(0, .ref (α 9 u0))]) : WV p l e 4 s m args below meth c G e0 α κ B Qm H locs 0 ls [] := by
  have hw : (∃ n10 : Nat, wp_X8_giveAll_2 u0 Qm n10 0 M) := hw
  refine sa_const X.1 dX8_giveAll_0 ?_
  refine lv_istore_n (lv' := [(1, .int (Int32.ofInt 0)), (0, .ref (α 9 u0))]) X.1.1 X.1.2.1 dX8_giveAll_1 rfl hl (by decide) rfl (fun ls hl => ?_)
  obtain ⟨n10, hw⟩ := hw
  exact t_X8_giveAll_2 X hu0 n10 _ _ hw (inR_c (a := 0) rfl) _ _ hR hS _ (lv_sub hl [1, 0] rfl)
theorem m_X8_giveAll {l : Launch} {G : Gx} {e0 : Nat} {α : Ax} {κ : Nat → Int} {B : Nat} {u0 : Int} (hκ : kOK κ) (hu0 : okk κ 9 u0) {M : Mem} {Qm : Mem → Prop} (hw : wp_X8_giveAll u0 M Qm) : CV l yX8_giveAll (Cond.code yX8_giveAll cX8_giveAll 2 none) 4 G e0 α κ B [.ref (α 9 u0)] M Qm :=
  CV.mk hκ (by decide +kernel) rfl (Nat.le_of_ble_eq_true rfl) (lv := [(0, .ref (α 9 u0))]) rfl (fun p e s m args below meth c ls X hR hS hl => t_X8_giveAll X hu0 hw _ _ hR hS ls hl)
theorem cs_X8_giveAll {cc : ByteArray} {nL : Nat} {own : String} {ret : Option FieldType} {idx pc : Nat} {u0 : Int} (X : CX p m c cc nL s args own G B κ meth ret) (hu0 : okk κ 9 u0) {kc : Nat} {R : Room} {cells slots : Nat} (hRr : RmOK R kc) (hcel : cells ≤ R.cells ∧ slots ≤ R.slots) (hk : 4 + 1 ≤ kc) {M : Mem} {H : Heap} {locs : List Loc} (hR : Rp G e0 α κ B M H) (hS : va_S (fun q => B ≤ q) s.heap H locs) (k1 : Cond.methodLink own idx yX8_giveAll ∈ gw) {ls : Array Slot} (hml : ls.size = nL) {rest : List Value} (hd : decode cc pc = .ok (.invokevirtual idx, 3)) (hrest : (rest.map fun v => v.category).sum ≤ 8) {Q : State → Prop} {Qm : Mem → Prop} (hw : wp_X8_giveAll u0 M Qm) (kk : ∀ (M1 : Mem) (H1 : Heap) (locs1 : List Loc), Qm M1 → Rp G e0 α κ B M1 H1 → va_S (fun q => B ≤ q) s.heap H1 locs1 → W p l e R s m args below meth c H1 locs1 cells slots Q (F0 m (pc + 3) ls (rest))) : W p l e R s m args below meth c H locs cells slots Q (F0 m pc ls (.ref (α 9 u0) :: rest)) :=
  sa_callVV 4 (n := 0) (As := []) (rest := rest) X.1 X.2.1 hR hS (m_X8_giveAll X.2.2.1 hu0 hw) k1 kw_505 kw_10 kw_43 kw_506 ⟨rfl, by decide +kernel, by decide +kernel, by decide +kernel⟩ (rm_ok hRr hk (by decide)) (rc_9 X hR hu0) rfl rfl hrest hml hd hcel kk
def wp_X8_giveInProportion_136 (u0 : Int) (p1 : Int) (p2 : Int) (Qm : Mem → Prop) (M : Mem) : Prop := Qm M
def wp_X8_giveInProportion_130 (u0 : Int) (p1 : Int) (p2 : Int) (Qm : Mem → Prop) (K76 : Int → Int → Mem → Prop) (y3 : Int) (y4 : Int) (M : Mem) : Prop := (inR (y4 + 1)) ∧ K76 y3 (y4 + 1) M
def wp_X8_giveInProportion_76 (u0 : Int) (p1 : Int) (p2 : Int) (Qm : Mem → Prop) : Nat → Int → Int → Mem → Prop
  | 0 => fun _ _ _ => False
  | n + 1 => fun y3 y4 M => ((6 ≤ y4 → wp_X8_giveInProportion_136 u0 p1 p2 Qm M) ∧ (y4 < 6 → ((y3 ≤ 0 → wp_X8_giveInProportion_136 u0 p1 p2 Qm M) ∧ (0 < y3 → wp_X3_isShownContent y4 M fun (x2 : Int) (M1 : Mem) => ((x2 = 0 → wp_X8_giveInProportion_130 u0 p1 p2 Qm (wp_X8_giveInProportion_76 u0 p1 p2 Qm n) y3 y4 M1) ∧ (¬ x2 = 0 → (0 ≤ y4 ∧ y4 < 6) ∧ (0 ≤ y4 ∧ y4 < 6) ∧ (((M1 50 u0 y4) ≤ (M1 51 u0 y4) → wp_X8_giveInProportion_130 u0 p1 p2 Qm (wp_X8_giveInProportion_76 u0 p1 p2 Qm n) y3 y4 M1) ∧ ((M1 51 u0 y4) < (M1 50 u0 y4) → (0 ≤ y4 ∧ y4 < 6) ∧ (inR ((M1 51 u0 y4) + 1)) ∧ (0 ≤ y4 ∧ y4 < 6) ∧ ∀ M13 : Mem, M13 = up M1 51 u0 y4 ((M1 51 u0 y4) + 1) → (inR (y3 + (-1))) ∧ wp_X8_giveInProportion_130 u0 p1 p2 Qm (wp_X8_giveInProportion_76 u0 p1 p2 Qm n) (y3 + (-1)) y4 M13))))))))
def wp_X8_giveInProportion_67 (u0 : Int) (p1 : Int) (p2 : Int) (Qm : Mem → Prop) (K10 : Int → Int → Mem → Prop) (y3 : Int) (y4 : Int) (M : Mem) : Prop := (inR (y4 + 1)) ∧ K10 y3 (y4 + 1) M
def wp_X8_giveInProportion_10 (u0 : Int) (p1 : Int) (p2 : Int) (Qm : Mem → Prop) : Nat → Int → Int → Mem → Prop
  | 0 => fun _ _ _ => False
  | n + 1 => fun y3 y4 M => ((6 ≤ y4 → (∃ n16 : Nat, wp_X8_giveInProportion_76 u0 p1 p2 Qm n16 y3 0 M)) ∧ (y4 < 6 → wp_X3_isShownContent y4 M fun (x18 : Int) (M17 : Mem) => ((x18 = 0 → wp_X8_giveInProportion_67 u0 p1 p2 Qm (wp_X8_giveInProportion_10 u0 p1 p2 Qm n) y3 y4 M17) ∧ (¬ x18 = 0 → (0 ≤ y4 ∧ y4 < 6) ∧ (0 ≤ y4 ∧ y4 < 6) ∧ (inR ((M17 50 u0 y4) - (M17 49 u0 y4))) ∧ (inR (p1 * ((M17 50 u0 y4) - (M17 49 u0 y4)))) ∧ (0 < p2) ∧ (0 ≤ y4 ∧ y4 < 6) ∧ (inR ((M17 51 u0 y4) + (Int.tdiv (p1 * ((M17 50 u0 y4) - (M17 49 u0 y4))) p2))) ∧ (0 ≤ y4 ∧ y4 < 6) ∧ ∀ M33 : Mem, M33 = up M17 51 u0 y4 ((M17 51 u0 y4) + (Int.tdiv (p1 * ((M17 50 u0 y4) - (M17 49 u0 y4))) p2)) → (inR (y3 - (Int.tdiv (p1 * ((M17 50 u0 y4) - (M17 49 u0 y4))) p2))) ∧ wp_X8_giveInProportion_67 u0 p1 p2 Qm (wp_X8_giveInProportion_10 u0 p1 p2 Qm n) (y3 - (Int.tdiv (p1 * ((M17 50 u0 y4) - (M17 49 u0 y4))) p2)) y4 M33))))
def wp_X8_giveInProportion (u0 : Int) (p1 : Int) (p2 : Int) (M : Mem) (Qm : Mem → Prop) : Prop := ((0 < p2 → (∃ n36 : Nat, wp_X8_giveInProportion_10 u0 p1 p2 Qm n36 p1 0 M)) ∧ (p2 ≤ 0 → Qm M))
set_option maxHeartbeats 4000000 in
set_option maxRecDepth 100000 in
theorem t_X8_giveInProportion_136 {u0 : Int} {p1 : Int} {p2 : Int} (X : CX p m c cX8_giveInProportion 6 s args RX8 G B κ meth none) (hu0 : okk κ 9 u0) (hp1 : inR p1) (hp2 : inR p2) {Qm : Mem → Prop} : ∀ M : Mem, wp_X8_giveInProportion_136 u0 p1 p2 Qm M → ∀ (H : Heap) (locs : List Loc), Rp G e0 α κ B M H → va_S (fun q => B ≤ q) s.heap H locs → ∀ (ls : Array Slot), lv_has ls 6 [] → WV p l e 4 s m args below meth c G e0 α κ B Qm H locs 136 ls [] := by
  intro M hw H locs hR hS ls hl
  have hw : Qm M := hw
  exact sa_vret X.1 X.2.2.2.1 X.2.2.2.2 hR hS hw dX8_giveInProportion_136
set_option maxHeartbeats 4000000 in
set_option maxRecDepth 100000 in
theorem t_X8_giveInProportion_130 {u0 : Int} {p1 : Int} {p2 : Int} (X : CX p m c cX8_giveInProportion 6 s args RX8 G B κ meth none) (hu0 : okk κ 9 u0) (hp1 : inR p1) (hp2 : inR p2) {Qm : Mem → Prop} {K76 : Int → Int → Mem → Prop} (hK76 : ∀ y3 : Int, ∀ y4 : Int, ∀ M : Mem, K76 y3 y4 M → inR y3 → inR y4 → ∀ (H : Heap) (locs : List Loc), Rp G e0 α κ B M H → va_S (fun q => B ≤ q) s.heap H locs → ∀ (ls : Array Slot), lv_has ls 6 [(0, .ref (α 9 u0)), (3, .int (Int32.ofInt y3)), (4, .int (Int32.ofInt y4))] → WV p l e 4 s m args below meth c G e0 α κ B Qm H locs 76 ls []) : ∀ y3 : Int, ∀ y4 : Int, ∀ M : Mem, wp_X8_giveInProportion_130 u0 p1 p2 Qm K76 y3 y4 M → inR y3 → inR y4 → ∀ (H : Heap) (locs : List Loc), Rp G e0 α κ B M H → va_S (fun q => B ≤ q) s.heap H locs → ∀ (ls : Array Slot), lv_has ls 6 [(0, .ref (α 9 u0)), (3, .int (Int32.ofInt y3)), (4, .int (Int32.ofInt y4))] → WV p l e 4 s m args below meth c G e0 α κ B Qm H locs 130 ls [] := by
  intro y3 y4 M hw hy3 hy4 H locs hR hS ls hl
  have hw : (inR (y4 + 1)) ∧ K76 y3 (y4 + 1) M := hw
  have c4 := hw.1
  have hw := hw.2
  refine lv_iinc (v := Int32.ofInt (y4 + 1)) (lv' := [(4, .int (Int32.ofInt (y4 + 1))), (0, .ref (α 9 u0)), (3, .int (Int32.ofInt y3))]) X.1.1 X.1.2.1 dX8_giveInProportion_130 hl (k := 2) rfl (Int32.ofInt_add _ _).symm (by decide) rfl (fun ls hl => ?_)
  refine lv_goto (tgt := 76) X.1.1 X.1.2.1 dX8_giveInProportion_133 (by decide) ?_
  exact hK76 _ _ _ hw hy3 c4 _ _ hR hS _ (lv_sub hl [1, 2, 0] rfl)
set_option maxHeartbeats 4000000 in
set_option maxRecDepth 100000 in
theorem t_X8_giveInProportion_76 {u0 : Int} {p1 : Int} {p2 : Int} (X : CX p m c cX8_giveInProportion 6 s args RX8 G B κ meth none) (hu0 : okk κ 9 u0) (hp1 : inR p1) (hp2 : inR p2) {Qm : Mem → Prop} : ∀ n : Nat, ∀ y3 : Int, ∀ y4 : Int, ∀ M : Mem, wp_X8_giveInProportion_76 u0 p1 p2 Qm n y3 y4 M → inR y3 → inR y4 → ∀ (H : Heap) (locs : List Loc), Rp G e0 α κ B M H → va_S (fun q => B ≤ q) s.heap H locs → ∀ (ls : Array Slot), lv_has ls 6 [(0, .ref (α 9 u0)), (3, .int (Int32.ofInt y3)), (4, .int (Int32.ofInt y4))] → WV p l e 4 s m args below meth c G e0 α κ B Qm H locs 76 ls [] := by
  intro n
  induction n with
  | zero =>
    intro y3 y4 M hw hy3 hy4 H locs hR hS ls hl
    exact hw.elim
  | succ n ih =>
    intro y3 y4 M hw hy3 hy4 H locs hR hS ls hl
    have hw : ((6 ≤ y4 → wp_X8_giveInProportion_136 u0 p1 p2 Qm M) ∧ (y4 < 6 → ((y3 ≤ 0 → wp_X8_giveInProportion_136 u0 p1 p2 Qm M) ∧ (0 < y3 → wp_X3_isShownContent y4 M fun (x2 : Int) (M1 : Mem) => ((x2 = 0 → wp_X8_giveInProportion_130 u0 p1 p2 Qm (wp_X8_giveInProportion_76 u0 p1 p2 Qm n) y3 y4 M1) ∧ (¬ x2 = 0 → (0 ≤ y4 ∧ y4 < 6) ∧ (0 ≤ y4 ∧ y4 < 6) ∧ (((M1 50 u0 y4) ≤ (M1 51 u0 y4) → wp_X8_giveInProportion_130 u0 p1 p2 Qm (wp_X8_giveInProportion_76 u0 p1 p2 Qm n) y3 y4 M1) ∧ ((M1 51 u0 y4) < (M1 50 u0 y4) → (0 ≤ y4 ∧ y4 < 6) ∧ (inR ((M1 51 u0 y4) + 1)) ∧ (0 ≤ y4 ∧ y4 < 6) ∧ ∀ M13 : Mem, M13 = up M1 51 u0 y4 ((M1 51 u0 y4) + 1) → (inR (y3 + (-1))) ∧ wp_X8_giveInProportion_130 u0 p1 p2 Qm (wp_X8_giveInProportion_76 u0 p1 p2 Qm n) (y3 + (-1)) y4 M13)))))))) := hw
    refine lv_iload X.1.1 X.1.2.1 dX8_giveInProportion_76 (lv_at hl 2 rfl) ?_
    refine sa_bipush X.1 dX8_giveInProportion_78 (by decide) ?_
    refine sa_icmp_ge (tgt := 136) X.1 hy4 (inR_c (a := 6) rfl) dX8_giveInProportion_80 (by decide) (fun hc => ?_) (fun hc => ?_)
    · have hw := hw.1 hc
      exact t_X8_giveInProportion_136 X hu0 hp1 hp2 _ hw _ _ hR hS _ (lv_sub hl [] rfl)
    · have hw := hw.2 hc
      refine lv_iload_n X.1.1 X.1.2.1 dX8_giveInProportion_83 rfl (lv_at hl 1 rfl) ?_
      refine sa_if_le (tgt := 136) X.1 hy3 dX8_giveInProportion_84 (by decide) (fun hc => ?_) (fun hc => ?_)
      · have hw := hw.1 hc
        exact t_X8_giveInProportion_136 X hu0 hp1 hp2 _ hw _ _ hR hS _ (lv_sub hl [] rfl)
      · have hw := hw.2 hc
        refine lv_aload_n X.1.1 X.1.2.1 dX8_giveInProportion_87 rfl (lv_at hl 0 rfl) ?_
        refine gt_9_0 X hR hu0 kw_155 dX8_giveInProportion_88 ?_
        refine lv_iload X.1.1 X.1.2.1 dX8_giveInProportion_91 (lv_at hl 2 rfl) ?_
        refine cs_X3_isShownContent X hy4 (kc := 4) rmL_ok rm_c (by decide) hR hS kw_495 hl.1 dX8_giveInProportion_93 (Nat.le_of_ble_eq_true rfl) hw (fun x2 M1 H locs hw r3 hR hS => ?_)
        refine sa_if_eq (tgt := 130) X.1 r3 dX8_giveInProportion_96 (by decide) (fun hc => ?_) (fun hc => ?_)
        · have hw := hw.1 hc
          exact t_X8_giveInProportion_130 X hu0 hp1 hp2 ih _ _ _ hw hy3 hy4 _ _ hR hS _ (lv_sub hl [0, 1, 2] rfl)
        · have hw := hw.2 hc
          refine lv_aload_n X.1.1 X.1.2.1 dX8_giveInProportion_99 rfl (lv_at hl 0 rfl) ?_
          refine gt_9_3 X hR hu0 kw_160 dX8_giveInProportion_100 ?_
          refine lv_iload X.1.1 X.1.2.1 dX8_giveInProportion_103 (lv_at hl 2 rfl) ?_
          have c5 := hw.1
          have hw := hw.2
          refine ra_51 X hR (okp X.2.2.1 rfl (pr_9 X.2.2.1 hu0)) c5 dX8_giveInProportion_105 ?_
          have r6 := hR.r 51 u0 y4
          refine lv_aload_n X.1.1 X.1.2.1 dX8_giveInProportion_106 rfl (lv_at hl 0 rfl) ?_
          refine gt_9_2 X hR hu0 kw_158 dX8_giveInProportion_107 ?_
          refine lv_iload X.1.1 X.1.2.1 dX8_giveInProportion_110 (lv_at hl 2 rfl) ?_
          have c7 := hw.1
          have hw := hw.2
          refine ra_50 X hR (okp X.2.2.1 rfl (pr_9 X.2.2.1 hu0)) c7 dX8_giveInProportion_112 ?_
          have r8 := hR.r 50 u0 y4
          refine sa_icmp_ge (tgt := 130) X.1 r6 r8 dX8_giveInProportion_113 (by decide) (fun hc => ?_) (fun hc => ?_)
          · have hw := hw.1 hc
            exact t_X8_giveInProportion_130 X hu0 hp1 hp2 ih _ _ _ hw hy3 hy4 _ _ hR hS _ (lv_sub hl [0, 1, 2] rfl)
          · have hw := hw.2 hc
            refine lv_aload_n X.1.1 X.1.2.1 dX8_giveInProportion_116 rfl (lv_at hl 0 rfl) ?_
            refine gt_9_3 X hR hu0 kw_160 dX8_giveInProportion_117 ?_
            refine lv_iload X.1.1 X.1.2.1 dX8_giveInProportion_120 (lv_at hl 2 rfl) ?_
            refine lv_dup2_11 X.1.1 X.1.2.1 dX8_giveInProportion_122 rfl rfl ?_
            have c9 := hw.1
            have hw := hw.2
            refine ra_51 X hR (okp X.2.2.1 rfl (pr_9 X.2.2.1 hu0)) c9 dX8_giveInProportion_123 ?_
            have r10 := hR.r 51 u0 y4
            refine sa_const X.1 dX8_giveInProportion_124 ?_
            have c11 := hw.1
            have hw := hw.2
            refine sa_iadd X.1 dX8_giveInProportion_125 ?_
            have c12 := hw.1
            have hw := hw.2
            refine wa_51 X hR hS (okp X.2.2.1 rfl (pr_9 X.2.2.1 hu0)) c12 c11 dX8_giveInProportion_126 (fun H locs hR hS => ?_)
            obtain ⟨M13, e14⟩ : ∃ z : Mem, z = up M1 51 u0 y4 ((M1 51 u0 y4) + 1) := ⟨_, rfl⟩
            rw [← e14] at hR
            have hw := hw M13 e14
            have c15 := hw.1
            have hw := hw.2
            refine lv_iinc (v := Int32.ofInt (y3 + (-1))) (lv' := [(3, .int (Int32.ofInt (y3 + (-1)))), (0, .ref (α 9 u0)), (4, .int (Int32.ofInt y4))]) X.1.1 X.1.2.1 dX8_giveInProportion_127 hl (k := 1) rfl (Int32.ofInt_add _ _).symm (by decide) rfl (fun ls hl => ?_)
            exact t_X8_giveInProportion_130 X hu0 hp1 hp2 ih _ _ _ hw c15 hy4 _ _ hR hS _ (lv_sub hl [1, 0, 2] rfl)
set_option maxHeartbeats 4000000 in
set_option maxRecDepth 100000 in
theorem t_X8_giveInProportion_67 {u0 : Int} {p1 : Int} {p2 : Int} (X : CX p m c cX8_giveInProportion 6 s args RX8 G B κ meth none) (hu0 : okk κ 9 u0) (hp1 : inR p1) (hp2 : inR p2) {Qm : Mem → Prop} {K10 : Int → Int → Mem → Prop} (hK10 : ∀ y3 : Int, ∀ y4 : Int, ∀ M : Mem, K10 y3 y4 M → inR y3 → inR y4 → ∀ (H : Heap) (locs : List Loc), Rp G e0 α κ B M H → va_S (fun q => B ≤ q) s.heap H locs → ∀ (ls : Array Slot), lv_has ls 6 [(0, .ref (α 9 u0)), (1, .int (Int32.ofInt p1)), (2, .int (Int32.ofInt p2)), (3, .int (Int32.ofInt y3)), (4, .int (Int32.ofInt y4))] → WV p l e 4 s m args below meth c G e0 α κ B Qm H locs 10 ls []) : ∀ y3 : Int, ∀ y4 : Int, ∀ M : Mem, wp_X8_giveInProportion_67 u0 p1 p2 Qm K10 y3 y4 M → inR y3 → inR y4 → ∀ (H : Heap) (locs : List Loc), Rp G e0 α κ B M H → va_S (fun q => B ≤ q) s.heap H locs → ∀ (ls : Array Slot), lv_has ls 6 [(0, .ref (α 9 u0)), (1, .int (Int32.ofInt p1)), (2, .int (Int32.ofInt p2)), (3, .int (Int32.ofInt y3)), (4, .int (Int32.ofInt y4))] → WV p l e 4 s m args below meth c G e0 α κ B Qm H locs 67 ls [] := by
  intro y3 y4 M hw hy3 hy4 H locs hR hS ls hl
  have hw : (inR (y4 + 1)) ∧ K10 y3 (y4 + 1) M := hw
  have c20 := hw.1
  have hw := hw.2
  refine lv_iinc (v := Int32.ofInt (y4 + 1)) (lv' := [(4, .int (Int32.ofInt (y4 + 1))), (0, .ref (α 9 u0)), (1, .int (Int32.ofInt p1)), (2, .int (Int32.ofInt p2)), (3, .int (Int32.ofInt y3))]) X.1.1 X.1.2.1 dX8_giveInProportion_67 hl (k := 4) rfl (Int32.ofInt_add _ _).symm (by decide) rfl (fun ls hl => ?_)
  refine lv_goto (tgt := 10) X.1.1 X.1.2.1 dX8_giveInProportion_70 (by decide) ?_
  exact hK10 _ _ _ hw hy3 c20 _ _ hR hS _ (lv_sub hl [1, 2, 3, 4, 0] rfl)
set_option maxHeartbeats 4000000 in
set_option maxRecDepth 100000 in
theorem t_X8_giveInProportion_10 {u0 : Int} {p1 : Int} {p2 : Int} (X : CX p m c cX8_giveInProportion 6 s args RX8 G B κ meth none) (hu0 : okk κ 9 u0) (hp1 : inR p1) (hp2 : inR p2) {Qm : Mem → Prop} : ∀ n : Nat, ∀ y3 : Int, ∀ y4 : Int, ∀ M : Mem, wp_X8_giveInProportion_10 u0 p1 p2 Qm n y3 y4 M → inR y3 → inR y4 → ∀ (H : Heap) (locs : List Loc), Rp G e0 α κ B M H → va_S (fun q => B ≤ q) s.heap H locs → ∀ (ls : Array Slot), lv_has ls 6 [(0, .ref (α 9 u0)), (1, .int (Int32.ofInt p1)), (2, .int (Int32.ofInt p2)), (3, .int (Int32.ofInt y3)), (4, .int (Int32.ofInt y4))] → WV p l e 4 s m args below meth c G e0 α κ B Qm H locs 10 ls [] := by
  intro n
  induction n with
  | zero =>
    intro y3 y4 M hw hy3 hy4 H locs hR hS ls hl
    exact hw.elim
  | succ n ih =>
    intro y3 y4 M hw hy3 hy4 H locs hR hS ls hl
    have hw : ((6 ≤ y4 → (∃ n16 : Nat, wp_X8_giveInProportion_76 u0 p1 p2 Qm n16 y3 0 M)) ∧ (y4 < 6 → wp_X3_isShownContent y4 M fun (x18 : Int) (M17 : Mem) => ((x18 = 0 → wp_X8_giveInProportion_67 u0 p1 p2 Qm (wp_X8_giveInProportion_10 u0 p1 p2 Qm n) y3 y4 M17) ∧ (¬ x18 = 0 → (0 ≤ y4 ∧ y4 < 6) ∧ (0 ≤ y4 ∧ y4 < 6) ∧ (inR ((M17 50 u0 y4) - (M17 49 u0 y4))) ∧ (inR (p1 * ((M17 50 u0 y4) - (M17 49 u0 y4)))) ∧ (0 < p2) ∧ (0 ≤ y4 ∧ y4 < 6) ∧ (inR ((M17 51 u0 y4) + (Int.tdiv (p1 * ((M17 50 u0 y4) - (M17 49 u0 y4))) p2))) ∧ (0 ≤ y4 ∧ y4 < 6) ∧ ∀ M33 : Mem, M33 = up M17 51 u0 y4 ((M17 51 u0 y4) + (Int.tdiv (p1 * ((M17 50 u0 y4) - (M17 49 u0 y4))) p2)) → (inR (y3 - (Int.tdiv (p1 * ((M17 50 u0 y4) - (M17 49 u0 y4))) p2))) ∧ wp_X8_giveInProportion_67 u0 p1 p2 Qm (wp_X8_giveInProportion_10 u0 p1 p2 Qm n) (y3 - (Int.tdiv (p1 * ((M17 50 u0 y4) - (M17 49 u0 y4))) p2)) y4 M33)))) := hw
    refine lv_iload X.1.1 X.1.2.1 dX8_giveInProportion_10 (lv_at hl 4 rfl) ?_
    refine sa_bipush X.1 dX8_giveInProportion_12 (by decide) ?_
    refine sa_icmp_ge (tgt := 73) X.1 hy4 (inR_c (a := 6) rfl) dX8_giveInProportion_14 (by decide) (fun hc => ?_) (fun hc => ?_)
    · have hw := hw.1 hc
      refine sa_const X.1 dX8_giveInProportion_73 ?_
      refine lv_istore (lv' := [(4, .int (Int32.ofInt 0)), (0, .ref (α 9 u0)), (1, .int (Int32.ofInt p1)), (2, .int (Int32.ofInt p2)), (3, .int (Int32.ofInt y3))]) X.1.1 X.1.2.1 dX8_giveInProportion_74 hl (by decide) rfl (fun ls hl => ?_)
      obtain ⟨n16, hw⟩ := hw
      exact t_X8_giveInProportion_76 X hu0 hp1 hp2 n16 _ _ _ hw hy3 (inR_c (a := 0) rfl) _ _ hR hS _ (lv_sub hl [1, 4, 0] rfl)
    · have hw := hw.2 hc
      refine lv_aload_n X.1.1 X.1.2.1 dX8_giveInProportion_17 rfl (lv_at hl 0 rfl) ?_
      refine gt_9_0 X hR hu0 kw_155 dX8_giveInProportion_18 ?_
      refine lv_iload X.1.1 X.1.2.1 dX8_giveInProportion_21 (lv_at hl 4 rfl) ?_
      refine cs_X3_isShownContent X hy4 (kc := 4) rmL_ok rm_c (by decide) hR hS kw_495 hl.1 dX8_giveInProportion_23 (Nat.le_of_ble_eq_true rfl) hw (fun x18 M17 H locs hw r19 hR hS => ?_)
      refine sa_if_eq (tgt := 67) X.1 r19 dX8_giveInProportion_26 (by decide) (fun hc => ?_) (fun hc => ?_)
      · have hw := hw.1 hc
        exact t_X8_giveInProportion_67 X hu0 hp1 hp2 ih _ _ _ hw hy3 hy4 _ _ hR hS _ (lv_sub hl [0, 1, 2, 3, 4] rfl)
      · have hw := hw.2 hc
        refine lv_iload_n X.1.1 X.1.2.1 dX8_giveInProportion_29 rfl (lv_at hl 1 rfl) ?_
        refine lv_aload_n X.1.1 X.1.2.1 dX8_giveInProportion_30 rfl (lv_at hl 0 rfl) ?_
        refine gt_9_2 X hR hu0 kw_158 dX8_giveInProportion_31 ?_
        refine lv_iload X.1.1 X.1.2.1 dX8_giveInProportion_34 (lv_at hl 4 rfl) ?_
        have c21 := hw.1
        have hw := hw.2
        refine ra_50 X hR (okp X.2.2.1 rfl (pr_9 X.2.2.1 hu0)) c21 dX8_giveInProportion_36 ?_
        have r22 := hR.r 50 u0 y4
        refine lv_aload_n X.1.1 X.1.2.1 dX8_giveInProportion_37 rfl (lv_at hl 0 rfl) ?_
        refine gt_9_1 X hR hu0 kw_156 dX8_giveInProportion_38 ?_
        refine lv_iload X.1.1 X.1.2.1 dX8_giveInProportion_41 (lv_at hl 4 rfl) ?_
        have c23 := hw.1
        have hw := hw.2
        refine ra_49 X hR (okp X.2.2.1 rfl (pr_9 X.2.2.1 hu0)) c23 dX8_giveInProportion_43 ?_
        have r24 := hR.r 49 u0 y4
        have c25 := hw.1
        have hw := hw.2
        refine sa_isub X.1 dX8_giveInProportion_44 ?_
        have c26 := hw.1
        have hw := hw.2
        refine sa_imul X.1 dX8_giveInProportion_45 ?_
        refine lv_iload_n X.1.1 X.1.2.1 dX8_giveInProportion_46 rfl (lv_at hl 2 rfl) ?_
        have c27 := hw.1
        have hw := hw.2
        have r28 := inR_tdiv c26 hp2 c27
        refine sa_idiv X.1 c26 hp2 (Int.ne_of_gt c27) dX8_giveInProportion_47 ?_
        refine lv_istore (lv' := [(5, .int (Int32.ofInt (Int.tdiv (p1 * ((M17 50 u0 y4) - (M17 49 u0 y4))) p2))), (0, .ref (α 9 u0)), (1, .int (Int32.ofInt p1)), (2, .int (Int32.ofInt p2)), (3, .int (Int32.ofInt y3)), (4, .int (Int32.ofInt y4))]) X.1.1 X.1.2.1 dX8_giveInProportion_48 hl (by decide) rfl (fun ls hl => ?_)
        refine lv_aload_n X.1.1 X.1.2.1 dX8_giveInProportion_50 rfl (lv_at hl 1 rfl) ?_
        refine gt_9_3 X hR hu0 kw_160 dX8_giveInProportion_51 ?_
        refine lv_iload X.1.1 X.1.2.1 dX8_giveInProportion_54 (lv_at hl 5 rfl) ?_
        refine lv_dup2_11 X.1.1 X.1.2.1 dX8_giveInProportion_56 rfl rfl ?_
        have c29 := hw.1
        have hw := hw.2
        refine ra_51 X hR (okp X.2.2.1 rfl (pr_9 X.2.2.1 hu0)) c29 dX8_giveInProportion_57 ?_
        have r30 := hR.r 51 u0 y4
        refine lv_iload X.1.1 X.1.2.1 dX8_giveInProportion_58 (lv_at hl 0 rfl) ?_
        have c31 := hw.1
        have hw := hw.2
        refine sa_iadd X.1 dX8_giveInProportion_60 ?_
        have c32 := hw.1
        have hw := hw.2
        refine wa_51 X hR hS (okp X.2.2.1 rfl (pr_9 X.2.2.1 hu0)) c32 c31 dX8_giveInProportion_61 (fun H locs hR hS => ?_)
        obtain ⟨M33, e34⟩ : ∃ z : Mem, z = up M17 51 u0 y4 ((M17 51 u0 y4) + (Int.tdiv (p1 * ((M17 50 u0 y4) - (M17 49 u0 y4))) p2)) := ⟨_, rfl⟩
        rw [← e34] at hR
        have hw := hw M33 e34
        refine lv_iload_n X.1.1 X.1.2.1 dX8_giveInProportion_62 rfl (lv_at hl 4 rfl) ?_
        refine lv_iload X.1.1 X.1.2.1 dX8_giveInProportion_63 (lv_at hl 0 rfl) ?_
        have c35 := hw.1
        have hw := hw.2
        refine sa_isub X.1 dX8_giveInProportion_65 ?_
        refine lv_istore_n (lv' := [(3, .int (Int32.ofInt (y3 - (Int.tdiv (p1 * ((M17 50 u0 y4) - (M17 49 u0 y4))) p2)))), (5, .int (Int32.ofInt (Int.tdiv (p1 * ((M17 50 u0 y4) - (M17 49 u0 y4))) p2))), (0, .ref (α 9 u0)), (1, .int (Int32.ofInt p1)), (2, .int (Int32.ofInt p2)), (4, .int (Int32.ofInt y4))]) X.1.1 X.1.2.1 dX8_giveInProportion_66 rfl hl (by decide) rfl (fun ls hl => ?_)
        exact t_X8_giveInProportion_67 X hu0 hp1 hp2 ih _ _ _ hw c35 hy4 _ _ hR hS _ (lv_sub hl [2, 3, 4, 0, 5] rfl)
set_option maxHeartbeats 4000000 in
set_option maxRecDepth 100000 in
theorem t_X8_giveInProportion {u0 : Int} {p1 : Int} {p2 : Int} (X : CX p m c cX8_giveInProportion 6 s args RX8 G B κ meth none) (hu0 : okk κ 9 u0) (hp1 : inR p1) (hp2 : inR p2) {M : Mem} {Qm : Mem → Prop} (hw : wp_X8_giveInProportion u0 p1 p2 M Qm) (H : Heap) (locs : List Loc) (hR : Rp G e0 α κ B M H) (hS : va_S (fun q => B ≤ q) s.heap H locs) (ls : Array Slot) (hl : lv_has ls 6 [(0, .ref (α 9 u0)), (1, .int (Int32.ofInt p1)), (2, .int (Int32.ofInt p2))]) : WV p l e 4 s m args below meth c G e0 α κ B Qm H locs 0 ls [] := by
  have hw : ((0 < p2 → (∃ n36 : Nat, wp_X8_giveInProportion_10 u0 p1 p2 Qm n36 p1 0 M)) ∧ (p2 ≤ 0 → Qm M)) := hw
  refine lv_iload_n X.1.1 X.1.2.1 dX8_giveInProportion_0 rfl (lv_at hl 2 rfl) ?_
  refine sa_if_gt (tgt := 5) X.1 hp2 dX8_giveInProportion_1 (by decide) (fun hc => ?_) (fun hc => ?_)
  · have hw := hw.1 hc
    refine lv_iload_n X.1.1 X.1.2.1 dX8_giveInProportion_5 rfl (lv_at hl 1 rfl) ?_
    refine lv_istore_n (lv' := [(3, .int (Int32.ofInt p1)), (0, .ref (α 9 u0)), (1, .int (Int32.ofInt p1)), (2, .int (Int32.ofInt p2))]) X.1.1 X.1.2.1 dX8_giveInProportion_6 rfl hl (by decide) rfl (fun ls hl => ?_)
    refine sa_const X.1 dX8_giveInProportion_7 ?_
    refine lv_istore (lv' := [(4, .int (Int32.ofInt 0)), (3, .int (Int32.ofInt p1)), (0, .ref (α 9 u0)), (1, .int (Int32.ofInt p1)), (2, .int (Int32.ofInt p2))]) X.1.1 X.1.2.1 dX8_giveInProportion_8 hl (by decide) rfl (fun ls hl => ?_)
    obtain ⟨n36, hw⟩ := hw
    exact t_X8_giveInProportion_10 X hu0 hp1 hp2 n36 _ _ _ hw hp1 (inR_c (a := 0) rfl) _ _ hR hS _ (lv_sub hl [2, 3, 4, 1, 0] rfl)
  · have hw := hw.2 hc
    exact sa_vret X.1 X.2.2.2.1 X.2.2.2.2 hR hS hw dX8_giveInProportion_4
theorem m_X8_giveInProportion {l : Launch} {G : Gx} {e0 : Nat} {α : Ax} {κ : Nat → Int} {B : Nat} {u0 : Int} {p1 : Int} {p2 : Int} (hκ : kOK κ) (hu0 : okk κ 9 u0) (hp1 : inR p1) (hp2 : inR p2) {M : Mem} {Qm : Mem → Prop} (hw : wp_X8_giveInProportion u0 p1 p2 M Qm) : CV l yX8_giveInProportion (Cond.code yX8_giveInProportion cX8_giveInProportion 6 none) 4 G e0 α κ B [.ref (α 9 u0), .int (Int32.ofInt p1), .int (Int32.ofInt p2)] M Qm :=
  CV.mk hκ (by decide +kernel) rfl (Nat.le_of_ble_eq_true rfl) (lv := [(0, .ref (α 9 u0)), (1, .int (Int32.ofInt p1)), (2, .int (Int32.ofInt p2))]) rfl (fun p e s m args below meth c ls X hR hS hl => t_X8_giveInProportion X hu0 hp1 hp2 hw _ _ hR hS ls hl)
theorem cs_X8_giveInProportion {cc : ByteArray} {nL : Nat} {own : String} {ret : Option FieldType} {idx pc : Nat} {u0 : Int} {p1 : Int} {p2 : Int} (X : CX p m c cc nL s args own G B κ meth ret) (hu0 : okk κ 9 u0) (hp1 : inR p1) (hp2 : inR p2) {kc : Nat} {R : Room} {cells slots : Nat} (hRr : RmOK R kc) (hcel : cells ≤ R.cells ∧ slots ≤ R.slots) (hk : 4 + 1 ≤ kc) {M : Mem} {H : Heap} {locs : List Loc} (hR : Rp G e0 α κ B M H) (hS : va_S (fun q => B ≤ q) s.heap H locs) (k1 : Cond.methodLink own idx yX8_giveInProportion ∈ gw) {ls : Array Slot} (hml : ls.size = nL) {rest : List Value} (hd : decode cc pc = .ok (.invokevirtual idx, 3)) (hrest : (rest.map fun v => v.category).sum ≤ 8) {Q : State → Prop} {Qm : Mem → Prop} (hw : wp_X8_giveInProportion u0 p1 p2 M Qm) (kk : ∀ (M1 : Mem) (H1 : Heap) (locs1 : List Loc), Qm M1 → Rp G e0 α κ B M1 H1 → va_S (fun q => B ≤ q) s.heap H1 locs1 → W p l e R s m args below meth c H1 locs1 cells slots Q (F0 m (pc + 3) ls (rest))) : W p l e R s m args below meth c H locs cells slots Q (F0 m pc ls (.int (Int32.ofInt p2) :: .int (Int32.ofInt p1) :: .ref (α 9 u0) :: rest)) :=
  sa_callVV 4 (n := 2) (As := [.int (Int32.ofInt p1), .int (Int32.ofInt p2)]) (rest := rest) X.1 X.2.1 hR hS (m_X8_giveInProportion X.2.2.1 hu0 hp1 hp2 hw) k1 kw_501 kw_9 kw_43 kw_502 ⟨rfl, by decide +kernel, by decide +kernel, by decide +kernel⟩ (rm_ok hRr hk (by decide)) (rc_9 X hR hu0) rfl rfl hrest hml hd hcel kk
def wp_J7_fill_53178_5 (a0 : Nat) (b0 : Int) (p1 : Int) (Qm : Mem → Prop) : Nat → Int → Int → Mem → Prop
  | 0 => fun _ _ _ => False
  | n + 1 => fun y2 y3 M => ((y3 ≤ y2 → Qm M) ∧ (y2 < y3 → (0 ≤ y2 ∧ y2 < (alen a0 : Int)) ∧ ∀ M2 : Mem, M2 = up M a0 b0 y2 p1 → (inR (y2 + 1)) ∧ wp_J7_fill_53178_5 a0 b0 p1 Qm n (y2 + 1) y3 M2))
def wp_J7_fill_53178 (a0 : Nat) (b0 : Int) (p1 : Int) (M : Mem) (Qm : Mem → Prop) : Prop := (∃ n5 : Nat, wp_J7_fill_53178_5 a0 b0 p1 Qm n5 0 (alen a0 : Int) M)
set_option maxHeartbeats 4000000 in
set_option maxRecDepth 100000 in
theorem t_J7_fill_53178_5 {a0 : Nat} {b0 : Int} {p1 : Int} (X : CX p m c cJ7_fill_53178 4 s args RJ7 G B κ meth none) (ha0 : AI a0) (hoa0 : okk κ a0 b0) (hp1 : inR p1) {Qm : Mem → Prop} : ∀ n : Nat, ∀ y2 : Int, ∀ y3 : Int, ∀ M : Mem, wp_J7_fill_53178_5 a0 b0 p1 Qm n y2 y3 M → inR y2 → inR y3 → ∀ (H : Heap) (locs : List Loc), Rp G e0 α κ B M H → va_S (fun q => B ≤ q) s.heap H locs → ∀ (ls : Array Slot), lv_has ls 4 [(0, .ref (α a0 b0)), (1, .int (Int32.ofInt p1)), (2, .int (Int32.ofInt y2)), (3, .int (Int32.ofInt y3))] → WV p l e 0 s m args below meth c G e0 α κ B Qm H locs 5 ls [] := by
  intro n
  induction n with
  | zero =>
    intro y2 y3 M hw hy2 hy3 H locs hR hS ls hl
    exact hw.elim
  | succ n ih =>
    intro y2 y3 M hw hy2 hy3 H locs hR hS ls hl
    have hw : ((y3 ≤ y2 → Qm M) ∧ (y2 < y3 → (0 ≤ y2 ∧ y2 < (alen a0 : Int)) ∧ ∀ M2 : Mem, M2 = up M a0 b0 y2 p1 → (inR (y2 + 1)) ∧ wp_J7_fill_53178_5 a0 b0 p1 Qm n (y2 + 1) y3 M2)) := hw
    refine lv_iload_n X.1.1 X.1.2.1 dJ7_fill_53178_5 rfl (lv_at hl 2 rfl) ?_
    refine lv_iload_n X.1.1 X.1.2.1 dJ7_fill_53178_6 rfl (lv_at hl 3 rfl) ?_
    refine sa_icmp_ge (tgt := 20) X.1 hy2 hy3 dJ7_fill_53178_7 (by decide) (fun hc => ?_) (fun hc => ?_)
    · have hw := hw.1 hc
      exact sa_vret X.1 X.2.2.2.1 X.2.2.2.2 hR hS hw dJ7_fill_53178_20
    · have hw := hw.2 hc
      refine lv_aload_n X.1.1 X.1.2.1 dJ7_fill_53178_10 rfl (lv_at hl 0 rfl) ?_
      refine lv_iload_n X.1.1 X.1.2.1 dJ7_fill_53178_11 rfl (lv_at hl 2 rfl) ?_
      refine lv_iload_n X.1.1 X.1.2.1 dJ7_fill_53178_12 rfl (lv_at hl 1 rfl) ?_
      have c1 := hw.1
      have hw := hw.2
      refine wa_AI ha0 X hR hS hoa0 c1 hp1 dJ7_fill_53178_13 (fun H locs hR hS => ?_)
      obtain ⟨M2, e3⟩ : ∃ z : Mem, z = up M a0 b0 y2 p1 := ⟨_, rfl⟩
      rw [← e3] at hR
      have hw := hw M2 e3
      have c4 := hw.1
      have hw := hw.2
      refine lv_iinc (v := Int32.ofInt (y2 + 1)) (lv' := [(2, .int (Int32.ofInt (y2 + 1))), (0, .ref (α a0 b0)), (1, .int (Int32.ofInt p1)), (3, .int (Int32.ofInt y3))]) X.1.1 X.1.2.1 dJ7_fill_53178_14 hl (k := 2) rfl (Int32.ofInt_add _ _).symm (by decide) rfl (fun ls hl => ?_)
      refine lv_goto (tgt := 5) X.1.1 X.1.2.1 dJ7_fill_53178_17 (by decide) ?_
      exact ih _ _ _ hw c4 hy3 _ _ hR hS _ (lv_sub hl [1, 2, 0, 3] rfl)
set_option maxHeartbeats 4000000 in
set_option maxRecDepth 100000 in
theorem t_J7_fill_53178 {a0 : Nat} {b0 : Int} {p1 : Int} (X : CX p m c cJ7_fill_53178 4 s args RJ7 G B κ meth none) (ha0 : AI a0) (hoa0 : okk κ a0 b0) (hp1 : inR p1) {M : Mem} {Qm : Mem → Prop} (hw : wp_J7_fill_53178 a0 b0 p1 M Qm) (H : Heap) (locs : List Loc) (hR : Rp G e0 α κ B M H) (hS : va_S (fun q => B ≤ q) s.heap H locs) (ls : Array Slot) (hl : lv_has ls 4 [(0, .ref (α a0 b0)), (1, .int (Int32.ofInt p1))]) : WV p l e 0 s m args below meth c G e0 α κ B Qm H locs 0 ls [] := by
  have hw : (∃ n5 : Nat, wp_J7_fill_53178_5 a0 b0 p1 Qm n5 0 (alen a0 : Int) M) := hw
  refine sa_const X.1 dJ7_fill_53178_0 ?_
  refine lv_istore_n (lv' := [(2, .int (Int32.ofInt 0)), (0, .ref (α a0 b0)), (1, .int (Int32.ofInt p1))]) X.1.1 X.1.2.1 dJ7_fill_53178_1 rfl hl (by decide) rfl (fun ls hl => ?_)
  refine lv_aload_n X.1.1 X.1.2.1 dJ7_fill_53178_2 rfl (lv_at hl 1 rfl) ?_
  refine sa_alen ha0 X hR hoa0 dJ7_fill_53178_3 ?_
  refine lv_istore_n (lv' := [(3, .int (Int32.ofInt (alen a0 : Int))), (2, .int (Int32.ofInt 0)), (0, .ref (α a0 b0)), (1, .int (Int32.ofInt p1))]) X.1.1 X.1.2.1 dJ7_fill_53178_4 rfl hl (by decide) rfl (fun ls hl => ?_)
  obtain ⟨n5, hw⟩ := hw
  exact t_J7_fill_53178_5 X ha0 hoa0 hp1 n5 _ _ _ hw (inR_c (a := 0) rfl) (alen_R a0) _ _ hR hS _ (lv_sub hl [2, 3, 1, 0] rfl)
theorem m_J7_fill_53178 {l : Launch} {G : Gx} {e0 : Nat} {α : Ax} {κ : Nat → Int} {B : Nat} {a0 : Nat} {b0 : Int} {p1 : Int} (hκ : kOK κ) (ha0 : AI a0) (hoa0 : okk κ a0 b0) (hp1 : inR p1) {M : Mem} {Qm : Mem → Prop} (hw : wp_J7_fill_53178 a0 b0 p1 M Qm) : CV l yJ7_fill_53178 (Cond.code yJ7_fill_53178 cJ7_fill_53178 4 none) 0 G e0 α κ B [.ref (α a0 b0), .int (Int32.ofInt p1)] M Qm :=
  CV.mk hκ (by decide +kernel) rfl (Nat.le_of_ble_eq_true rfl) (lv := [(0, .ref (α a0 b0)), (1, .int (Int32.ofInt p1))]) rfl (fun p e s m args below meth c ls X hR hS hl => t_J7_fill_53178 X ha0 hoa0 hp1 hw _ _ hR hS ls hl)
theorem cs_J7_fill_53178 {cc : ByteArray} {nL : Nat} {own : String} {ret : Option FieldType} {idx pc : Nat} {a0 : Nat} {b0 : Int} {p1 : Int} (X : CX p m c cc nL s args own G B κ meth ret) (ha0 : AI a0) (hoa0 : okk κ a0 b0) (hp1 : inR p1) {kc : Nat} {R : Room} {cells slots : Nat} (hRr : RmOK R kc) (hcel : cells ≤ R.cells ∧ slots ≤ R.slots) (hk : 0 + 1 ≤ kc) {M : Mem} {H : Heap} {locs : List Loc} (hR : Rp G e0 α κ B M H) (hS : va_S (fun q => B ≤ q) s.heap H locs) (k1 : Cond.methodLink own idx yJ7_fill_53178 ∈ gw) {ls : Array Slot} (hml : ls.size = nL) {rest : List Value} (hd : decode cc pc = .ok (.invokestatic idx, 3)) (hrest : (rest.map fun v => v.category).sum ≤ 8) {Q : State → Prop} {Qm : Mem → Prop} (hw : wp_J7_fill_53178 a0 b0 p1 M Qm) (kk : ∀ (M1 : Mem) (H1 : Heap) (locs1 : List Loc), Qm M1 → Rp G e0 α κ B M1 H1 → va_S (fun q => B ≤ q) s.heap H1 locs1 → W p l e R s m args below meth c H1 locs1 cells slots Q (F0 m (pc + 3) ls (rest))) : W p l e R s m args below meth c H locs cells slots Q (F0 m pc ls (.int (Int32.ofInt p1) :: .ref (α a0 b0) :: rest)) :=
  sa_callSV 0 (n := 2) (As := [.ref (α a0 b0), .int (Int32.ofInt p1)]) (rest := rest) X.1 X.2.1 hR hS (m_J7_fill_53178 X.2.2.1 ha0 hoa0 hp1 hw) k1 kw_383 kw_48 kw_384 ⟨by decide +kernel, by decide +kernel, by decide +kernel⟩ (rm_ok hRr hk (by decide)) rfl rfl hrest hml hd hcel kk
def wp_X9_linesOfRowsOf_39 (u1 : Int) (p2 : Int) (p3 : Int) (Qm : Int → Mem → Prop) : Nat → Int → Int → Int → Mem → Prop
  | 0 => fun _ _ _ _ => False
  | n + 1 => fun y4 y5 y6 M => ((y5 ≤ y6 → Qm y4 M) ∧ (y6 < y5 → (0 ≤ y6 ∧ y6 < M 16 0 (-1)) ∧ wp_X6_linesOfItem 0 (M 6 (M 16 0 y6) 0) p2 p3 M fun (x12 : Int) (M11 : Mem) => (inR (y4 + x12)) ∧ (inR (y6 + 1)) ∧ wp_X9_linesOfRowsOf_39 u1 p2 p3 Qm n (y4 + x12) y5 (y6 + 1) M11))
def wp_X9_linesOfRowsOf (u1 : Int) (p2 : Int) (p3 : Int) (M : Mem) (Qm : Int → Mem → Prop) : Prop := (inR ((M 6 (M 1 u1 0) 6) + (M 1 u1 2))) ∧ (∃ n16 : Nat, wp_X9_linesOfRowsOf_39 u1 p2 p3 Qm n16 0 (min ((M 6 (M 1 u1 0) 6) + (M 1 u1 2)) (M 16 0 (-1))) (M 6 (M 1 u1 0) 6) M)
set_option maxHeartbeats 4000000 in
set_option maxRecDepth 100000 in
theorem t_X9_linesOfRowsOf_39 {u1 : Int} {p2 : Int} {p3 : Int} (X : CX p m c cX9_linesOfRowsOf 7 s args RX9 G B κ meth (some .int)) (hu1 : okk κ 1 u1) (hp2 : inR p2) (hp3 : inR p3) {Qm : Int → Mem → Prop} : ∀ n : Nat, ∀ y4 : Int, ∀ y5 : Int, ∀ y6 : Int, ∀ M : Mem, wp_X9_linesOfRowsOf_39 u1 p2 p3 Qm n y4 y5 y6 M → inR y4 → inR y5 → inR y6 → ∀ (H : Heap) (locs : List Loc), Rp G e0 α κ B M H → va_S (fun q => B ≤ q) s.heap H locs → ∀ (ls : Array Slot), lv_has ls 7 [(0, .ref (α 10 0)), (2, .int (Int32.ofInt p2)), (3, .int (Int32.ofInt p3)), (4, .int (Int32.ofInt y4)), (5, .int (Int32.ofInt y5)), (6, .int (Int32.ofInt y6))] → WI p l e 3 s m args below meth c G e0 α κ B Qm H locs 39 ls [] := by
  intro n
  induction n with
  | zero =>
    intro y4 y5 y6 M hw hy4 hy5 hy6 H locs hR hS ls hl
    exact hw.elim
  | succ n ih =>
    intro y4 y5 y6 M hw hy4 hy5 hy6 H locs hR hS ls hl
    have hw : ((y5 ≤ y6 → Qm y4 M) ∧ (y6 < y5 → (0 ≤ y6 ∧ y6 < M 16 0 (-1)) ∧ wp_X6_linesOfItem 0 (M 6 (M 16 0 y6) 0) p2 p3 M fun (x12 : Int) (M11 : Mem) => (inR (y4 + x12)) ∧ (inR (y6 + 1)) ∧ wp_X9_linesOfRowsOf_39 u1 p2 p3 Qm n (y4 + x12) y5 (y6 + 1) M11)) := hw
    refine lv_iload X.1.1 X.1.2.1 dX9_linesOfRowsOf_39 (lv_at hl 5 rfl) ?_
    refine lv_iload X.1.1 X.1.2.1 dX9_linesOfRowsOf_41 (lv_at hl 4 rfl) ?_
    refine sa_icmp_ge (tgt := 84) X.1 hy6 hy5 dX9_linesOfRowsOf_43 (by decide) (fun hc => ?_) (fun hc => ?_)
    · have hw := hw.1 hc
      refine lv_iload X.1.1 X.1.2.1 dX9_linesOfRowsOf_84 (lv_at hl 3 rfl) ?_
      exact sa_iret X.1 X.2.2.2.1 X.2.2.2.2 hR hS hy4 hw dX9_linesOfRowsOf_86
    · have hw := hw.2 hc
      refine lv_iload X.1.1 X.1.2.1 dX9_linesOfRowsOf_46 (lv_at hl 3 rfl) ?_
      refine lv_aload_n X.1.1 X.1.2.1 dX9_linesOfRowsOf_48 rfl (lv_at hl 0 rfl) ?_
      refine gt_10_5 X hR (okf X.2.2.1 rfl) kw_337 dX9_linesOfRowsOf_49 ?_
      refine lv_aload_n X.1.1 X.1.2.1 dX9_linesOfRowsOf_52 rfl (lv_at hl 0 rfl) ?_
      refine gt_10_0 X hR (okf X.2.2.1 rfl) kw_332 dX9_linesOfRowsOf_53 ?_
      refine gt_4_4 X hR (okf X.2.2.1 rfl) kw_126 dX9_linesOfRowsOf_56 ?_
      refine lv_iload X.1.1 X.1.2.1 dX9_linesOfRowsOf_59 (lv_at hl 5 rfl) ?_
      have c8 := hw.1
      have hw := hw.2
      refine ls_get (ci := 6) (by decide) (by decide) rfl X c8 (kc := 3) rmL_ok rm_c (by decide) hR hS kw_969 hl.1 dX9_linesOfRowsOf_61 (Nat.le_of_ble_eq_true rfl) (fun H locs o9 hR hS => ?_)
      refine ck_6 X hR o9 kw_970 dX9_linesOfRowsOf_64 ?_
      refine gt_6_0 X hR o9 kw_890 dX9_linesOfRowsOf_67 ?_
      have r10 := hR.r 6 (M 16 0 y6) 0
      refine lv_iload_n X.1.1 X.1.2.1 dX9_linesOfRowsOf_70 rfl (lv_at hl 1 rfl) ?_
      refine lv_iload_n X.1.1 X.1.2.1 dX9_linesOfRowsOf_71 rfl (lv_at hl 2 rfl) ?_
      refine cs_X6_linesOfItem X (okp X.2.2.1 rfl (by decide)) r10 hp2 hp3 (kc := 3) rmL_ok rm_c (by decide) hR hS kw_1367 hl.1 dX9_linesOfRowsOf_72 (Nat.le_of_ble_eq_true rfl) hw (fun x12 M11 H locs hw r13 hR hS => ?_)
      have c14 := hw.1
      have hw := hw.2
      refine sa_iadd X.1 dX9_linesOfRowsOf_75 ?_
      refine lv_istore (lv' := [(4, .int (Int32.ofInt (y4 + x12))), (0, .ref (α 10 0)), (2, .int (Int32.ofInt p2)), (3, .int (Int32.ofInt p3)), (5, .int (Int32.ofInt y5)), (6, .int (Int32.ofInt y6))]) X.1.1 X.1.2.1 dX9_linesOfRowsOf_76 hl (by decide) rfl (fun ls hl => ?_)
      have c15 := hw.1
      have hw := hw.2
      refine lv_iinc (v := Int32.ofInt (y6 + 1)) (lv' := [(6, .int (Int32.ofInt (y6 + 1))), (4, .int (Int32.ofInt (y4 + x12))), (0, .ref (α 10 0)), (2, .int (Int32.ofInt p2)), (3, .int (Int32.ofInt p3)), (5, .int (Int32.ofInt y5))]) X.1.1 X.1.2.1 dX9_linesOfRowsOf_78 hl (k := 5) rfl (Int32.ofInt_add _ _).symm (by decide) rfl (fun ls hl => ?_)
      refine lv_goto (tgt := 39) X.1.1 X.1.2.1 dX9_linesOfRowsOf_81 (by decide) ?_
      exact ih _ _ _ _ hw c14 hy5 c15 _ _ hR hS _ (lv_sub hl [2, 3, 4, 1, 5, 0] rfl)
set_option maxHeartbeats 4000000 in
set_option maxRecDepth 100000 in
theorem t_X9_linesOfRowsOf {u1 : Int} {p2 : Int} {p3 : Int} (X : CX p m c cX9_linesOfRowsOf 7 s args RX9 G B κ meth (some .int)) (hu1 : okk κ 1 u1) (hp2 : inR p2) (hp3 : inR p3) {M : Mem} {Qm : Int → Mem → Prop} (hw : wp_X9_linesOfRowsOf u1 p2 p3 M Qm) (H : Heap) (locs : List Loc) (hR : Rp G e0 α κ B M H) (hS : va_S (fun q => B ≤ q) s.heap H locs) (ls : Array Slot) (hl : lv_has ls 7 [(0, .ref (α 10 0)), (1, .ref (α 1 u1)), (2, .int (Int32.ofInt p2)), (3, .int (Int32.ofInt p3))]) : WI p l e 3 s m args below meth c G e0 α κ B Qm H locs 0 ls [] := by
  have hw : (inR ((M 6 (M 1 u1 0) 6) + (M 1 u1 2))) ∧ (∃ n16 : Nat, wp_X9_linesOfRowsOf_39 u1 p2 p3 Qm n16 0 (min ((M 6 (M 1 u1 0) 6) + (M 1 u1 2)) (M 16 0 (-1))) (M 6 (M 1 u1 0) 6) M) := hw
  refine sa_const X.1 dX9_linesOfRowsOf_0 ?_
  refine lv_istore (lv' := [(4, .int (Int32.ofInt 0)), (0, .ref (α 10 0)), (1, .ref (α 1 u1)), (2, .int (Int32.ofInt p2)), (3, .int (Int32.ofInt p3))]) X.1.1 X.1.2.1 dX9_linesOfRowsOf_1 hl (by decide) rfl (fun ls hl => ?_)
  refine lv_aload_n X.1.1 X.1.2.1 dX9_linesOfRowsOf_3 rfl (lv_at hl 2 rfl) ?_
  refine gt_1_0 X hR hu1 kw_985 dX9_linesOfRowsOf_4 ?_
  have o1 := hR.2.2.2.1 _ hu1
  refine gt_6_6 X hR o1 kw_906 dX9_linesOfRowsOf_7 ?_
  have r2 := hR.r 6 (M 1 u1 0) 6
  refine lv_aload_n X.1.1 X.1.2.1 dX9_linesOfRowsOf_10 rfl (lv_at hl 2 rfl) ?_
  refine gt_1_2 X hR hu1 kw_993 dX9_linesOfRowsOf_11 ?_
  have r3 := hR.r 1 u1 2
  have c4 := hw.1
  have hw := hw.2
  refine sa_iadd X.1 dX9_linesOfRowsOf_14 ?_
  refine lv_aload_n X.1.1 X.1.2.1 dX9_linesOfRowsOf_15 rfl (lv_at hl 1 rfl) ?_
  refine gt_10_0 X hR (okf X.2.2.1 rfl) kw_332 dX9_linesOfRowsOf_16 ?_
  refine gt_4_4 X hR (okf X.2.2.1 rfl) kw_126 dX9_linesOfRowsOf_19 ?_
  refine ls_size (by decide) (by decide) X (kc := 3) rmL_ok rm_c (by decide) hR hS kw_753 hl.1 dX9_linesOfRowsOf_22 (Nat.le_of_ble_eq_true rfl) (fun H locs hR hS => ?_)
  have r5 := hR.r 16 0 (-1)
  refine sa_min (R := rmL 3) X.1 c4 r5 kw_1408 hl.1 kmath_min_s kmath_i kmath_min_c (by decide) (Nat.le_of_ble_eq_true rfl) rm_c dX9_linesOfRowsOf_25 ?_
  refine lv_istore (lv' := [(5, .int (Int32.ofInt (min ((M 6 (M 1 u1 0) 6) + (M 1 u1 2)) (M 16 0 (-1))))), (4, .int (Int32.ofInt 0)), (0, .ref (α 10 0)), (1, .ref (α 1 u1)), (2, .int (Int32.ofInt p2)), (3, .int (Int32.ofInt p3))]) X.1.1 X.1.2.1 dX9_linesOfRowsOf_28 hl (by decide) rfl (fun ls hl => ?_)
  refine lv_aload_n X.1.1 X.1.2.1 dX9_linesOfRowsOf_30 rfl (lv_at hl 3 rfl) ?_
  refine gt_1_0 X hR hu1 kw_985 dX9_linesOfRowsOf_31 ?_
  have o6 := hR.2.2.2.1 _ hu1
  refine gt_6_6 X hR o6 kw_906 dX9_linesOfRowsOf_34 ?_
  have r7 := hR.r 6 (M 1 u1 0) 6
  refine lv_istore (lv' := [(6, .int (Int32.ofInt (M 6 (M 1 u1 0) 6))), (5, .int (Int32.ofInt (min ((M 6 (M 1 u1 0) 6) + (M 1 u1 2)) (M 16 0 (-1))))), (4, .int (Int32.ofInt 0)), (0, .ref (α 10 0)), (1, .ref (α 1 u1)), (2, .int (Int32.ofInt p2)), (3, .int (Int32.ofInt p3))]) X.1.1 X.1.2.1 dX9_linesOfRowsOf_37 hl (by decide) rfl (fun ls hl => ?_)
  obtain ⟨n16, hw⟩ := hw
  exact t_X9_linesOfRowsOf_39 X hu1 hp2 hp3 n16 _ _ _ _ hw (inR_c (a := 0) rfl) (inR_min c4 r5) r7 _ _ hR hS _ (lv_sub hl [3, 5, 6, 2, 1, 0] rfl)
theorem m_X9_linesOfRowsOf {l : Launch} {G : Gx} {e0 : Nat} {α : Ax} {κ : Nat → Int} {B : Nat} {u1 : Int} {p2 : Int} {p3 : Int} (hκ : kOK κ) (hu1 : okk κ 1 u1) (hp2 : inR p2) (hp3 : inR p3) {M : Mem} {Qm : Int → Mem → Prop} (hw : wp_X9_linesOfRowsOf u1 p2 p3 M Qm) : CI l yX9_linesOfRowsOf (Cond.code yX9_linesOfRowsOf cX9_linesOfRowsOf 7 (some .int)) 3 G e0 α κ B [.ref (α 10 0), .ref (α 1 u1), .int (Int32.ofInt p2), .int (Int32.ofInt p3)] M Qm :=
  CI.mk hκ (by decide +kernel) rfl (Nat.le_of_ble_eq_true rfl) (lv := [(0, .ref (α 10 0)), (1, .ref (α 1 u1)), (2, .int (Int32.ofInt p2)), (3, .int (Int32.ofInt p3))]) rfl (fun p e s m args below meth c ls X hR hS hl => t_X9_linesOfRowsOf X hu1 hp2 hp3 hw _ _ hR hS ls hl)
theorem cs_X9_linesOfRowsOf {cc : ByteArray} {nL : Nat} {own : String} {ret : Option FieldType} {idx pc : Nat} {u1 : Int} {p2 : Int} {p3 : Int} (X : CX p m c cc nL s args own G B κ meth ret) (hu1 : okk κ 1 u1) (hp2 : inR p2) (hp3 : inR p3) {kc : Nat} {R : Room} {cells slots : Nat} (hRr : RmOK R kc) (hcel : cells ≤ R.cells ∧ slots ≤ R.slots) (hk : 3 + 1 ≤ kc) {M : Mem} {H : Heap} {locs : List Loc} (hR : Rp G e0 α κ B M H) (hS : va_S (fun q => B ≤ q) s.heap H locs) (k1 : Cond.methodLink own idx yX9_linesOfRowsOf ∈ gw) {ls : Array Slot} (hml : ls.size = nL) {rest : List Value} (hd : decode cc pc = .ok (.invokevirtual idx, 3)) (hrest : (rest.map fun v => v.category).sum ≤ 8) {Q : State → Prop} {Qm : Int → Mem → Prop} (hw : wp_X9_linesOfRowsOf u1 p2 p3 M Qm) (kk : ∀ (r : Int) (M1 : Mem) (H1 : Heap) (locs1 : List Loc), Qm r M1 → inR r → Rp G e0 α κ B M1 H1 → va_S (fun q => B ≤ q) s.heap H1 locs1 → W p l e R s m args below meth c H1 locs1 cells slots Q (F0 m (pc + 3) ls (.int (Int32.ofInt r) :: rest))) : W p l e R s m args below meth c H locs cells slots Q (F0 m pc ls (.int (Int32.ofInt p3) :: .int (Int32.ofInt p2) :: .ref (α 1 u1) :: .ref (α 10 0) :: rest)) :=
  sa_callVI 3 (n := 3) (As := [.ref (α 1 u1), .int (Int32.ofInt p2), .int (Int32.ofInt p3)]) (rest := rest) X.1 X.2.1 hR hS (m_X9_linesOfRowsOf X.2.2.1 hu1 hp2 hp3 hw) k1 kw_1406 kw_35 kw_38 kw_1407 ⟨rfl, by decide +kernel, by decide +kernel, by decide +kernel⟩ (rm_ok hRr hk (by decide)) (rc_10 X hR (okf X.2.2.1 rfl)) rfl rfl hrest hml hd hcel kk
end
