theorem dX0_init_0 : decode cX0_init 0 = .ok (.aload_n 0, 1) := by decide +kernel
theorem dX0_init_1 : decode cX0_init 1 = .ok (.invokespecial 5, 3) := by decide +kernel
theorem dX0_init_4 : decode cX0_init 4 = .ok (.aload_n 0, 1) := by decide +kernel
theorem dX0_init_5 : decode cX0_init 5 = .ok (.sipush 459, 3) := by decide +kernel
theorem dX0_init_8 : decode cX0_init 8 = .ok (.newarray .int, 2) := by decide +kernel
theorem dX0_init_10 : decode cX0_init 10 = .ok (.putfield 11, 3) := by decide +kernel
theorem dX0_init_13 : decode cX0_init 13 = .ok (.sipush 320, 3) := by decide +kernel
theorem dX0_init_16 : decode cX0_init 16 = .ok (.istore_n 1, 1) := by decide +kernel
theorem dX0_init_17 : decode cX0_init 17 = .ok (.iload_n 1, 1) := by decide +kernel
theorem dX0_init_18 : decode cX0_init 18 = .ok (.sipush 448, 3) := by decide +kernel
theorem dX0_init_21 : decode cX0_init 21 = .ok (.if_icmp .ge 16, 3) := by decide +kernel
theorem dX0_init_24 : decode cX0_init 24 = .ok (.aload_n 0, 1) := by decide +kernel
theorem dX0_init_25 : decode cX0_init 25 = .ok (.getfield 11, 3) := by decide +kernel
theorem dX0_init_28 : decode cX0_init 28 = .ok (.iload_n 1, 1) := by decide +kernel
theorem dX0_init_29 : decode cX0_init 29 = .ok (.iconst (-1), 1) := by decide +kernel
theorem dX0_init_30 : decode cX0_init 30 = .ok (.iastore, 1) := by decide +kernel
theorem dX0_init_31 : decode cX0_init 31 = .ok (.iinc 1 1, 3) := by decide +kernel
theorem dX0_init_34 : decode cX0_init 34 = .ok (.goto (-17), 3) := by decide +kernel
theorem dX0_init_37 : decode cX0_init 37 = .ok (.aload_n 0, 1) := by decide +kernel
theorem dX0_init_38 : decode cX0_init 38 = .ok (.getfield 11, 3) := by decide +kernel
theorem dX0_init_41 : decode cX0_init 41 = .ok (.sipush 457, 3) := by decide +kernel
theorem dX0_init_44 : decode cX0_init 44 = .ok (.iconst 2, 1) := by decide +kernel
theorem dX0_init_45 : decode cX0_init 45 = .ok (.iastore, 1) := by decide +kernel
theorem dX0_init_46 : decode cX0_init 46 = .ok (.aload_n 0, 1) := by decide +kernel
theorem dX0_init_47 : decode cX0_init 47 = .ok (.getfield 11, 3) := by decide +kernel
theorem dX0_init_50 : decode cX0_init 50 = .ok (.sipush 458, 3) := by decide +kernel
theorem dX0_init_53 : decode cX0_init 53 = .ok (.iconst 3, 1) := by decide +kernel
theorem dX0_init_54 : decode cX0_init 54 = .ok (.iastore, 1) := by decide +kernel
theorem dX0_init_55 : decode cX0_init 55 = .ok (.return_, 1) := by decide +kernel
theorem dX0_value_0 : decode cX0_value 0 = .ok (.iload_n 1, 1) := by decide +kernel
theorem dX0_value_1 : decode cX0_value 1 = .ok (.ifCond .lt 19, 3) := by decide +kernel
theorem dX0_value_4 : decode cX0_value 4 = .ok (.iload_n 1, 1) := by decide +kernel
theorem dX0_value_5 : decode cX0_value 5 = .ok (.bipush 32, 2) := by decide +kernel
theorem dX0_value_7 : decode cX0_value 7 = .ok (.if_icmp .ge 13, 3) := by decide +kernel
theorem dX0_value_10 : decode cX0_value 10 = .ok (.iload_n 2, 1) := by decide +kernel
theorem dX0_value_11 : decode cX0_value 11 = .ok (.ifCond .lt 9, 3) := by decide +kernel
theorem dX0_value_14 : decode cX0_value 14 = .ok (.iload_n 2, 1) := by decide +kernel
theorem dX0_value_15 : decode cX0_value 15 = .ok (.bipush 10, 2) := by decide +kernel
theorem dX0_value_17 : decode cX0_value 17 = .ok (.if_icmp .lt 5, 3) := by decide +kernel
theorem dX0_value_20 : decode cX0_value 20 = .ok (.iconst 0, 1) := by decide +kernel
theorem dX0_value_21 : decode cX0_value 21 = .ok (.ireturn, 1) := by decide +kernel
theorem dX0_value_22 : decode cX0_value 22 = .ok (.aload_n 0, 1) := by decide +kernel
theorem dX0_value_23 : decode cX0_value 23 = .ok (.getfield 11, 3) := by decide +kernel
theorem dX0_value_26 : decode cX0_value 26 = .ok (.iload_n 2, 1) := by decide +kernel
theorem dX0_value_27 : decode cX0_value 27 = .ok (.bipush 32, 2) := by decide +kernel
theorem dX0_value_29 : decode cX0_value 29 = .ok (.imul, 1) := by decide +kernel
theorem dX0_value_30 : decode cX0_value 30 = .ok (.iload_n 1, 1) := by decide +kernel
theorem dX0_value_31 : decode cX0_value 31 = .ok (.iadd, 1) := by decide +kernel
theorem dX0_value_32 : decode cX0_value 32 = .ok (.iaload, 1) := by decide +kernel
theorem dX0_value_33 : decode cX0_value 33 = .ok (.ireturn, 1) := by decide +kernel
theorem dX0_setValue_0 : decode cX0_setValue 0 = .ok (.iload_n 1, 1) := by decide +kernel
theorem dX0_setValue_1 : decode cX0_setValue 1 = .ok (.ifCond .lt 19, 3) := by decide +kernel
theorem dX0_setValue_4 : decode cX0_setValue 4 = .ok (.iload_n 1, 1) := by decide +kernel
theorem dX0_setValue_5 : decode cX0_setValue 5 = .ok (.bipush 32, 2) := by decide +kernel
theorem dX0_setValue_7 : decode cX0_setValue 7 = .ok (.if_icmp .ge 13, 3) := by decide +kernel
theorem dX0_setValue_10 : decode cX0_setValue 10 = .ok (.iload_n 2, 1) := by decide +kernel
theorem dX0_setValue_11 : decode cX0_setValue 11 = .ok (.ifCond .lt 9, 3) := by decide +kernel
theorem dX0_setValue_14 : decode cX0_setValue 14 = .ok (.iload_n 2, 1) := by decide +kernel
theorem dX0_setValue_15 : decode cX0_setValue 15 = .ok (.bipush 10, 2) := by decide +kernel
theorem dX0_setValue_17 : decode cX0_setValue 17 = .ok (.if_icmp .lt 4, 3) := by decide +kernel
theorem dX0_setValue_20 : decode cX0_setValue 20 = .ok (.return_, 1) := by decide +kernel
theorem dX0_setValue_21 : decode cX0_setValue 21 = .ok (.aload_n 0, 1) := by decide +kernel
theorem dX0_setValue_22 : decode cX0_setValue 22 = .ok (.getfield 11, 3) := by decide +kernel
theorem dX0_setValue_25 : decode cX0_setValue 25 = .ok (.iload_n 2, 1) := by decide +kernel
theorem dX0_setValue_26 : decode cX0_setValue 26 = .ok (.bipush 32, 2) := by decide +kernel
theorem dX0_setValue_28 : decode cX0_setValue 28 = .ok (.imul, 1) := by decide +kernel
theorem dX0_setValue_29 : decode cX0_setValue 29 = .ok (.iload_n 1, 1) := by decide +kernel
theorem dX0_setValue_30 : decode cX0_setValue 30 = .ok (.iadd, 1) := by decide +kernel
theorem dX0_setValue_31 : decode cX0_setValue 31 = .ok (.iload_n 3, 1) := by decide +kernel
theorem dX0_setValue_32 : decode cX0_setValue 32 = .ok (.iastore, 1) := by decide +kernel
theorem dX0_setValue_33 : decode cX0_setValue 33 = .ok (.return_, 1) := by decide +kernel
theorem dX0_addToValue_0 : decode cX0_addToValue 0 = .ok (.aload_n 0, 1) := by decide +kernel
theorem dX0_addToValue_1 : decode cX0_addToValue 1 = .ok (.iload_n 1, 1) := by decide +kernel
theorem dX0_addToValue_2 : decode cX0_addToValue 2 = .ok (.iload_n 2, 1) := by decide +kernel
theorem dX0_addToValue_3 : decode cX0_addToValue 3 = .ok (.aload_n 0, 1) := by decide +kernel
theorem dX0_addToValue_4 : decode cX0_addToValue 4 = .ok (.iload_n 1, 1) := by decide +kernel
theorem dX0_addToValue_5 : decode cX0_addToValue 5 = .ok (.iload_n 2, 1) := by decide +kernel
theorem dX0_addToValue_6 : decode cX0_addToValue 6 = .ok (.invokevirtual 15, 3) := by decide +kernel
theorem dX0_addToValue_9 : decode cX0_addToValue 9 = .ok (.iload_n 3, 1) := by decide +kernel
theorem dX0_addToValue_10 : decode cX0_addToValue 10 = .ok (.iadd, 1) := by decide +kernel
theorem dX0_addToValue_11 : decode cX0_addToValue 11 = .ok (.invokevirtual 19, 3) := by decide +kernel
theorem dX0_addToValue_14 : decode cX0_addToValue 14 = .ok (.return_, 1) := by decide +kernel
theorem dX0_parentOf_0 : decode cX0_parentOf 0 = .ok (.iload_n 1, 1) := by decide +kernel
theorem dX0_parentOf_1 : decode cX0_parentOf 1 = .ok (.ifCond .lt 18, 3) := by decide +kernel
theorem dX0_parentOf_4 : decode cX0_parentOf 4 = .ok (.iload_n 1, 1) := by decide +kernel
theorem dX0_parentOf_5 : decode cX0_parentOf 5 = .ok (.bipush 32, 2) := by decide +kernel
theorem dX0_parentOf_7 : decode cX0_parentOf 7 = .ok (.if_icmp .ge 12, 3) := by decide +kernel
theorem dX0_parentOf_10 : decode cX0_parentOf 10 = .ok (.iload_n 2, 1) := by decide +kernel
theorem dX0_parentOf_11 : decode cX0_parentOf 11 = .ok (.ifCond .lt 8, 3) := by decide +kernel
theorem dX0_parentOf_14 : decode cX0_parentOf 14 = .ok (.iload_n 2, 1) := by decide +kernel
theorem dX0_parentOf_15 : decode cX0_parentOf 15 = .ok (.iconst 4, 1) := by decide +kernel
theorem dX0_parentOf_16 : decode cX0_parentOf 16 = .ok (.if_icmp .lt 5, 3) := by decide +kernel
theorem dX0_parentOf_19 : decode cX0_parentOf 19 = .ok (.iconst (-1), 1) := by decide +kernel
theorem dX0_parentOf_20 : decode cX0_parentOf 20 = .ok (.ireturn, 1) := by decide +kernel
theorem dX0_parentOf_21 : decode cX0_parentOf 21 = .ok (.aload_n 0, 1) := by decide +kernel
theorem dX0_parentOf_22 : decode cX0_parentOf 22 = .ok (.getfield 11, 3) := by decide +kernel
theorem dX0_parentOf_25 : decode cX0_parentOf 25 = .ok (.sipush 320, 3) := by decide +kernel
theorem dX0_parentOf_28 : decode cX0_parentOf 28 = .ok (.iload_n 2, 1) := by decide +kernel
theorem dX0_parentOf_29 : decode cX0_parentOf 29 = .ok (.bipush 32, 2) := by decide +kernel
theorem dX0_parentOf_31 : decode cX0_parentOf 31 = .ok (.imul, 1) := by decide +kernel
theorem dX0_parentOf_32 : decode cX0_parentOf 32 = .ok (.iadd, 1) := by decide +kernel
theorem dX0_parentOf_33 : decode cX0_parentOf 33 = .ok (.iload_n 1, 1) := by decide +kernel
theorem dX0_parentOf_34 : decode cX0_parentOf 34 = .ok (.iadd, 1) := by decide +kernel
theorem dX0_parentOf_35 : decode cX0_parentOf 35 = .ok (.iaload, 1) := by decide +kernel
theorem dX0_parentOf_36 : decode cX0_parentOf 36 = .ok (.ireturn, 1) := by decide +kernel
theorem dX0_moveTo_0 : decode cX0_moveTo 0 = .ok (.iload_n 1, 1) := by decide +kernel
theorem dX0_moveTo_1 : decode cX0_moveTo 1 = .ok (.ifCond .lt 18, 3) := by decide +kernel
theorem dX0_moveTo_4 : decode cX0_moveTo 4 = .ok (.iload_n 1, 1) := by decide +kernel
theorem dX0_moveTo_5 : decode cX0_moveTo 5 = .ok (.bipush 32, 2) := by decide +kernel
theorem dX0_moveTo_7 : decode cX0_moveTo 7 = .ok (.if_icmp .ge 12, 3) := by decide +kernel
theorem dX0_moveTo_10 : decode cX0_moveTo 10 = .ok (.iload_n 2, 1) := by decide +kernel
theorem dX0_moveTo_11 : decode cX0_moveTo 11 = .ok (.ifCond .lt 8, 3) := by decide +kernel
theorem dX0_moveTo_14 : decode cX0_moveTo 14 = .ok (.iload_n 2, 1) := by decide +kernel
theorem dX0_moveTo_15 : decode cX0_moveTo 15 = .ok (.iconst 4, 1) := by decide +kernel
theorem dX0_moveTo_16 : decode cX0_moveTo 16 = .ok (.if_icmp .lt 4, 3) := by decide +kernel
theorem dX0_moveTo_19 : decode cX0_moveTo 19 = .ok (.return_, 1) := by decide +kernel
theorem dX0_moveTo_20 : decode cX0_moveTo 20 = .ok (.sipush 320, 3) := by decide +kernel
theorem dX0_moveTo_23 : decode cX0_moveTo 23 = .ok (.iload_n 2, 1) := by decide +kernel
theorem dX0_moveTo_24 : decode cX0_moveTo 24 = .ok (.bipush 32, 2) := by decide +kernel
theorem dX0_moveTo_26 : decode cX0_moveTo 26 = .ok (.imul, 1) := by decide +kernel
theorem dX0_moveTo_27 : decode cX0_moveTo 27 = .ok (.iadd, 1) := by decide +kernel
theorem dX0_moveTo_28 : decode cX0_moveTo 28 = .ok (.iload_n 1, 1) := by decide +kernel
theorem dX0_moveTo_29 : decode cX0_moveTo 29 = .ok (.iadd, 1) := by decide +kernel
theorem dX0_moveTo_30 : decode cX0_moveTo 30 = .ok (.istore 4, 2) := by decide +kernel
theorem dX0_moveTo_32 : decode cX0_moveTo 32 = .ok (.aload_n 0, 1) := by decide +kernel
theorem dX0_moveTo_33 : decode cX0_moveTo 33 = .ok (.aload_n 0, 1) := by decide +kernel
theorem dX0_moveTo_34 : decode cX0_moveTo 34 = .ok (.getfield 11, 3) := by decide +kernel
theorem dX0_moveTo_37 : decode cX0_moveTo 37 = .ok (.iload 4, 2) := by decide +kernel
theorem dX0_moveTo_39 : decode cX0_moveTo 39 = .ok (.iaload, 1) := by decide +kernel
theorem dX0_moveTo_40 : decode cX0_moveTo 40 = .ok (.iload_n 2, 1) := by decide +kernel
theorem dX0_moveTo_41 : decode cX0_moveTo 41 = .ok (.iconst (-1), 1) := by decide +kernel
theorem dX0_moveTo_42 : decode cX0_moveTo 42 = .ok (.invokevirtual 23, 3) := by decide +kernel
theorem dX0_moveTo_45 : decode cX0_moveTo 45 = .ok (.aload_n 0, 1) := by decide +kernel
theorem dX0_moveTo_46 : decode cX0_moveTo 46 = .ok (.getfield 11, 3) := by decide +kernel
theorem dX0_moveTo_49 : decode cX0_moveTo 49 = .ok (.iload 4, 2) := by decide +kernel
theorem dX0_moveTo_51 : decode cX0_moveTo 51 = .ok (.iload_n 3, 1) := by decide +kernel
theorem dX0_moveTo_52 : decode cX0_moveTo 52 = .ok (.iastore, 1) := by decide +kernel
theorem dX0_moveTo_53 : decode cX0_moveTo 53 = .ok (.aload_n 0, 1) := by decide +kernel
theorem dX0_moveTo_54 : decode cX0_moveTo 54 = .ok (.iload_n 3, 1) := by decide +kernel
theorem dX0_moveTo_55 : decode cX0_moveTo 55 = .ok (.iload_n 2, 1) := by decide +kernel
theorem dX0_moveTo_56 : decode cX0_moveTo 56 = .ok (.iconst 1, 1) := by decide +kernel
theorem dX0_moveTo_57 : decode cX0_moveTo 57 = .ok (.invokevirtual 23, 3) := by decide +kernel
theorem dX0_moveTo_60 : decode cX0_moveTo 60 = .ok (.return_, 1) := by decide +kernel
theorem dX0_addChildren_0 : decode cX0_addChildren 0 = .ok (.aload_n 0, 1) := by decide +kernel
theorem dX0_addChildren_1 : decode cX0_addChildren 1 = .ok (.iload_n 1, 1) := by decide +kernel
theorem dX0_addChildren_2 : decode cX0_addChildren 2 = .ok (.iconst 5, 1) := by decide +kernel
theorem dX0_addChildren_3 : decode cX0_addChildren 3 = .ok (.invokevirtual 15, 3) := by decide +kernel
theorem dX0_addChildren_6 : decode cX0_addChildren 6 = .ok (.iload_n 3, 1) := by decide +kernel
theorem dX0_addChildren_7 : decode cX0_addChildren 7 = .ok (.iadd, 1) := by decide +kernel
theorem dX0_addChildren_8 : decode cX0_addChildren 8 = .ok (.istore 4, 2) := by decide +kernel
theorem dX0_addChildren_10 : decode cX0_addChildren 10 = .ok (.aload_n 0, 1) := by decide +kernel
theorem dX0_addChildren_11 : decode cX0_addChildren 11 = .ok (.iload_n 1, 1) := by decide +kernel
theorem dX0_addChildren_12 : decode cX0_addChildren 12 = .ok (.iconst 5, 1) := by decide +kernel
theorem dX0_addChildren_13 : decode cX0_addChildren 13 = .ok (.iload 4, 2) := by decide +kernel
theorem dX0_addChildren_15 : decode cX0_addChildren 15 = .ok (.invokevirtual 19, 3) := by decide +kernel
theorem dX0_addChildren_18 : decode cX0_addChildren 18 = .ok (.aload_n 0, 1) := by decide +kernel
theorem dX0_addChildren_19 : decode cX0_addChildren 19 = .ok (.iload_n 1, 1) := by decide +kernel
theorem dX0_addChildren_20 : decode cX0_addChildren 20 = .ok (.bipush 6, 2) := by decide +kernel
theorem dX0_addChildren_22 : decode cX0_addChildren 22 = .ok (.iload 4, 2) := by decide +kernel
theorem dX0_addChildren_24 : decode cX0_addChildren 24 = .ok (.ifCond .ne 7, 3) := by decide +kernel
theorem dX0_addChildren_27 : decode cX0_addChildren 27 = .ok (.iconst (-1), 1) := by decide +kernel
theorem dX0_addChildren_28 : decode cX0_addChildren 28 = .ok (.goto 4, 3) := by decide +kernel
theorem dX0_addChildren_31 : decode cX0_addChildren 31 = .ok (.iload_n 2, 1) := by decide +kernel
theorem dX0_addChildren_32 : decode cX0_addChildren 32 = .ok (.invokevirtual 19, 3) := by decide +kernel
theorem dX0_addChildren_35 : decode cX0_addChildren 35 = .ok (.return_, 1) := by decide +kernel
theorem dX0_figure_0 : decode cX0_figure 0 = .ok (.iload_n 1, 1) := by decide +kernel
theorem dX0_figure_1 : decode cX0_figure 1 = .ok (.ifCond .lt 9, 3) := by decide +kernel
theorem dX0_figure_4 : decode cX0_figure 4 = .ok (.iload_n 1, 1) := by decide +kernel
theorem dX0_figure_5 : decode cX0_figure 5 = .ok (.bipush 11, 2) := by decide +kernel
theorem dX0_figure_7 : decode cX0_figure 7 = .ok (.if_icmp .lt 5, 3) := by decide +kernel
theorem dX0_figure_10 : decode cX0_figure 10 = .ok (.iconst 0, 1) := by decide +kernel
theorem dX0_figure_11 : decode cX0_figure 11 = .ok (.ireturn, 1) := by decide +kernel
theorem dX0_figure_12 : decode cX0_figure 12 = .ok (.aload_n 0, 1) := by decide +kernel
theorem dX0_figure_13 : decode cX0_figure 13 = .ok (.getfield 11, 3) := by decide +kernel
theorem dX0_figure_16 : decode cX0_figure 16 = .ok (.sipush 448, 3) := by decide +kernel
theorem dX0_figure_19 : decode cX0_figure 19 = .ok (.iload_n 1, 1) := by decide +kernel
theorem dX0_figure_20 : decode cX0_figure 20 = .ok (.iadd, 1) := by decide +kernel
theorem dX0_figure_21 : decode cX0_figure 21 = .ok (.iaload, 1) := by decide +kernel
theorem dX0_figure_22 : decode cX0_figure 22 = .ok (.ireturn, 1) := by decide +kernel
theorem dX0_setFigure_0 : decode cX0_setFigure 0 = .ok (.iload_n 1, 1) := by decide +kernel
theorem dX0_setFigure_1 : decode cX0_setFigure 1 = .ok (.ifCond .lt 9, 3) := by decide +kernel
theorem dX0_setFigure_4 : decode cX0_setFigure 4 = .ok (.iload_n 1, 1) := by decide +kernel
theorem dX0_setFigure_5 : decode cX0_setFigure 5 = .ok (.bipush 11, 2) := by decide +kernel
theorem dX0_setFigure_7 : decode cX0_setFigure 7 = .ok (.if_icmp .lt 4, 3) := by decide +kernel
theorem dX0_setFigure_10 : decode cX0_setFigure 10 = .ok (.return_, 1) := by decide +kernel
theorem dX0_setFigure_11 : decode cX0_setFigure 11 = .ok (.aload_n 0, 1) := by decide +kernel
theorem dX0_setFigure_12 : decode cX0_setFigure 12 = .ok (.getfield 11, 3) := by decide +kernel
theorem dX0_setFigure_15 : decode cX0_setFigure 15 = .ok (.sipush 448, 3) := by decide +kernel
theorem dX0_setFigure_18 : decode cX0_setFigure 18 = .ok (.iload_n 1, 1) := by decide +kernel
theorem dX0_setFigure_19 : decode cX0_setFigure 19 = .ok (.iadd, 1) := by decide +kernel
theorem dX0_setFigure_20 : decode cX0_setFigure 20 = .ok (.iload_n 2, 1) := by decide +kernel
theorem dX0_setFigure_21 : decode cX0_setFigure 21 = .ok (.iastore, 1) := by decide +kernel
theorem dX0_setFigure_22 : decode cX0_setFigure 22 = .ok (.return_, 1) := by decide +kernel
theorem dX0_addToFigure_0 : decode cX0_addToFigure 0 = .ok (.aload_n 0, 1) := by decide +kernel
theorem dX0_addToFigure_1 : decode cX0_addToFigure 1 = .ok (.iload_n 1, 1) := by decide +kernel
theorem dX0_addToFigure_2 : decode cX0_addToFigure 2 = .ok (.aload_n 0, 1) := by decide +kernel
theorem dX0_addToFigure_3 : decode cX0_addToFigure 3 = .ok (.iload_n 1, 1) := by decide +kernel
theorem dX0_addToFigure_4 : decode cX0_addToFigure 4 = .ok (.invokevirtual 26, 3) := by decide +kernel
theorem dX0_addToFigure_7 : decode cX0_addToFigure 7 = .ok (.iload_n 2, 1) := by decide +kernel
theorem dX0_addToFigure_8 : decode cX0_addToFigure 8 = .ok (.iadd, 1) := by decide +kernel
theorem dX0_addToFigure_9 : decode cX0_addToFigure 9 = .ok (.invokevirtual 30, 3) := by decide +kernel
theorem dX0_addToFigure_12 : decode cX0_addToFigure 12 = .ok (.return_, 1) := by decide +kernel
theorem dX0_copyTo_0 : decode cX0_copyTo 0 = .ok (.iload_n 2, 1) := by decide +kernel
theorem dX0_copyTo_1 : decode cX0_copyTo 1 = .ok (.ifCond .lt 26, 3) := by decide +kernel
theorem dX0_copyTo_4 : decode cX0_copyTo 4 = .ok (.iload_n 2, 1) := by decide +kernel
theorem dX0_copyTo_5 : decode cX0_copyTo 5 = .ok (.aload_n 1, 1) := by decide +kernel
theorem dX0_copyTo_6 : decode cX0_copyTo 6 = .ok (.arraylength, 1) := by decide +kernel
theorem dX0_copyTo_7 : decode cX0_copyTo 7 = .ok (.sipush 459, 3) := by decide +kernel
theorem dX0_copyTo_10 : decode cX0_copyTo 10 = .ok (.isub, 1) := by decide +kernel
theorem dX0_copyTo_11 : decode cX0_copyTo 11 = .ok (.if_icmp .gt 16, 3) := by decide +kernel
theorem dX0_copyTo_14 : decode cX0_copyTo 14 = .ok (.aload_n 0, 1) := by decide +kernel
theorem dX0_copyTo_15 : decode cX0_copyTo 15 = .ok (.getfield 11, 3) := by decide +kernel
theorem dX0_copyTo_18 : decode cX0_copyTo 18 = .ok (.iconst 0, 1) := by decide +kernel
theorem dX0_copyTo_19 : decode cX0_copyTo 19 = .ok (.aload_n 1, 1) := by decide +kernel
theorem dX0_copyTo_20 : decode cX0_copyTo 20 = .ok (.iload_n 2, 1) := by decide +kernel
theorem dX0_copyTo_21 : decode cX0_copyTo 21 = .ok (.sipush 459, 3) := by decide +kernel
theorem dX0_copyTo_24 : decode cX0_copyTo 24 = .ok (.invokestatic 34, 3) := by decide +kernel
theorem dX0_copyTo_27 : decode cX0_copyTo 27 = .ok (.return_, 1) := by decide +kernel
theorem dX0_copyFrom_0 : decode cX0_copyFrom 0 = .ok (.iload_n 2, 1) := by decide +kernel
theorem dX0_copyFrom_1 : decode cX0_copyFrom 1 = .ok (.ifCond .lt 26, 3) := by decide +kernel
theorem dX0_copyFrom_4 : decode cX0_copyFrom 4 = .ok (.iload_n 2, 1) := by decide +kernel
theorem dX0_copyFrom_5 : decode cX0_copyFrom 5 = .ok (.aload_n 1, 1) := by decide +kernel
theorem dX0_copyFrom_6 : decode cX0_copyFrom 6 = .ok (.arraylength, 1) := by decide +kernel
theorem dX0_copyFrom_7 : decode cX0_copyFrom 7 = .ok (.sipush 459, 3) := by decide +kernel
theorem dX0_copyFrom_10 : decode cX0_copyFrom 10 = .ok (.isub, 1) := by decide +kernel
theorem dX0_copyFrom_11 : decode cX0_copyFrom 11 = .ok (.if_icmp .gt 16, 3) := by decide +kernel
theorem dX0_copyFrom_14 : decode cX0_copyFrom 14 = .ok (.aload_n 1, 1) := by decide +kernel
theorem dX0_copyFrom_15 : decode cX0_copyFrom 15 = .ok (.iload_n 2, 1) := by decide +kernel
theorem dX0_copyFrom_16 : decode cX0_copyFrom 16 = .ok (.aload_n 0, 1) := by decide +kernel
theorem dX0_copyFrom_17 : decode cX0_copyFrom 17 = .ok (.getfield 11, 3) := by decide +kernel
theorem dX0_copyFrom_20 : decode cX0_copyFrom 20 = .ok (.iconst 0, 1) := by decide +kernel
theorem dX0_copyFrom_21 : decode cX0_copyFrom 21 = .ok (.sipush 459, 3) := by decide +kernel
theorem dX0_copyFrom_24 : decode cX0_copyFrom 24 = .ok (.invokestatic 34, 3) := by decide +kernel
theorem dX0_copyFrom_27 : decode cX0_copyFrom 27 = .ok (.return_, 1) := by decide +kernel
theorem dX1_init_0 : decode cX1_init 0 = .ok (.aload_n 0, 1) := by decide +kernel
theorem dX1_init_1 : decode cX1_init 1 = .ok (.invokespecial 3, 3) := by decide +kernel
theorem dX1_init_4 : decode cX1_init 4 = .ok (.aload_n 0, 1) := by decide +kernel
theorem dX1_init_5 : decode cX1_init 5 = .ok (.new 9, 3) := by decide +kernel
theorem dX1_init_8 : decode cX1_init 8 = .ok (.dup, 1) := by decide +kernel
theorem dX1_init_9 : decode cX1_init 9 = .ok (.invokespecial 11, 3) := by decide +kernel
theorem dX1_init_12 : decode cX1_init 12 = .ok (.putfield 12, 3) := by decide +kernel
theorem dX1_init_15 : decode cX1_init 15 = .ok (.return_, 1) := by decide +kernel
theorem dX1_depthOf_0 : decode cX1_depthOf 0 = .ok (.iload_n 1, 1) := by decide +kernel
theorem dX1_depthOf_1 : decode cX1_depthOf 1 = .ok (.istore_n 3, 1) := by decide +kernel
theorem dX1_depthOf_2 : decode cX1_depthOf 2 = .ok (.iconst 0, 1) := by decide +kernel
theorem dX1_depthOf_3 : decode cX1_depthOf 3 = .ok (.istore 4, 2) := by decide +kernel
theorem dX1_depthOf_5 : decode cX1_depthOf 5 = .ok (.iload 4, 2) := by decide +kernel
theorem dX1_depthOf_7 : decode cX1_depthOf 7 = .ok (.bipush 32, 2) := by decide +kernel
theorem dX1_depthOf_9 : decode cX1_depthOf 9 = .ok (.if_icmp .gt 35, 3) := by decide +kernel
theorem dX1_depthOf_12 : decode cX1_depthOf 12 = .ok (.iload_n 3, 1) := by decide +kernel
theorem dX1_depthOf_13 : decode cX1_depthOf 13 = .ok (.bipush 100, 2) := by decide +kernel
theorem dX1_depthOf_15 : decode cX1_depthOf 15 = .ok (.if_icmp .ne 6, 3) := by decide +kernel
theorem dX1_depthOf_18 : decode cX1_depthOf 18 = .ok (.iload 4, 2) := by decide +kernel
theorem dX1_depthOf_20 : decode cX1_depthOf 20 = .ok (.ireturn, 1) := by decide +kernel
theorem dX1_depthOf_21 : decode cX1_depthOf 21 = .ok (.iload_n 3, 1) := by decide +kernel
theorem dX1_depthOf_22 : decode cX1_depthOf 22 = .ok (.iconst (-1), 1) := by decide +kernel
theorem dX1_depthOf_23 : decode cX1_depthOf 23 = .ok (.if_icmp .ne 5, 3) := by decide +kernel
theorem dX1_depthOf_26 : decode cX1_depthOf 26 = .ok (.iconst (-1), 1) := by decide +kernel
theorem dX1_depthOf_27 : decode cX1_depthOf 27 = .ok (.ireturn, 1) := by decide +kernel
theorem dX1_depthOf_28 : decode cX1_depthOf 28 = .ok (.aload_n 0, 1) := by decide +kernel
theorem dX1_depthOf_29 : decode cX1_depthOf 29 = .ok (.getfield 12, 3) := by decide +kernel
theorem dX1_depthOf_32 : decode cX1_depthOf 32 = .ok (.iload_n 3, 1) := by decide +kernel
theorem dX1_depthOf_33 : decode cX1_depthOf 33 = .ok (.iload_n 2, 1) := by decide +kernel
theorem dX1_depthOf_34 : decode cX1_depthOf 34 = .ok (.invokevirtual 18, 3) := by decide +kernel
theorem dX1_depthOf_37 : decode cX1_depthOf 37 = .ok (.istore_n 3, 1) := by decide +kernel
theorem dX1_depthOf_38 : decode cX1_depthOf 38 = .ok (.iinc 4 1, 3) := by decide +kernel
theorem dX1_depthOf_41 : decode cX1_depthOf 41 = .ok (.goto (-36), 3) := by decide +kernel
theorem dX1_depthOf_44 : decode cX1_depthOf 44 = .ok (.iconst (-1), 1) := by decide +kernel
theorem dX1_depthOf_45 : decode cX1_depthOf 45 = .ok (.ireturn, 1) := by decide +kernel
theorem dX1_isUnder_0 : decode cX1_isUnder 0 = .ok (.iload_n 1, 1) := by decide +kernel
theorem dX1_isUnder_1 : decode cX1_isUnder 1 = .ok (.istore 4, 2) := by decide +kernel
theorem dX1_isUnder_3 : decode cX1_isUnder 3 = .ok (.iconst 0, 1) := by decide +kernel
theorem dX1_isUnder_4 : decode cX1_isUnder 4 = .ok (.istore 5, 2) := by decide +kernel
theorem dX1_isUnder_6 : decode cX1_isUnder 6 = .ok (.iload 5, 2) := by decide +kernel
theorem dX1_isUnder_8 : decode cX1_isUnder 8 = .ok (.bipush 32, 2) := by decide +kernel
theorem dX1_isUnder_10 : decode cX1_isUnder 10 = .ok (.if_icmp .gt 44, 3) := by decide +kernel
theorem dX1_isUnder_13 : decode cX1_isUnder 13 = .ok (.iload 4, 2) := by decide +kernel
theorem dX1_isUnder_15 : decode cX1_isUnder 15 = .ok (.iload_n 2, 1) := by decide +kernel
theorem dX1_isUnder_16 : decode cX1_isUnder 16 = .ok (.if_icmp .ne 5, 3) := by decide +kernel
theorem dX1_isUnder_19 : decode cX1_isUnder 19 = .ok (.iconst 1, 1) := by decide +kernel
theorem dX1_isUnder_20 : decode cX1_isUnder 20 = .ok (.ireturn, 1) := by decide +kernel
theorem dX1_isUnder_21 : decode cX1_isUnder 21 = .ok (.iload 4, 2) := by decide +kernel
theorem dX1_isUnder_23 : decode cX1_isUnder 23 = .ok (.bipush 100, 2) := by decide +kernel
theorem dX1_isUnder_25 : decode cX1_isUnder 25 = .ok (.if_icmp .eq 9, 3) := by decide +kernel
theorem dX1_isUnder_28 : decode cX1_isUnder 28 = .ok (.iload 4, 2) := by decide +kernel
theorem dX1_isUnder_30 : decode cX1_isUnder 30 = .ok (.iconst (-1), 1) := by decide +kernel
theorem dX1_isUnder_31 : decode cX1_isUnder 31 = .ok (.if_icmp .ne 5, 3) := by decide +kernel
theorem dX1_isUnder_34 : decode cX1_isUnder 34 = .ok (.iconst 0, 1) := by decide +kernel
theorem dX1_isUnder_35 : decode cX1_isUnder 35 = .ok (.ireturn, 1) := by decide +kernel
theorem dX1_isUnder_36 : decode cX1_isUnder 36 = .ok (.aload_n 0, 1) := by decide +kernel
theorem dX1_isUnder_37 : decode cX1_isUnder 37 = .ok (.getfield 12, 3) := by decide +kernel
theorem dX1_isUnder_40 : decode cX1_isUnder 40 = .ok (.iload 4, 2) := by decide +kernel
theorem dX1_isUnder_42 : decode cX1_isUnder 42 = .ok (.iload_n 3, 1) := by decide +kernel
theorem dX1_isUnder_43 : decode cX1_isUnder 43 = .ok (.invokevirtual 18, 3) := by decide +kernel
theorem dX1_isUnder_46 : decode cX1_isUnder 46 = .ok (.istore 4, 2) := by decide +kernel
theorem dX1_isUnder_48 : decode cX1_isUnder 48 = .ok (.iinc 5 1, 3) := by decide +kernel
theorem dX1_isUnder_51 : decode cX1_isUnder 51 = .ok (.goto (-45), 3) := by decide +kernel
theorem dX1_isUnder_54 : decode cX1_isUnder 54 = .ok (.iconst 0, 1) := by decide +kernel
theorem dX1_isUnder_55 : decode cX1_isUnder 55 = .ok (.ireturn, 1) := by decide +kernel
theorem dX1_getsPiece_0 : decode cX1_getsPiece 0 = .ok (.iload_n 1, 1) := by decide +kernel
theorem dX1_getsPiece_1 : decode cX1_getsPiece 1 = .ok (.istore_n 3, 1) := by decide +kernel
theorem dX1_getsPiece_2 : decode cX1_getsPiece 2 = .ok (.iconst 0, 1) := by decide +kernel
theorem dX1_getsPiece_3 : decode cX1_getsPiece 3 = .ok (.istore 4, 2) := by decide +kernel
theorem dX1_getsPiece_5 : decode cX1_getsPiece 5 = .ok (.iload 4, 2) := by decide +kernel
theorem dX1_getsPiece_7 : decode cX1_getsPiece 7 = .ok (.bipush 32, 2) := by decide +kernel
theorem dX1_getsPiece_9 : decode cX1_getsPiece 9 = .ok (.if_icmp .gt 47, 3) := by decide +kernel
theorem dX1_getsPiece_12 : decode cX1_getsPiece 12 = .ok (.iload_n 3, 1) := by decide +kernel
theorem dX1_getsPiece_13 : decode cX1_getsPiece 13 = .ok (.bipush 100, 2) := by decide +kernel
theorem dX1_getsPiece_15 : decode cX1_getsPiece 15 = .ok (.if_icmp .ne 5, 3) := by decide +kernel
theorem dX1_getsPiece_18 : decode cX1_getsPiece 18 = .ok (.iconst 1, 1) := by decide +kernel
theorem dX1_getsPiece_19 : decode cX1_getsPiece 19 = .ok (.ireturn, 1) := by decide +kernel
theorem dX1_getsPiece_20 : decode cX1_getsPiece 20 = .ok (.iload_n 3, 1) := by decide +kernel
theorem dX1_getsPiece_21 : decode cX1_getsPiece 21 = .ok (.iconst (-1), 1) := by decide +kernel
theorem dX1_getsPiece_22 : decode cX1_getsPiece 22 = .ok (.if_icmp .eq 16, 3) := by decide +kernel
theorem dX1_getsPiece_25 : decode cX1_getsPiece 25 = .ok (.aload_n 0, 1) := by decide +kernel
theorem dX1_getsPiece_26 : decode cX1_getsPiece 26 = .ok (.getfield 12, 3) := by decide +kernel
theorem dX1_getsPiece_29 : decode cX1_getsPiece 29 = .ok (.iload_n 3, 1) := by decide +kernel
theorem dX1_getsPiece_30 : decode cX1_getsPiece 30 = .ok (.iconst 3, 1) := by decide +kernel
theorem dX1_getsPiece_31 : decode cX1_getsPiece 31 = .ok (.invokevirtual 22, 3) := by decide +kernel
theorem dX1_getsPiece_34 : decode cX1_getsPiece 34 = .ok (.iconst 1, 1) := by decide +kernel
theorem dX1_getsPiece_35 : decode cX1_getsPiece 35 = .ok (.if_icmp .ne 5, 3) := by decide +kernel
theorem dX1_getsPiece_38 : decode cX1_getsPiece 38 = .ok (.iconst 0, 1) := by decide +kernel
theorem dX1_getsPiece_39 : decode cX1_getsPiece 39 = .ok (.ireturn, 1) := by decide +kernel
theorem dX1_getsPiece_40 : decode cX1_getsPiece 40 = .ok (.aload_n 0, 1) := by decide +kernel
theorem dX1_getsPiece_41 : decode cX1_getsPiece 41 = .ok (.getfield 12, 3) := by decide +kernel
theorem dX1_getsPiece_44 : decode cX1_getsPiece 44 = .ok (.iload_n 3, 1) := by decide +kernel
theorem dX1_getsPiece_45 : decode cX1_getsPiece 45 = .ok (.iload_n 2, 1) := by decide +kernel
theorem dX1_getsPiece_46 : decode cX1_getsPiece 46 = .ok (.invokevirtual 18, 3) := by decide +kernel
theorem dX1_getsPiece_49 : decode cX1_getsPiece 49 = .ok (.istore_n 3, 1) := by decide +kernel
theorem dX1_getsPiece_50 : decode cX1_getsPiece 50 = .ok (.iinc 4 1, 3) := by decide +kernel
theorem dX1_getsPiece_53 : decode cX1_getsPiece 53 = .ok (.goto (-48), 3) := by decide +kernel
theorem dX1_getsPiece_56 : decode cX1_getsPiece 56 = .ok (.iconst 0, 1) := by decide +kernel
theorem dX1_getsPiece_57 : decode cX1_getsPiece 57 = .ok (.ireturn, 1) := by decide +kernel
theorem dX1_piecesOf_0 : decode cX1_piecesOf 0 = .ok (.iconst 0, 1) := by decide +kernel
theorem dX1_piecesOf_1 : decode cX1_piecesOf 1 = .ok (.istore_n 2, 1) := by decide +kernel
theorem dX1_piecesOf_2 : decode cX1_piecesOf 2 = .ok (.iconst 0, 1) := by decide +kernel
theorem dX1_piecesOf_3 : decode cX1_piecesOf 3 = .ok (.istore_n 3, 1) := by decide +kernel
theorem dX1_piecesOf_4 : decode cX1_piecesOf 4 = .ok (.iload_n 3, 1) := by decide +kernel
theorem dX1_piecesOf_5 : decode cX1_piecesOf 5 = .ok (.iconst 4, 1) := by decide +kernel
theorem dX1_piecesOf_6 : decode cX1_piecesOf 6 = .ok (.if_icmp .ge 21, 3) := by decide +kernel
theorem dX1_piecesOf_9 : decode cX1_piecesOf 9 = .ok (.aload_n 0, 1) := by decide +kernel
theorem dX1_piecesOf_10 : decode cX1_piecesOf 10 = .ok (.iload_n 1, 1) := by decide +kernel
theorem dX1_piecesOf_11 : decode cX1_piecesOf 11 = .ok (.iload_n 3, 1) := by decide +kernel
theorem dX1_piecesOf_12 : decode cX1_piecesOf 12 = .ok (.invokevirtual 25, 3) := by decide +kernel
theorem dX1_piecesOf_15 : decode cX1_piecesOf 15 = .ok (.ifCond .eq 6, 3) := by decide +kernel
theorem dX1_piecesOf_18 : decode cX1_piecesOf 18 = .ok (.iinc 2 1, 3) := by decide +kernel
theorem dX1_piecesOf_21 : decode cX1_piecesOf 21 = .ok (.iinc 3 1, 3) := by decide +kernel
theorem dX1_piecesOf_24 : decode cX1_piecesOf 24 = .ok (.goto (-20), 3) := by decide +kernel
theorem dX1_piecesOf_27 : decode cX1_piecesOf 27 = .ok (.iload_n 2, 1) := by decide +kernel
theorem dX1_piecesOf_28 : decode cX1_piecesOf 28 = .ok (.ireturn, 1) := by decide +kernel
theorem dX1_childrenAt_0 : decode cX1_childrenAt 0 = .ok (.iconst 0, 1) := by decide +kernel
theorem dX1_childrenAt_1 : decode cX1_childrenAt 1 = .ok (.istore_n 3, 1) := by decide +kernel
theorem dX1_childrenAt_2 : decode cX1_childrenAt 2 = .ok (.iconst 0, 1) := by decide +kernel
theorem dX1_childrenAt_3 : decode cX1_childrenAt 3 = .ok (.istore 4, 2) := by decide +kernel
theorem dX1_childrenAt_5 : decode cX1_childrenAt 5 = .ok (.iload 4, 2) := by decide +kernel
theorem dX1_childrenAt_7 : decode cX1_childrenAt 7 = .ok (.bipush 32, 2) := by decide +kernel
theorem dX1_childrenAt_9 : decode cX1_childrenAt 9 = .ok (.if_icmp .ge 26, 3) := by decide +kernel
theorem dX1_childrenAt_12 : decode cX1_childrenAt 12 = .ok (.aload_n 0, 1) := by decide +kernel
theorem dX1_childrenAt_13 : decode cX1_childrenAt 13 = .ok (.getfield 12, 3) := by decide +kernel
theorem dX1_childrenAt_16 : decode cX1_childrenAt 16 = .ok (.iload 4, 2) := by decide +kernel
theorem dX1_childrenAt_18 : decode cX1_childrenAt 18 = .ok (.iload_n 2, 1) := by decide +kernel
theorem dX1_childrenAt_19 : decode cX1_childrenAt 19 = .ok (.invokevirtual 18, 3) := by decide +kernel
theorem dX1_childrenAt_22 : decode cX1_childrenAt 22 = .ok (.iload_n 1, 1) := by decide +kernel
theorem dX1_childrenAt_23 : decode cX1_childrenAt 23 = .ok (.if_icmp .ne 6, 3) := by decide +kernel
theorem dX1_childrenAt_26 : decode cX1_childrenAt 26 = .ok (.iinc 3 1, 3) := by decide +kernel
theorem dX1_childrenAt_29 : decode cX1_childrenAt 29 = .ok (.iinc 4 1, 3) := by decide +kernel
theorem dX1_childrenAt_32 : decode cX1_childrenAt 32 = .ok (.goto (-27), 3) := by decide +kernel
theorem dX1_childrenAt_35 : decode cX1_childrenAt 35 = .ok (.iload_n 3, 1) := by decide +kernel
theorem dX1_childrenAt_36 : decode cX1_childrenAt 36 = .ok (.ireturn, 1) := by decide +kernel
theorem dX1_childAt_0 : decode cX1_childAt 0 = .ok (.iconst 0, 1) := by decide +kernel
theorem dX1_childAt_1 : decode cX1_childAt 1 = .ok (.istore 4, 2) := by decide +kernel
theorem dX1_childAt_3 : decode cX1_childAt 3 = .ok (.iconst 0, 1) := by decide +kernel
theorem dX1_childAt_4 : decode cX1_childAt 4 = .ok (.istore 5, 2) := by decide +kernel
theorem dX1_childAt_6 : decode cX1_childAt 6 = .ok (.iload 5, 2) := by decide +kernel
theorem dX1_childAt_8 : decode cX1_childAt 8 = .ok (.bipush 32, 2) := by decide +kernel
theorem dX1_childAt_10 : decode cX1_childAt 10 = .ok (.if_icmp .ge 35, 3) := by decide +kernel
theorem dX1_childAt_13 : decode cX1_childAt 13 = .ok (.aload_n 0, 1) := by decide +kernel
theorem dX1_childAt_14 : decode cX1_childAt 14 = .ok (.getfield 12, 3) := by decide +kernel
theorem dX1_childAt_17 : decode cX1_childAt 17 = .ok (.iload 5, 2) := by decide +kernel
theorem dX1_childAt_19 : decode cX1_childAt 19 = .ok (.iload_n 2, 1) := by decide +kernel
theorem dX1_childAt_20 : decode cX1_childAt 20 = .ok (.invokevirtual 18, 3) := by decide +kernel
theorem dX1_childAt_23 : decode cX1_childAt 23 = .ok (.iload_n 1, 1) := by decide +kernel
theorem dX1_childAt_24 : decode cX1_childAt 24 = .ok (.if_icmp .ne 15, 3) := by decide +kernel
theorem dX1_childAt_27 : decode cX1_childAt 27 = .ok (.iload 4, 2) := by decide +kernel
theorem dX1_childAt_29 : decode cX1_childAt 29 = .ok (.iload_n 3, 1) := by decide +kernel
theorem dX1_childAt_30 : decode cX1_childAt 30 = .ok (.if_icmp .ne 6, 3) := by decide +kernel
theorem dX1_childAt_33 : decode cX1_childAt 33 = .ok (.iload 5, 2) := by decide +kernel
theorem dX1_childAt_35 : decode cX1_childAt 35 = .ok (.ireturn, 1) := by decide +kernel
theorem dX1_childAt_36 : decode cX1_childAt 36 = .ok (.iinc 4 1, 3) := by decide +kernel
theorem dX1_childAt_39 : decode cX1_childAt 39 = .ok (.iinc 5 1, 3) := by decide +kernel
theorem dX1_childAt_42 : decode cX1_childAt 42 = .ok (.goto (-36), 3) := by decide +kernel
theorem dX1_childAt_45 : decode cX1_childAt 45 = .ok (.iconst (-1), 1) := by decide +kernel
theorem dX1_childAt_46 : decode cX1_childAt 46 = .ok (.ireturn, 1) := by decide +kernel
theorem dX1_subtreeSize_0 : decode cX1_subtreeSize 0 = .ok (.iconst 0, 1) := by decide +kernel
theorem dX1_subtreeSize_1 : decode cX1_subtreeSize 1 = .ok (.istore_n 3, 1) := by decide +kernel
theorem dX1_subtreeSize_2 : decode cX1_subtreeSize 2 = .ok (.iconst 0, 1) := by decide +kernel
theorem dX1_subtreeSize_3 : decode cX1_subtreeSize 3 = .ok (.istore 4, 2) := by decide +kernel
theorem dX1_subtreeSize_5 : decode cX1_subtreeSize 5 = .ok (.iload 4, 2) := by decide +kernel
theorem dX1_subtreeSize_7 : decode cX1_subtreeSize 7 = .ok (.bipush 32, 2) := by decide +kernel
theorem dX1_subtreeSize_9 : decode cX1_subtreeSize 9 = .ok (.if_icmp .ge 23, 3) := by decide +kernel
theorem dX1_subtreeSize_12 : decode cX1_subtreeSize 12 = .ok (.aload_n 0, 1) := by decide +kernel
theorem dX1_subtreeSize_13 : decode cX1_subtreeSize 13 = .ok (.iload 4, 2) := by decide +kernel
theorem dX1_subtreeSize_15 : decode cX1_subtreeSize 15 = .ok (.iload_n 1, 1) := by decide +kernel
theorem dX1_subtreeSize_16 : decode cX1_subtreeSize 16 = .ok (.iload_n 2, 1) := by decide +kernel
theorem dX1_subtreeSize_17 : decode cX1_subtreeSize 17 = .ok (.invokevirtual 29, 3) := by decide +kernel
theorem dX1_subtreeSize_20 : decode cX1_subtreeSize 20 = .ok (.ifCond .eq 6, 3) := by decide +kernel
theorem dX1_subtreeSize_23 : decode cX1_subtreeSize 23 = .ok (.iinc 3 1, 3) := by decide +kernel
theorem dX1_subtreeSize_26 : decode cX1_subtreeSize 26 = .ok (.iinc 4 1, 3) := by decide +kernel
theorem dX1_subtreeSize_29 : decode cX1_subtreeSize 29 = .ok (.goto (-24), 3) := by decide +kernel
theorem dX1_subtreeSize_32 : decode cX1_subtreeSize 32 = .ok (.iload_n 3, 1) := by decide +kernel
theorem dX1_subtreeSize_33 : decode cX1_subtreeSize 33 = .ok (.ireturn, 1) := by decide +kernel
theorem dX1_canBeInner_0 : decode cX1_canBeInner 0 = .ok (.aload_n 0, 1) := by decide +kernel
theorem dX1_canBeInner_1 : decode cX1_canBeInner 1 = .ok (.getfield 12, 3) := by decide +kernel
theorem dX1_canBeInner_4 : decode cX1_canBeInner 4 = .ok (.iload_n 1, 1) := by decide +kernel
theorem dX1_canBeInner_5 : decode cX1_canBeInner 5 = .ok (.iconst 1, 1) := by decide +kernel
theorem dX1_canBeInner_6 : decode cX1_canBeInner 6 = .ok (.invokevirtual 22, 3) := by decide +kernel
theorem dX1_canBeInner_9 : decode cX1_canBeInner 9 = .ok (.ifCond .le 33, 3) := by decide +kernel
theorem dX1_canBeInner_12 : decode cX1_canBeInner 12 = .ok (.aload_n 0, 1) := by decide +kernel
theorem dX1_canBeInner_13 : decode cX1_canBeInner 13 = .ok (.getfield 12, 3) := by decide +kernel
theorem dX1_canBeInner_16 : decode cX1_canBeInner 16 = .ok (.iload_n 1, 1) := by decide +kernel
theorem dX1_canBeInner_17 : decode cX1_canBeInner 17 = .ok (.iconst 5, 1) := by decide +kernel
theorem dX1_canBeInner_18 : decode cX1_canBeInner 18 = .ok (.invokevirtual 22, 3) := by decide +kernel
theorem dX1_canBeInner_21 : decode cX1_canBeInner 21 = .ok (.ifCond .eq 17, 3) := by decide +kernel
theorem dX1_canBeInner_24 : decode cX1_canBeInner 24 = .ok (.aload_n 0, 1) := by decide +kernel
theorem dX1_canBeInner_25 : decode cX1_canBeInner 25 = .ok (.getfield 12, 3) := by decide +kernel
theorem dX1_canBeInner_28 : decode cX1_canBeInner 28 = .ok (.iload_n 1, 1) := by decide +kernel
theorem dX1_canBeInner_29 : decode cX1_canBeInner 29 = .ok (.bipush 6, 2) := by decide +kernel
theorem dX1_canBeInner_31 : decode cX1_canBeInner 31 = .ok (.invokevirtual 22, 3) := by decide +kernel
theorem dX1_canBeInner_34 : decode cX1_canBeInner 34 = .ok (.iload_n 2, 1) := by decide +kernel
theorem dX1_canBeInner_35 : decode cX1_canBeInner 35 = .ok (.if_icmp .ne 7, 3) := by decide +kernel
theorem dX1_canBeInner_38 : decode cX1_canBeInner 38 = .ok (.iconst 1, 1) := by decide +kernel
theorem dX1_canBeInner_39 : decode cX1_canBeInner 39 = .ok (.goto 4, 3) := by decide +kernel
theorem dX1_canBeInner_42 : decode cX1_canBeInner 42 = .ok (.iconst 0, 1) := by decide +kernel
theorem dX1_canBeInner_43 : decode cX1_canBeInner 43 = .ok (.ireturn, 1) := by decide +kernel
theorem dX1_isRoomAt_0 : decode cX1_isRoomAt 0 = .ok (.iload_n 1, 1) := by decide +kernel
theorem dX1_isRoomAt_1 : decode cX1_isRoomAt 1 = .ok (.bipush 100, 2) := by decide +kernel
theorem dX1_isRoomAt_3 : decode cX1_isRoomAt 3 = .ok (.if_icmp .ne 28, 3) := by decide +kernel
theorem dX1_isRoomAt_6 : decode cX1_isRoomAt 6 = .ok (.aload_n 0, 1) := by decide +kernel
theorem dX1_isRoomAt_7 : decode cX1_isRoomAt 7 = .ok (.bipush 100, 2) := by decide +kernel
theorem dX1_isRoomAt_9 : decode cX1_isRoomAt 9 = .ok (.iload_n 2, 1) := by decide +kernel
theorem dX1_isRoomAt_10 : decode cX1_isRoomAt 10 = .ok (.invokevirtual 33, 3) := by decide +kernel
theorem dX1_isRoomAt_13 : decode cX1_isRoomAt 13 = .ok (.aload_n 0, 1) := by decide +kernel
theorem dX1_isRoomAt_14 : decode cX1_isRoomAt 14 = .ok (.getfield 12, 3) := by decide +kernel
theorem dX1_isRoomAt_17 : decode cX1_isRoomAt 17 = .ok (.bipush 9, 2) := by decide +kernel
theorem dX1_isRoomAt_19 : decode cX1_isRoomAt 19 = .ok (.invokevirtual 36, 3) := by decide +kernel
theorem dX1_isRoomAt_22 : decode cX1_isRoomAt 22 = .ok (.if_icmp .ge 7, 3) := by decide +kernel
theorem dX1_isRoomAt_25 : decode cX1_isRoomAt 25 = .ok (.iconst 1, 1) := by decide +kernel
theorem dX1_isRoomAt_26 : decode cX1_isRoomAt 26 = .ok (.goto 4, 3) := by decide +kernel
theorem dX1_isRoomAt_29 : decode cX1_isRoomAt 29 = .ok (.iconst 0, 1) := by decide +kernel
theorem dX1_isRoomAt_30 : decode cX1_isRoomAt 30 = .ok (.ireturn, 1) := by decide +kernel
theorem dX1_isRoomAt_31 : decode cX1_isRoomAt 31 = .ok (.aload_n 0, 1) := by decide +kernel
theorem dX1_isRoomAt_32 : decode cX1_isRoomAt 32 = .ok (.iload_n 1, 1) := by decide +kernel
theorem dX1_isRoomAt_33 : decode cX1_isRoomAt 33 = .ok (.iload_n 2, 1) := by decide +kernel
theorem dX1_isRoomAt_34 : decode cX1_isRoomAt 34 = .ok (.invokevirtual 40, 3) := by decide +kernel
theorem dX1_isRoomAt_37 : decode cX1_isRoomAt 37 = .ok (.ifCond .eq 38, 3) := by decide +kernel
theorem dX1_isRoomAt_40 : decode cX1_isRoomAt 40 = .ok (.aload_n 0, 1) := by decide +kernel
theorem dX1_isRoomAt_41 : decode cX1_isRoomAt 41 = .ok (.getfield 12, 3) := by decide +kernel
theorem dX1_isRoomAt_44 : decode cX1_isRoomAt 44 = .ok (.iload_n 1, 1) := by decide +kernel
theorem dX1_isRoomAt_45 : decode cX1_isRoomAt 45 = .ok (.iconst 5, 1) := by decide +kernel
theorem dX1_isRoomAt_46 : decode cX1_isRoomAt 46 = .ok (.invokevirtual 22, 3) := by decide +kernel
theorem dX1_isRoomAt_49 : decode cX1_isRoomAt 49 = .ok (.aload_n 0, 1) := by decide +kernel
theorem dX1_isRoomAt_50 : decode cX1_isRoomAt 50 = .ok (.getfield 12, 3) := by decide +kernel
theorem dX1_isRoomAt_53 : decode cX1_isRoomAt 53 = .ok (.iload_n 1, 1) := by decide +kernel
theorem dX1_isRoomAt_54 : decode cX1_isRoomAt 54 = .ok (.iconst 1, 1) := by decide +kernel
theorem dX1_isRoomAt_55 : decode cX1_isRoomAt 55 = .ok (.invokevirtual 22, 3) := by decide +kernel
theorem dX1_isRoomAt_58 : decode cX1_isRoomAt 58 = .ok (.if_icmp .ge 17, 3) := by decide +kernel
theorem dX1_isRoomAt_61 : decode cX1_isRoomAt 61 = .ok (.aload_n 0, 1) := by decide +kernel
theorem dX1_isRoomAt_62 : decode cX1_isRoomAt 62 = .ok (.iload_n 1, 1) := by decide +kernel
theorem dX1_isRoomAt_63 : decode cX1_isRoomAt 63 = .ok (.iload_n 2, 1) := by decide +kernel
theorem dX1_isRoomAt_64 : decode cX1_isRoomAt 64 = .ok (.invokevirtual 43, 3) := by decide +kernel
theorem dX1_isRoomAt_67 : decode cX1_isRoomAt 67 = .ok (.iconst (-1), 1) := by decide +kernel
theorem dX1_isRoomAt_68 : decode cX1_isRoomAt 68 = .ok (.if_icmp .eq 7, 3) := by decide +kernel
theorem dX1_isRoomAt_71 : decode cX1_isRoomAt 71 = .ok (.iconst 1, 1) := by decide +kernel
theorem dX1_isRoomAt_72 : decode cX1_isRoomAt 72 = .ok (.goto 4, 3) := by decide +kernel
theorem dX1_isRoomAt_75 : decode cX1_isRoomAt 75 = .ok (.iconst 0, 1) := by decide +kernel
theorem dX1_isRoomAt_76 : decode cX1_isRoomAt 76 = .ok (.ireturn, 1) := by decide +kernel
theorem dX1_isBefore_0 : decode cX1_isBefore 0 = .ok (.aload_n 0, 1) := by decide +kernel
theorem dX1_isBefore_1 : decode cX1_isBefore 1 = .ok (.getfield 12, 3) := by decide +kernel
theorem dX1_isBefore_4 : decode cX1_isBefore 4 = .ok (.iload_n 1, 1) := by decide +kernel
theorem dX1_isBefore_5 : decode cX1_isBefore 5 = .ok (.iconst 2, 1) := by decide +kernel
theorem dX1_isBefore_6 : decode cX1_isBefore 6 = .ok (.invokevirtual 22, 3) := by decide +kernel
theorem dX1_isBefore_9 : decode cX1_isBefore 9 = .ok (.iload_n 3, 1) := by decide +kernel
theorem dX1_isBefore_10 : decode cX1_isBefore 10 = .ok (.if_icmp .ne 7, 3) := by decide +kernel
theorem dX1_isBefore_13 : decode cX1_isBefore 13 = .ok (.iconst 1, 1) := by decide +kernel
theorem dX1_isBefore_14 : decode cX1_isBefore 14 = .ok (.goto 4, 3) := by decide +kernel
theorem dX1_isBefore_17 : decode cX1_isBefore 17 = .ok (.iconst 0, 1) := by decide +kernel
theorem dX1_isBefore_18 : decode cX1_isBefore 18 = .ok (.istore 4, 2) := by decide +kernel
theorem dX1_isBefore_20 : decode cX1_isBefore 20 = .ok (.aload_n 0, 1) := by decide +kernel
theorem dX1_isBefore_21 : decode cX1_isBefore 21 = .ok (.getfield 12, 3) := by decide +kernel
theorem dX1_isBefore_24 : decode cX1_isBefore 24 = .ok (.iload_n 2, 1) := by decide +kernel
theorem dX1_isBefore_25 : decode cX1_isBefore 25 = .ok (.iconst 2, 1) := by decide +kernel
theorem dX1_isBefore_26 : decode cX1_isBefore 26 = .ok (.invokevirtual 22, 3) := by decide +kernel
theorem dX1_isBefore_29 : decode cX1_isBefore 29 = .ok (.iload_n 3, 1) := by decide +kernel
theorem dX1_isBefore_30 : decode cX1_isBefore 30 = .ok (.if_icmp .ne 7, 3) := by decide +kernel
theorem dX1_isBefore_33 : decode cX1_isBefore 33 = .ok (.iconst 1, 1) := by decide +kernel
theorem dX1_isBefore_34 : decode cX1_isBefore 34 = .ok (.goto 4, 3) := by decide +kernel
theorem dX1_isBefore_37 : decode cX1_isBefore 37 = .ok (.iconst 0, 1) := by decide +kernel
theorem dX1_isBefore_38 : decode cX1_isBefore 38 = .ok (.istore 5, 2) := by decide +kernel
theorem dX1_isBefore_40 : decode cX1_isBefore 40 = .ok (.iload 4, 2) := by decide +kernel
theorem dX1_isBefore_42 : decode cX1_isBefore 42 = .ok (.iload 5, 2) := by decide +kernel
theorem dX1_isBefore_44 : decode cX1_isBefore 44 = .ok (.if_icmp .eq 6, 3) := by decide +kernel
theorem dX1_isBefore_47 : decode cX1_isBefore 47 = .ok (.iload 4, 2) := by decide +kernel
theorem dX1_isBefore_49 : decode cX1_isBefore 49 = .ok (.ireturn, 1) := by decide +kernel
theorem dX1_isBefore_50 : decode cX1_isBefore 50 = .ok (.aload_n 0, 1) := by decide +kernel
theorem dX1_isBefore_51 : decode cX1_isBefore 51 = .ok (.getfield 12, 3) := by decide +kernel
theorem dX1_isBefore_54 : decode cX1_isBefore 54 = .ok (.iload_n 1, 1) := by decide +kernel
theorem dX1_isBefore_55 : decode cX1_isBefore 55 = .ok (.iconst 1, 1) := by decide +kernel
theorem dX1_isBefore_56 : decode cX1_isBefore 56 = .ok (.invokevirtual 22, 3) := by decide +kernel
theorem dX1_isBefore_59 : decode cX1_isBefore 59 = .ok (.istore 6, 2) := by decide +kernel
theorem dX1_isBefore_61 : decode cX1_isBefore 61 = .ok (.aload_n 0, 1) := by decide +kernel
theorem dX1_isBefore_62 : decode cX1_isBefore 62 = .ok (.getfield 12, 3) := by decide +kernel
theorem dX1_isBefore_65 : decode cX1_isBefore 65 = .ok (.iload_n 2, 1) := by decide +kernel
theorem dX1_isBefore_66 : decode cX1_isBefore 66 = .ok (.iconst 1, 1) := by decide +kernel
theorem dX1_isBefore_67 : decode cX1_isBefore 67 = .ok (.invokevirtual 22, 3) := by decide +kernel
theorem dX1_isBefore_70 : decode cX1_isBefore 70 = .ok (.istore 7, 2) := by decide +kernel
theorem dX1_isBefore_72 : decode cX1_isBefore 72 = .ok (.iload 6, 2) := by decide +kernel
theorem dX1_isBefore_74 : decode cX1_isBefore 74 = .ok (.iload 7, 2) := by decide +kernel
theorem dX1_isBefore_76 : decode cX1_isBefore 76 = .ok (.if_icmp .eq 18, 3) := by decide +kernel
theorem dX1_isBefore_79 : decode cX1_isBefore 79 = .ok (.iload 6, 2) := by decide +kernel
theorem dX1_isBefore_81 : decode cX1_isBefore 81 = .ok (.iload 7, 2) := by decide +kernel
theorem dX1_isBefore_83 : decode cX1_isBefore 83 = .ok (.if_icmp .le 7, 3) := by decide +kernel
theorem dX1_isBefore_86 : decode cX1_isBefore 86 = .ok (.iconst 1, 1) := by decide +kernel
theorem dX1_isBefore_87 : decode cX1_isBefore 87 = .ok (.goto 17, 3) := by decide +kernel
theorem dX1_isBefore_90 : decode cX1_isBefore 90 = .ok (.iconst 0, 1) := by decide +kernel
theorem dX1_isBefore_91 : decode cX1_isBefore 91 = .ok (.goto 13, 3) := by decide +kernel
theorem dX1_isBefore_94 : decode cX1_isBefore 94 = .ok (.iload_n 1, 1) := by decide +kernel
theorem dX1_isBefore_95 : decode cX1_isBefore 95 = .ok (.iload_n 2, 1) := by decide +kernel
theorem dX1_isBefore_96 : decode cX1_isBefore 96 = .ok (.if_icmp .ge 7, 3) := by decide +kernel
theorem dX1_isBefore_99 : decode cX1_isBefore 99 = .ok (.iconst 1, 1) := by decide +kernel
theorem dX1_isBefore_100 : decode cX1_isBefore 100 = .ok (.goto 4, 3) := by decide +kernel
theorem dX1_isBefore_103 : decode cX1_isBefore 103 = .ok (.iconst 0, 1) := by decide +kernel
theorem dX1_isBefore_104 : decode cX1_isBefore 104 = .ok (.ireturn, 1) := by decide +kernel
theorem dX1_lastChild_0 : decode cX1_lastChild 0 = .ok (.iconst (-1), 1) := by decide +kernel
theorem dX1_lastChild_1 : decode cX1_lastChild 1 = .ok (.istore_n 3, 1) := by decide +kernel
theorem dX1_lastChild_2 : decode cX1_lastChild 2 = .ok (.iconst 0, 1) := by decide +kernel
theorem dX1_lastChild_3 : decode cX1_lastChild 3 = .ok (.istore 4, 2) := by decide +kernel
theorem dX1_lastChild_5 : decode cX1_lastChild 5 = .ok (.iload 4, 2) := by decide +kernel
theorem dX1_lastChild_7 : decode cX1_lastChild 7 = .ok (.bipush 32, 2) := by decide +kernel
theorem dX1_lastChild_9 : decode cX1_lastChild 9 = .ok (.if_icmp .ge 42, 3) := by decide +kernel
theorem dX1_lastChild_12 : decode cX1_lastChild 12 = .ok (.aload_n 0, 1) := by decide +kernel
theorem dX1_lastChild_13 : decode cX1_lastChild 13 = .ok (.getfield 12, 3) := by decide +kernel
theorem dX1_lastChild_16 : decode cX1_lastChild 16 = .ok (.iload 4, 2) := by decide +kernel
theorem dX1_lastChild_18 : decode cX1_lastChild 18 = .ok (.iload_n 2, 1) := by decide +kernel
theorem dX1_lastChild_19 : decode cX1_lastChild 19 = .ok (.invokevirtual 18, 3) := by decide +kernel
theorem dX1_lastChild_22 : decode cX1_lastChild 22 = .ok (.iload_n 1, 1) := by decide +kernel
theorem dX1_lastChild_23 : decode cX1_lastChild 23 = .ok (.if_icmp .ne 22, 3) := by decide +kernel
theorem dX1_lastChild_26 : decode cX1_lastChild 26 = .ok (.iload_n 3, 1) := by decide +kernel
theorem dX1_lastChild_27 : decode cX1_lastChild 27 = .ok (.iconst (-1), 1) := by decide +kernel
theorem dX1_lastChild_28 : decode cX1_lastChild 28 = .ok (.if_icmp .eq 14, 3) := by decide +kernel
theorem dX1_lastChild_31 : decode cX1_lastChild 31 = .ok (.aload_n 0, 1) := by decide +kernel
theorem dX1_lastChild_32 : decode cX1_lastChild 32 = .ok (.iload_n 3, 1) := by decide +kernel
theorem dX1_lastChild_33 : decode cX1_lastChild 33 = .ok (.iload 4, 2) := by decide +kernel
theorem dX1_lastChild_35 : decode cX1_lastChild 35 = .ok (.iload_n 2, 1) := by decide +kernel
theorem dX1_lastChild_36 : decode cX1_lastChild 36 = .ok (.invokevirtual 46, 3) := by decide +kernel
theorem dX1_lastChild_39 : decode cX1_lastChild 39 = .ok (.ifCond .eq 6, 3) := by decide +kernel
theorem dX1_lastChild_42 : decode cX1_lastChild 42 = .ok (.iload 4, 2) := by decide +kernel
theorem dX1_lastChild_44 : decode cX1_lastChild 44 = .ok (.istore_n 3, 1) := by decide +kernel
theorem dX1_lastChild_45 : decode cX1_lastChild 45 = .ok (.iinc 4 1, 3) := by decide +kernel
theorem dX1_lastChild_48 : decode cX1_lastChild 48 = .ok (.goto (-43), 3) := by decide +kernel
theorem dX1_lastChild_51 : decode cX1_lastChild 51 = .ok (.iload_n 3, 1) := by decide +kernel
theorem dX1_lastChild_52 : decode cX1_lastChild 52 = .ok (.ireturn, 1) := by decide +kernel
theorem dX1_firstInnerChild_0 : decode cX1_firstInnerChild 0 = .ok (.iconst (-1), 1) := by decide +kernel
theorem dX1_firstInnerChild_1 : decode cX1_firstInnerChild 1 = .ok (.istore_n 3, 1) := by decide +kernel
theorem dX1_firstInnerChild_2 : decode cX1_firstInnerChild 2 = .ok (.iconst 0, 1) := by decide +kernel
theorem dX1_firstInnerChild_3 : decode cX1_firstInnerChild 3 = .ok (.istore 4, 2) := by decide +kernel
theorem dX1_firstInnerChild_5 : decode cX1_firstInnerChild 5 = .ok (.iload 4, 2) := by decide +kernel
theorem dX1_firstInnerChild_7 : decode cX1_firstInnerChild 7 = .ok (.bipush 32, 2) := by decide +kernel
theorem dX1_firstInnerChild_9 : decode cX1_firstInnerChild 9 = .ok (.if_icmp .ge 52, 3) := by decide +kernel
theorem dX1_firstInnerChild_12 : decode cX1_firstInnerChild 12 = .ok (.aload_n 0, 1) := by decide +kernel
theorem dX1_firstInnerChild_13 : decode cX1_firstInnerChild 13 = .ok (.getfield 12, 3) := by decide +kernel
theorem dX1_firstInnerChild_16 : decode cX1_firstInnerChild 16 = .ok (.iload 4, 2) := by decide +kernel
theorem dX1_firstInnerChild_18 : decode cX1_firstInnerChild 18 = .ok (.iload_n 2, 1) := by decide +kernel
theorem dX1_firstInnerChild_19 : decode cX1_firstInnerChild 19 = .ok (.invokevirtual 18, 3) := by decide +kernel
theorem dX1_firstInnerChild_22 : decode cX1_firstInnerChild 22 = .ok (.iload_n 1, 1) := by decide +kernel
theorem dX1_firstInnerChild_23 : decode cX1_firstInnerChild 23 = .ok (.if_icmp .ne 32, 3) := by decide +kernel
theorem dX1_firstInnerChild_26 : decode cX1_firstInnerChild 26 = .ok (.aload_n 0, 1) := by decide +kernel
theorem dX1_firstInnerChild_27 : decode cX1_firstInnerChild 27 = .ok (.iload 4, 2) := by decide +kernel
theorem dX1_firstInnerChild_29 : decode cX1_firstInnerChild 29 = .ok (.iload_n 2, 1) := by decide +kernel
theorem dX1_firstInnerChild_30 : decode cX1_firstInnerChild 30 = .ok (.invokevirtual 40, 3) := by decide +kernel
theorem dX1_firstInnerChild_33 : decode cX1_firstInnerChild 33 = .ok (.ifCond .eq 22, 3) := by decide +kernel
theorem dX1_firstInnerChild_36 : decode cX1_firstInnerChild 36 = .ok (.iload_n 3, 1) := by decide +kernel
theorem dX1_firstInnerChild_37 : decode cX1_firstInnerChild 37 = .ok (.iconst (-1), 1) := by decide +kernel
theorem dX1_firstInnerChild_38 : decode cX1_firstInnerChild 38 = .ok (.if_icmp .eq 14, 3) := by decide +kernel
theorem dX1_firstInnerChild_41 : decode cX1_firstInnerChild 41 = .ok (.aload_n 0, 1) := by decide +kernel
theorem dX1_firstInnerChild_42 : decode cX1_firstInnerChild 42 = .ok (.iload 4, 2) := by decide +kernel
theorem dX1_firstInnerChild_44 : decode cX1_firstInnerChild 44 = .ok (.iload_n 3, 1) := by decide +kernel
theorem dX1_firstInnerChild_45 : decode cX1_firstInnerChild 45 = .ok (.iload_n 2, 1) := by decide +kernel
theorem dX1_firstInnerChild_46 : decode cX1_firstInnerChild 46 = .ok (.invokevirtual 46, 3) := by decide +kernel
theorem dX1_firstInnerChild_49 : decode cX1_firstInnerChild 49 = .ok (.ifCond .eq 6, 3) := by decide +kernel
theorem dX1_firstInnerChild_52 : decode cX1_firstInnerChild 52 = .ok (.iload 4, 2) := by decide +kernel
theorem dX1_firstInnerChild_54 : decode cX1_firstInnerChild 54 = .ok (.istore_n 3, 1) := by decide +kernel
theorem dX1_firstInnerChild_55 : decode cX1_firstInnerChild 55 = .ok (.iinc 4 1, 3) := by decide +kernel
theorem dX1_firstInnerChild_58 : decode cX1_firstInnerChild 58 = .ok (.goto (-53), 3) := by decide +kernel
theorem dX1_firstInnerChild_61 : decode cX1_firstInnerChild 61 = .ok (.iload_n 3, 1) := by decide +kernel
theorem dX1_firstInnerChild_62 : decode cX1_firstInnerChild 62 = .ok (.ireturn, 1) := by decide +kernel
theorem dX1_spareMember_0 : decode cX1_spareMember 0 = .ok (.iconst (-1), 1) := by decide +kernel
theorem dX1_spareMember_1 : decode cX1_spareMember 1 = .ok (.istore_n 2, 1) := by decide +kernel
theorem dX1_spareMember_2 : decode cX1_spareMember 2 = .ok (.iconst (-1), 1) := by decide +kernel
theorem dX1_spareMember_3 : decode cX1_spareMember 3 = .ok (.istore_n 3, 1) := by decide +kernel
theorem dX1_spareMember_4 : decode cX1_spareMember 4 = .ok (.iconst 0, 1) := by decide +kernel
theorem dX1_spareMember_5 : decode cX1_spareMember 5 = .ok (.istore 4, 2) := by decide +kernel
theorem dX1_spareMember_7 : decode cX1_spareMember 7 = .ok (.iload 4, 2) := by decide +kernel
theorem dX1_spareMember_9 : decode cX1_spareMember 9 = .ok (.bipush 32, 2) := by decide +kernel
theorem dX1_spareMember_11 : decode cX1_spareMember 11 = .ok (.if_icmp .ge 45, 3) := by decide +kernel
theorem dX1_spareMember_14 : decode cX1_spareMember 14 = .ok (.aload_n 0, 1) := by decide +kernel
theorem dX1_spareMember_15 : decode cX1_spareMember 15 = .ok (.iload 4, 2) := by decide +kernel
theorem dX1_spareMember_17 : decode cX1_spareMember 17 = .ok (.iload_n 1, 1) := by decide +kernel
theorem dX1_spareMember_18 : decode cX1_spareMember 18 = .ok (.invokevirtual 49, 3) := by decide +kernel
theorem dX1_spareMember_21 : decode cX1_spareMember 21 = .ok (.ifCond .eq 29, 3) := by decide +kernel
theorem dX1_spareMember_24 : decode cX1_spareMember 24 = .ok (.aload_n 0, 1) := by decide +kernel
theorem dX1_spareMember_25 : decode cX1_spareMember 25 = .ok (.iload 4, 2) := by decide +kernel
theorem dX1_spareMember_27 : decode cX1_spareMember 27 = .ok (.iload_n 1, 1) := by decide +kernel
theorem dX1_spareMember_28 : decode cX1_spareMember 28 = .ok (.invokevirtual 43, 3) := by decide +kernel
theorem dX1_spareMember_31 : decode cX1_spareMember 31 = .ok (.istore 5, 2) := by decide +kernel
theorem dX1_spareMember_33 : decode cX1_spareMember 33 = .ok (.iload_n 2, 1) := by decide +kernel
theorem dX1_spareMember_34 : decode cX1_spareMember 34 = .ok (.iconst (-1), 1) := by decide +kernel
theorem dX1_spareMember_35 : decode cX1_spareMember 35 = .ok (.if_icmp .eq 9, 3) := by decide +kernel
theorem dX1_spareMember_38 : decode cX1_spareMember 38 = .ok (.iload 5, 2) := by decide +kernel
theorem dX1_spareMember_40 : decode cX1_spareMember 40 = .ok (.iload_n 3, 1) := by decide +kernel
theorem dX1_spareMember_41 : decode cX1_spareMember 41 = .ok (.if_icmp .ge 9, 3) := by decide +kernel
theorem dX1_spareMember_44 : decode cX1_spareMember 44 = .ok (.iload 4, 2) := by decide +kernel
theorem dX1_spareMember_46 : decode cX1_spareMember 46 = .ok (.istore_n 2, 1) := by decide +kernel
theorem dX1_spareMember_47 : decode cX1_spareMember 47 = .ok (.iload 5, 2) := by decide +kernel
theorem dX1_spareMember_49 : decode cX1_spareMember 49 = .ok (.istore_n 3, 1) := by decide +kernel
theorem dX1_spareMember_50 : decode cX1_spareMember 50 = .ok (.iinc 4 1, 3) := by decide +kernel
theorem dX1_spareMember_53 : decode cX1_spareMember 53 = .ok (.goto (-46), 3) := by decide +kernel
theorem dX1_spareMember_56 : decode cX1_spareMember 56 = .ok (.iload_n 2, 1) := by decide +kernel
theorem dX1_spareMember_57 : decode cX1_spareMember 57 = .ok (.ireturn, 1) := by decide +kernel
theorem dX1_attach_0 : decode cX1_attach 0 = .ok (.iload_n 1, 1) := by decide +kernel
theorem dX1_attach_1 : decode cX1_attach 1 = .ok (.istore_n 3, 1) := by decide +kernel
theorem dX1_attach_2 : decode cX1_attach 2 = .ok (.bipush 100, 2) := by decide +kernel
theorem dX1_attach_4 : decode cX1_attach 4 = .ok (.istore 4, 2) := by decide +kernel
theorem dX1_attach_6 : decode cX1_attach 6 = .ok (.iconst 0, 1) := by decide +kernel
theorem dX1_attach_7 : decode cX1_attach 7 = .ok (.istore 5, 2) := by decide +kernel
theorem dX1_attach_9 : decode cX1_attach 9 = .ok (.iload 5, 2) := by decide +kernel
theorem dX1_attach_11 : decode cX1_attach 11 = .ok (.bipush 32, 2) := by decide +kernel
theorem dX1_attach_13 : decode cX1_attach 13 = .ok (.if_icmp .gt 110, 3) := by decide +kernel
theorem dX1_attach_16 : decode cX1_attach 16 = .ok (.aload_n 0, 1) := by decide +kernel
theorem dX1_attach_17 : decode cX1_attach 17 = .ok (.iload 4, 2) := by decide +kernel
theorem dX1_attach_19 : decode cX1_attach 19 = .ok (.iload_n 2, 1) := by decide +kernel
theorem dX1_attach_20 : decode cX1_attach 20 = .ok (.invokevirtual 49, 3) := by decide +kernel
theorem dX1_attach_23 : decode cX1_attach 23 = .ok (.ifCond .eq 15, 3) := by decide +kernel
theorem dX1_attach_26 : decode cX1_attach 26 = .ok (.aload_n 0, 1) := by decide +kernel
theorem dX1_attach_27 : decode cX1_attach 27 = .ok (.getfield 12, 3) := by decide +kernel
theorem dX1_attach_30 : decode cX1_attach 30 = .ok (.iload_n 3, 1) := by decide +kernel
theorem dX1_attach_31 : decode cX1_attach 31 = .ok (.iload_n 2, 1) := by decide +kernel
theorem dX1_attach_32 : decode cX1_attach 32 = .ok (.iload 4, 2) := by decide +kernel
theorem dX1_attach_34 : decode cX1_attach 34 = .ok (.invokevirtual 52, 3) := by decide +kernel
theorem dX1_attach_37 : decode cX1_attach 37 = .ok (.return_, 1) := by decide +kernel
theorem dX1_attach_38 : decode cX1_attach 38 = .ok (.aload_n 0, 1) := by decide +kernel
theorem dX1_attach_39 : decode cX1_attach 39 = .ok (.iload 4, 2) := by decide +kernel
theorem dX1_attach_41 : decode cX1_attach 41 = .ok (.iload_n 2, 1) := by decide +kernel
theorem dX1_attach_42 : decode cX1_attach 42 = .ok (.invokevirtual 56, 3) := by decide +kernel
theorem dX1_attach_45 : decode cX1_attach 45 = .ok (.istore 6, 2) := by decide +kernel
theorem dX1_attach_47 : decode cX1_attach 47 = .ok (.iload 6, 2) := by decide +kernel
theorem dX1_attach_49 : decode cX1_attach 49 = .ok (.iconst (-1), 1) := by decide +kernel
theorem dX1_attach_50 : decode cX1_attach 50 = .ok (.if_icmp .eq 40, 3) := by decide +kernel
theorem dX1_attach_53 : decode cX1_attach 53 = .ok (.aload_n 0, 1) := by decide +kernel
theorem dX1_attach_54 : decode cX1_attach 54 = .ok (.iload_n 3, 1) := by decide +kernel
theorem dX1_attach_55 : decode cX1_attach 55 = .ok (.iload 6, 2) := by decide +kernel
theorem dX1_attach_57 : decode cX1_attach 57 = .ok (.iload_n 2, 1) := by decide +kernel
theorem dX1_attach_58 : decode cX1_attach 58 = .ok (.invokevirtual 46, 3) := by decide +kernel
theorem dX1_attach_61 : decode cX1_attach 61 = .ok (.ifCond .eq 29, 3) := by decide +kernel
theorem dX1_attach_64 : decode cX1_attach 64 = .ok (.aload_n 0, 1) := by decide +kernel
theorem dX1_attach_65 : decode cX1_attach 65 = .ok (.iload_n 3, 1) := by decide +kernel
theorem dX1_attach_66 : decode cX1_attach 66 = .ok (.iload_n 2, 1) := by decide +kernel
theorem dX1_attach_67 : decode cX1_attach 67 = .ok (.invokevirtual 40, 3) := by decide +kernel
theorem dX1_attach_70 : decode cX1_attach 70 = .ok (.ifCond .eq 20, 3) := by decide +kernel
theorem dX1_attach_73 : decode cX1_attach 73 = .ok (.aload_n 0, 1) := by decide +kernel
theorem dX1_attach_74 : decode cX1_attach 74 = .ok (.iload_n 3, 1) := by decide +kernel
theorem dX1_attach_75 : decode cX1_attach 75 = .ok (.iload 6, 2) := by decide +kernel
theorem dX1_attach_77 : decode cX1_attach 77 = .ok (.iload_n 2, 1) := by decide +kernel
theorem dX1_attach_78 : decode cX1_attach 78 = .ok (.invokevirtual 59, 3) := by decide +kernel
theorem dX1_attach_81 : decode cX1_attach 81 = .ok (.iload_n 3, 1) := by decide +kernel
theorem dX1_attach_82 : decode cX1_attach 82 = .ok (.istore 4, 2) := by decide +kernel
theorem dX1_attach_84 : decode cX1_attach 84 = .ok (.iload 6, 2) := by decide +kernel
theorem dX1_attach_86 : decode cX1_attach 86 = .ok (.istore_n 3, 1) := by decide +kernel
theorem dX1_attach_87 : decode cX1_attach 87 = .ok (.goto 30, 3) := by decide +kernel
theorem dX1_attach_90 : decode cX1_attach 90 = .ok (.aload_n 0, 1) := by decide +kernel
theorem dX1_attach_91 : decode cX1_attach 91 = .ok (.iload 4, 2) := by decide +kernel
theorem dX1_attach_93 : decode cX1_attach 93 = .ok (.iload_n 2, 1) := by decide +kernel
theorem dX1_attach_94 : decode cX1_attach 94 = .ok (.invokevirtual 62, 3) := by decide +kernel
theorem dX1_attach_97 : decode cX1_attach 97 = .ok (.istore 4, 2) := by decide +kernel
theorem dX1_attach_99 : decode cX1_attach 99 = .ok (.iload 4, 2) := by decide +kernel
theorem dX1_attach_101 : decode cX1_attach 101 = .ok (.iconst (-1), 1) := by decide +kernel
theorem dX1_attach_102 : decode cX1_attach 102 = .ok (.if_icmp .ne 15, 3) := by decide +kernel
theorem dX1_attach_105 : decode cX1_attach 105 = .ok (.aload_n 0, 1) := by decide +kernel
theorem dX1_attach_106 : decode cX1_attach 106 = .ok (.iload_n 3, 1) := by decide +kernel
theorem dX1_attach_107 : decode cX1_attach 107 = .ok (.iload_n 2, 1) := by decide +kernel
theorem dX1_attach_108 : decode cX1_attach 108 = .ok (.aload_n 0, 1) := by decide +kernel
theorem dX1_attach_109 : decode cX1_attach 109 = .ok (.iload_n 2, 1) := by decide +kernel
theorem dX1_attach_110 : decode cX1_attach 110 = .ok (.invokevirtual 65, 3) := by decide +kernel
theorem dX1_attach_113 : decode cX1_attach 113 = .ok (.invokevirtual 68, 3) := by decide +kernel
theorem dX1_attach_116 : decode cX1_attach 116 = .ok (.return_, 1) := by decide +kernel
theorem dX1_attach_117 : decode cX1_attach 117 = .ok (.iinc 5 1, 3) := by decide +kernel
theorem dX1_attach_120 : decode cX1_attach 120 = .ok (.goto (-111), 3) := by decide +kernel
theorem dX1_attach_123 : decode cX1_attach 123 = .ok (.return_, 1) := by decide +kernel
theorem dX1_takePlace_0 : decode cX1_takePlace 0 = .ok (.aload_n 0, 1) := by decide +kernel
theorem dX1_takePlace_1 : decode cX1_takePlace 1 = .ok (.getfield 12, 3) := by decide +kernel
theorem dX1_takePlace_4 : decode cX1_takePlace 4 = .ok (.iload_n 2, 1) := by decide +kernel
theorem dX1_takePlace_5 : decode cX1_takePlace 5 = .ok (.iload_n 3, 1) := by decide +kernel
theorem dX1_takePlace_6 : decode cX1_takePlace 6 = .ok (.invokevirtual 18, 3) := by decide +kernel
theorem dX1_takePlace_9 : decode cX1_takePlace 9 = .ok (.istore 4, 2) := by decide +kernel
theorem dX1_takePlace_11 : decode cX1_takePlace 11 = .ok (.aload_n 0, 1) := by decide +kernel
theorem dX1_takePlace_12 : decode cX1_takePlace 12 = .ok (.getfield 12, 3) := by decide +kernel
theorem dX1_takePlace_15 : decode cX1_takePlace 15 = .ok (.iload_n 2, 1) := by decide +kernel
theorem dX1_takePlace_16 : decode cX1_takePlace 16 = .ok (.iload_n 3, 1) := by decide +kernel
theorem dX1_takePlace_17 : decode cX1_takePlace 17 = .ok (.iconst (-1), 1) := by decide +kernel
theorem dX1_takePlace_18 : decode cX1_takePlace 18 = .ok (.invokevirtual 52, 3) := by decide +kernel
theorem dX1_takePlace_21 : decode cX1_takePlace 21 = .ok (.aload_n 0, 1) := by decide +kernel
theorem dX1_takePlace_22 : decode cX1_takePlace 22 = .ok (.getfield 12, 3) := by decide +kernel
theorem dX1_takePlace_25 : decode cX1_takePlace 25 = .ok (.iload_n 1, 1) := by decide +kernel
theorem dX1_takePlace_26 : decode cX1_takePlace 26 = .ok (.iload_n 3, 1) := by decide +kernel
theorem dX1_takePlace_27 : decode cX1_takePlace 27 = .ok (.iload 4, 2) := by decide +kernel
theorem dX1_takePlace_29 : decode cX1_takePlace 29 = .ok (.invokevirtual 52, 3) := by decide +kernel
theorem dX1_takePlace_32 : decode cX1_takePlace 32 = .ok (.aload_n 0, 1) := by decide +kernel
theorem dX1_takePlace_33 : decode cX1_takePlace 33 = .ok (.getfield 12, 3) := by decide +kernel
theorem dX1_takePlace_36 : decode cX1_takePlace 36 = .ok (.bipush 6, 2) := by decide +kernel
theorem dX1_takePlace_38 : decode cX1_takePlace 38 = .ok (.iconst 1, 1) := by decide +kernel
theorem dX1_takePlace_39 : decode cX1_takePlace 39 = .ok (.invokevirtual 71, 3) := by decide +kernel
theorem dX1_takePlace_42 : decode cX1_takePlace 42 = .ok (.return_, 1) := by decide +kernel
theorem dX1_attachToSpare_0 : decode cX1_attachToSpare 0 = .ok (.iload_n 3, 1) := by decide +kernel
theorem dX1_attachToSpare_1 : decode cX1_attachToSpare 1 = .ok (.iconst (-1), 1) := by decide +kernel
theorem dX1_attachToSpare_2 : decode cX1_attachToSpare 2 = .ok (.if_icmp .eq 23, 3) := by decide +kernel
theorem dX1_attachToSpare_5 : decode cX1_attachToSpare 5 = .ok (.aload_n 0, 1) := by decide +kernel
theorem dX1_attachToSpare_6 : decode cX1_attachToSpare 6 = .ok (.getfield 12, 3) := by decide +kernel
theorem dX1_attachToSpare_9 : decode cX1_attachToSpare 9 = .ok (.iload_n 1, 1) := by decide +kernel
theorem dX1_attachToSpare_10 : decode cX1_attachToSpare 10 = .ok (.iload_n 2, 1) := by decide +kernel
theorem dX1_attachToSpare_11 : decode cX1_attachToSpare 11 = .ok (.iload_n 3, 1) := by decide +kernel
theorem dX1_attachToSpare_12 : decode cX1_attachToSpare 12 = .ok (.invokevirtual 52, 3) := by decide +kernel
theorem dX1_attachToSpare_15 : decode cX1_attachToSpare 15 = .ok (.aload_n 0, 1) := by decide +kernel
theorem dX1_attachToSpare_16 : decode cX1_attachToSpare 16 = .ok (.getfield 12, 3) := by decide +kernel
theorem dX1_attachToSpare_19 : decode cX1_attachToSpare 19 = .ok (.bipush 7, 2) := by decide +kernel
theorem dX1_attachToSpare_21 : decode cX1_attachToSpare 21 = .ok (.iconst 1, 1) := by decide +kernel
theorem dX1_attachToSpare_22 : decode cX1_attachToSpare 22 = .ok (.invokevirtual 71, 3) := by decide +kernel
theorem dX1_attachToSpare_25 : decode cX1_attachToSpare 25 = .ok (.return_, 1) := by decide +kernel
theorem dX1_isOrphan_0 : decode cX1_isOrphan 0 = .ok (.aload_n 0, 1) := by decide +kernel
theorem dX1_isOrphan_1 : decode cX1_isOrphan 1 = .ok (.getfield 12, 3) := by decide +kernel
theorem dX1_isOrphan_4 : decode cX1_isOrphan 4 = .ok (.iload_n 1, 1) := by decide +kernel
theorem dX1_isOrphan_5 : decode cX1_isOrphan 5 = .ok (.iconst 0, 1) := by decide +kernel
theorem dX1_isOrphan_6 : decode cX1_isOrphan 6 = .ok (.invokevirtual 22, 3) := by decide +kernel
theorem dX1_isOrphan_9 : decode cX1_isOrphan 9 = .ok (.iconst 1, 1) := by decide +kernel
theorem dX1_isOrphan_10 : decode cX1_isOrphan 10 = .ok (.if_icmp .ne 20, 3) := by decide +kernel
theorem dX1_isOrphan_13 : decode cX1_isOrphan 13 = .ok (.aload_n 0, 1) := by decide +kernel
theorem dX1_isOrphan_14 : decode cX1_isOrphan 14 = .ok (.getfield 12, 3) := by decide +kernel
theorem dX1_isOrphan_17 : decode cX1_isOrphan 17 = .ok (.iload_n 1, 1) := by decide +kernel
theorem dX1_isOrphan_18 : decode cX1_isOrphan 18 = .ok (.iload_n 2, 1) := by decide +kernel
theorem dX1_isOrphan_19 : decode cX1_isOrphan 19 = .ok (.invokevirtual 18, 3) := by decide +kernel
theorem dX1_isOrphan_22 : decode cX1_isOrphan 22 = .ok (.iconst (-1), 1) := by decide +kernel
theorem dX1_isOrphan_23 : decode cX1_isOrphan 23 = .ok (.if_icmp .ne 7, 3) := by decide +kernel
theorem dX1_isOrphan_26 : decode cX1_isOrphan 26 = .ok (.iconst 1, 1) := by decide +kernel
theorem dX1_isOrphan_27 : decode cX1_isOrphan 27 = .ok (.goto 4, 3) := by decide +kernel
theorem dX1_isOrphan_30 : decode cX1_isOrphan 30 = .ok (.iconst 0, 1) := by decide +kernel
theorem dX1_isOrphan_31 : decode cX1_isOrphan 31 = .ok (.ireturn, 1) := by decide +kernel
theorem dX1_attachOrphans_0 : decode cX1_attachOrphans 0 = .ok (.iconst 0, 1) := by decide +kernel
theorem dX1_attachOrphans_1 : decode cX1_attachOrphans 1 = .ok (.istore_n 1, 1) := by decide +kernel
theorem dX1_attachOrphans_2 : decode cX1_attachOrphans 2 = .ok (.iload_n 1, 1) := by decide +kernel
theorem dX1_attachOrphans_3 : decode cX1_attachOrphans 3 = .ok (.iconst 4, 1) := by decide +kernel
theorem dX1_attachOrphans_4 : decode cX1_attachOrphans 4 = .ok (.if_icmp .ge 38, 3) := by decide +kernel
theorem dX1_attachOrphans_7 : decode cX1_attachOrphans 7 = .ok (.iconst 0, 1) := by decide +kernel
theorem dX1_attachOrphans_8 : decode cX1_attachOrphans 8 = .ok (.istore_n 2, 1) := by decide +kernel
theorem dX1_attachOrphans_9 : decode cX1_attachOrphans 9 = .ok (.iload_n 2, 1) := by decide +kernel
theorem dX1_attachOrphans_10 : decode cX1_attachOrphans 10 = .ok (.bipush 32, 2) := by decide +kernel
theorem dX1_attachOrphans_12 : decode cX1_attachOrphans 12 = .ok (.if_icmp .ge 24, 3) := by decide +kernel
theorem dX1_attachOrphans_15 : decode cX1_attachOrphans 15 = .ok (.aload_n 0, 1) := by decide +kernel
theorem dX1_attachOrphans_16 : decode cX1_attachOrphans 16 = .ok (.iload_n 2, 1) := by decide +kernel
theorem dX1_attachOrphans_17 : decode cX1_attachOrphans 17 = .ok (.iload_n 1, 1) := by decide +kernel
theorem dX1_attachOrphans_18 : decode cX1_attachOrphans 18 = .ok (.invokevirtual 75, 3) := by decide +kernel
theorem dX1_attachOrphans_21 : decode cX1_attachOrphans 21 = .ok (.ifCond .eq 9, 3) := by decide +kernel
theorem dX1_attachOrphans_24 : decode cX1_attachOrphans 24 = .ok (.aload_n 0, 1) := by decide +kernel
theorem dX1_attachOrphans_25 : decode cX1_attachOrphans 25 = .ok (.iload_n 2, 1) := by decide +kernel
theorem dX1_attachOrphans_26 : decode cX1_attachOrphans 26 = .ok (.iload_n 1, 1) := by decide +kernel
theorem dX1_attachOrphans_27 : decode cX1_attachOrphans 27 = .ok (.invokevirtual 78, 3) := by decide +kernel
theorem dX1_attachOrphans_30 : decode cX1_attachOrphans 30 = .ok (.iinc 2 1, 3) := by decide +kernel
theorem dX1_attachOrphans_33 : decode cX1_attachOrphans 33 = .ok (.goto (-24), 3) := by decide +kernel
theorem dX1_attachOrphans_36 : decode cX1_attachOrphans 36 = .ok (.iinc 1 1, 3) := by decide +kernel
theorem dX1_attachOrphans_39 : decode cX1_attachOrphans 39 = .ok (.goto (-37), 3) := by decide +kernel
theorem dX1_attachOrphans_42 : decode cX1_attachOrphans 42 = .ok (.return_, 1) := by decide +kernel
theorem dX1_cutChildren_0 : decode cX1_cutChildren 0 = .ok (.aload_n 0, 1) := by decide +kernel
theorem dX1_cutChildren_1 : decode cX1_cutChildren 1 = .ok (.iload_n 1, 1) := by decide +kernel
theorem dX1_cutChildren_2 : decode cX1_cutChildren 2 = .ok (.iload_n 2, 1) := by decide +kernel
theorem dX1_cutChildren_3 : decode cX1_cutChildren 3 = .ok (.invokevirtual 33, 3) := by decide +kernel
theorem dX1_cutChildren_6 : decode cX1_cutChildren 6 = .ok (.istore 4, 2) := by decide +kernel
theorem dX1_cutChildren_8 : decode cX1_cutChildren 8 = .ok (.iload 4, 2) := by decide +kernel
theorem dX1_cutChildren_10 : decode cX1_cutChildren 10 = .ok (.iload_n 3, 1) := by decide +kernel
theorem dX1_cutChildren_11 : decode cX1_cutChildren 11 = .ok (.if_icmp .le 24, 3) := by decide +kernel
theorem dX1_cutChildren_14 : decode cX1_cutChildren 14 = .ok (.aload_n 0, 1) := by decide +kernel
theorem dX1_cutChildren_15 : decode cX1_cutChildren 15 = .ok (.getfield 12, 3) := by decide +kernel
theorem dX1_cutChildren_18 : decode cX1_cutChildren 18 = .ok (.aload_n 0, 1) := by decide +kernel
theorem dX1_cutChildren_19 : decode cX1_cutChildren 19 = .ok (.iload_n 1, 1) := by decide +kernel
theorem dX1_cutChildren_20 : decode cX1_cutChildren 20 = .ok (.iload_n 2, 1) := by decide +kernel
theorem dX1_cutChildren_21 : decode cX1_cutChildren 21 = .ok (.invokevirtual 56, 3) := by decide +kernel
theorem dX1_cutChildren_24 : decode cX1_cutChildren 24 = .ok (.iload_n 2, 1) := by decide +kernel
theorem dX1_cutChildren_25 : decode cX1_cutChildren 25 = .ok (.iconst (-1), 1) := by decide +kernel
theorem dX1_cutChildren_26 : decode cX1_cutChildren 26 = .ok (.invokevirtual 52, 3) := by decide +kernel
theorem dX1_cutChildren_29 : decode cX1_cutChildren 29 = .ok (.iinc 4 (-1), 3) := by decide +kernel
theorem dX1_cutChildren_32 : decode cX1_cutChildren 32 = .ok (.goto (-24), 3) := by decide +kernel
theorem dX1_cutChildren_35 : decode cX1_cutChildren 35 = .ok (.return_, 1) := by decide +kernel
theorem dX1_takeIn_0 : decode cX1_takeIn 0 = .ok (.aload_n 0, 1) := by decide +kernel
theorem dX1_takeIn_1 : decode cX1_takeIn 1 = .ok (.getfield 12, 3) := by decide +kernel
theorem dX1_takeIn_4 : decode cX1_takeIn 4 = .ok (.iload_n 1, 1) := by decide +kernel
theorem dX1_takeIn_5 : decode cX1_takeIn 5 = .ok (.iconst 0, 1) := by decide +kernel
theorem dX1_takeIn_6 : decode cX1_takeIn 6 = .ok (.iconst 1, 1) := by decide +kernel
theorem dX1_takeIn_7 : decode cX1_takeIn 7 = .ok (.invokevirtual 81, 3) := by decide +kernel
theorem dX1_takeIn_10 : decode cX1_takeIn 10 = .ok (.aload_n 0, 1) := by decide +kernel
theorem dX1_takeIn_11 : decode cX1_takeIn 11 = .ok (.getfield 12, 3) := by decide +kernel
theorem dX1_takeIn_14 : decode cX1_takeIn 14 = .ok (.iload_n 1, 1) := by decide +kernel
theorem dX1_takeIn_15 : decode cX1_takeIn 15 = .ok (.iconst 1, 1) := by decide +kernel
theorem dX1_takeIn_16 : decode cX1_takeIn 16 = .ok (.iload_n 2, 1) := by decide +kernel
theorem dX1_takeIn_17 : decode cX1_takeIn 17 = .ok (.invokevirtual 81, 3) := by decide +kernel
theorem dX1_takeIn_20 : decode cX1_takeIn 20 = .ok (.aload_n 0, 1) := by decide +kernel
theorem dX1_takeIn_21 : decode cX1_takeIn 21 = .ok (.getfield 12, 3) := by decide +kernel
theorem dX1_takeIn_24 : decode cX1_takeIn 24 = .ok (.iload_n 1, 1) := by decide +kernel
theorem dX1_takeIn_25 : decode cX1_takeIn 25 = .ok (.iconst 2, 1) := by decide +kernel
theorem dX1_takeIn_26 : decode cX1_takeIn 26 = .ok (.iload_n 3, 1) := by decide +kernel
theorem dX1_takeIn_27 : decode cX1_takeIn 27 = .ok (.invokevirtual 81, 3) := by decide +kernel
theorem dX1_takeIn_30 : decode cX1_takeIn 30 = .ok (.aload_n 0, 1) := by decide +kernel
theorem dX1_takeIn_31 : decode cX1_takeIn 31 = .ok (.getfield 12, 3) := by decide +kernel
theorem dX1_takeIn_34 : decode cX1_takeIn 34 = .ok (.iload_n 1, 1) := by decide +kernel
theorem dX1_takeIn_35 : decode cX1_takeIn 35 = .ok (.iconst 4, 1) := by decide +kernel
theorem dX1_takeIn_36 : decode cX1_takeIn 36 = .ok (.iconst (-1), 1) := by decide +kernel
theorem dX1_takeIn_37 : decode cX1_takeIn 37 = .ok (.invokevirtual 81, 3) := by decide +kernel
theorem dX1_takeIn_40 : decode cX1_takeIn 40 = .ok (.aload_n 0, 1) := by decide +kernel
theorem dX1_takeIn_41 : decode cX1_takeIn 41 = .ok (.getfield 12, 3) := by decide +kernel
theorem dX1_takeIn_44 : decode cX1_takeIn 44 = .ok (.iload_n 1, 1) := by decide +kernel
theorem dX1_takeIn_45 : decode cX1_takeIn 45 = .ok (.bipush 6, 2) := by decide +kernel
theorem dX1_takeIn_47 : decode cX1_takeIn 47 = .ok (.iconst (-1), 1) := by decide +kernel
theorem dX1_takeIn_48 : decode cX1_takeIn 48 = .ok (.invokevirtual 81, 3) := by decide +kernel
theorem dX1_takeIn_51 : decode cX1_takeIn 51 = .ok (.aload_n 0, 1) := by decide +kernel
theorem dX1_takeIn_52 : decode cX1_takeIn 52 = .ok (.getfield 12, 3) := by decide +kernel
theorem dX1_takeIn_55 : decode cX1_takeIn 55 = .ok (.iconst 0, 1) := by decide +kernel
theorem dX1_takeIn_56 : decode cX1_takeIn 56 = .ok (.iconst 1, 1) := by decide +kernel
theorem dX1_takeIn_57 : decode cX1_takeIn 57 = .ok (.invokevirtual 71, 3) := by decide +kernel
theorem dX1_takeIn_60 : decode cX1_takeIn 60 = .ok (.return_, 1) := by decide +kernel
theorem dX1_takeOut_0 : decode cX1_takeOut 0 = .ok (.iconst 0, 1) := by decide +kernel
theorem dX1_takeOut_1 : decode cX1_takeOut 1 = .ok (.istore_n 2, 1) := by decide +kernel
theorem dX1_takeOut_2 : decode cX1_takeOut 2 = .ok (.iload_n 2, 1) := by decide +kernel
theorem dX1_takeOut_3 : decode cX1_takeOut 3 = .ok (.iconst 4, 1) := by decide +kernel
theorem dX1_takeOut_4 : decode cX1_takeOut 4 = .ok (.if_icmp .ge 26, 3) := by decide +kernel
theorem dX1_takeOut_7 : decode cX1_takeOut 7 = .ok (.aload_n 0, 1) := by decide +kernel
theorem dX1_takeOut_8 : decode cX1_takeOut 8 = .ok (.iload_n 1, 1) := by decide +kernel
theorem dX1_takeOut_9 : decode cX1_takeOut 9 = .ok (.iload_n 2, 1) := by decide +kernel
theorem dX1_takeOut_10 : decode cX1_takeOut 10 = .ok (.iconst 0, 1) := by decide +kernel
theorem dX1_takeOut_11 : decode cX1_takeOut 11 = .ok (.invokevirtual 84, 3) := by decide +kernel
theorem dX1_takeOut_14 : decode cX1_takeOut 14 = .ok (.aload_n 0, 1) := by decide +kernel
theorem dX1_takeOut_15 : decode cX1_takeOut 15 = .ok (.getfield 12, 3) := by decide +kernel
theorem dX1_takeOut_18 : decode cX1_takeOut 18 = .ok (.iload_n 1, 1) := by decide +kernel
theorem dX1_takeOut_19 : decode cX1_takeOut 19 = .ok (.iload_n 2, 1) := by decide +kernel
theorem dX1_takeOut_20 : decode cX1_takeOut 20 = .ok (.iconst (-1), 1) := by decide +kernel
theorem dX1_takeOut_21 : decode cX1_takeOut 21 = .ok (.invokevirtual 52, 3) := by decide +kernel
theorem dX1_takeOut_24 : decode cX1_takeOut 24 = .ok (.iinc 2 1, 3) := by decide +kernel
theorem dX1_takeOut_27 : decode cX1_takeOut 27 = .ok (.goto (-25), 3) := by decide +kernel
theorem dX1_takeOut_30 : decode cX1_takeOut 30 = .ok (.iconst 0, 1) := by decide +kernel
theorem dX1_takeOut_31 : decode cX1_takeOut 31 = .ok (.istore_n 2, 1) := by decide +kernel
theorem dX1_takeOut_32 : decode cX1_takeOut 32 = .ok (.iload_n 2, 1) := by decide +kernel
theorem dX1_takeOut_33 : decode cX1_takeOut 33 = .ok (.bipush 10, 2) := by decide +kernel
theorem dX1_takeOut_35 : decode cX1_takeOut 35 = .ok (.if_icmp .ge 19, 3) := by decide +kernel
theorem dX1_takeOut_38 : decode cX1_takeOut 38 = .ok (.aload_n 0, 1) := by decide +kernel
theorem dX1_takeOut_39 : decode cX1_takeOut 39 = .ok (.getfield 12, 3) := by decide +kernel
theorem dX1_takeOut_42 : decode cX1_takeOut 42 = .ok (.iload_n 1, 1) := by decide +kernel
theorem dX1_takeOut_43 : decode cX1_takeOut 43 = .ok (.iload_n 2, 1) := by decide +kernel
theorem dX1_takeOut_44 : decode cX1_takeOut 44 = .ok (.iconst 0, 1) := by decide +kernel
theorem dX1_takeOut_45 : decode cX1_takeOut 45 = .ok (.invokevirtual 81, 3) := by decide +kernel
theorem dX1_takeOut_48 : decode cX1_takeOut 48 = .ok (.iinc 2 1, 3) := by decide +kernel
theorem dX1_takeOut_51 : decode cX1_takeOut 51 = .ok (.goto (-19), 3) := by decide +kernel
theorem dX1_takeOut_54 : decode cX1_takeOut 54 = .ok (.aload_n 0, 1) := by decide +kernel
theorem dX1_takeOut_55 : decode cX1_takeOut 55 = .ok (.getfield 12, 3) := by decide +kernel
theorem dX1_takeOut_58 : decode cX1_takeOut 58 = .ok (.iconst 0, 1) := by decide +kernel
theorem dX1_takeOut_59 : decode cX1_takeOut 59 = .ok (.iconst (-1), 1) := by decide +kernel
theorem dX1_takeOut_60 : decode cX1_takeOut 60 = .ok (.invokevirtual 71, 3) := by decide +kernel
theorem dX1_takeOut_63 : decode cX1_takeOut 63 = .ok (.return_, 1) := by decide +kernel
theorem dX1_connected_0 : decode cX1_connected 0 = .ok (.iconst 0, 1) := by decide +kernel
theorem dX1_connected_1 : decode cX1_connected 1 = .ok (.istore_n 2, 1) := by decide +kernel
theorem dX1_connected_2 : decode cX1_connected 2 = .ok (.iconst 0, 1) := by decide +kernel
theorem dX1_connected_3 : decode cX1_connected 3 = .ok (.istore_n 3, 1) := by decide +kernel
theorem dX1_connected_4 : decode cX1_connected 4 = .ok (.iload_n 3, 1) := by decide +kernel
theorem dX1_connected_5 : decode cX1_connected 5 = .ok (.bipush 32, 2) := by decide +kernel
theorem dX1_connected_7 : decode cX1_connected 7 = .ok (.if_icmp .ge 22, 3) := by decide +kernel
theorem dX1_connected_10 : decode cX1_connected 10 = .ok (.aload_n 0, 1) := by decide +kernel
theorem dX1_connected_11 : decode cX1_connected 11 = .ok (.iload_n 3, 1) := by decide +kernel
theorem dX1_connected_12 : decode cX1_connected 12 = .ok (.iload_n 1, 1) := by decide +kernel
theorem dX1_connected_13 : decode cX1_connected 13 = .ok (.invokevirtual 43, 3) := by decide +kernel
theorem dX1_connected_16 : decode cX1_connected 16 = .ok (.iconst (-1), 1) := by decide +kernel
theorem dX1_connected_17 : decode cX1_connected 17 = .ok (.if_icmp .eq 6, 3) := by decide +kernel
theorem dX1_connected_20 : decode cX1_connected 20 = .ok (.iinc 2 1, 3) := by decide +kernel
theorem dX1_connected_23 : decode cX1_connected 23 = .ok (.iinc 3 1, 3) := by decide +kernel
theorem dX1_connected_26 : decode cX1_connected 26 = .ok (.goto (-22), 3) := by decide +kernel
theorem dX1_connected_29 : decode cX1_connected 29 = .ok (.iload_n 2, 1) := by decide +kernel
theorem dX1_connected_30 : decode cX1_connected 30 = .ok (.ireturn, 1) := by decide +kernel
theorem dX1_orphans_0 : decode cX1_orphans 0 = .ok (.iconst 0, 1) := by decide +kernel
theorem dX1_orphans_1 : decode cX1_orphans 1 = .ok (.istore_n 2, 1) := by decide +kernel
theorem dX1_orphans_2 : decode cX1_orphans 2 = .ok (.iconst 0, 1) := by decide +kernel
theorem dX1_orphans_3 : decode cX1_orphans 3 = .ok (.istore_n 3, 1) := by decide +kernel
theorem dX1_orphans_4 : decode cX1_orphans 4 = .ok (.iload_n 3, 1) := by decide +kernel
theorem dX1_orphans_5 : decode cX1_orphans 5 = .ok (.bipush 32, 2) := by decide +kernel
theorem dX1_orphans_7 : decode cX1_orphans 7 = .ok (.if_icmp .ge 21, 3) := by decide +kernel
theorem dX1_orphans_10 : decode cX1_orphans 10 = .ok (.aload_n 0, 1) := by decide +kernel
theorem dX1_orphans_11 : decode cX1_orphans 11 = .ok (.iload_n 3, 1) := by decide +kernel
theorem dX1_orphans_12 : decode cX1_orphans 12 = .ok (.iload_n 1, 1) := by decide +kernel
theorem dX1_orphans_13 : decode cX1_orphans 13 = .ok (.invokevirtual 75, 3) := by decide +kernel
theorem dX1_orphans_16 : decode cX1_orphans 16 = .ok (.ifCond .eq 6, 3) := by decide +kernel
theorem dX1_orphans_19 : decode cX1_orphans 19 = .ok (.iinc 2 1, 3) := by decide +kernel
theorem dX1_orphans_22 : decode cX1_orphans 22 = .ok (.iinc 3 1, 3) := by decide +kernel
theorem dX1_orphans_25 : decode cX1_orphans 25 = .ok (.goto (-21), 3) := by decide +kernel
theorem dX1_orphans_28 : decode cX1_orphans 28 = .ok (.iload_n 2, 1) := by decide +kernel
theorem dX1_orphans_29 : decode cX1_orphans 29 = .ok (.ireturn, 1) := by decide +kernel
theorem dX1_greatestDepth_0 : decode cX1_greatestDepth 0 = .ok (.iconst 0, 1) := by decide +kernel
theorem dX1_greatestDepth_1 : decode cX1_greatestDepth 1 = .ok (.istore_n 2, 1) := by decide +kernel
theorem dX1_greatestDepth_2 : decode cX1_greatestDepth 2 = .ok (.iconst 0, 1) := by decide +kernel
theorem dX1_greatestDepth_3 : decode cX1_greatestDepth 3 = .ok (.istore_n 3, 1) := by decide +kernel
theorem dX1_greatestDepth_4 : decode cX1_greatestDepth 4 = .ok (.iload_n 3, 1) := by decide +kernel
theorem dX1_greatestDepth_5 : decode cX1_greatestDepth 5 = .ok (.bipush 32, 2) := by decide +kernel
theorem dX1_greatestDepth_7 : decode cX1_greatestDepth 7 = .ok (.if_icmp .ge 20, 3) := by decide +kernel
theorem dX1_greatestDepth_10 : decode cX1_greatestDepth 10 = .ok (.iload_n 2, 1) := by decide +kernel
theorem dX1_greatestDepth_11 : decode cX1_greatestDepth 11 = .ok (.aload_n 0, 1) := by decide +kernel
theorem dX1_greatestDepth_12 : decode cX1_greatestDepth 12 = .ok (.iload_n 3, 1) := by decide +kernel
theorem dX1_greatestDepth_13 : decode cX1_greatestDepth 13 = .ok (.iload_n 1, 1) := by decide +kernel
theorem dX1_greatestDepth_14 : decode cX1_greatestDepth 14 = .ok (.invokevirtual 43, 3) := by decide +kernel
theorem dX1_greatestDepth_17 : decode cX1_greatestDepth 17 = .ok (.invokestatic 87, 3) := by decide +kernel
theorem dX1_greatestDepth_20 : decode cX1_greatestDepth 20 = .ok (.istore_n 2, 1) := by decide +kernel
theorem dX1_greatestDepth_21 : decode cX1_greatestDepth 21 = .ok (.iinc 3 1, 3) := by decide +kernel
theorem dX1_greatestDepth_24 : decode cX1_greatestDepth 24 = .ok (.goto (-20), 3) := by decide +kernel
theorem dX1_greatestDepth_27 : decode cX1_greatestDepth 27 = .ok (.iload_n 2, 1) := by decide +kernel
theorem dX1_greatestDepth_28 : decode cX1_greatestDepth 28 = .ok (.ireturn, 1) := by decide +kernel
theorem dX1_withRoom_0 : decode cX1_withRoom 0 = .ok (.iconst 0, 1) := by decide +kernel
theorem dX1_withRoom_1 : decode cX1_withRoom 1 = .ok (.istore_n 2, 1) := by decide +kernel
theorem dX1_withRoom_2 : decode cX1_withRoom 2 = .ok (.iconst 0, 1) := by decide +kernel
theorem dX1_withRoom_3 : decode cX1_withRoom 3 = .ok (.istore_n 3, 1) := by decide +kernel
theorem dX1_withRoom_4 : decode cX1_withRoom 4 = .ok (.iload_n 3, 1) := by decide +kernel
theorem dX1_withRoom_5 : decode cX1_withRoom 5 = .ok (.bipush 32, 2) := by decide +kernel
theorem dX1_withRoom_7 : decode cX1_withRoom 7 = .ok (.if_icmp .ge 21, 3) := by decide +kernel
theorem dX1_withRoom_10 : decode cX1_withRoom 10 = .ok (.aload_n 0, 1) := by decide +kernel
theorem dX1_withRoom_11 : decode cX1_withRoom 11 = .ok (.iload_n 3, 1) := by decide +kernel
theorem dX1_withRoom_12 : decode cX1_withRoom 12 = .ok (.iload_n 1, 1) := by decide +kernel
theorem dX1_withRoom_13 : decode cX1_withRoom 13 = .ok (.invokevirtual 49, 3) := by decide +kernel
theorem dX1_withRoom_16 : decode cX1_withRoom 16 = .ok (.ifCond .eq 6, 3) := by decide +kernel
theorem dX1_withRoom_19 : decode cX1_withRoom 19 = .ok (.iinc 2 1, 3) := by decide +kernel
theorem dX1_withRoom_22 : decode cX1_withRoom 22 = .ok (.iinc 3 1, 3) := by decide +kernel
theorem dX1_withRoom_25 : decode cX1_withRoom 25 = .ok (.goto (-21), 3) := by decide +kernel
theorem dX1_withRoom_28 : decode cX1_withRoom 28 = .ok (.iload_n 2, 1) := by decide +kernel
theorem dX1_withRoom_29 : decode cX1_withRoom 29 = .ok (.ireturn, 1) := by decide +kernel
theorem dX1_withChildren_0 : decode cX1_withChildren 0 = .ok (.iconst 0, 1) := by decide +kernel
theorem dX1_withChildren_1 : decode cX1_withChildren 1 = .ok (.istore_n 2, 1) := by decide +kernel
theorem dX1_withChildren_2 : decode cX1_withChildren 2 = .ok (.iconst 0, 1) := by decide +kernel
theorem dX1_withChildren_3 : decode cX1_withChildren 3 = .ok (.istore_n 3, 1) := by decide +kernel
theorem dX1_withChildren_4 : decode cX1_withChildren 4 = .ok (.iload_n 3, 1) := by decide +kernel
theorem dX1_withChildren_5 : decode cX1_withChildren 5 = .ok (.bipush 32, 2) := by decide +kernel
theorem dX1_withChildren_7 : decode cX1_withChildren 7 = .ok (.if_icmp .ge 38, 3) := by decide +kernel
theorem dX1_withChildren_10 : decode cX1_withChildren 10 = .ok (.aload_n 0, 1) := by decide +kernel
theorem dX1_withChildren_11 : decode cX1_withChildren 11 = .ok (.getfield 12, 3) := by decide +kernel
theorem dX1_withChildren_14 : decode cX1_withChildren 14 = .ok (.iload_n 3, 1) := by decide +kernel
theorem dX1_withChildren_15 : decode cX1_withChildren 15 = .ok (.iconst 5, 1) := by decide +kernel
theorem dX1_withChildren_16 : decode cX1_withChildren 16 = .ok (.invokevirtual 22, 3) := by decide +kernel
theorem dX1_withChildren_19 : decode cX1_withChildren 19 = .ok (.ifCond .le 20, 3) := by decide +kernel
theorem dX1_withChildren_22 : decode cX1_withChildren 22 = .ok (.aload_n 0, 1) := by decide +kernel
theorem dX1_withChildren_23 : decode cX1_withChildren 23 = .ok (.getfield 12, 3) := by decide +kernel
theorem dX1_withChildren_26 : decode cX1_withChildren 26 = .ok (.iload_n 3, 1) := by decide +kernel
theorem dX1_withChildren_27 : decode cX1_withChildren 27 = .ok (.bipush 6, 2) := by decide +kernel
theorem dX1_withChildren_29 : decode cX1_withChildren 29 = .ok (.invokevirtual 22, 3) := by decide +kernel
theorem dX1_withChildren_32 : decode cX1_withChildren 32 = .ok (.iload_n 1, 1) := by decide +kernel
theorem dX1_withChildren_33 : decode cX1_withChildren 33 = .ok (.if_icmp .ne 6, 3) := by decide +kernel
theorem dX1_withChildren_36 : decode cX1_withChildren 36 = .ok (.iinc 2 1, 3) := by decide +kernel
theorem dX1_withChildren_39 : decode cX1_withChildren 39 = .ok (.iinc 3 1, 3) := by decide +kernel
theorem dX1_withChildren_42 : decode cX1_withChildren 42 = .ok (.goto (-38), 3) := by decide +kernel
theorem dX1_withChildren_45 : decode cX1_withChildren 45 = .ok (.iload_n 2, 1) := by decide +kernel
theorem dX1_withChildren_46 : decode cX1_withChildren 46 = .ok (.ireturn, 1) := by decide +kernel
theorem dX2_init_0 : decode cX2_init 0 = .ok (.aload_n 0, 1) := by decide +kernel
theorem dX2_init_1 : decode cX2_init 1 = .ok (.invokespecial 3, 3) := by decide +kernel
theorem dX2_init_4 : decode cX2_init 4 = .ok (.aload_n 0, 1) := by decide +kernel
theorem dX2_init_5 : decode cX2_init 5 = .ok (.sipush 1836, 3) := by decide +kernel
theorem dX2_init_8 : decode cX2_init 8 = .ok (.newarray .int, 2) := by decide +kernel
theorem dX2_init_10 : decode cX2_init 10 = .ok (.putfield 11, 3) := by decide +kernel
theorem dX2_init_13 : decode cX2_init 13 = .ok (.aload_n 0, 1) := by decide +kernel
theorem dX2_init_14 : decode cX2_init 14 = .ok (.iconst 0, 1) := by decide +kernel
theorem dX2_init_15 : decode cX2_init 15 = .ok (.putfield 17, 3) := by decide +kernel
theorem dX2_init_18 : decode cX2_init 18 = .ok (.aload_n 0, 1) := by decide +kernel
theorem dX2_init_19 : decode cX2_init 19 = .ok (.iconst 0, 1) := by decide +kernel
theorem dX2_init_20 : decode cX2_init 20 = .ok (.putfield 21, 3) := by decide +kernel
theorem dX2_init_23 : decode cX2_init 23 = .ok (.return_, 1) := by decide +kernel
theorem dX2_size_0 : decode cX2_size 0 = .ok (.aload_n 0, 1) := by decide +kernel
theorem dX2_size_1 : decode cX2_size 1 = .ok (.getfield 17, 3) := by decide +kernel
theorem dX2_size_4 : decode cX2_size 4 = .ok (.ireturn, 1) := by decide +kernel
theorem dX2_push_0 : decode cX2_push 0 = .ok (.aload_n 1, 1) := by decide +kernel
theorem dX2_push_1 : decode cX2_push 1 = .ok (.aload_n 0, 1) := by decide +kernel
theorem dX2_push_2 : decode cX2_push 2 = .ok (.getfield 11, 3) := by decide +kernel
theorem dX2_push_5 : decode cX2_push 5 = .ok (.aload_n 0, 1) := by decide +kernel
theorem dX2_push_6 : decode cX2_push 6 = .ok (.getfield 21, 3) := by decide +kernel
theorem dX2_push_9 : decode cX2_push 9 = .ok (.sipush 459, 3) := by decide +kernel
theorem dX2_push_12 : decode cX2_push 12 = .ok (.imul, 1) := by decide +kernel
theorem dX2_push_13 : decode cX2_push 13 = .ok (.invokevirtual 24, 3) := by decide +kernel
theorem dX2_push_16 : decode cX2_push 16 = .ok (.aload_n 0, 1) := by decide +kernel
theorem dX2_push_17 : decode cX2_push 17 = .ok (.aload_n 0, 1) := by decide +kernel
theorem dX2_push_18 : decode cX2_push 18 = .ok (.getfield 21, 3) := by decide +kernel
theorem dX2_push_21 : decode cX2_push 21 = .ok (.iconst 1, 1) := by decide +kernel
theorem dX2_push_22 : decode cX2_push 22 = .ok (.iadd, 1) := by decide +kernel
theorem dX2_push_23 : decode cX2_push 23 = .ok (.iconst 4, 1) := by decide +kernel
theorem dX2_push_24 : decode cX2_push 24 = .ok (.invokestatic 28, 3) := by decide +kernel
theorem dX2_push_27 : decode cX2_push 27 = .ok (.putfield 21, 3) := by decide +kernel
theorem dX2_push_30 : decode cX2_push 30 = .ok (.aload_n 0, 1) := by decide +kernel
theorem dX2_push_31 : decode cX2_push 31 = .ok (.aload_n 0, 1) := by decide +kernel
theorem dX2_push_32 : decode cX2_push 32 = .ok (.getfield 17, 3) := by decide +kernel
theorem dX2_push_35 : decode cX2_push 35 = .ok (.iconst 1, 1) := by decide +kernel
theorem dX2_push_36 : decode cX2_push 36 = .ok (.iadd, 1) := by decide +kernel
theorem dX2_push_37 : decode cX2_push 37 = .ok (.iconst 4, 1) := by decide +kernel
theorem dX2_push_38 : decode cX2_push 38 = .ok (.invokestatic 34, 3) := by decide +kernel
theorem dX2_push_41 : decode cX2_push 41 = .ok (.putfield 17, 3) := by decide +kernel
theorem dX2_push_44 : decode cX2_push 44 = .ok (.return_, 1) := by decide +kernel
theorem dX2_popInto_0 : decode cX2_popInto 0 = .ok (.aload_n 0, 1) := by decide +kernel
theorem dX2_popInto_1 : decode cX2_popInto 1 = .ok (.getfield 17, 3) := by decide +kernel
theorem dX2_popInto_4 : decode cX2_popInto 4 = .ok (.ifCond .ne 4, 3) := by decide +kernel
theorem dX2_popInto_7 : decode cX2_popInto 7 = .ok (.return_, 1) := by decide +kernel
theorem dX2_popInto_8 : decode cX2_popInto 8 = .ok (.aload_n 0, 1) := by decide +kernel
theorem dX2_popInto_9 : decode cX2_popInto 9 = .ok (.aload_n 0, 1) := by decide +kernel
theorem dX2_popInto_10 : decode cX2_popInto 10 = .ok (.getfield 21, 3) := by decide +kernel
theorem dX2_popInto_13 : decode cX2_popInto 13 = .ok (.iconst 1, 1) := by decide +kernel
theorem dX2_popInto_14 : decode cX2_popInto 14 = .ok (.isub, 1) := by decide +kernel
theorem dX2_popInto_15 : decode cX2_popInto 15 = .ok (.iconst 4, 1) := by decide +kernel
theorem dX2_popInto_16 : decode cX2_popInto 16 = .ok (.invokestatic 28, 3) := by decide +kernel
theorem dX2_popInto_19 : decode cX2_popInto 19 = .ok (.putfield 21, 3) := by decide +kernel
theorem dX2_popInto_22 : decode cX2_popInto 22 = .ok (.aload_n 0, 1) := by decide +kernel
theorem dX2_popInto_23 : decode cX2_popInto 23 = .ok (.dup, 1) := by decide +kernel
theorem dX2_popInto_24 : decode cX2_popInto 24 = .ok (.getfield 17, 3) := by decide +kernel
theorem dX2_popInto_27 : decode cX2_popInto 27 = .ok (.iconst 1, 1) := by decide +kernel
theorem dX2_popInto_28 : decode cX2_popInto 28 = .ok (.isub, 1) := by decide +kernel
theorem dX2_popInto_29 : decode cX2_popInto 29 = .ok (.putfield 17, 3) := by decide +kernel
theorem dX2_popInto_32 : decode cX2_popInto 32 = .ok (.aload_n 1, 1) := by decide +kernel
theorem dX2_popInto_33 : decode cX2_popInto 33 = .ok (.aload_n 0, 1) := by decide +kernel
theorem dX2_popInto_34 : decode cX2_popInto 34 = .ok (.getfield 11, 3) := by decide +kernel
theorem dX2_popInto_37 : decode cX2_popInto 37 = .ok (.aload_n 0, 1) := by decide +kernel
theorem dX2_popInto_38 : decode cX2_popInto 38 = .ok (.getfield 21, 3) := by decide +kernel
theorem dX2_popInto_41 : decode cX2_popInto 41 = .ok (.sipush 459, 3) := by decide +kernel
theorem dX2_popInto_44 : decode cX2_popInto 44 = .ok (.imul, 1) := by decide +kernel
theorem dX2_popInto_45 : decode cX2_popInto 45 = .ok (.invokevirtual 37, 3) := by decide +kernel
theorem dX2_popInto_48 : decode cX2_popInto 48 = .ok (.return_, 1) := by decide +kernel
theorem dX3_init_0 : decode cX3_init 0 = .ok (.aload_n 0, 1) := by decide +kernel
theorem dX3_init_1 : decode cX3_init 1 = .ok (.invokespecial 1, 3) := by decide +kernel
theorem dX3_init_4 : decode cX3_init 4 = .ok (.aload_n 0, 1) := by decide +kernel
theorem dX3_init_5 : decode cX3_init 5 = .ok (.new 7, 3) := by decide +kernel
theorem dX3_init_8 : decode cX3_init 8 = .ok (.dup, 1) := by decide +kernel
theorem dX3_init_9 : decode cX3_init 9 = .ok (.invokespecial 9, 3) := by decide +kernel
theorem dX3_init_12 : decode cX3_init 12 = .ok (.putfield 10, 3) := by decide +kernel
theorem dX3_init_15 : decode cX3_init 15 = .ok (.aload_n 0, 1) := by decide +kernel
theorem dX3_init_16 : decode cX3_init 16 = .ok (.aload_n 0, 1) := by decide +kernel
theorem dX3_init_17 : decode cX3_init 17 = .ok (.getfield 10, 3) := by decide +kernel
theorem dX3_init_20 : decode cX3_init 20 = .ok (.getfield 16, 3) := by decide +kernel
theorem dX3_init_23 : decode cX3_init 23 = .ok (.putfield 20, 3) := by decide +kernel
theorem dX3_init_26 : decode cX3_init 26 = .ok (.aload_n 0, 1) := by decide +kernel
theorem dX3_init_27 : decode cX3_init 27 = .ok (.new 21, 3) := by decide +kernel
theorem dX3_init_30 : decode cX3_init 30 = .ok (.dup, 1) := by decide +kernel
theorem dX3_init_31 : decode cX3_init 31 = .ok (.invokespecial 23, 3) := by decide +kernel
theorem dX3_init_34 : decode cX3_init 34 = .ok (.putfield 24, 3) := by decide +kernel
theorem dX3_init_37 : decode cX3_init 37 = .ok (.return_, 1) := by decide +kernel
theorem dX3_join_0 : decode cX3_join 0 = .ok (.iload_n 1, 1) := by decide +kernel
theorem dX3_join_1 : decode cX3_join 1 = .ok (.invokestatic 28, 3) := by decide +kernel
theorem dX3_join_4 : decode cX3_join 4 = .ok (.iload_n 2, 1) := by decide +kernel
theorem dX3_join_5 : decode cX3_join 5 = .ok (.iconst 0, 1) := by decide +kernel
theorem dX3_join_6 : decode cX3_join 6 = .ok (.bipush 8, 2) := by decide +kernel
theorem dX3_join_8 : decode cX3_join 8 = .ok (.invokestatic 32, 3) := by decide +kernel
theorem dX3_join_11 : decode cX3_join 11 = .ok (.iload_n 3, 1) := by decide +kernel
theorem dX3_join_12 : decode cX3_join 12 = .ok (.iconst 0, 1) := by decide +kernel
theorem dX3_join_13 : decode cX3_join 13 = .ok (.iconst 3, 1) := by decide +kernel
theorem dX3_join_14 : decode cX3_join 14 = .ok (.invokestatic 32, 3) := by decide +kernel
theorem dX3_join_17 : decode cX3_join 17 = .ok (.aload_n 0, 1) := by decide +kernel
theorem dX3_join_18 : decode cX3_join 18 = .ok (.iload_n 1, 1) := by decide +kernel
theorem dX3_join_19 : decode cX3_join 19 = .ok (.invokevirtual 36, 3) := by decide +kernel
theorem dX3_join_22 : decode cX3_join 22 = .ok (.ifCond .eq 13, 3) := by decide +kernel
theorem dX3_join_25 : decode cX3_join 25 = .ok (.new 40, 3) := by decide +kernel
theorem dX3_join_28 : decode cX3_join 28 = .ok (.dup, 1) := by decide +kernel
theorem dX3_join_29 : decode cX3_join 29 = .ok (.ldc 42, 2) := by decide +kernel
theorem dX3_join_31 : decode cX3_join 31 = .ok (.invokespecial 44, 3) := by decide +kernel
theorem dX3_join_34 : decode cX3_join 34 = .ok (.athrow, 1) := by decide +kernel
theorem dX3_join_35 : decode cX3_join 35 = .ok (.aload_n 0, 1) := by decide +kernel
theorem dX3_join_36 : decode cX3_join 36 = .ok (.getfield 24, 3) := by decide +kernel
theorem dX3_join_39 : decode cX3_join 39 = .ok (.aload_n 0, 1) := by decide +kernel
theorem dX3_join_40 : decode cX3_join 40 = .ok (.getfield 20, 3) := by decide +kernel
theorem dX3_join_43 : decode cX3_join 43 = .ok (.invokevirtual 47, 3) := by decide +kernel
theorem dX3_join_46 : decode cX3_join 46 = .ok (.aload_n 0, 1) := by decide +kernel
theorem dX3_join_47 : decode cX3_join 47 = .ok (.getfield 10, 3) := by decide +kernel
theorem dX3_join_50 : decode cX3_join 50 = .ok (.iload_n 1, 1) := by decide +kernel
theorem dX3_join_51 : decode cX3_join 51 = .ok (.iload_n 2, 1) := by decide +kernel
theorem dX3_join_52 : decode cX3_join 52 = .ok (.iload_n 3, 1) := by decide +kernel
theorem dX3_join_53 : decode cX3_join 53 = .ok (.invokevirtual 51, 3) := by decide +kernel
theorem dX3_join_56 : decode cX3_join 56 = .ok (.aload_n 0, 1) := by decide +kernel
theorem dX3_join_57 : decode cX3_join 57 = .ok (.getfield 10, 3) := by decide +kernel
theorem dX3_join_60 : decode cX3_join 60 = .ok (.invokevirtual 54, 3) := by decide +kernel
theorem dX3_join_63 : decode cX3_join 63 = .ok (.aload_n 0, 1) := by decide +kernel
theorem dX3_join_64 : decode cX3_join 64 = .ok (.iload_n 1, 1) := by decide +kernel
theorem dX3_join_65 : decode cX3_join 65 = .ok (.invokevirtual 57, 3) := by decide +kernel
theorem dX3_join_68 : decode cX3_join 68 = .ok (.ireturn, 1) := by decide +kernel
theorem dX3_leave_0 : decode cX3_leave 0 = .ok (.iload_n 1, 1) := by decide +kernel
theorem dX3_leave_1 : decode cX3_leave 1 = .ok (.invokestatic 28, 3) := by decide +kernel
theorem dX3_leave_4 : decode cX3_leave 4 = .ok (.aload_n 0, 1) := by decide +kernel
theorem dX3_leave_5 : decode cX3_leave 5 = .ok (.iload_n 1, 1) := by decide +kernel
theorem dX3_leave_6 : decode cX3_leave 6 = .ok (.invokevirtual 61, 3) := by decide +kernel
theorem dX3_leave_9 : decode cX3_leave 9 = .ok (.aload_n 0, 1) := by decide +kernel
theorem dX3_leave_10 : decode cX3_leave 10 = .ok (.getfield 24, 3) := by decide +kernel
theorem dX3_leave_13 : decode cX3_leave 13 = .ok (.aload_n 0, 1) := by decide +kernel
theorem dX3_leave_14 : decode cX3_leave 14 = .ok (.getfield 20, 3) := by decide +kernel
theorem dX3_leave_17 : decode cX3_leave 17 = .ok (.invokevirtual 47, 3) := by decide +kernel
theorem dX3_leave_20 : decode cX3_leave 20 = .ok (.aload_n 0, 1) := by decide +kernel
theorem dX3_leave_21 : decode cX3_leave 21 = .ok (.getfield 20, 3) := by decide +kernel
theorem dX3_leave_24 : decode cX3_leave 24 = .ok (.iload_n 1, 1) := by decide +kernel
theorem dX3_leave_25 : decode cX3_leave 25 = .ok (.iconst 5, 1) := by decide +kernel
theorem dX3_leave_26 : decode cX3_leave 26 = .ok (.invokevirtual 64, 3) := by decide +kernel
theorem dX3_leave_29 : decode cX3_leave 29 = .ok (.istore_n 2, 1) := by decide +kernel
theorem dX3_leave_30 : decode cX3_leave 30 = .ok (.aload_n 0, 1) := by decide +kernel
theorem dX3_leave_31 : decode cX3_leave 31 = .ok (.getfield 10, 3) := by decide +kernel
theorem dX3_leave_34 : decode cX3_leave 34 = .ok (.iload_n 1, 1) := by decide +kernel
theorem dX3_leave_35 : decode cX3_leave 35 = .ok (.invokevirtual 70, 3) := by decide +kernel
theorem dX3_leave_38 : decode cX3_leave 38 = .ok (.aload_n 0, 1) := by decide +kernel
theorem dX3_leave_39 : decode cX3_leave 39 = .ok (.getfield 10, 3) := by decide +kernel
theorem dX3_leave_42 : decode cX3_leave 42 = .ok (.invokevirtual 54, 3) := by decide +kernel
theorem dX3_leave_45 : decode cX3_leave 45 = .ok (.iload_n 2, 1) := by decide +kernel
theorem dX3_leave_46 : decode cX3_leave 46 = .ok (.ireturn, 1) := by decide +kernel
theorem dX3_fail_0 : decode cX3_fail 0 = .ok (.iload_n 1, 1) := by decide +kernel
theorem dX3_fail_1 : decode cX3_fail 1 = .ok (.invokestatic 28, 3) := by decide +kernel
theorem dX3_fail_4 : decode cX3_fail 4 = .ok (.aload_n 0, 1) := by decide +kernel
theorem dX3_fail_5 : decode cX3_fail 5 = .ok (.iload_n 1, 1) := by decide +kernel
theorem dX3_fail_6 : decode cX3_fail 6 = .ok (.invokevirtual 61, 3) := by decide +kernel
theorem dX3_fail_9 : decode cX3_fail 9 = .ok (.aload_n 0, 1) := by decide +kernel
theorem dX3_fail_10 : decode cX3_fail 10 = .ok (.iload_n 1, 1) := by decide +kernel
theorem dX3_fail_11 : decode cX3_fail 11 = .ok (.invokevirtual 73, 3) := by decide +kernel
theorem dX3_fail_14 : decode cX3_fail 14 = .ok (.ifCond .eq 13, 3) := by decide +kernel
theorem dX3_fail_17 : decode cX3_fail 17 = .ok (.new 40, 3) := by decide +kernel
theorem dX3_fail_20 : decode cX3_fail 20 = .ok (.dup, 1) := by decide +kernel
theorem dX3_fail_21 : decode cX3_fail 21 = .ok (.ldc 76, 2) := by decide +kernel
theorem dX3_fail_23 : decode cX3_fail 23 = .ok (.invokespecial 44, 3) := by decide +kernel
theorem dX3_fail_26 : decode cX3_fail 26 = .ok (.athrow, 1) := by decide +kernel
theorem dX3_fail_27 : decode cX3_fail 27 = .ok (.aload_n 0, 1) := by decide +kernel
theorem dX3_fail_28 : decode cX3_fail 28 = .ok (.getfield 24, 3) := by decide +kernel
theorem dX3_fail_31 : decode cX3_fail 31 = .ok (.aload_n 0, 1) := by decide +kernel
theorem dX3_fail_32 : decode cX3_fail 32 = .ok (.getfield 20, 3) := by decide +kernel
theorem dX3_fail_35 : decode cX3_fail 35 = .ok (.invokevirtual 47, 3) := by decide +kernel
theorem dX3_fail_38 : decode cX3_fail 38 = .ok (.aload_n 0, 1) := by decide +kernel
theorem dX3_fail_39 : decode cX3_fail 39 = .ok (.getfield 20, 3) := by decide +kernel
theorem dX3_fail_42 : decode cX3_fail 42 = .ok (.bipush 8, 2) := by decide +kernel
theorem dX3_fail_44 : decode cX3_fail 44 = .ok (.invokevirtual 78, 3) := by decide +kernel
theorem dX3_fail_47 : decode cX3_fail 47 = .ok (.aload_n 0, 1) := by decide +kernel
theorem dX3_fail_48 : decode cX3_fail 48 = .ok (.getfield 20, 3) := by decide +kernel
theorem dX3_fail_51 : decode cX3_fail 51 = .ok (.bipush 10, 2) := by decide +kernel
theorem dX3_fail_53 : decode cX3_fail 53 = .ok (.invokevirtual 78, 3) := by decide +kernel
theorem dX3_fail_56 : decode cX3_fail 56 = .ok (.iadd, 1) := by decide +kernel
theorem dX3_fail_57 : decode cX3_fail 57 = .ok (.istore_n 2, 1) := by decide +kernel
theorem dX3_fail_58 : decode cX3_fail 58 = .ok (.aload_n 0, 1) := by decide +kernel
theorem dX3_fail_59 : decode cX3_fail 59 = .ok (.getfield 20, 3) := by decide +kernel
theorem dX3_fail_62 : decode cX3_fail 62 = .ok (.iload_n 1, 1) := by decide +kernel
theorem dX3_fail_63 : decode cX3_fail 63 = .ok (.iconst 3, 1) := by decide +kernel
theorem dX3_fail_64 : decode cX3_fail 64 = .ok (.iconst 1, 1) := by decide +kernel
theorem dX3_fail_65 : decode cX3_fail 65 = .ok (.invokevirtual 81, 3) := by decide +kernel
theorem dX3_fail_68 : decode cX3_fail 68 = .ok (.aload_n 0, 1) := by decide +kernel
theorem dX3_fail_69 : decode cX3_fail 69 = .ok (.getfield 20, 3) := by decide +kernel
theorem dX3_fail_72 : decode cX3_fail 72 = .ok (.iload_n 1, 1) := by decide +kernel
theorem dX3_fail_73 : decode cX3_fail 73 = .ok (.iconst 4, 1) := by decide +kernel
theorem dX3_fail_74 : decode cX3_fail 74 = .ok (.iload_n 2, 1) := by decide +kernel
theorem dX3_fail_75 : decode cX3_fail 75 = .ok (.invokevirtual 81, 3) := by decide +kernel
theorem dX3_fail_78 : decode cX3_fail 78 = .ok (.iload_n 2, 1) := by decide +kernel
theorem dX3_fail_79 : decode cX3_fail 79 = .ok (.ireturn, 1) := by decide +kernel
theorem dX3_setBound_0 : decode cX3_setBound 0 = .ok (.iload_n 1, 1) := by decide +kernel
theorem dX3_setBound_1 : decode cX3_setBound 1 = .ok (.invokestatic 28, 3) := by decide +kernel
theorem dX3_setBound_4 : decode cX3_setBound 4 = .ok (.iload_n 2, 1) := by decide +kernel
theorem dX3_setBound_5 : decode cX3_setBound 5 = .ok (.iconst 0, 1) := by decide +kernel
theorem dX3_setBound_6 : decode cX3_setBound 6 = .ok (.bipush 8, 2) := by decide +kernel
theorem dX3_setBound_8 : decode cX3_setBound 8 = .ok (.invokestatic 32, 3) := by decide +kernel
theorem dX3_setBound_11 : decode cX3_setBound 11 = .ok (.aload_n 0, 1) := by decide +kernel
theorem dX3_setBound_12 : decode cX3_setBound 12 = .ok (.iload_n 1, 1) := by decide +kernel
theorem dX3_setBound_13 : decode cX3_setBound 13 = .ok (.invokevirtual 61, 3) := by decide +kernel
theorem dX3_setBound_16 : decode cX3_setBound 16 = .ok (.aload_n 0, 1) := by decide +kernel
theorem dX3_setBound_17 : decode cX3_setBound 17 = .ok (.getfield 24, 3) := by decide +kernel
theorem dX3_setBound_20 : decode cX3_setBound 20 = .ok (.aload_n 0, 1) := by decide +kernel
theorem dX3_setBound_21 : decode cX3_setBound 21 = .ok (.getfield 20, 3) := by decide +kernel
theorem dX3_setBound_24 : decode cX3_setBound 24 = .ok (.invokevirtual 47, 3) := by decide +kernel
theorem dX3_setBound_27 : decode cX3_setBound 27 = .ok (.aload_n 0, 1) := by decide +kernel
theorem dX3_setBound_28 : decode cX3_setBound 28 = .ok (.getfield 20, 3) := by decide +kernel
theorem dX3_setBound_31 : decode cX3_setBound 31 = .ok (.iload_n 1, 1) := by decide +kernel
theorem dX3_setBound_32 : decode cX3_setBound 32 = .ok (.iconst 1, 1) := by decide +kernel
theorem dX3_setBound_33 : decode cX3_setBound 33 = .ok (.invokevirtual 64, 3) := by decide +kernel
theorem dX3_setBound_36 : decode cX3_setBound 36 = .ok (.istore_n 3, 1) := by decide +kernel
theorem dX3_setBound_37 : decode cX3_setBound 37 = .ok (.aload_n 0, 1) := by decide +kernel
theorem dX3_setBound_38 : decode cX3_setBound 38 = .ok (.getfield 20, 3) := by decide +kernel
theorem dX3_setBound_41 : decode cX3_setBound 41 = .ok (.iload_n 1, 1) := by decide +kernel
theorem dX3_setBound_42 : decode cX3_setBound 42 = .ok (.iconst 1, 1) := by decide +kernel
theorem dX3_setBound_43 : decode cX3_setBound 43 = .ok (.iload_n 2, 1) := by decide +kernel
theorem dX3_setBound_44 : decode cX3_setBound 44 = .ok (.invokevirtual 81, 3) := by decide +kernel
theorem dX3_setBound_47 : decode cX3_setBound 47 = .ok (.aload_n 0, 1) := by decide +kernel
theorem dX3_setBound_48 : decode cX3_setBound 48 = .ok (.getfield 10, 3) := by decide +kernel
theorem dX3_setBound_51 : decode cX3_setBound 51 = .ok (.iload_n 1, 1) := by decide +kernel
theorem dX3_setBound_52 : decode cX3_setBound 52 = .ok (.aload_n 0, 1) := by decide +kernel
theorem dX3_setBound_53 : decode cX3_setBound 53 = .ok (.getfield 20, 3) := by decide +kernel
theorem dX3_setBound_56 : decode cX3_setBound 56 = .ok (.iload_n 1, 1) := by decide +kernel
theorem dX3_setBound_57 : decode cX3_setBound 57 = .ok (.bipush 6, 2) := by decide +kernel
theorem dX3_setBound_59 : decode cX3_setBound 59 = .ok (.invokevirtual 64, 3) := by decide +kernel
theorem dX3_setBound_62 : decode cX3_setBound 62 = .ok (.iload_n 2, 1) := by decide +kernel
theorem dX3_setBound_63 : decode cX3_setBound 63 = .ok (.invokevirtual 84, 3) := by decide +kernel
theorem dX3_setBound_66 : decode cX3_setBound 66 = .ok (.aload_n 0, 1) := by decide +kernel
theorem dX3_setBound_67 : decode cX3_setBound 67 = .ok (.getfield 10, 3) := by decide +kernel
theorem dX3_setBound_70 : decode cX3_setBound 70 = .ok (.invokevirtual 54, 3) := by decide +kernel
theorem dX3_setBound_73 : decode cX3_setBound 73 = .ok (.iload_n 3, 1) := by decide +kernel
theorem dX3_setBound_74 : decode cX3_setBound 74 = .ok (.ireturn, 1) := by decide +kernel
theorem dX3_setSource_0 : decode cX3_setSource 0 = .ok (.iload_n 1, 1) := by decide +kernel
theorem dX3_setSource_1 : decode cX3_setSource 1 = .ok (.iconst 1, 1) := by decide +kernel
theorem dX3_setSource_2 : decode cX3_setSource 2 = .ok (.bipush 8, 2) := by decide +kernel
theorem dX3_setSource_4 : decode cX3_setSource 4 = .ok (.invokestatic 32, 3) := by decide +kernel
theorem dX3_setSource_7 : decode cX3_setSource 7 = .ok (.aload_n 0, 1) := by decide +kernel
theorem dX3_setSource_8 : decode cX3_setSource 8 = .ok (.getfield 24, 3) := by decide +kernel
theorem dX3_setSource_11 : decode cX3_setSource 11 = .ok (.aload_n 0, 1) := by decide +kernel
theorem dX3_setSource_12 : decode cX3_setSource 12 = .ok (.getfield 20, 3) := by decide +kernel
theorem dX3_setSource_15 : decode cX3_setSource 15 = .ok (.invokevirtual 47, 3) := by decide +kernel
theorem dX3_setSource_18 : decode cX3_setSource 18 = .ok (.aload_n 0, 1) := by decide +kernel
theorem dX3_setSource_19 : decode cX3_setSource 19 = .ok (.getfield 20, 3) := by decide +kernel
theorem dX3_setSource_22 : decode cX3_setSource 22 = .ok (.bipush 9, 2) := by decide +kernel
theorem dX3_setSource_24 : decode cX3_setSource 24 = .ok (.invokevirtual 78, 3) := by decide +kernel
theorem dX3_setSource_27 : decode cX3_setSource 27 = .ok (.istore_n 2, 1) := by decide +kernel
theorem dX3_setSource_28 : decode cX3_setSource 28 = .ok (.aload_n 0, 1) := by decide +kernel
theorem dX3_setSource_29 : decode cX3_setSource 29 = .ok (.getfield 20, 3) := by decide +kernel
theorem dX3_setSource_32 : decode cX3_setSource 32 = .ok (.bipush 9, 2) := by decide +kernel
theorem dX3_setSource_34 : decode cX3_setSource 34 = .ok (.iload_n 1, 1) := by decide +kernel
theorem dX3_setSource_35 : decode cX3_setSource 35 = .ok (.invokevirtual 87, 3) := by decide +kernel
theorem dX3_setSource_38 : decode cX3_setSource 38 = .ok (.iconst 0, 1) := by decide +kernel
theorem dX3_setSource_39 : decode cX3_setSource 39 = .ok (.istore_n 3, 1) := by decide +kernel
theorem dX3_setSource_40 : decode cX3_setSource 40 = .ok (.iload_n 3, 1) := by decide +kernel
theorem dX3_setSource_41 : decode cX3_setSource 41 = .ok (.iconst 4, 1) := by decide +kernel
theorem dX3_setSource_42 : decode cX3_setSource 42 = .ok (.if_icmp .ge 20, 3) := by decide +kernel
theorem dX3_setSource_45 : decode cX3_setSource 45 = .ok (.aload_n 0, 1) := by decide +kernel
theorem dX3_setSource_46 : decode cX3_setSource 46 = .ok (.getfield 10, 3) := by decide +kernel
theorem dX3_setSource_49 : decode cX3_setSource 49 = .ok (.bipush 100, 2) := by decide +kernel
theorem dX3_setSource_51 : decode cX3_setSource 51 = .ok (.iload_n 3, 1) := by decide +kernel
theorem dX3_setSource_52 : decode cX3_setSource 52 = .ok (.iload_n 1, 1) := by decide +kernel
theorem dX3_setSource_53 : decode cX3_setSource 53 = .ok (.invokevirtual 84, 3) := by decide +kernel
theorem dX3_setSource_56 : decode cX3_setSource 56 = .ok (.iinc 3 1, 3) := by decide +kernel
theorem dX3_setSource_59 : decode cX3_setSource 59 = .ok (.goto (-19), 3) := by decide +kernel
theorem dX3_setSource_62 : decode cX3_setSource 62 = .ok (.aload_n 0, 1) := by decide +kernel
theorem dX3_setSource_63 : decode cX3_setSource 63 = .ok (.getfield 10, 3) := by decide +kernel
theorem dX3_setSource_66 : decode cX3_setSource 66 = .ok (.invokevirtual 54, 3) := by decide +kernel
theorem dX3_setSource_69 : decode cX3_setSource 69 = .ok (.iload_n 2, 1) := by decide +kernel
theorem dX3_setSource_70 : decode cX3_setSource 70 = .ok (.ireturn, 1) := by decide +kernel
theorem dX3_setDelay_0 : decode cX3_setDelay 0 = .ok (.iload_n 1, 1) := by decide +kernel
theorem dX3_setDelay_1 : decode cX3_setDelay 1 = .ok (.iconst 1, 1) := by decide +kernel
theorem dX3_setDelay_2 : decode cX3_setDelay 2 = .ok (.bipush 20, 2) := by decide +kernel
theorem dX3_setDelay_4 : decode cX3_setDelay 4 = .ok (.invokestatic 32, 3) := by decide +kernel
theorem dX3_setDelay_7 : decode cX3_setDelay 7 = .ok (.aload_n 0, 1) := by decide +kernel
theorem dX3_setDelay_8 : decode cX3_setDelay 8 = .ok (.getfield 24, 3) := by decide +kernel
theorem dX3_setDelay_11 : decode cX3_setDelay 11 = .ok (.aload_n 0, 1) := by decide +kernel
theorem dX3_setDelay_12 : decode cX3_setDelay 12 = .ok (.getfield 20, 3) := by decide +kernel
theorem dX3_setDelay_15 : decode cX3_setDelay 15 = .ok (.invokevirtual 47, 3) := by decide +kernel
theorem dX3_setDelay_18 : decode cX3_setDelay 18 = .ok (.aload_n 0, 1) := by decide +kernel
theorem dX3_setDelay_19 : decode cX3_setDelay 19 = .ok (.getfield 20, 3) := by decide +kernel
theorem dX3_setDelay_22 : decode cX3_setDelay 22 = .ok (.bipush 10, 2) := by decide +kernel
theorem dX3_setDelay_24 : decode cX3_setDelay 24 = .ok (.invokevirtual 78, 3) := by decide +kernel
theorem dX3_setDelay_27 : decode cX3_setDelay 27 = .ok (.istore_n 2, 1) := by decide +kernel
theorem dX3_setDelay_28 : decode cX3_setDelay 28 = .ok (.aload_n 0, 1) := by decide +kernel
theorem dX3_setDelay_29 : decode cX3_setDelay 29 = .ok (.getfield 20, 3) := by decide +kernel
theorem dX3_setDelay_32 : decode cX3_setDelay 32 = .ok (.bipush 10, 2) := by decide +kernel
theorem dX3_setDelay_34 : decode cX3_setDelay 34 = .ok (.iload_n 1, 1) := by decide +kernel
theorem dX3_setDelay_35 : decode cX3_setDelay 35 = .ok (.invokevirtual 87, 3) := by decide +kernel
theorem dX3_setDelay_38 : decode cX3_setDelay 38 = .ok (.iload_n 2, 1) := by decide +kernel
theorem dX3_setDelay_39 : decode cX3_setDelay 39 = .ok (.ireturn, 1) := by decide +kernel
theorem dX3_repair_0 : decode cX3_repair 0 = .ok (.aload_n 0, 1) := by decide +kernel
theorem dX3_repair_1 : decode cX3_repair 1 = .ok (.getfield 24, 3) := by decide +kernel
theorem dX3_repair_4 : decode cX3_repair 4 = .ok (.aload_n 0, 1) := by decide +kernel
theorem dX3_repair_5 : decode cX3_repair 5 = .ok (.getfield 20, 3) := by decide +kernel
theorem dX3_repair_8 : decode cX3_repair 8 = .ok (.invokevirtual 47, 3) := by decide +kernel
theorem dX3_repair_11 : decode cX3_repair 11 = .ok (.aload_n 0, 1) := by decide +kernel
theorem dX3_repair_12 : decode cX3_repair 12 = .ok (.getfield 10, 3) := by decide +kernel
theorem dX3_repair_15 : decode cX3_repair 15 = .ok (.invokevirtual 54, 3) := by decide +kernel
theorem dX3_repair_18 : decode cX3_repair 18 = .ok (.iconst 0, 1) := by decide +kernel
theorem dX3_repair_19 : decode cX3_repair 19 = .ok (.istore_n 1, 1) := by decide +kernel
theorem dX3_repair_20 : decode cX3_repair 20 = .ok (.iconst 0, 1) := by decide +kernel
theorem dX3_repair_21 : decode cX3_repair 21 = .ok (.istore_n 2, 1) := by decide +kernel
theorem dX3_repair_22 : decode cX3_repair 22 = .ok (.iload_n 2, 1) := by decide +kernel
theorem dX3_repair_23 : decode cX3_repair 23 = .ok (.iconst 4, 1) := by decide +kernel
theorem dX3_repair_24 : decode cX3_repair 24 = .ok (.if_icmp .ge 20, 3) := by decide +kernel
theorem dX3_repair_27 : decode cX3_repair 27 = .ok (.iload_n 1, 1) := by decide +kernel
theorem dX3_repair_28 : decode cX3_repair 28 = .ok (.aload_n 0, 1) := by decide +kernel
theorem dX3_repair_29 : decode cX3_repair 29 = .ok (.getfield 10, 3) := by decide +kernel
theorem dX3_repair_32 : decode cX3_repair 32 = .ok (.iload_n 2, 1) := by decide +kernel
theorem dX3_repair_33 : decode cX3_repair 33 = .ok (.invokevirtual 91, 3) := by decide +kernel
theorem dX3_repair_36 : decode cX3_repair 36 = .ok (.iadd, 1) := by decide +kernel
theorem dX3_repair_37 : decode cX3_repair 37 = .ok (.istore_n 1, 1) := by decide +kernel
theorem dX3_repair_38 : decode cX3_repair 38 = .ok (.iinc 2 1, 3) := by decide +kernel
theorem dX3_repair_41 : decode cX3_repair 41 = .ok (.goto (-19), 3) := by decide +kernel
theorem dX3_repair_44 : decode cX3_repair 44 = .ok (.iload_n 1, 1) := by decide +kernel
theorem dX3_repair_45 : decode cX3_repair 45 = .ok (.ireturn, 1) := by decide +kernel
theorem dX3_rejoin_0 : decode cX3_rejoin 0 = .ok (.iload_n 1, 1) := by decide +kernel
theorem dX3_rejoin_1 : decode cX3_rejoin 1 = .ok (.invokestatic 28, 3) := by decide +kernel
theorem dX3_rejoin_4 : decode cX3_rejoin 4 = .ok (.iload_n 2, 1) := by decide +kernel
theorem dX3_rejoin_5 : decode cX3_rejoin 5 = .ok (.invokestatic 94, 3) := by decide +kernel
theorem dX3_rejoin_8 : decode cX3_rejoin 8 = .ok (.aload_n 0, 1) := by decide +kernel
theorem dX3_rejoin_9 : decode cX3_rejoin 9 = .ok (.iload_n 1, 1) := by decide +kernel
theorem dX3_rejoin_10 : decode cX3_rejoin 10 = .ok (.invokevirtual 61, 3) := by decide +kernel
theorem dX3_rejoin_13 : decode cX3_rejoin 13 = .ok (.aload_n 0, 1) := by decide +kernel
theorem dX3_rejoin_14 : decode cX3_rejoin 14 = .ok (.getfield 24, 3) := by decide +kernel
theorem dX3_rejoin_17 : decode cX3_rejoin 17 = .ok (.aload_n 0, 1) := by decide +kernel
theorem dX3_rejoin_18 : decode cX3_rejoin 18 = .ok (.getfield 20, 3) := by decide +kernel
theorem dX3_rejoin_21 : decode cX3_rejoin 21 = .ok (.invokevirtual 47, 3) := by decide +kernel
theorem dX3_rejoin_24 : decode cX3_rejoin 24 = .ok (.aload_n 0, 1) := by decide +kernel
theorem dX3_rejoin_25 : decode cX3_rejoin 25 = .ok (.getfield 20, 3) := by decide +kernel
theorem dX3_rejoin_28 : decode cX3_rejoin 28 = .ok (.iload_n 1, 1) := by decide +kernel
theorem dX3_rejoin_29 : decode cX3_rejoin 29 = .ok (.iload_n 2, 1) := by decide +kernel
theorem dX3_rejoin_30 : decode cX3_rejoin 30 = .ok (.iconst (-1), 1) := by decide +kernel
theorem dX3_rejoin_31 : decode cX3_rejoin 31 = .ok (.invokevirtual 97, 3) := by decide +kernel
theorem dX3_rejoin_34 : decode cX3_rejoin 34 = .ok (.aload_n 0, 1) := by decide +kernel
theorem dX3_rejoin_35 : decode cX3_rejoin 35 = .ok (.getfield 10, 3) := by decide +kernel
theorem dX3_rejoin_38 : decode cX3_rejoin 38 = .ok (.iload_n 1, 1) := by decide +kernel
theorem dX3_rejoin_39 : decode cX3_rejoin 39 = .ok (.iload_n 2, 1) := by decide +kernel
theorem dX3_rejoin_40 : decode cX3_rejoin 40 = .ok (.invokevirtual 100, 3) := by decide +kernel
theorem dX3_rejoin_43 : decode cX3_rejoin 43 = .ok (.aload_n 0, 1) := by decide +kernel
theorem dX3_rejoin_44 : decode cX3_rejoin 44 = .ok (.getfield 20, 3) := by decide +kernel
theorem dX3_rejoin_47 : decode cX3_rejoin 47 = .ok (.iload_n 1, 1) := by decide +kernel
theorem dX3_rejoin_48 : decode cX3_rejoin 48 = .ok (.iload_n 2, 1) := by decide +kernel
theorem dX3_rejoin_49 : decode cX3_rejoin 49 = .ok (.invokevirtual 103, 3) := by decide +kernel
theorem dX3_rejoin_52 : decode cX3_rejoin 52 = .ok (.ireturn, 1) := by decide +kernel
theorem dX3_tick_0 : decode cX3_tick 0 = .ok (.iload_n 1, 1) := by decide +kernel
theorem dX3_tick_1 : decode cX3_tick 1 = .ok (.iconst 1, 1) := by decide +kernel
theorem dX3_tick_2 : decode cX3_tick 2 = .ok (.sipush 200, 3) := by decide +kernel
theorem dX3_tick_5 : decode cX3_tick 5 = .ok (.invokestatic 32, 3) := by decide +kernel
theorem dX3_tick_8 : decode cX3_tick 8 = .ok (.aload_n 0, 1) := by decide +kernel
theorem dX3_tick_9 : decode cX3_tick 9 = .ok (.getfield 24, 3) := by decide +kernel
theorem dX3_tick_12 : decode cX3_tick 12 = .ok (.aload_n 0, 1) := by decide +kernel
theorem dX3_tick_13 : decode cX3_tick 13 = .ok (.getfield 20, 3) := by decide +kernel
theorem dX3_tick_16 : decode cX3_tick 16 = .ok (.invokevirtual 47, 3) := by decide +kernel
theorem dX3_tick_19 : decode cX3_tick 19 = .ok (.iconst 0, 1) := by decide +kernel
theorem dX3_tick_20 : decode cX3_tick 20 = .ok (.istore_n 2, 1) := by decide +kernel
theorem dX3_tick_21 : decode cX3_tick 21 = .ok (.iconst 1, 1) := by decide +kernel
theorem dX3_tick_22 : decode cX3_tick 22 = .ok (.istore_n 3, 1) := by decide +kernel
theorem dX3_tick_23 : decode cX3_tick 23 = .ok (.iload_n 1, 1) := by decide +kernel
theorem dX3_tick_24 : decode cX3_tick 24 = .ok (.istore 4, 2) := by decide +kernel
theorem dX3_tick_26 : decode cX3_tick 26 = .ok (.iload 4, 2) := by decide +kernel
theorem dX3_tick_28 : decode cX3_tick 28 = .ok (.ifCond .le 62, 3) := by decide +kernel
theorem dX3_tick_31 : decode cX3_tick 31 = .ok (.aload_n 0, 1) := by decide +kernel
theorem dX3_tick_32 : decode cX3_tick 32 = .ok (.getfield 20, 3) := by decide +kernel
theorem dX3_tick_35 : decode cX3_tick 35 = .ok (.bipush 8, 2) := by decide +kernel
theorem dX3_tick_37 : decode cX3_tick 37 = .ok (.iconst 1, 1) := by decide +kernel
theorem dX3_tick_38 : decode cX3_tick 38 = .ok (.invokevirtual 106, 3) := by decide +kernel
theorem dX3_tick_41 : decode cX3_tick 41 = .ok (.aload_n 0, 1) := by decide +kernel
theorem dX3_tick_42 : decode cX3_tick 42 = .ok (.invokevirtual 109, 3) := by decide +kernel
theorem dX3_tick_45 : decode cX3_tick 45 = .ok (.iconst 1, 1) := by decide +kernel
theorem dX3_tick_46 : decode cX3_tick 46 = .ok (.iload 4, 2) := by decide +kernel
theorem dX3_tick_48 : decode cX3_tick 48 = .ok (.iconst 1, 1) := by decide +kernel
theorem dX3_tick_49 : decode cX3_tick 49 = .ok (.aload_n 0, 1) := by decide +kernel
theorem dX3_tick_50 : decode cX3_tick 50 = .ok (.invokevirtual 112, 3) := by decide +kernel
theorem dX3_tick_53 : decode cX3_tick 53 = .ok (.iadd, 1) := by decide +kernel
theorem dX3_tick_54 : decode cX3_tick 54 = .ok (.invokestatic 116, 3) := by decide +kernel
theorem dX3_tick_57 : decode cX3_tick 57 = .ok (.invokestatic 121, 3) := by decide +kernel
theorem dX3_tick_60 : decode cX3_tick 60 = .ok (.istore_n 3, 1) := by decide +kernel
theorem dX3_tick_61 : decode cX3_tick 61 = .ok (.iload_n 2, 1) := by decide +kernel
theorem dX3_tick_62 : decode cX3_tick 62 = .ok (.aload_n 0, 1) := by decide +kernel
theorem dX3_tick_63 : decode cX3_tick 63 = .ok (.iload_n 3, 1) := by decide +kernel
theorem dX3_tick_64 : decode cX3_tick 64 = .ok (.invokevirtual 124, 3) := by decide +kernel
theorem dX3_tick_67 : decode cX3_tick 67 = .ok (.iadd, 1) := by decide +kernel
theorem dX3_tick_68 : decode cX3_tick 68 = .ok (.istore_n 2, 1) := by decide +kernel
theorem dX3_tick_69 : decode cX3_tick 69 = .ok (.aload_n 0, 1) := by decide +kernel
theorem dX3_tick_70 : decode cX3_tick 70 = .ok (.getfield 20, 3) := by decide +kernel
theorem dX3_tick_73 : decode cX3_tick 73 = .ok (.bipush 8, 2) := by decide +kernel
theorem dX3_tick_75 : decode cX3_tick 75 = .ok (.iload_n 3, 1) := by decide +kernel
theorem dX3_tick_76 : decode cX3_tick 76 = .ok (.iconst 1, 1) := by decide +kernel
theorem dX3_tick_77 : decode cX3_tick 77 = .ok (.isub, 1) := by decide +kernel
theorem dX3_tick_78 : decode cX3_tick 78 = .ok (.invokevirtual 106, 3) := by decide +kernel
theorem dX3_tick_81 : decode cX3_tick 81 = .ok (.iload 4, 2) := by decide +kernel
theorem dX3_tick_83 : decode cX3_tick 83 = .ok (.iload_n 3, 1) := by decide +kernel
theorem dX3_tick_84 : decode cX3_tick 84 = .ok (.isub, 1) := by decide +kernel
theorem dX3_tick_85 : decode cX3_tick 85 = .ok (.istore 4, 2) := by decide +kernel
theorem dX3_tick_87 : decode cX3_tick 87 = .ok (.goto (-61), 3) := by decide +kernel
theorem dX3_tick_90 : decode cX3_tick 90 = .ok (.iload_n 2, 1) := by decide +kernel
theorem dX3_tick_91 : decode cX3_tick 91 = .ok (.ireturn, 1) := by decide +kernel
theorem dX3_time_0 : decode cX3_time 0 = .ok (.aload_n 0, 1) := by decide +kernel
theorem dX3_time_1 : decode cX3_time 1 = .ok (.getfield 20, 3) := by decide +kernel
theorem dX3_time_4 : decode cX3_time 4 = .ok (.bipush 8, 2) := by decide +kernel
theorem dX3_time_6 : decode cX3_time 6 = .ok (.invokevirtual 78, 3) := by decide +kernel
theorem dX3_time_9 : decode cX3_time 9 = .ok (.ireturn, 1) := by decide +kernel
theorem dX3_member_0 : decode cX3_member 0 = .ok (.iload_n 1, 1) := by decide +kernel
theorem dX3_member_1 : decode cX3_member 1 = .ok (.invokestatic 28, 3) := by decide +kernel
theorem dX3_member_4 : decode cX3_member 4 = .ok (.iload_n 2, 1) := by decide +kernel
theorem dX3_member_5 : decode cX3_member 5 = .ok (.iconst 0, 1) := by decide +kernel
theorem dX3_member_6 : decode cX3_member 6 = .ok (.bipush 9, 2) := by decide +kernel
theorem dX3_member_8 : decode cX3_member 8 = .ok (.invokestatic 32, 3) := by decide +kernel
theorem dX3_member_11 : decode cX3_member 11 = .ok (.aload_n 0, 1) := by decide +kernel
theorem dX3_member_12 : decode cX3_member 12 = .ok (.getfield 20, 3) := by decide +kernel
theorem dX3_member_15 : decode cX3_member 15 = .ok (.iload_n 1, 1) := by decide +kernel
theorem dX3_member_16 : decode cX3_member 16 = .ok (.iload_n 2, 1) := by decide +kernel
theorem dX3_member_17 : decode cX3_member 17 = .ok (.invokevirtual 64, 3) := by decide +kernel
theorem dX3_member_20 : decode cX3_member 20 = .ok (.ireturn, 1) := by decide +kernel
theorem dX3_parent_0 : decode cX3_parent 0 = .ok (.iload_n 1, 1) := by decide +kernel
theorem dX3_parent_1 : decode cX3_parent 1 = .ok (.invokestatic 28, 3) := by decide +kernel
theorem dX3_parent_4 : decode cX3_parent 4 = .ok (.iload_n 2, 1) := by decide +kernel
theorem dX3_parent_5 : decode cX3_parent 5 = .ok (.invokestatic 94, 3) := by decide +kernel
theorem dX3_parent_8 : decode cX3_parent 8 = .ok (.aload_n 0, 1) := by decide +kernel
theorem dX3_parent_9 : decode cX3_parent 9 = .ok (.iload_n 1, 1) := by decide +kernel
theorem dX3_parent_10 : decode cX3_parent 10 = .ok (.invokevirtual 61, 3) := by decide +kernel
theorem dX3_parent_13 : decode cX3_parent 13 = .ok (.aload_n 0, 1) := by decide +kernel
theorem dX3_parent_14 : decode cX3_parent 14 = .ok (.getfield 20, 3) := by decide +kernel
theorem dX3_parent_17 : decode cX3_parent 17 = .ok (.iload_n 1, 1) := by decide +kernel
theorem dX3_parent_18 : decode cX3_parent 18 = .ok (.iload_n 2, 1) := by decide +kernel
theorem dX3_parent_19 : decode cX3_parent 19 = .ok (.invokevirtual 103, 3) := by decide +kernel
theorem dX3_parent_22 : decode cX3_parent 22 = .ok (.ireturn, 1) := by decide +kernel
theorem dX3_depth_0 : decode cX3_depth 0 = .ok (.iload_n 1, 1) := by decide +kernel
theorem dX3_depth_1 : decode cX3_depth 1 = .ok (.invokestatic 28, 3) := by decide +kernel
theorem dX3_depth_4 : decode cX3_depth 4 = .ok (.iload_n 2, 1) := by decide +kernel
theorem dX3_depth_5 : decode cX3_depth 5 = .ok (.invokestatic 94, 3) := by decide +kernel
theorem dX3_depth_8 : decode cX3_depth 8 = .ok (.aload_n 0, 1) := by decide +kernel
theorem dX3_depth_9 : decode cX3_depth 9 = .ok (.iload_n 1, 1) := by decide +kernel
theorem dX3_depth_10 : decode cX3_depth 10 = .ok (.invokevirtual 61, 3) := by decide +kernel
theorem dX3_depth_13 : decode cX3_depth 13 = .ok (.aload_n 0, 1) := by decide +kernel
theorem dX3_depth_14 : decode cX3_depth 14 = .ok (.getfield 10, 3) := by decide +kernel
theorem dX3_depth_17 : decode cX3_depth 17 = .ok (.iload_n 1, 1) := by decide +kernel
theorem dX3_depth_18 : decode cX3_depth 18 = .ok (.iload_n 2, 1) := by decide +kernel
theorem dX3_depth_19 : decode cX3_depth 19 = .ok (.invokevirtual 127, 3) := by decide +kernel
theorem dX3_depth_22 : decode cX3_depth 22 = .ok (.ireturn, 1) := by decide +kernel
theorem dX3_child_0 : decode cX3_child 0 = .ok (.iload_n 1, 1) := by decide +kernel
theorem dX3_child_1 : decode cX3_child 1 = .ok (.invokestatic 130, 3) := by decide +kernel
theorem dX3_child_4 : decode cX3_child 4 = .ok (.iload_n 2, 1) := by decide +kernel
theorem dX3_child_5 : decode cX3_child 5 = .ok (.invokestatic 94, 3) := by decide +kernel
theorem dX3_child_8 : decode cX3_child 8 = .ok (.iload_n 3, 1) := by decide +kernel
theorem dX3_child_9 : decode cX3_child 9 = .ok (.ifCond .ge 13, 3) := by decide +kernel
theorem dX3_child_12 : decode cX3_child 12 = .ok (.new 133, 3) := by decide +kernel
theorem dX3_child_15 : decode cX3_child 15 = .ok (.dup, 1) := by decide +kernel
theorem dX3_child_16 : decode cX3_child 16 = .ok (.ldc 135, 2) := by decide +kernel
theorem dX3_child_18 : decode cX3_child 18 = .ok (.invokespecial 137, 3) := by decide +kernel
theorem dX3_child_21 : decode cX3_child 21 = .ok (.athrow, 1) := by decide +kernel
theorem dX3_child_22 : decode cX3_child 22 = .ok (.aload_n 0, 1) := by decide +kernel
theorem dX3_child_23 : decode cX3_child 23 = .ok (.iload_n 1, 1) := by decide +kernel
theorem dX3_child_24 : decode cX3_child 24 = .ok (.invokevirtual 138, 3) := by decide +kernel
theorem dX3_child_27 : decode cX3_child 27 = .ok (.aload_n 0, 1) := by decide +kernel
theorem dX3_child_28 : decode cX3_child 28 = .ok (.getfield 10, 3) := by decide +kernel
theorem dX3_child_31 : decode cX3_child 31 = .ok (.iload_n 1, 1) := by decide +kernel
theorem dX3_child_32 : decode cX3_child 32 = .ok (.iload_n 2, 1) := by decide +kernel
theorem dX3_child_33 : decode cX3_child 33 = .ok (.iload_n 3, 1) := by decide +kernel
theorem dX3_child_34 : decode cX3_child 34 = .ok (.invokevirtual 141, 3) := by decide +kernel
theorem dX3_child_37 : decode cX3_child 37 = .ok (.ireturn, 1) := by decide +kernel
theorem dX3_subtree_0 : decode cX3_subtree 0 = .ok (.iload_n 1, 1) := by decide +kernel
theorem dX3_subtree_1 : decode cX3_subtree 1 = .ok (.invokestatic 28, 3) := by decide +kernel
theorem dX3_subtree_4 : decode cX3_subtree 4 = .ok (.iload_n 2, 1) := by decide +kernel
theorem dX3_subtree_5 : decode cX3_subtree 5 = .ok (.invokestatic 94, 3) := by decide +kernel
theorem dX3_subtree_8 : decode cX3_subtree 8 = .ok (.aload_n 0, 1) := by decide +kernel
theorem dX3_subtree_9 : decode cX3_subtree 9 = .ok (.iload_n 1, 1) := by decide +kernel
theorem dX3_subtree_10 : decode cX3_subtree 10 = .ok (.invokevirtual 61, 3) := by decide +kernel
theorem dX3_subtree_13 : decode cX3_subtree 13 = .ok (.aload_n 0, 1) := by decide +kernel
theorem dX3_subtree_14 : decode cX3_subtree 14 = .ok (.getfield 10, 3) := by decide +kernel
theorem dX3_subtree_17 : decode cX3_subtree 17 = .ok (.iload_n 1, 1) := by decide +kernel
theorem dX3_subtree_18 : decode cX3_subtree 18 = .ok (.iload_n 2, 1) := by decide +kernel
theorem dX3_subtree_19 : decode cX3_subtree 19 = .ok (.invokevirtual 145, 3) := by decide +kernel
theorem dX3_subtree_22 : decode cX3_subtree 22 = .ok (.ireturn, 1) := by decide +kernel
theorem dX3_hasRoom_0 : decode cX3_hasRoom 0 = .ok (.iload_n 1, 1) := by decide +kernel
theorem dX3_hasRoom_1 : decode cX3_hasRoom 1 = .ok (.invokestatic 130, 3) := by decide +kernel
theorem dX3_hasRoom_4 : decode cX3_hasRoom 4 = .ok (.iload_n 2, 1) := by decide +kernel
theorem dX3_hasRoom_5 : decode cX3_hasRoom 5 = .ok (.invokestatic 94, 3) := by decide +kernel
theorem dX3_hasRoom_8 : decode cX3_hasRoom 8 = .ok (.aload_n 0, 1) := by decide +kernel
theorem dX3_hasRoom_9 : decode cX3_hasRoom 9 = .ok (.iload_n 1, 1) := by decide +kernel
theorem dX3_hasRoom_10 : decode cX3_hasRoom 10 = .ok (.invokevirtual 138, 3) := by decide +kernel
theorem dX3_hasRoom_13 : decode cX3_hasRoom 13 = .ok (.aload_n 0, 1) := by decide +kernel
theorem dX3_hasRoom_14 : decode cX3_hasRoom 14 = .ok (.getfield 10, 3) := by decide +kernel
theorem dX3_hasRoom_17 : decode cX3_hasRoom 17 = .ok (.iload_n 1, 1) := by decide +kernel
theorem dX3_hasRoom_18 : decode cX3_hasRoom 18 = .ok (.iload_n 2, 1) := by decide +kernel
theorem dX3_hasRoom_19 : decode cX3_hasRoom 19 = .ok (.invokevirtual 148, 3) := by decide +kernel
theorem dX3_hasRoom_22 : decode cX3_hasRoom 22 = .ok (.ireturn, 1) := by decide +kernel
theorem dX3_ranksBefore_0 : decode cX3_ranksBefore 0 = .ok (.iload_n 1, 1) := by decide +kernel
theorem dX3_ranksBefore_1 : decode cX3_ranksBefore 1 = .ok (.invokestatic 28, 3) := by decide +kernel
theorem dX3_ranksBefore_4 : decode cX3_ranksBefore 4 = .ok (.iload_n 2, 1) := by decide +kernel
theorem dX3_ranksBefore_5 : decode cX3_ranksBefore 5 = .ok (.invokestatic 28, 3) := by decide +kernel
theorem dX3_ranksBefore_8 : decode cX3_ranksBefore 8 = .ok (.iload_n 3, 1) := by decide +kernel
theorem dX3_ranksBefore_9 : decode cX3_ranksBefore 9 = .ok (.invokestatic 94, 3) := by decide +kernel
theorem dX3_ranksBefore_12 : decode cX3_ranksBefore 12 = .ok (.iload_n 1, 1) := by decide +kernel
theorem dX3_ranksBefore_13 : decode cX3_ranksBefore 13 = .ok (.iload_n 2, 1) := by decide +kernel
theorem dX3_ranksBefore_14 : decode cX3_ranksBefore 14 = .ok (.if_icmp .ne 13, 3) := by decide +kernel
theorem dX3_ranksBefore_17 : decode cX3_ranksBefore 17 = .ok (.new 133, 3) := by decide +kernel
theorem dX3_ranksBefore_20 : decode cX3_ranksBefore 20 = .ok (.dup, 1) := by decide +kernel
theorem dX3_ranksBefore_21 : decode cX3_ranksBefore 21 = .ok (.ldc 152, 2) := by decide +kernel
theorem dX3_ranksBefore_23 : decode cX3_ranksBefore 23 = .ok (.invokespecial 137, 3) := by decide +kernel
theorem dX3_ranksBefore_26 : decode cX3_ranksBefore 26 = .ok (.athrow, 1) := by decide +kernel
theorem dX3_ranksBefore_27 : decode cX3_ranksBefore 27 = .ok (.aload_n 0, 1) := by decide +kernel
theorem dX3_ranksBefore_28 : decode cX3_ranksBefore 28 = .ok (.iload_n 1, 1) := by decide +kernel
theorem dX3_ranksBefore_29 : decode cX3_ranksBefore 29 = .ok (.invokevirtual 61, 3) := by decide +kernel
theorem dX3_ranksBefore_32 : decode cX3_ranksBefore 32 = .ok (.aload_n 0, 1) := by decide +kernel
theorem dX3_ranksBefore_33 : decode cX3_ranksBefore 33 = .ok (.iload_n 2, 1) := by decide +kernel
theorem dX3_ranksBefore_34 : decode cX3_ranksBefore 34 = .ok (.invokevirtual 61, 3) := by decide +kernel
theorem dX3_ranksBefore_37 : decode cX3_ranksBefore 37 = .ok (.aload_n 0, 1) := by decide +kernel
theorem dX3_ranksBefore_38 : decode cX3_ranksBefore 38 = .ok (.getfield 10, 3) := by decide +kernel
theorem dX3_ranksBefore_41 : decode cX3_ranksBefore 41 = .ok (.iload_n 1, 1) := by decide +kernel
theorem dX3_ranksBefore_42 : decode cX3_ranksBefore 42 = .ok (.iload_n 2, 1) := by decide +kernel
theorem dX3_ranksBefore_43 : decode cX3_ranksBefore 43 = .ok (.iload_n 3, 1) := by decide +kernel
theorem dX3_ranksBefore_44 : decode cX3_ranksBefore 44 = .ok (.invokevirtual 154, 3) := by decide +kernel
theorem dX3_ranksBefore_47 : decode cX3_ranksBefore 47 = .ok (.ireturn, 1) := by decide +kernel
theorem dX3_harm_0 : decode cX3_harm 0 = .ok (.iload_n 1, 1) := by decide +kernel
theorem dX3_harm_1 : decode cX3_harm 1 = .ok (.invokestatic 28, 3) := by decide +kernel
theorem dX3_harm_4 : decode cX3_harm 4 = .ok (.aload_n 0, 1) := by decide +kernel
theorem dX3_harm_5 : decode cX3_harm 5 = .ok (.iload_n 1, 1) := by decide +kernel
theorem dX3_harm_6 : decode cX3_harm 6 = .ok (.invokevirtual 61, 3) := by decide +kernel
theorem dX3_harm_9 : decode cX3_harm 9 = .ok (.aload_n 0, 1) := by decide +kernel
theorem dX3_harm_10 : decode cX3_harm 10 = .ok (.getfield 20, 3) := by decide +kernel
theorem dX3_harm_13 : decode cX3_harm 13 = .ok (.iload_n 1, 1) := by decide +kernel
theorem dX3_harm_14 : decode cX3_harm 14 = .ok (.bipush 6, 2) := by decide +kernel
theorem dX3_harm_16 : decode cX3_harm 16 = .ok (.invokevirtual 64, 3) := by decide +kernel
theorem dX3_harm_19 : decode cX3_harm 19 = .ok (.istore_n 2, 1) := by decide +kernel
theorem dX3_harm_20 : decode cX3_harm 20 = .ok (.iconst 0, 1) := by decide +kernel
theorem dX3_harm_21 : decode cX3_harm 21 = .ok (.istore_n 3, 1) := by decide +kernel
theorem dX3_harm_22 : decode cX3_harm 22 = .ok (.iconst 0, 1) := by decide +kernel
theorem dX3_harm_23 : decode cX3_harm 23 = .ok (.istore 4, 2) := by decide +kernel
theorem dX3_harm_25 : decode cX3_harm 25 = .ok (.iload 4, 2) := by decide +kernel
theorem dX3_harm_27 : decode cX3_harm 27 = .ok (.bipush 32, 2) := by decide +kernel
theorem dX3_harm_29 : decode cX3_harm 29 = .ok (.if_icmp .ge 45, 3) := by decide +kernel
theorem dX3_harm_32 : decode cX3_harm 32 = .ok (.iload 4, 2) := by decide +kernel
theorem dX3_harm_34 : decode cX3_harm 34 = .ok (.iload_n 1, 1) := by decide +kernel
theorem dX3_harm_35 : decode cX3_harm 35 = .ok (.if_icmp .eq 33, 3) := by decide +kernel
theorem dX3_harm_38 : decode cX3_harm 38 = .ok (.aload_n 0, 1) := by decide +kernel
theorem dX3_harm_39 : decode cX3_harm 39 = .ok (.getfield 10, 3) := by decide +kernel
theorem dX3_harm_42 : decode cX3_harm 42 = .ok (.iload 4, 2) := by decide +kernel
theorem dX3_harm_44 : decode cX3_harm 44 = .ok (.iload_n 1, 1) := by decide +kernel
theorem dX3_harm_45 : decode cX3_harm 45 = .ok (.iload_n 2, 1) := by decide +kernel
theorem dX3_harm_46 : decode cX3_harm 46 = .ok (.invokevirtual 158, 3) := by decide +kernel
theorem dX3_harm_49 : decode cX3_harm 49 = .ok (.ifCond .eq 19, 3) := by decide +kernel
theorem dX3_harm_52 : decode cX3_harm 52 = .ok (.aload_n 0, 1) := by decide +kernel
theorem dX3_harm_53 : decode cX3_harm 53 = .ok (.getfield 10, 3) := by decide +kernel
theorem dX3_harm_56 : decode cX3_harm 56 = .ok (.iload 4, 2) := by decide +kernel
theorem dX3_harm_58 : decode cX3_harm 58 = .ok (.iload_n 2, 1) := by decide +kernel
theorem dX3_harm_59 : decode cX3_harm 59 = .ok (.invokevirtual 161, 3) := by decide +kernel
theorem dX3_harm_62 : decode cX3_harm 62 = .ok (.ifCond .eq 6, 3) := by decide +kernel
theorem dX3_harm_65 : decode cX3_harm 65 = .ok (.iinc 3 1, 3) := by decide +kernel
theorem dX3_harm_68 : decode cX3_harm 68 = .ok (.iinc 4 1, 3) := by decide +kernel
theorem dX3_harm_71 : decode cX3_harm 71 = .ok (.goto (-46), 3) := by decide +kernel
theorem dX3_harm_74 : decode cX3_harm 74 = .ok (.iload_n 3, 1) := by decide +kernel
theorem dX3_harm_75 : decode cX3_harm 75 = .ok (.ireturn, 1) := by decide +kernel
theorem dX3_pieces_0 : decode cX3_pieces 0 = .ok (.iload_n 1, 1) := by decide +kernel
theorem dX3_pieces_1 : decode cX3_pieces 1 = .ok (.invokestatic 28, 3) := by decide +kernel
theorem dX3_pieces_4 : decode cX3_pieces 4 = .ok (.aload_n 0, 1) := by decide +kernel
theorem dX3_pieces_5 : decode cX3_pieces 5 = .ok (.iload_n 1, 1) := by decide +kernel
theorem dX3_pieces_6 : decode cX3_pieces 6 = .ok (.invokevirtual 61, 3) := by decide +kernel
theorem dX3_pieces_9 : decode cX3_pieces 9 = .ok (.aload_n 0, 1) := by decide +kernel
theorem dX3_pieces_10 : decode cX3_pieces 10 = .ok (.getfield 10, 3) := by decide +kernel
theorem dX3_pieces_13 : decode cX3_pieces 13 = .ok (.iload_n 1, 1) := by decide +kernel
theorem dX3_pieces_14 : decode cX3_pieces 14 = .ok (.invokevirtual 164, 3) := by decide +kernel
theorem dX3_pieces_17 : decode cX3_pieces 17 = .ok (.ireturn, 1) := by decide +kernel
theorem dX3_stripe_0 : decode cX3_stripe 0 = .ok (.iload_n 1, 1) := by decide +kernel
theorem dX3_stripe_1 : decode cX3_stripe 1 = .ok (.invokestatic 94, 3) := by decide +kernel
theorem dX3_stripe_4 : decode cX3_stripe 4 = .ok (.iload_n 2, 1) := by decide +kernel
theorem dX3_stripe_5 : decode cX3_stripe 5 = .ok (.iconst 0, 1) := by decide +kernel
theorem dX3_stripe_6 : decode cX3_stripe 6 = .ok (.iconst 5, 1) := by decide +kernel
theorem dX3_stripe_7 : decode cX3_stripe 7 = .ok (.invokestatic 32, 3) := by decide +kernel
theorem dX3_stripe_10 : decode cX3_stripe 10 = .ok (.iload_n 2, 1) := by decide +kernel
theorem dX3_stripe_11 : decode cX3_stripe 11 = .ok (.tableswitch 80 0 4 #[33, 42, 51, 60, 71], 33) := by decide +kernel
theorem dX3_stripe_44 : decode cX3_stripe 44 = .ok (.aload_n 0, 1) := by decide +kernel
theorem dX3_stripe_45 : decode cX3_stripe 45 = .ok (.getfield 10, 3) := by decide +kernel
theorem dX3_stripe_48 : decode cX3_stripe 48 = .ok (.iload_n 1, 1) := by decide +kernel
theorem dX3_stripe_49 : decode cX3_stripe 49 = .ok (.invokevirtual 167, 3) := by decide +kernel
theorem dX3_stripe_52 : decode cX3_stripe 52 = .ok (.ireturn, 1) := by decide +kernel
theorem dX3_stripe_53 : decode cX3_stripe 53 = .ok (.aload_n 0, 1) := by decide +kernel
theorem dX3_stripe_54 : decode cX3_stripe 54 = .ok (.getfield 10, 3) := by decide +kernel
theorem dX3_stripe_57 : decode cX3_stripe 57 = .ok (.iload_n 1, 1) := by decide +kernel
theorem dX3_stripe_58 : decode cX3_stripe 58 = .ok (.invokevirtual 91, 3) := by decide +kernel
theorem dX3_stripe_61 : decode cX3_stripe 61 = .ok (.ireturn, 1) := by decide +kernel
theorem dX3_stripe_62 : decode cX3_stripe 62 = .ok (.aload_n 0, 1) := by decide +kernel
theorem dX3_stripe_63 : decode cX3_stripe 63 = .ok (.getfield 10, 3) := by decide +kernel
