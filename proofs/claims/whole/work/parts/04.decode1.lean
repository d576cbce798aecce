theorem dX0_init_0 : decode cX0_init 0 = .ok (.aload_n 0, 1) := by decide +kernel
theorem dX0_init_1 : decode cX0_init 1 = .ok (.invokespecial 5, 3) := by decide +kernel
theorem dX0_init_4 : decode cX0_init 4 = .ok (.aload_n 0, 1) := by decide +kernel
theorem dX0_init_5 : decode cX0_init 5 = .ok (.sipush 459, 3) := by decide +kernel
theorem dX0_init_8 : decode cX0_init 8 = .ok (.newarray .int, 2) := by decide +kernel
theorem dX0_init_10 : decode cX0_init 10 = .ok (.putfield 11, 3) := by decide +kernel
theorem dX0_init_13 : decode cX0_init 13 = .ok (.sipush 320, 3) := by decide +kernel
theorem dX0_init_16 : decode cX0_init 16 = .ok (.istore_n 1, 1) := by decide +kernel
theorem dX0_init_17 : decode cX0_init 17 = .ok (.iload_n 1, 1) := by decide +kernel
theorem dX0_init_18 : decode cX0_init 18 = .ok (.sipush 448, 3) := by decide +kernel
theorem dX0_init_21 : decode cX0_init 21 = .ok (.if_icmp .ge 16, 3) := by decide +kernel
theorem dX0_init_24 : decode cX0_init 24 = .ok (.aload_n 0, 1) := by decide +kernel
theorem dX0_init_25 : decode cX0_init 25 = .ok (.getfield 11, 3) := by decide +kernel
theorem dX0_init_28 : decode cX0_init 28 = .ok (.iload_n 1, 1) := by decide +kernel
theorem dX0_init_29 : decode cX0_init 29 = .ok (.iconst (-1), 1) := by decide +kernel
theorem dX0_init_30 : decode cX0_init 30 = .ok (.iastore, 1) := by decide +kernel
theorem dX0_init_31 : decode cX0_init 31 = .ok (.iinc 1 1, 3) := by decide +kernel
theorem dX0_init_34 : decode cX0_init 34 = .ok (.goto (-17), 3) := by decide +kernel
theorem dX0_init_37 : decode cX0_init 37 = .ok (.aload_n 0, 1) := by decide +kernel
theorem dX0_init_38 : decode cX0_init 38 = .ok (.getfield 11, 3) := by decide +kernel
theorem dX0_init_41 : decode cX0_init 41 = .ok (.sipush 457, 3) := by decide +kernel
theorem dX0_init_44 : decode cX0_init 44 = .ok (.iconst 2, 1) := by decide +kernel
theorem dX0_init_45 : decode cX0_init 45 = .ok (.iastore, 1) := by decide +kernel
theorem dX0_init_46 : decode cX0_init 46 = .ok (.aload_n 0, 1) := by decide +kernel
theorem dX0_init_47 : decode cX0_init 47 = .ok (.getfield 11, 3) := by decide +kernel
theorem dX0_init_50 : decode cX0_init 50 = .ok (.sipush 458, 3) := by decide +kernel
theorem dX0_init_53 : decode cX0_init 53 = .ok (.iconst 3, 1) := by decide +kernel
theorem dX0_init_54 : decode cX0_init 54 = .ok (.iastore, 1) := by decide +kernel
theorem dX0_init_55 : decode cX0_init 55 = .ok (.return_, 1) := by decide +kernel
theorem dX0_value_0 : decode cX0_value 0 = .ok (.iload_n 1, 1) := by decide +kernel
theorem dX0_value_1 : decode cX0_value 1 = .ok (.ifCond .lt 19, 3) := by decide +kernel
theorem dX0_value_4 : decode cX0_value 4 = .ok (.iload_n 1, 1) := by decide +kernel
theorem dX0_value_5 : decode cX0_value 5 = .ok (.bipush 32, 2) := by decide +kernel
theorem dX0_value_7 : decode cX0_value 7 = .ok (.if_icmp .ge 13, 3) := by decide +kernel
theorem dX0_value_10 : decode cX0_value 10 = .ok (.iload_n 2, 1) := by decide +kernel
theorem dX0_value_11 : decode cX0_value 11 = .ok (.ifCond .lt 9, 3) := by decide +kernel
theorem dX0_value_14 : decode cX0_value 14 = .ok (.iload_n 2, 1) := by decide +kernel
theorem dX0_value_15 : decode cX0_value 15 = .ok (.bipush 10, 2) := by decide +kernel
theorem dX0_value_17 : decode cX0_value 17 = .ok (.if_icmp .lt 5, 3) := by decide +kernel
theorem dX0_value_20 : decode cX0_value 20 = .ok (.iconst 0, 1) := by decide +kernel
theorem dX0_value_21 : decode cX0_value 21 = .ok (.ireturn, 1) := by decide +kernel
theorem dX0_value_22 : decode cX0_value 22 = .ok (.aload_n 0, 1) := by decide +kernel
theorem dX0_value_23 : decode cX0_value 23 = .ok (.getfield 11, 3) := by decide +kernel
theorem dX0_value_26 : decode cX0_value 26 = .ok (.iload_n 2, 1) := by decide +kernel
theorem dX0_value_27 : decode cX0_value 27 = .ok (.bipush 32, 2) := by decide +kernel
theorem dX0_value_29 : decode cX0_value 29 = .ok (.imul, 1) := by decide +kernel
theorem dX0_value_30 : decode cX0_value 30 = .ok (.iload_n 1, 1) := by decide +kernel
theorem dX0_value_31 : decode cX0_value 31 = .ok (.iadd, 1) := by decide +kernel
theorem dX0_value_32 : decode cX0_value 32 = .ok (.iaload, 1) := by decide +kernel
theorem dX0_value_33 : decode cX0_value 33 = .ok (.ireturn, 1) := by decide +kernel
theorem dX0_setValue_0 : decode cX0_setValue 0 = .ok (.iload_n 1, 1) := by decide +kernel
theorem dX0_setValue_1 : decode cX0_setValue 1 = .ok (.ifCond .lt 19, 3) := by decide +kernel
theorem dX0_setValue_4 : decode cX0_setValue 4 = .ok (.iload_n 1, 1) := by decide +kernel
theorem dX0_setValue_5 : decode cX0_setValue 5 = .ok (.bipush 32, 2) := by decide +kernel
theorem dX0_setValue_7 : decode cX0_setValue 7 = .ok (.if_icmp .ge 13, 3) := by decide +kernel
theorem dX0_setValue_10 : decode cX0_setValue 10 = .ok (.iload_n 2, 1) := by decide +kernel
theorem dX0_setValue_11 : decode cX0_setValue 11 = .ok (.ifCond .lt 9, 3) := by decide +kernel
theorem dX0_setValue_14 : decode cX0_setValue 14 = .ok (.iload_n 2, 1) := by decide +kernel
theorem dX0_setValue_15 : decode cX0_setValue 15 = .ok (.bipush 10, 2) := by decide +kernel
theorem dX0_setValue_17 : decode cX0_setValue 17 = .ok (.if_icmp .lt 4, 3) := by decide +kernel
theorem dX0_setValue_20 : decode cX0_setValue 20 = .ok (.return_, 1) := by decide +kernel
theorem dX0_setValue_21 : decode cX0_setValue 21 = .ok (.aload_n 0, 1) := by decide +kernel
theorem dX0_setValue_22 : decode cX0_setValue 22 = .ok (.getfield 11, 3) := by decide +kernel
theorem dX0_setValue_25 : decode cX0_setValue 25 = .ok (.iload_n 2, 1) := by decide +kernel
theorem dX0_setValue_26 : decode cX0_setValue 26 = .ok (.bipush 32, 2) := by decide +kernel
theorem dX0_setValue_28 : decode cX0_setValue 28 = .ok (.imul, 1) := by decide +kernel
theorem dX0_setValue_29 : decode cX0_setValue 29 = .ok (.iload_n 1, 1) := by decide +kernel
theorem dX0_setValue_30 : decode cX0_setValue 30 = .ok (.iadd, 1) := by decide +kernel
theorem dX0_setValue_31 : decode cX0_setValue 31 = .ok (.iload_n 3, 1) := by decide +kernel
theorem dX0_setValue_32 : decode cX0_setValue 32 = .ok (.iastore, 1) := by decide +kernel
theorem dX0_setValue_33 : decode cX0_setValue 33 = .ok (.return_, 1) := by decide +kernel
theorem dX0_addToValue_0 : decode cX0_addToValue 0 = .ok (.aload_n 0, 1) := by decide +kernel
theorem dX0_addToValue_1 : decode cX0_addToValue 1 = .ok (.iload_n 1, 1) := by decide +kernel
theorem dX0_addToValue_2 : decode cX0_addToValue 2 = .ok (.iload_n 2, 1) := by decide +kernel
theorem dX0_addToValue_3 : decode cX0_addToValue 3 = .ok (.aload_n 0, 1) := by decide +kernel
theorem dX0_addToValue_4 : decode cX0_addToValue 4 = .ok (.iload_n 1, 1) := by decide +kernel
theorem dX0_addToValue_5 : decode cX0_addToValue 5 = .ok (.iload_n 2, 1) := by decide +kernel
theorem dX0_addToValue_6 : decode cX0_addToValue 6 = .ok (.invokevirtual 15, 3) := by decide +kernel
theorem dX0_addToValue_9 : decode cX0_addToValue 9 = .ok (.iload_n 3, 1) := by decide +kernel
theorem dX0_addToValue_10 : decode cX0_addToValue 10 = .ok (.iadd, 1) := by decide +kernel
theorem dX0_addToValue_11 : decode cX0_addToValue 11 = .ok (.invokevirtual 19, 3) := by decide +kernel
theorem dX0_addToValue_14 : decode cX0_addToValue 14 = .ok (.return_, 1) := by decide +kernel
theorem dX0_parentOf_0 : decode cX0_parentOf 0 = .ok (.iload_n 1, 1) := by decide +kernel
theorem dX0_parentOf_1 : decode cX0_parentOf 1 = .ok (.ifCond .lt 18, 3) := by decide +kernel
theorem dX0_parentOf_4 : decode cX0_parentOf 4 = .ok (.iload_n 1, 1) := by decide +kernel
theorem dX0_parentOf_5 : decode cX0_parentOf 5 = .ok (.bipush 32, 2) := by decide +kernel
theorem dX0_parentOf_7 : decode cX0_parentOf 7 = .ok (.if_icmp .ge 12, 3) := by decide +kernel
theorem dX0_parentOf_10 : decode cX0_parentOf 10 = .ok (.iload_n 2, 1) := by decide +kernel
theorem dX0_parentOf_11 : decode cX0_parentOf 11 = .ok (.ifCond .lt 8, 3) := by decide +kernel
theorem dX0_parentOf_14 : decode cX0_parentOf 14 = .ok (.iload_n 2, 1) := by decide +kernel
theorem dX0_parentOf_15 : decode cX0_parentOf 15 = .ok (.iconst 4, 1) := by decide +kernel
theorem dX0_parentOf_16 : decode cX0_parentOf 16 = .ok (.if_icmp .lt 5, 3) := by decide +kernel
theorem dX0_parentOf_19 : decode cX0_parentOf 19 = .ok (.iconst (-1), 1) := by decide +kernel
theorem dX0_parentOf_20 : decode cX0_parentOf 20 = .ok (.ireturn, 1) := by decide +kernel
theorem dX0_parentOf_21 : decode cX0_parentOf 21 = .ok (.aload_n 0, 1) := by decide +kernel
theorem dX0_parentOf_22 : decode cX0_parentOf 22 = .ok (.getfield 11, 3) := by decide +kernel
theorem dX0_parentOf_25 : decode cX0_parentOf 25 = .ok (.sipush 320, 3) := by decide +kernel
theorem dX0_parentOf_28 : decode cX0_parentOf 28 = .ok (.iload_n 2, 1) := by decide +kernel
theorem dX0_parentOf_29 : decode cX0_parentOf 29 = .ok (.bipush 32, 2) := by decide +kernel
theorem dX0_parentOf_31 : decode cX0_parentOf 31 = .ok (.imul, 1) := by decide +kernel
theorem dX0_parentOf_32 : decode cX0_parentOf 32 = .ok (.iadd, 1) := by decide +kernel
theorem dX0_parentOf_33 : decode cX0_parentOf 33 = .ok (.iload_n 1, 1) := by decide +kernel
theorem dX0_parentOf_34 : decode cX0_parentOf 34 = .ok (.iadd, 1) := by decide +kernel
theorem dX0_parentOf_35 : decode cX0_parentOf 35 = .ok (.iaload, 1) := by decide +kernel
theorem dX0_parentOf_36 : decode cX0_parentOf 36 = .ok (.ireturn, 1) := by decide +kernel
theorem dX0_moveTo_0 : decode cX0_moveTo 0 = .ok (.iload_n 1, 1) := by decide +kernel
theorem dX0_moveTo_1 : decode cX0_moveTo 1 = .ok (.ifCond .lt 18, 3) := by decide +kernel
theorem dX0_moveTo_4 : decode cX0_moveTo 4 = .ok (.iload_n 1, 1) := by decide +kernel
theorem dX0_moveTo_5 : decode cX0_moveTo 5 = .ok (.bipush 32, 2) := by decide +kernel
theorem dX0_moveTo_7 : decode cX0_moveTo 7 = .ok (.if_icmp .ge 12, 3) := by decide +kernel
theorem dX0_moveTo_10 : decode cX0_moveTo 10 = .ok (.iload_n 2, 1) := by decide +kernel
theorem dX0_moveTo_11 : decode cX0_moveTo 11 = .ok (.ifCond .lt 8, 3) := by decide +kernel
theorem dX0_moveTo_14 : decode cX0_moveTo 14 = .ok (.iload_n 2, 1) := by decide +kernel
theorem dX0_moveTo_15 : decode cX0_moveTo 15 = .ok (.iconst 4, 1) := by decide +kernel
theorem dX0_moveTo_16 : decode cX0_moveTo 16 = .ok (.if_icmp .lt 4, 3) := by decide +kernel
theorem dX0_moveTo_19 : decode cX0_moveTo 19 = .ok (.return_, 1) := by decide +kernel
theorem dX0_moveTo_20 : decode cX0_moveTo 20 = .ok (.sipush 320, 3) := by decide +kernel
theorem dX0_moveTo_23 : decode cX0_moveTo 23 = .ok (.iload_n 2, 1) := by decide +kernel
theorem dX0_moveTo_24 : decode cX0_moveTo 24 = .ok (.bipush 32, 2) := by decide +kernel
theorem dX0_moveTo_26 : decode cX0_moveTo 26 = .ok (.imul, 1) := by decide +kernel
theorem dX0_moveTo_27 : decode cX0_moveTo 27 = .ok (.iadd, 1) := by decide +kernel
theorem dX0_moveTo_28 : decode cX0_moveTo 28 = .ok (.iload_n 1, 1) := by decide +kernel
theorem dX0_moveTo_29 : decode cX0_moveTo 29 = .ok (.iadd, 1) := by decide +kernel
theorem dX0_moveTo_30 : decode cX0_moveTo 30 = .ok (.istore 4, 2) := by decide +kernel
theorem dX0_moveTo_32 : decode cX0_moveTo 32 = .ok (.aload_n 0, 1) := by decide +kernel
theorem dX0_moveTo_33 : decode cX0_moveTo 33 = .ok (.aload_n 0, 1) := by decide +kernel
theorem dX0_moveTo_34 : decode cX0_moveTo 34 = .ok (.getfield 11, 3) := by decide +kernel
theorem dX0_moveTo_37 : decode cX0_moveTo 37 = .ok (.iload 4, 2) := by decide +kernel
theorem dX0_moveTo_39 : decode cX0_moveTo 39 = .ok (.iaload, 1) := by decide +kernel
theorem dX0_moveTo_40 : decode cX0_moveTo 40 = .ok (.iload_n 2, 1) := by decide +kernel
theorem dX0_moveTo_41 : decode cX0_moveTo 41 = .ok (.iconst (-1), 1) := by decide +kernel
theorem dX0_moveTo_42 : decode cX0_moveTo 42 = .ok (.invokevirtual 23, 3) := by decide +kernel
theorem dX0_moveTo_45 : decode cX0_moveTo 45 = .ok (.aload_n 0, 1) := by decide +kernel
theorem dX0_moveTo_46 : decode cX0_moveTo 46 = .ok (.getfield 11, 3) := by decide +kernel
theorem dX0_moveTo_49 : decode cX0_moveTo 49 = .ok (.iload 4, 2) := by decide +kernel
theorem dX0_moveTo_51 : decode cX0_moveTo 51 = .ok (.iload_n 3, 1) := by decide +kernel
theorem dX0_moveTo_52 : decode cX0_moveTo 52 = .ok (.iastore, 1) := by decide +kernel
theorem dX0_moveTo_53 : decode cX0_moveTo 53 = .ok (.aload_n 0, 1) := by decide +kernel
theorem dX0_moveTo_54 : decode cX0_moveTo 54 = .ok (.iload_n 3, 1) := by decide +kernel
theorem dX0_moveTo_55 : decode cX0_moveTo 55 = .ok (.iload_n 2, 1) := by decide +kernel
theorem dX0_moveTo_56 : decode cX0_moveTo 56 = .ok (.iconst 1, 1) := by decide +kernel
theorem dX0_moveTo_57 : decode cX0_moveTo 57 = .ok (.invokevirtual 23, 3) := by decide +kernel
theorem dX0_moveTo_60 : decode cX0_moveTo 60 = .ok (.return_, 1) := by decide +kernel
theorem dX0_addChildren_0 : decode cX0_addChildren 0 = .ok (.aload_n 0, 1) := by decide +kernel
theorem dX0_addChildren_1 : decode cX0_addChildren 1 = .ok (.iload_n 1, 1) := by decide +kernel
theorem dX0_addChildren_2 : decode cX0_addChildren 2 = .ok (.iconst 5, 1) := by decide +kernel
theorem dX0_addChildren_3 : decode cX0_addChildren 3 = .ok (.invokevirtual 15, 3) := by decide +kernel
theorem dX0_addChildren_6 : decode cX0_addChildren 6 = .ok (.iload_n 3, 1) := by decide +kernel
theorem dX0_addChildren_7 : decode cX0_addChildren 7 = .ok (.iadd, 1) := by decide +kernel
theorem dX0_addChildren_8 : decode cX0_addChildren 8 = .ok (.istore 4, 2) := by decide +kernel
theorem dX0_addChildren_10 : decode cX0_addChildren 10 = .ok (.aload_n 0, 1) := by decide +kernel
theorem dX0_addChildren_11 : decode cX0_addChildren 11 = .ok (.iload_n 1, 1) := by decide +kernel
theorem dX0_addChildren_12 : decode cX0_addChildren 12 = .ok (.iconst 5, 1) := by decide +kernel
theorem dX0_addChildren_13 : decode cX0_addChildren 13 = .ok (.iload 4, 2) := by decide +kernel
theorem dX0_addChildren_15 : decode cX0_addChildren 15 = .ok (.invokevirtual 19, 3) := by decide +kernel
theorem dX0_addChildren_18 : decode cX0_addChildren 18 = .ok (.aload_n 0, 1) := by decide +kernel
theorem dX0_addChildren_19 : decode cX0_addChildren 19 = .ok (.iload_n 1, 1) := by decide +kernel
theorem dX0_addChildren_20 : decode cX0_addChildren 20 = .ok (.bipush 6, 2) := by decide +kernel
theorem dX0_addChildren_22 : decode cX0_addChildren 22 = .ok (.iload 4, 2) := by decide +kernel
theorem dX0_addChildren_24 : decode cX0_addChildren 24 = .ok (.ifCond .ne 7, 3) := by decide +kernel
theorem dX0_addChildren_27 : decode cX0_addChildren 27 = .ok (.iconst (-1), 1) := by decide +kernel
theorem dX0_addChildren_28 : decode cX0_addChildren 28 = .ok (.goto 4, 3) := by decide +kernel
theorem dX0_addChildren_31 : decode cX0_addChildren 31 = .ok (.iload_n 2, 1) := by decide +kernel
theorem dX0_addChildren_32 : decode cX0_addChildren 32 = .ok (.invokevirtual 19, 3) := by decide +kernel
theorem dX0_addChildren_35 : decode cX0_addChildren 35 = .ok (.return_, 1) := by decide +kernel
theorem dX0_figure_0 : decode cX0_figure 0 = .ok (.iload_n 1, 1) := by decide +kernel
theorem dX0_figure_1 : decode cX0_figure 1 = .ok (.ifCond .lt 9, 3) := by decide +kernel
theorem dX0_figure_4 : decode cX0_figure 4 = .ok (.iload_n 1, 1) := by decide +kernel
theorem dX0_figure_5 : decode cX0_figure 5 = .ok (.bipush 11, 2) := by decide +kernel
theorem dX0_figure_7 : decode cX0_figure 7 = .ok (.if_icmp .lt 5, 3) := by decide +kernel
theorem dX0_figure_10 : decode cX0_figure 10 = .ok (.iconst 0, 1) := by decide +kernel
theorem dX0_figure_11 : decode cX0_figure 11 = .ok (.ireturn, 1) := by decide +kernel
theorem dX0_figure_12 : decode cX0_figure 12 = .ok (.aload_n 0, 1) := by decide +kernel
theorem dX0_figure_13 : decode cX0_figure 13 = .ok (.getfield 11, 3) := by decide +kernel
theorem dX0_figure_16 : decode cX0_figure 16 = .ok (.sipush 448, 3) := by decide +kernel
theorem dX0_figure_19 : decode cX0_figure 19 = .ok (.iload_n 1, 1) := by decide +kernel
theorem dX0_figure_20 : decode cX0_figure 20 = .ok (.iadd, 1) := by decide +kernel
theorem dX0_figure_21 : decode cX0_figure 21 = .ok (.iaload, 1) := by decide +kernel
theorem dX0_figure_22 : decode cX0_figure 22 = .ok (.ireturn, 1) := by decide +kernel
theorem dX0_setFigure_0 : decode cX0_setFigure 0 = .ok (.iload_n 1, 1) := by decide +kernel
theorem dX0_setFigure_1 : decode cX0_setFigure 1 = .ok (.ifCond .lt 9, 3) := by decide +kernel
theorem dX0_setFigure_4 : decode cX0_setFigure 4 = .ok (.iload_n 1, 1) := by decide +kernel
theorem dX0_setFigure_5 : decode cX0_setFigure 5 = .ok (.bipush 11, 2) := by decide +kernel
theorem dX0_setFigure_7 : decode cX0_setFigure 7 = .ok (.if_icmp .lt 4, 3) := by decide +kernel
theorem dX0_setFigure_10 : decode cX0_setFigure 10 = .ok (.return_, 1) := by decide +kernel
theorem dX0_setFigure_11 : decode cX0_setFigure 11 = .ok (.aload_n 0, 1) := by decide +kernel
theorem dX0_setFigure_12 : decode cX0_setFigure 12 = .ok (.getfield 11, 3) := by decide +kernel
theorem dX0_setFigure_15 : decode cX0_setFigure 15 = .ok (.sipush 448, 3) := by decide +kernel
theorem dX0_setFigure_18 : decode cX0_setFigure 18 = .ok (.iload_n 1, 1) := by decide +kernel
theorem dX0_setFigure_19 : decode cX0_setFigure 19 = .ok (.iadd, 1) := by decide +kernel
theorem dX0_setFigure_20 : decode cX0_setFigure 20 = .ok (.iload_n 2, 1) := by decide +kernel
theorem dX0_setFigure_21 : decode cX0_setFigure 21 = .ok (.iastore, 1) := by decide +kernel
theorem dX0_setFigure_22 : decode cX0_setFigure 22 = .ok (.return_, 1) := by decide +kernel
theorem dX0_addToFigure_0 : decode cX0_addToFigure 0 = .ok (.aload_n 0, 1) := by decide +kernel
theorem dX0_addToFigure_1 : decode cX0_addToFigure 1 = .ok (.iload_n 1, 1) := by decide +kernel
theorem dX0_addToFigure_2 : decode cX0_addToFigure 2 = .ok (.aload_n 0, 1) := by decide +kernel
theorem dX0_addToFigure_3 : decode cX0_addToFigure 3 = .ok (.iload_n 1, 1) := by decide +kernel
theorem dX0_addToFigure_4 : decode cX0_addToFigure 4 = .ok (.invokevirtual 26, 3) := by decide +kernel
theorem dX0_addToFigure_7 : decode cX0_addToFigure 7 = .ok (.iload_n 2, 1) := by decide +kernel
theorem dX0_addToFigure_8 : decode cX0_addToFigure 8 = .ok (.iadd, 1) := by decide +kernel
theorem dX0_addToFigure_9 : decode cX0_addToFigure 9 = .ok (.invokevirtual 30, 3) := by decide +kernel
theorem dX0_addToFigure_12 : decode cX0_addToFigure 12 = .ok (.return_, 1) := by decide +kernel
theorem dX0_copyTo_0 : decode cX0_copyTo 0 = .ok (.iload_n 2, 1) := by decide +kernel
theorem dX0_copyTo_1 : decode cX0_copyTo 1 = .ok (.ifCond .lt 26, 3) := by decide +kernel
theorem dX0_copyTo_4 : decode cX0_copyTo 4 = .ok (.iload_n 2, 1) := by decide +kernel
theorem dX0_copyTo_5 : decode cX0_copyTo 5 = .ok (.aload_n 1, 1) := by decide +kernel
theorem dX0_copyTo_6 : decode cX0_copyTo 6 = .ok (.arraylength, 1) := by decide +kernel
theorem dX0_copyTo_7 : decode cX0_copyTo 7 = .ok (.sipush 459, 3) := by decide +kernel
theorem dX0_copyTo_10 : decode cX0_copyTo 10 = .ok (.isub, 1) := by decide +kernel
theorem dX0_copyTo_11 : decode cX0_copyTo 11 = .ok (.if_icmp .gt 16, 3) := by decide +kernel
theorem dX0_copyTo_14 : decode cX0_copyTo 14 = .ok (.aload_n 0, 1) := by decide +kernel
theorem dX0_copyTo_15 : decode cX0_copyTo 15 = .ok (.getfield 11, 3) := by decide +kernel
theorem dX0_copyTo_18 : decode cX0_copyTo 18 = .ok (.iconst 0, 1) := by decide +kernel
theorem dX0_copyTo_19 : decode cX0_copyTo 19 = .ok (.aload_n 1, 1) := by decide +kernel
theorem dX0_copyTo_20 : decode cX0_copyTo 20 = .ok (.iload_n 2, 1) := by decide +kernel
theorem dX0_copyTo_21 : decode cX0_copyTo 21 = .ok (.sipush 459, 3) := by decide +kernel
theorem dX0_copyTo_24 : decode cX0_copyTo 24 = .ok (.invokestatic 34, 3) := by decide +kernel
theorem dX0_copyTo_27 : decode cX0_copyTo 27 = .ok (.return_, 1) := by decide +kernel
theorem dX0_copyFrom_0 : decode cX0_copyFrom 0 = .ok (.iload_n 2, 1) := by decide +kernel
theorem dX0_copyFrom_1 : decode cX0_copyFrom 1 = .ok (.ifCond .lt 26, 3) := by decide +kernel
theorem dX0_copyFrom_4 : decode cX0_copyFrom 4 = .ok (.iload_n 2, 1) := by decide +kernel
theorem dX0_copyFrom_5 : decode cX0_copyFrom 5 = .ok (.aload_n 1, 1) := by decide +kernel
theorem dX0_copyFrom_6 : decode cX0_copyFrom 6 = .ok (.arraylength, 1) := by decide +kernel
theorem dX0_copyFrom_7 : decode cX0_copyFrom 7 = .ok (.sipush 459, 3) := by decide +kernel
theorem dX0_copyFrom_10 : decode cX0_copyFrom 10 = .ok (.isub, 1) := by decide +kernel
theorem dX0_copyFrom_11 : decode cX0_copyFrom 11 = .ok (.if_icmp .gt 16, 3) := by decide +kernel
theorem dX0_copyFrom_14 : decode cX0_copyFrom 14 = .ok (.aload_n 1, 1) := by decide +kernel
theorem dX0_copyFrom_15 : decode cX0_copyFrom 15 = .ok (.iload_n 2, 1) := by decide +kernel
theorem dX0_copyFrom_16 : decode cX0_copyFrom 16 = .ok (.aload_n 0, 1) := by decide +kernel
theorem dX0_copyFrom_17 : decode cX0_copyFrom 17 = .ok (.getfield 11, 3) := by decide +kernel
theorem dX0_copyFrom_20 : decode cX0_copyFrom 20 = .ok (.iconst 0, 1) := by decide +kernel
theorem dX0_copyFrom_21 : decode cX0_copyFrom 21 = .ok (.sipush 459, 3) := by decide +kernel
theorem dX0_copyFrom_24 : decode cX0_copyFrom 24 = .ok (.invokestatic 34, 3) := by decide +kernel
theorem dX0_copyFrom_27 : decode cX0_copyFrom 27 = .ok (.return_, 1) := by decide +kernel
theorem dX1_init_0 : decode cX1_init 0 = .ok (.aload_n 0, 1) := by decide +kernel
theorem dX1_init_1 : decode cX1_init 1 = .ok (.invokespecial 3, 3) := by decide +kernel
theorem dX1_init_4 : decode cX1_init 4 = .ok (.aload_n 0, 1) := by decide +kernel
theorem dX1_init_5 : decode cX1_init 5 = .ok (.new 9, 3) := by decide +kernel
theorem dX1_init_8 : decode cX1_init 8 = .ok (.dup, 1) := by decide +kernel
theorem dX1_init_9 : decode cX1_init 9 = .ok (.invokespecial 11, 3) := by decide +kernel
theorem dX1_init_12 : decode cX1_init 12 = .ok (.putfield 12, 3) := by decide +kernel
theorem dX1_init_15 : decode cX1_init 15 = .ok (.return_, 1) := by decide +kernel
theorem dX1_depthOf_0 : decode cX1_depthOf 0 = .ok (.iload_n 1, 1) := by decide +kernel
theorem dX1_depthOf_1 : decode cX1_depthOf 1 = .ok (.istore_n 3, 1) := by decide +kernel
theorem dX1_depthOf_2 : decode cX1_depthOf 2 = .ok (.iconst 0, 1) := by decide +kernel
theorem dX1_depthOf_3 : decode cX1_depthOf 3 = .ok (.istore 4, 2) := by decide +kernel
theorem dX1_depthOf_5 : decode cX1_depthOf 5 = .ok (.iload 4, 2) := by decide +kernel
theorem dX1_depthOf_7 : decode cX1_depthOf 7 = .ok (.bipush 32, 2) := by decide +kernel
theorem dX1_depthOf_9 : decode cX1_depthOf 9 = .ok (.if_icmp .gt 35, 3) := by decide +kernel
theorem dX1_depthOf_12 : decode cX1_depthOf 12 = .ok (.iload_n 3, 1) := by decide +kernel
theorem dX1_depthOf_13 : decode cX1_depthOf 13 = .ok (.bipush 100, 2) := by decide +kernel
theorem dX1_depthOf_15 : decode cX1_depthOf 15 = .ok (.if_icmp .ne 6, 3) := by decide +kernel
theorem dX1_depthOf_18 : decode cX1_depthOf 18 = .ok (.iload 4, 2) := by decide +kernel
theorem dX1_depthOf_20 : decode cX1_depthOf 20 = .ok (.ireturn, 1) := by decide +kernel
theorem dX1_depthOf_21 : decode cX1_depthOf 21 = .ok (.iload_n 3, 1) := by decide +kernel
theorem dX1_depthOf_22 : decode cX1_depthOf 22 = .ok (.iconst (-1), 1) := by decide +kernel
theorem dX1_depthOf_23 : decode cX1_depthOf 23 = .ok (.if_icmp .ne 5, 3) := by decide +kernel
theorem dX1_depthOf_26 : decode cX1_depthOf 26 = .ok (.iconst (-1), 1) := by decide +kernel
theorem dX1_depthOf_27 : decode cX1_depthOf 27 = .ok (.ireturn, 1) := by decide +kernel
theorem dX1_depthOf_28 : decode cX1_depthOf 28 = .ok (.aload_n 0, 1) := by decide +kernel
theorem dX1_depthOf_29 : decode cX1_depthOf 29 = .ok (.getfield 12, 3) := by decide +kernel
theorem dX1_depthOf_32 : decode cX1_depthOf 32 = .ok (.iload_n 3, 1) := by decide +kernel
theorem dX1_depthOf_33 : decode cX1_depthOf 33 = .ok (.iload_n 2, 1) := by decide +kernel
theorem dX1_depthOf_34 : decode cX1_depthOf 34 = .ok (.invokevirtual 18, 3) := by decide +kernel
theorem dX1_depthOf_37 : decode cX1_depthOf 37 = .ok (.istore_n 3, 1) := by decide +kernel
theorem dX1_depthOf_38 : decode cX1_depthOf 38 = .ok (.iinc 4 1, 3) := by decide +kernel
theorem dX1_depthOf_41 : decode cX1_depthOf 41 = .ok (.goto (-36), 3) := by decide +kernel
theorem dX1_depthOf_44 : decode cX1_depthOf 44 = .ok (.iconst (-1), 1) := by decide +kernel
theorem dX1_depthOf_45 : decode cX1_depthOf 45 = .ok (.ireturn, 1) := by decide +kernel
theorem dX1_isUnder_0 : decode cX1_isUnder 0 = .ok (.iload_n 1, 1) := by decide +kernel
theorem dX1_isUnder_1 : decode cX1_isUnder 1 = .ok (.istore 4, 2) := by decide +kernel
theorem dX1_isUnder_3 : decode cX1_isUnder 3 = .ok (.iconst 0, 1) := by decide +kernel
theorem dX1_isUnder_4 : decode cX1_isUnder 4 = .ok (.istore 5, 2) := by decide +kernel
theorem dX1_isUnder_6 : decode cX1_isUnder 6 = .ok (.iload 5, 2) := by decide +kernel
theorem dX1_isUnder_8 : decode cX1_isUnder 8 = .ok (.bipush 32, 2) := by decide +kernel
theorem dX1_isUnder_10 : decode cX1_isUnder 10 = .ok (.if_icmp .gt 44, 3) := by decide +kernel
theorem dX1_isUnder_13 : decode cX1_isUnder 13 = .ok (.iload 4, 2) := by decide +kernel
theorem dX1_isUnder_15 : decode cX1_isUnder 15 = .ok (.iload_n 2, 1) := by decide +kernel
theorem dX1_isUnder_16 : decode cX1_isUnder 16 = .ok (.if_icmp .ne 5, 3) := by decide +kernel
theorem dX1_isUnder_19 : decode cX1_isUnder 19 = .ok (.iconst 1, 1) := by decide +kernel
theorem dX1_isUnder_20 : decode cX1_isUnder 20 = .ok (.ireturn, 1) := by decide +kernel
theorem dX1_isUnder_21 : decode cX1_isUnder 21 = .ok (.iload 4, 2) := by decide +kernel
theorem dX1_isUnder_23 : decode cX1_isUnder 23 = .ok (.bipush 100, 2) := by decide +kernel
theorem dX1_isUnder_25 : decode cX1_isUnder 25 = .ok (.if_icmp .eq 9, 3) := by decide +kernel
theorem dX1_isUnder_28 : decode cX1_isUnder 28 = .ok (.iload 4, 2) := by decide +kernel
theorem dX1_isUnder_30 : decode cX1_isUnder 30 = .ok (.iconst (-1), 1) := by decide +kernel
theorem dX1_isUnder_31 : decode cX1_isUnder 31 = .ok (.if_icmp .ne 5, 3) := by decide +kernel
theorem dX1_isUnder_34 : decode cX1_isUnder 34 = .ok (.iconst 0, 1) := by decide +kernel
theorem dX1_isUnder_35 : decode cX1_isUnder 35 = .ok (.ireturn, 1) := by decide +kernel
theorem dX1_isUnder_36 : decode cX1_isUnder 36 = .ok (.aload_n 0, 1) := by decide +kernel
theorem dX1_isUnder_37 : decode cX1_isUnder 37 = .ok (.getfield 12, 3) := by decide +kernel
theorem dX1_isUnder_40 : decode cX1_isUnder 40 = .ok (.iload 4, 2) := by decide +kernel
theorem dX1_isUnder_42 : decode cX1_isUnder 42 = .ok (.iload_n 3, 1) := by decide +kernel
theorem dX1_isUnder_43 : decode cX1_isUnder 43 = .ok (.invokevirtual 18, 3) := by decide +kernel
theorem dX1_isUnder_46 : decode cX1_isUnder 46 = .ok (.istore 4, 2) := by decide +kernel
theorem dX1_isUnder_48 : decode cX1_isUnder 48 = .ok (.iinc 5 1, 3) := by decide +kernel
theorem dX1_isUnder_51 : decode cX1_isUnder 51 = .ok (.goto (-45), 3) := by decide +kernel
theorem dX1_isUnder_54 : decode cX1_isUnder 54 = .ok (.iconst 0, 1) := by decide +kernel
theorem dX1_isUnder_55 : decode cX1_isUnder 55 = .ok (.ireturn, 1) := by decide +kernel
theorem dX1_getsPiece_0 : decode cX1_getsPiece 0 = .ok (.iload_n 1, 1) := by decide +kernel
theorem dX1_getsPiece_1 : decode cX1_getsPiece 1 = .ok (.istore_n 3, 1) := by decide +kernel
theorem dX1_getsPiece_2 : decode cX1_getsPiece 2 = .ok (.iconst 0, 1) := by decide +kernel
theorem dX1_getsPiece_3 : decode cX1_getsPiece 3 = .ok (.istore 4, 2) := by decide +kernel
theorem dX1_getsPiece_5 : decode cX1_getsPiece 5 = .ok (.iload 4, 2) := by decide +kernel
theorem dX1_getsPiece_7 : decode cX1_getsPiece 7 = .ok (.bipush 32, 2) := by decide +kernel
theorem dX1_getsPiece_9 : decode cX1_getsPiece 9 = .ok (.if_icmp .gt 47, 3) := by decide +kernel
theorem dX1_getsPiece_12 : decode cX1_getsPiece 12 = .ok (.iload_n 3, 1) := by decide +kernel
theorem dX1_getsPiece_13 : decode cX1_getsPiece 13 = .ok (.bipush 100, 2) := by decide +kernel
theorem dX1_getsPiece_15 : decode cX1_getsPiece 15 = .ok (.if_icmp .ne 5, 3) := by decide +kernel
theorem dX1_getsPiece_18 : decode cX1_getsPiece 18 = .ok (.iconst 1, 1) := by decide +kernel
theorem dX1_getsPiece_19 : decode cX1_getsPiece 19 = .ok (.ireturn, 1) := by decide +kernel
theorem dX1_getsPiece_20 : decode cX1_getsPiece 20 = .ok (.iload_n 3, 1) := by decide +kernel
theorem dX1_getsPiece_21 : decode cX1_getsPiece 21 = .ok (.iconst (-1), 1) := by decide +kernel
theorem dX1_getsPiece_22 : decode cX1_getsPiece 22 = .ok (.if_icmp .eq 16, 3) := by decide +kernel
theorem dX1_getsPiece_25 : decode cX1_getsPiece 25 = .ok (.aload_n 0, 1) := by decide +kernel
theorem dX1_getsPiece_26 : decode cX1_getsPiece 26 = .ok (.getfield 12, 3) := by decide +kernel
theorem dX1_getsPiece_29 : decode cX1_getsPiece 29 = .ok (.iload_n 3, 1) := by decide +kernel
theorem dX1_getsPiece_30 : decode cX1_getsPiece 30 = .ok (.iconst 3, 1) := by decide +kernel
theorem dX1_getsPiece_31 : decode cX1_getsPiece 31 = .ok (.invokevirtual 22, 3) := by decide +kernel
theorem dX1_getsPiece_34 : decode cX1_getsPiece 34 = .ok (.iconst 1, 1) := by decide +kernel
theorem dX1_getsPiece_35 : decode cX1_getsPiece 35 = .ok (.if_icmp .ne 5, 3) := by decide +kernel
theorem dX1_getsPiece_38 : decode cX1_getsPiece 38 = .ok (.iconst 0, 1) := by decide +kernel
theorem dX1_getsPiece_39 : decode cX1_getsPiece 39 = .ok (.ireturn, 1) := by decide +kernel
theorem dX1_getsPiece_40 : decode cX1_getsPiece 40 = .ok (.aload_n 0, 1) := by decide +kernel
theorem dX1_getsPiece_41 : decode cX1_getsPiece 41 = .ok (.getfield 12, 3) := by decide +kernel
theorem dX1_getsPiece_44 : decode cX1_getsPiece 44 = .ok (.iload_n 3, 1) := by decide +kernel
theorem dX1_getsPiece_45 : decode cX1_getsPiece 45 = .ok (.iload_n 2, 1) := by decide +kernel
theorem dX1_getsPiece_46 : decode cX1_getsPiece 46 = .ok (.invokevirtual 18, 3) := by decide +kernel
theorem dX1_getsPiece_49 : decode cX1_getsPiece 49 = .ok (.istore_n 3, 1) := by decide +kernel
theorem dX1_getsPiece_50 : decode cX1_getsPiece 50 = .ok (.iinc 4 1, 3) := by decide +kernel
theorem dX1_getsPiece_53 : decode cX1_getsPiece 53 = .ok (.goto (-48), 3) := by decide +kernel
theorem dX1_getsPiece_56 : decode cX1_getsPiece 56 = .ok (.iconst 0, 1) := by decide +kernel
theorem dX1_getsPiece_57 : decode cX1_getsPiece 57 = .ok (.ireturn, 1) := by decide +kernel
theorem dX1_piecesOf_0 : decode cX1_piecesOf 0 = .ok (.iconst 0, 1) := by decide +kernel
theorem dX1_piecesOf_1 : decode cX1_piecesOf 1 = .ok (.istore_n 2, 1) := by decide +kernel
theorem dX1_piecesOf_2 : decode cX1_piecesOf 2 = .ok (.iconst 0, 1) := by decide +kernel
theorem dX1_piecesOf_3 : decode cX1_piecesOf 3 = .ok (.istore_n 3, 1) := by decide +kernel
theorem dX1_piecesOf_4 : decode cX1_piecesOf 4 = .ok (.iload_n 3, 1) := by decide +kernel
theorem dX1_piecesOf_5 : decode cX1_piecesOf 5 = .ok (.iconst 4, 1) := by decide +kernel
theorem dX1_piecesOf_6 : decode cX1_piecesOf 6 = .ok (.if_icmp .ge 21, 3) := by decide +kernel
theorem dX1_piecesOf_9 : decode cX1_piecesOf 9 = .ok (.aload_n 0, 1) := by decide +kernel
theorem dX1_piecesOf_10 : decode cX1_piecesOf 10 = .ok (.iload_n 1, 1) := by decide +kernel
theorem dX1_piecesOf_11 : decode cX1_piecesOf 11 = .ok (.iload_n 3, 1) := by decide +kernel
theorem dX1_piecesOf_12 : decode cX1_piecesOf 12 = .ok (.invokevirtual 25, 3) := by decide +kernel
theorem dX1_piecesOf_15 : decode cX1_piecesOf 15 = .ok (.ifCond .eq 6, 3) := by decide +kernel
theorem dX1_piecesOf_18 : decode cX1_piecesOf 18 = .ok (.iinc 2 1, 3) := by decide +kernel
theorem dX1_piecesOf_21 : decode cX1_piecesOf 21 = .ok (.iinc 3 1, 3) := by decide +kernel
theorem dX1_piecesOf_24 : decode cX1_piecesOf 24 = .ok (.goto (-20), 3) := by decide +kernel
theorem dX1_piecesOf_27 : decode cX1_piecesOf 27 = .ok (.iload_n 2, 1) := by decide +kernel
theorem dX1_piecesOf_28 : decode cX1_piecesOf 28 = .ok (.ireturn, 1) := by decide +kernel
theorem dX1_childrenAt_0 : decode cX1_childrenAt 0 = .ok (.iconst 0, 1) := by decide +kernel
theorem dX1_childrenAt_1 : decode cX1_childrenAt 1 = .ok (.istore_n 3, 1) := by decide +kernel
theorem dX1_childrenAt_2 : decode cX1_childrenAt 2 = .ok (.iconst 0, 1) := by decide +kernel
theorem dX1_childrenAt_3 : decode cX1_childrenAt 3 = .ok (.istore 4, 2) := by decide +kernel
theorem dX1_childrenAt_5 : decode cX1_childrenAt 5 = .ok (.iload 4, 2) := by decide +kernel
theorem dX1_childrenAt_7 : decode cX1_childrenAt 7 = .ok (.bipush 32, 2) := by decide +kernel
theorem dX1_childrenAt_9 : decode cX1_childrenAt 9 = .ok (.if_icmp .ge 26, 3) := by decide +kernel
theorem dX1_childrenAt_12 : decode cX1_childrenAt 12 = .ok (.aload_n 0, 1) := by decide +kernel
theorem dX1_childrenAt_13 : decode cX1_childrenAt 13 = .ok (.getfield 12, 3) := by decide +kernel
theorem dX1_childrenAt_16 : decode cX1_childrenAt 16 = .ok (.iload 4, 2) := by decide +kernel
theorem dX1_childrenAt_18 : decode cX1_childrenAt 18 = .ok (.iload_n 2, 1) := by decide +kernel
theorem dX1_childrenAt_19 : decode cX1_childrenAt 19 = .ok (.invokevirtual 18, 3) := by decide +kernel
theorem dX1_childrenAt_22 : decode cX1_childrenAt 22 = .ok (.iload_n 1, 1) := by decide +kernel
theorem dX1_childrenAt_23 : decode cX1_childrenAt 23 = .ok (.if_icmp .ne 6, 3) := by decide +kernel
theorem dX1_childrenAt_26 : decode cX1_childrenAt 26 = .ok (.iinc 3 1, 3) := by decide +kernel
theorem dX1_childrenAt_29 : decode cX1_childrenAt 29 = .ok (.iinc 4 1, 3) := by decide +kernel
theorem dX1_childrenAt_32 : decode cX1_childrenAt 32 = .ok (.goto (-27), 3) := by decide +kernel
theorem dX1_childrenAt_35 : decode cX1_childrenAt 35 = .ok (.iload_n 3, 1) := by decide +kernel
theorem dX1_childrenAt_36 : decode cX1_childrenAt 36 = .ok (.ireturn, 1) := by decide +kernel
theorem dX1_childAt_0 : decode cX1_childAt 0 = .ok (.iconst 0, 1) := by decide +kernel
theorem dX1_childAt_1 : decode cX1_childAt 1 = .ok (.istore 4, 2) := by decide +kernel
theorem dX1_childAt_3 : decode cX1_childAt 3 = .ok (.iconst 0, 1) := by decide +kernel
theorem dX1_childAt_4 : decode cX1_childAt 4 = .ok (.istore 5, 2) := by decide +kernel
theorem dX1_childAt_6 : decode cX1_childAt 6 = .ok (.iload 5, 2) := by decide +kernel
theorem dX1_childAt_8 : decode cX1_childAt 8 = .ok (.bipush 32, 2) := by decide +kernel
theorem dX1_childAt_10 : decode cX1_childAt 10 = .ok (.if_icmp .ge 35, 3) := by decide +kernel
theorem dX1_childAt_13 : decode cX1_childAt 13 = .ok (.aload_n 0, 1) := by decide +kernel
theorem dX1_childAt_14 : decode cX1_childAt 14 = .ok (.getfield 12, 3) := by decide +kernel
theorem dX1_childAt_17 : decode cX1_childAt 17 = .ok (.iload 5, 2) := by decide +kernel
theorem dX1_childAt_19 : decode cX1_childAt 19 = .ok (.iload_n 2, 1) := by decide +kernel
theorem dX1_childAt_20 : decode cX1_childAt 20 = .ok (.invokevirtual 18, 3) := by decide +kernel
theorem dX1_childAt_23 : decode cX1_childAt 23 = .ok (.iload_n 1, 1) := by decide +kernel
theorem dX1_childAt_24 : decode cX1_childAt 24 = .ok (.if_icmp .ne 15, 3) := by decide +kernel
theorem dX1_childAt_27 : decode cX1_childAt 27 = .ok (.iload 4, 2) := by decide +kernel
theorem dX1_childAt_29 : decode cX1_childAt 29 = .ok (.iload_n 3, 1) := by decide +kernel
theorem dX1_childAt_30 : decode cX1_childAt 30 = .ok (.if_icmp .ne 6, 3) := by decide +kernel
theorem dX1_childAt_33 : decode cX1_childAt 33 = .ok (.iload 5, 2) := by decide +kernel
theorem dX1_childAt_35 : decode cX1_childAt 35 = .ok (.ireturn, 1) := by decide +kernel
theorem dX1_childAt_36 : decode cX1_childAt 36 = .ok (.iinc 4 1, 3) := by decide +kernel
theorem dX1_childAt_39 : decode cX1_childAt 39 = .ok (.iinc 5 1, 3) := by decide +kernel
theorem dX1_childAt_42 : decode cX1_childAt 42 = .ok (.goto (-36), 3) := by decide +kernel
theorem dX1_childAt_45 : decode cX1_childAt 45 = .ok (.iconst (-1), 1) := by decide +kernel
theorem dX1_childAt_46 : decode cX1_childAt 46 = .ok (.ireturn, 1) := by decide +kernel
theorem dX1_subtreeSize_0 : decode cX1_subtreeSize 0 = .ok (.iconst 0, 1) := by decide +kernel
theorem dX1_subtreeSize_1 : decode cX1_subtreeSize 1 = .ok (.istore_n 3, 1) := by decide +kernel
theorem dX1_subtreeSize_2 : decode cX1_subtreeSize 2 = .ok (.iconst 0, 1) := by decide +kernel
theorem dX1_subtreeSize_3 : decode cX1_subtreeSize 3 = .ok (.istore 4, 2) := by decide +kernel
theorem dX1_subtreeSize_5 : decode cX1_subtreeSize 5 = .ok (.iload 4, 2) := by decide +kernel
theorem dX1_subtreeSize_7 : decode cX1_subtreeSize 7 = .ok (.bipush 32, 2) := by decide +kernel
theorem dX1_subtreeSize_9 : decode cX1_subtreeSize 9 = .ok (.if_icmp .ge 23, 3) := by decide +kernel
theorem dX1_subtreeSize_12 : decode cX1_subtreeSize 12 = .ok (.aload_n 0, 1) := by decide +kernel
theorem dX1_subtreeSize_13 : decode cX1_subtreeSize 13 = .ok (.iload 4, 2) := by decide +kernel
theorem dX1_subtreeSize_15 : decode cX1_subtreeSize 15 = .ok (.iload_n 1, 1) := by decide +kernel
theorem dX1_subtreeSize_16 : decode cX1_subtreeSize 16 = .ok (.iload_n 2, 1) := by decide +kernel
theorem dX1_subtreeSize_17 : decode cX1_subtreeSize 17 = .ok (.invokevirtual 29, 3) := by decide +kernel
theorem dX1_subtreeSize_20 : decode cX1_subtreeSize 20 = .ok (.ifCond .eq 6, 3) := by decide +kernel
theorem dX1_subtreeSize_23 : decode cX1_subtreeSize 23 = .ok (.iinc 3 1, 3) := by decide +kernel
theorem dX1_subtreeSize_26 : decode cX1_subtreeSize 26 = .ok (.iinc 4 1, 3) := by decide +kernel
theorem dX1_subtreeSize_29 : decode cX1_subtreeSize 29 = .ok (.goto (-24), 3) := by decide +kernel
theorem dX1_subtreeSize_32 : decode cX1_subtreeSize 32 = .ok (.iload_n 3, 1) := by decide +kernel
theorem dX1_subtreeSize_33 : decode cX1_subtreeSize 33 = .ok (.ireturn, 1) := by decide +kernel
theorem dX1_canBeInner_0 : decode cX1_canBeInner 0 = .ok (.aload_n 0, 1) := by decide +kernel
theorem dX1_canBeInner_1 : decode cX1_canBeInner 1 = .ok (.getfield 12, 3) := by decide +kernel
theorem dX1_canBeInner_4 : decode cX1_canBeInner 4 = .ok (.iload_n 1, 1) := by decide +kernel
theorem dX1_canBeInner_5 : decode cX1_canBeInner 5 = .ok (.iconst 1, 1) := by decide +kernel
theorem dX1_canBeInner_6 : decode cX1_canBeInner 6 = .ok (.invokevirtual 22, 3) := by decide +kernel
theorem dX1_canBeInner_9 : decode cX1_canBeInner 9 = .ok (.ifCond .le 33, 3) := by decide +kernel
theorem dX1_canBeInner_12 : decode cX1_canBeInner 12 = .ok (.aload_n 0, 1) := by decide +kernel
theorem dX1_canBeInner_13 : decode cX1_canBeInner 13 = .ok (.getfield 12, 3) := by decide +kernel
theorem dX1_canBeInner_16 : decode cX1_canBeInner 16 = .ok (.iload_n 1, 1) := by decide +kernel
theorem dX1_canBeInner_17 : decode cX1_canBeInner 17 = .ok (.iconst 5, 1) := by decide +kernel
theorem dX1_canBeInner_18 : decode cX1_canBeInner 18 = .ok (.invokevirtual 22, 3) := by decide +kernel
theorem dX1_canBeInner_21 : decode cX1_canBeInner 21 = .ok (.ifCond .eq 17, 3) := by decide +kernel
theorem dX1_canBeInner_24 : decode cX1_canBeInner 24 = .ok (.aload_n 0, 1) := by decide +kernel
theorem dX1_canBeInner_25 : decode cX1_canBeInner 25 = .ok (.getfield 12, 3) := by decide +kernel
theorem dX1_canBeInner_28 : decode cX1_canBeInner 28 = .ok (.iload_n 1, 1) := by decide +kernel
theorem dX1_canBeInner_29 : decode cX1_canBeInner 29 = .ok (.bipush 6, 2) := by decide +kernel
theorem dX1_canBeInner_31 : decode cX1_canBeInner 31 = .ok (.invokevirtual 22, 3) := by decide +kernel
theorem dX1_canBeInner_34 : decode cX1_canBeInner 34 = .ok (.iload_n 2, 1) := by decide +kernel
theorem dX1_canBeInner_35 : decode cX1_canBeInner 35 = .ok (.if_icmp .ne 7, 3) := by decide +kernel
theorem dX1_canBeInner_38 : decode cX1_canBeInner 38 = .ok (.iconst 1, 1) := by decide +kernel
theorem dX1_canBeInner_39 : decode cX1_canBeInner 39 = .ok (.goto 4, 3) := by decide +kernel
theorem dX1_canBeInner_42 : decode cX1_canBeInner 42 = .ok (.iconst 0, 1) := by decide +kernel
theorem dX1_canBeInner_43 : decode cX1_canBeInner 43 = .ok (.ireturn, 1) := by decide +kernel
theorem dX1_isRoomAt_0 : decode cX1_isRoomAt 0 = .ok (.iload_n 1, 1) := by decide +kernel
theorem dX1_isRoomAt_1 : decode cX1_isRoomAt 1 = .ok (.bipush 100, 2) := by decide +kernel
theorem dX1_isRoomAt_3 : decode cX1_isRoomAt 3 = .ok (.if_icmp .ne 28, 3) := by decide +kernel
theorem dX1_isRoomAt_6 : decode cX1_isRoomAt 6 = .ok (.aload_n 0, 1) := by decide +kernel
theorem dX1_isRoomAt_7 : decode cX1_isRoomAt 7 = .ok (.bipush 100, 2) := by decide +kernel
theorem dX1_isRoomAt_9 : decode cX1_isRoomAt 9 = .ok (.iload_n 2, 1) := by decide +kernel
theorem dX1_isRoomAt_10 : decode cX1_isRoomAt 10 = .ok (.invokevirtual 33, 3) := by decide +kernel
theorem dX1_isRoomAt_13 : decode cX1_isRoomAt 13 = .ok (.aload_n 0, 1) := by decide +kernel
theorem dX1_isRoomAt_14 : decode cX1_isRoomAt 14 = .ok (.getfield 12, 3) := by decide +kernel
theorem dX1_isRoomAt_17 : decode cX1_isRoomAt 17 = .ok (.bipush 9, 2) := by decide +kernel
theorem dX1_isRoomAt_19 : decode cX1_isRoomAt 19 = .ok (.invokevirtual 36, 3) := by decide +kernel
theorem dX1_isRoomAt_22 : decode cX1_isRoomAt 22 = .ok (.if_icmp .ge 7, 3) := by decide +kernel
theorem dX1_isRoomAt_25 : decode cX1_isRoomAt 25 = .ok (.iconst 1, 1) := by decide +kernel
theorem dX1_isRoomAt_26 : decode cX1_isRoomAt 26 = .ok (.goto 4, 3) := by decide +kernel
theorem dX1_isRoomAt_29 : decode cX1_isRoomAt 29 = .ok (.iconst 0, 1) := by decide +kernel
theorem dX1_isRoomAt_30 : decode cX1_isRoomAt 30 = .ok (.ireturn, 1) := by decide +kernel
theorem dX1_isRoomAt_31 : decode cX1_isRoomAt 31 = .ok (.aload_n 0, 1) := by decide +kernel
theorem dX1_isRoomAt_32 : decode cX1_isRoomAt 32 = .ok (.iload_n 1, 1) := by decide +kernel
theorem dX1_isRoomAt_33 : decode cX1_isRoomAt 33 = .ok (.iload_n 2, 1) := by decide +kernel
theorem dX1_isRoomAt_34 : decode cX1_isRoomAt 34 = .ok (.invokevirtual 40, 3) := by decide +kernel
theorem dX1_isRoomAt_37 : decode cX1_isRoomAt 37 = .ok (.ifCond .eq 38, 3) := by decide +kernel
theorem dX1_isRoomAt_40 : decode cX1_isRoomAt 40 = .ok (.aload_n 0, 1) := by decide +kernel
theorem dX1_isRoomAt_41 : decode cX1_isRoomAt 41 = .ok (.getfield 12, 3) := by decide +kernel
theorem dX1_isRoomAt_44 : decode cX1_isRoomAt 44 = .ok (.iload_n 1, 1) := by decide +kernel
theorem dX1_isRoomAt_45 : decode cX1_isRoomAt 45 = .ok (.iconst 5, 1) := by decide +kernel
theorem dX1_isRoomAt_46 : decode cX1_isRoomAt 46 = .ok (.invokevirtual 22, 3) := by decide +kernel
theorem dX1_isRoomAt_49 : decode cX1_isRoomAt 49 = .ok (.aload_n 0, 1) := by decide +kernel
theorem dX1_isRoomAt_50 : decode cX1_isRoomAt 50 = .ok (.getfield 12, 3) := by decide +kernel
theorem dX1_isRoomAt_53 : decode cX1_isRoomAt 53 = .ok (.iload_n 1, 1) := by decide +kernel
theorem dX1_isRoomAt_54 : decode cX1_isRoomAt 54 = .ok (.iconst 1, 1) := by decide +kernel
theorem dX1_isRoomAt_55 : decode cX1_isRoomAt 55 = .ok (.invokevirtual 22, 3) := by decide +kernel
theorem dX1_isRoomAt_58 : decode cX1_isRoomAt 58 = .ok (.if_icmp .ge 17, 3) := by decide +kernel
theorem dX1_isRoomAt_61 : decode cX1_isRoomAt 61 = .ok (.aload_n 0, 1) := by decide +kernel
theorem dX1_isRoomAt_62 : decode cX1_isRoomAt 62 = .ok (.iload_n 1, 1) := by decide +kernel
theorem dX1_isRoomAt_63 : decode cX1_isRoomAt 63 = .ok (.iload_n 2, 1) := by decide +kernel
theorem dX1_isRoomAt_64 : decode cX1_isRoomAt 64 = .ok (.invokevirtual 43, 3) := by decide +kernel
theorem dX1_isRoomAt_67 : decode cX1_isRoomAt 67 = .ok (.iconst (-1), 1) := by decide +kernel
theorem dX1_isRoomAt_68 : decode cX1_isRoomAt 68 = .ok (.if_icmp .eq 7, 3) := by decide +kernel
theorem dX1_isRoomAt_71 : decode cX1_isRoomAt 71 = .ok (.iconst 1, 1) := by decide +kernel
theorem dX1_isRoomAt_72 : decode cX1_isRoomAt 72 = .ok (.goto 4, 3) := by decide +kernel
theorem dX1_isRoomAt_75 : decode cX1_isRoomAt 75 = .ok (.iconst 0, 1) := by decide +kernel
theorem dX1_isRoomAt_76 : decode cX1_isRoomAt 76 = .ok (.ireturn, 1) := by decide +kernel
theorem dX1_isBefore_0 : decode cX1_isBefore 0 = .ok (.aload_n 0, 1) := by decide +kernel
theorem dX1_isBefore_1 : decode cX1_isBefore 1 = .ok (.getfield 12, 3) := by decide +kernel
theorem dX1_isBefore_4 : decode cX1_isBefore 4 = .ok (.iload_n 1, 1) := by decide +kernel
theorem dX1_isBefore_5 : decode cX1_isBefore 5 = .ok (.iconst 2, 1) := by decide +kernel
theorem dX1_isBefore_6 : decode cX1_isBefore 6 = .ok (.invokevirtual 22, 3) := by decide +kernel
theorem dX1_isBefore_9 : decode cX1_isBefore 9 = .ok (.iload_n 3, 1) := by decide +kernel
theorem dX1_isBefore_10 : decode cX1_isBefore 10 = .ok (.if_icmp .ne 7, 3) := by decide +kernel
theorem dX1_isBefore_13 : decode cX1_isBefore 13 = .ok (.iconst 1, 1) := by decide +kernel
theorem dX1_isBefore_14 : decode cX1_isBefore 14 = .ok (.goto 4, 3) := by decide +kernel
theorem dX1_isBefore_17 : decode cX1_isBefore 17 = .ok (.iconst 0, 1) := by decide +kernel
theorem dX1_isBefore_18 : decode cX1_isBefore 18 = .ok (.istore 4, 2) := by decide +kernel
theorem dX1_isBefore_20 : decode cX1_isBefore 20 = .ok (.aload_n 0, 1) := by decide +kernel
theorem dX1_isBefore_21 : decode cX1_isBefore 21 = .ok (.getfield 12, 3) := by decide +kernel
theorem dX1_isBefore_24 : decode cX1_isBefore 24 = .ok (.iload_n 2, 1) := by decide +kernel
theorem dX1_isBefore_25 : decode cX1_isBefore 25 = .ok (.iconst 2, 1) := by decide +kernel
theorem dX1_isBefore_26 : decode cX1_isBefore 26 = .ok (.invokevirtual 22, 3) := by decide +kernel
theorem dX1_isBefore_29 : decode cX1_isBefore 29 = .ok (.iload_n 3, 1) := by decide +kernel
theorem dX1_isBefore_30 : decode cX1_isBefore 30 = .ok (.if_icmp .ne 7, 3) := by decide +kernel
theorem dX1_isBefore_33 : decode cX1_isBefore 33 = .ok (.iconst 1, 1) := by decide +kernel
theorem dX1_isBefore_34 : decode cX1_isBefore 34 = .ok (.goto 4, 3) := by decide +kernel
theorem dX1_isBefore_37 : decode cX1_isBefore 37 = .ok (.iconst 0, 1) := by decide +kernel
theorem dX1_isBefore_38 : decode cX1_isBefore 38 = .ok (.istore 5, 2) := by decide +kernel
theorem dX1_isBefore_40 : decode cX1_isBefore 40 = .ok (.iload 4, 2) := by decide +kernel
theorem dX1_isBefore_42 : decode cX1_isBefore 42 = .ok (.iload 5, 2) := by decide +kernel
theorem dX1_isBefore_44 : decode cX1_isBefore 44 = .ok (.if_icmp .eq 6, 3) := by decide +kernel
theorem dX1_isBefore_47 : decode cX1_isBefore 47 = .ok (.iload 4, 2) := by decide +kernel
theorem dX1_isBefore_49 : decode cX1_isBefore 49 = .ok (.ireturn, 1) := by decide +kernel
theorem dX1_isBefore_50 : decode cX1_isBefore 50 = .ok (.aload_n 0, 1) := by decide +kernel
theorem dX1_isBefore_51 : decode cX1_isBefore 51 = .ok (.getfield 12, 3) := by decide +kernel
theorem dX1_isBefore_54 : decode cX1_isBefore 54 = .ok (.iload_n 1, 1) := by decide +kernel
theorem dX1_isBefore_55 : decode cX1_isBefore 55 = .ok (.iconst 1, 1) := by decide +kernel
theorem dX1_isBefore_56 : decode cX1_isBefore 56 = .ok (.invokevirtual 22, 3) := by decide +kernel
theorem dX1_isBefore_59 : decode cX1_isBefore 59 = .ok (.istore 6, 2) := by decide +kernel
theorem dX1_isBefore_61 : decode cX1_isBefore 61 = .ok (.aload_n 0, 1) := by decide +kernel
theorem dX1_isBefore_62 : decode cX1_isBefore 62 = .ok (.getfield 12, 3) := by decide +kernel
theorem dX1_isBefore_65 : decode cX1_isBefore 65 = .ok (.iload_n 2, 1) := by decide +kernel
theorem dX1_isBefore_66 : decode cX1_isBefore 66 = .ok (.iconst 1, 1) := by decide +kernel
theorem dX1_isBefore_67 : decode cX1_isBefore 67 = .ok (.invokevirtual 22, 3) := by decide +kernel
theorem dX1_isBefore_70 : decode cX1_isBefore 70 = .ok (.istore 7, 2) := by decide +kernel
theorem dX1_isBefore_72 : decode cX1_isBefore 72 = .ok (.iload 6, 2) := by decide +kernel
theorem dX1_isBefore_74 : decode cX1_isBefore 74 = .ok (.iload 7, 2) := by decide +kernel
theorem dX1_isBefore_76 : decode cX1_isBefore 76 = .ok (.if_icmp .eq 18, 3) := by decide +kernel
theorem dX1_isBefore_79 : decode cX1_isBefore 79 = .ok (.iload 6, 2) := by decide +kernel
theorem dX1_isBefore_81 : decode cX1_isBefore 81 = .ok (.iload 7, 2) := by decide +kernel
theorem dX1_isBefore_83 : decode cX1_isBefore 83 = .ok (.if_icmp .le 7, 3) := by decide +kernel
theorem dX1_isBefore_86 : decode cX1_isBefore 86 = .ok (.iconst 1, 1) := by decide +kernel
theorem dX1_isBefore_87 : decode cX1_isBefore 87 = .ok (.goto 17, 3) := by decide +kernel
theorem dX1_isBefore_90 : decode cX1_isBefore 90 = .ok (.iconst 0, 1) := by decide +kernel
theorem dX1_isBefore_91 : decode cX1_isBefore 91 = .ok (.goto 13, 3) := by decide +kernel
theorem dX1_isBefore_94 : decode cX1_isBefore 94 = .ok (.iload_n 1, 1) := by decide +kernel
theorem dX1_isBefore_95 : decode cX1_isBefore 95 = .ok (.iload_n 2, 1) := by decide +kernel
theorem dX1_isBefore_96 : decode cX1_isBefore 96 = .ok (.if_icmp .ge 7, 3) := by decide +kernel
theorem dX1_isBefore_99 : decode cX1_isBefore 99 = .ok (.iconst 1, 1) := by decide +kernel
theorem dX1_isBefore_100 : decode cX1_isBefore 100 = .ok (.goto 4, 3) := by decide +kernel
theorem dX1_isBefore_103 : decode cX1_isBefore 103 = .ok (.iconst 0, 1) := by decide +kernel
theorem dX1_isBefore_104 : decode cX1_isBefore 104 = .ok (.ireturn, 1) := by decide +kernel
theorem dX1_lastChild_0 : decode cX1_lastChild 0 = .ok (.iconst (-1), 1) := by decide +kernel
theorem dX1_lastChild_1 : decode cX1_lastChild 1 = .ok (.istore_n 3, 1) := by decide +kernel
theorem dX1_lastChild_2 : decode cX1_lastChild 2 = .ok (.iconst 0, 1) := by decide +kernel
theorem dX1_lastChild_3 : decode cX1_lastChild 3 = .ok (.istore 4, 2) := by decide +kernel
theorem dX1_lastChild_5 : decode cX1_lastChild 5 = .ok (.iload 4, 2) := by decide +kernel
theorem dX1_lastChild_7 : decode cX1_lastChild 7 = .ok (.bipush 32, 2) := by decide +kernel
theorem dX1_lastChild_9 : decode cX1_lastChild 9 = .ok (.if_icmp .ge 42, 3) := by decide +kernel
theorem dX1_lastChild_12 : decode cX1_lastChild 12 = .ok (.aload_n 0, 1) := by decide +kernel
theorem dX1_lastChild_13 : decode cX1_lastChild 13 = .ok (.getfield 12, 3) := by decide +kernel
theorem dX1_lastChild_16 : decode cX1_lastChild 16 = .ok (.iload 4, 2) := by decide +kernel
theorem dX1_lastChild_18 : decode cX1_lastChild 18 = .ok (.iload_n 2, 1) := by decide +kernel
theorem dX1_lastChild_19 : decode cX1_lastChild 19 = .ok (.invokevirtual 18, 3) := by decide +kernel
theorem dX1_lastChild_22 : decode cX1_lastChild 22 = .ok (.iload_n 1, 1) := by decide +kernel
theorem dX1_lastChild_23 : decode cX1_lastChild 23 = .ok (.if_icmp .ne 22, 3) := by decide +kernel
theorem dX1_lastChild_26 : decode cX1_lastChild 26 = .ok (.iload_n 3, 1) := by decide +kernel
theorem dX1_lastChild_27 : decode cX1_lastChild 27 = .ok (.iconst (-1), 1) := by decide +kernel
theorem dX1_lastChild_28 : decode cX1_lastChild 28 = .ok (.if_icmp .eq 14, 3) := by decide +kernel
theorem dX1_lastChild_31 : decode cX1_lastChild 31 = .ok (.aload_n 0, 1) := by decide +kernel
theorem dX1_lastChild_32 : decode cX1_lastChild 32 = .ok (.iload_n 3, 1) := by decide +kernel
theorem dX1_lastChild_33 : decode cX1_lastChild 33 = .ok (.iload 4, 2) := by decide +kernel
theorem dX1_lastChild_35 : decode cX1_lastChild 35 = .ok (.iload_n 2, 1) := by decide +kernel
theorem dX1_lastChild_36 : decode cX1_lastChild 36 = .ok (.invokevirtual 46, 3) := by decide +kernel
theorem dX1_lastChild_39 : decode cX1_lastChild 39 = .ok (.ifCond .eq 6, 3) := by decide +kernel
theorem dX1_lastChild_42 : decode cX1_lastChild 42 = .ok (.iload 4, 2) := by decide +kernel
theorem dX1_lastChild_44 : decode cX1_lastChild 44 = .ok (.istore_n 3, 1) := by decide +kernel
theorem dX1_lastChild_45 : decode cX1_lastChild 45 = .ok (.iinc 4 1, 3) := by decide +kernel
theorem dX1_lastChild_48 : decode cX1_lastChild 48 = .ok (.goto (-43), 3) := by decide +kernel
theorem dX1_lastChild_51 : decode cX1_lastChild 51 = .ok (.iload_n 3, 1) := by decide +kernel
theorem dX1_lastChild_52 : decode cX1_lastChild 52 = .ok (.ireturn, 1) := by decide +kernel
theorem dX1_firstInnerChild_0 : decode cX1_firstInnerChild 0 = .ok (.iconst (-1), 1) := by decide +kernel
theorem dX1_firstInnerChild_1 : decode cX1_firstInnerChild 1 = .ok (.istore_n 3, 1) := by decide +kernel
theorem dX1_firstInnerChild_2 : decode cX1_firstInnerChild 2 = .ok (.iconst 0, 1) := by decide +kernel
theorem dX1_firstInnerChild_3 : decode cX1_firstInnerChild 3 = .ok (.istore 4, 2) := by decide +kernel
theorem dX1_firstInnerChild_5 : decode cX1_firstInnerChild 5 = .ok (.iload 4, 2) := by decide +kernel
theorem dX1_firstInnerChild_7 : decode cX1_firstInnerChild 7 = .ok (.bipush 32, 2) := by decide +kernel
theorem dX1_firstInnerChild_9 : decode cX1_firstInnerChild 9 = .ok (.if_icmp .ge 52, 3) := by decide +kernel
theorem dX1_firstInnerChild_12 : decode cX1_firstInnerChild 12 = .ok (.aload_n 0, 1) := by decide +kernel
theorem dX1_firstInnerChild_13 : decode cX1_firstInnerChild 13 = .ok (.getfield 12, 3) := by decide +kernel
theorem dX1_firstInnerChild_16 : decode cX1_firstInnerChild 16 = .ok (.iload 4, 2) := by decide +kernel
theorem dX1_firstInnerChild_18 : decode cX1_firstInnerChild 18 = .ok (.iload_n 2, 1) := by decide +kernel
theorem dX1_firstInnerChild_19 : decode cX1_firstInnerChild 19 = .ok (.invokevirtual 18, 3) := by decide +kernel
theorem dX1_firstInnerChild_22 : decode cX1_firstInnerChild 22 = .ok (.iload_n 1, 1) := by decide +kernel
theorem dX1_firstInnerChild_23 : decode cX1_firstInnerChild 23 = .ok (.if_icmp .ne 32, 3) := by decide +kernel
theorem dX1_firstInnerChild_26 : decode cX1_firstInnerChild 26 = .ok (.aload_n 0, 1) := by decide +kernel
theorem dX1_firstInnerChild_27 : decode cX1_firstInnerChild 27 = .ok (.iload 4, 2) := by decide +kernel
theorem dX1_firstInnerChild_29 : decode cX1_firstInnerChild 29 = .ok (.iload_n 2, 1) := by decide +kernel
theorem dX1_firstInnerChild_30 : decode cX1_firstInnerChild 30 = .ok (.invokevirtual 40, 3) := by decide +kernel
theorem dX1_firstInnerChild_33 : decode cX1_firstInnerChild 33 = .ok (.ifCond .eq 22, 3) := by decide +kernel
theorem dX1_firstInnerChild_36 : decode cX1_firstInnerChild 36 = .ok (.iload_n 3, 1) := by decide +kernel
theorem dX1_firstInnerChild_37 : decode cX1_firstInnerChild 37 = .ok (.iconst (-1), 1) := by decide +kernel
theorem dX1_firstInnerChild_38 : decode cX1_firstInnerChild 38 = .ok (.if_icmp .eq 14, 3) := by decide +kernel
theorem dX1_firstInnerChild_41 : decode cX1_firstInnerChild 41 = .ok (.aload_n 0, 1) := by decide +kernel
theorem dX1_firstInnerChild_42 : decode cX1_firstInnerChild 42 = .ok (.iload 4, 2) := by decide +kernel
theorem dX1_firstInnerChild_44 : decode cX1_firstInnerChild 44 = .ok (.iload_n 3, 1) := by decide +kernel
theorem dX1_firstInnerChild_45 : decode cX1_firstInnerChild 45 = .ok (.iload_n 2, 1) := by decide +kernel
theorem dX1_firstInnerChild_46 : decode cX1_firstInnerChild 46 = .ok (.invokevirtual 46, 3) := by decide +kernel
theorem dX1_firstInnerChild_49 : decode cX1_firstInnerChild 49 = .ok (.ifCond .eq 6, 3) := by decide +kernel
theorem dX1_firstInnerChild_52 : decode cX1_firstInnerChild 52 = .ok (.iload 4, 2) := by decide +kernel
theorem dX1_firstInnerChild_54 : decode cX1_firstInnerChild 54 = .ok (.istore_n 3, 1) := by decide +kernel
theorem dX1_firstInnerChild_55 : decode cX1_firstInnerChild 55 = .ok (.iinc 4 1, 3) := by decide +kernel
theorem dX1_firstInnerChild_58 : decode cX1_firstInnerChild 58 = .ok (.goto (-53), 3) := by decide +kernel
theorem dX1_firstInnerChild_61 : decode cX1_firstInnerChild 61 = .ok (.iload_n 3, 1) := by decide +kernel
theorem dX1_firstInnerChild_62 : decode cX1_firstInnerChild 62 = .ok (.ireturn, 1) := by decide +kernel
theorem dX1_spareMember_0 : decode cX1_spareMember 0 = .ok (.iconst (-1), 1) := by decide +kernel
theorem dX1_spareMember_1 : decode cX1_spareMember 1 = .ok (.istore_n 2, 1) := by decide +kernel
theorem dX1_spareMember_2 : decode cX1_spareMember 2 = .ok (.iconst (-1), 1) := by decide +kernel
theorem dX1_spareMember_3 : decode cX1_spareMember 3 = .ok (.istore_n 3, 1) := by decide +kernel
theorem dX1_spareMember_4 : decode cX1_spareMember 4 = .ok (.iconst 0, 1) := by decide +kernel
theorem dX1_spareMember_5 : decode cX1_spareMember 5 = .ok (.istore 4, 2) := by decide +kernel
theorem dX1_spareMember_7 : decode cX1_spareMember 7 = .ok (.iload 4, 2) := by decide +kernel
theorem dX1_spareMember_9 : decode cX1_spareMember 9 = .ok (.bipush 32, 2) := by decide +kernel
theorem dX1_spareMember_11 : decode cX1_spareMember 11 = .ok (.if_icmp .ge 45, 3) := by decide +kernel
theorem dX1_spareMember_14 : decode cX1_spareMember 14 = .ok (.aload_n 0, 1) := by decide +kernel
theorem dX1_spareMember_15 : decode cX1_spareMember 15 = .ok (.iload 4, 2) := by decide +kernel
theorem dX1_spareMember_17 : decode cX1_spareMember 17 = .ok (.iload_n 1, 1) := by decide +kernel
theorem dX1_spareMember_18 : decode cX1_spareMember 18 = .ok (.invokevirtual 49, 3) := by decide +kernel
theorem dX1_spareMember_21 : decode cX1_spareMember 21 = .ok (.ifCond .eq 29, 3) := by decide +kernel
theorem dX1_spareMember_24 : decode cX1_spareMember 24 = .ok (.aload_n 0, 1) := by decide +kernel
theorem dX1_spareMember_25 : decode cX1_spareMember 25 = .ok (.iload 4, 2) := by decide +kernel
theorem dX1_spareMember_27 : decode cX1_spareMember 27 = .ok (.iload_n 1, 1) := by decide +kernel
theorem dX1_spareMember_28 : decode cX1_spareMember 28 = .ok (.invokevirtual 43, 3) := by decide +kernel
theorem dX1_spareMember_31 : decode cX1_spareMember 31 = .ok (.istore 5, 2) := by decide +kernel
theorem dX1_spareMember_33 : decode cX1_spareMember 33 = .ok (.iload_n 2, 1) := by decide +kernel
theorem dX1_spareMember_34 : decode cX1_spareMember 34 = .ok (.iconst (-1), 1) := by decide +kernel
theorem dX1_spareMember_35 : decode cX1_spareMember 35 = .ok (.if_icmp .eq 9, 3) := by decide +kernel
theorem dX1_spareMember_38 : decode cX1_spareMember 38 = .ok (.iload 5, 2) := by decide +kernel
theorem dX1_spareMember_40 : decode cX1_spareMember 40 = .ok (.iload_n 3, 1) := by decide +kernel
theorem dX1_spareMember_41 : decode cX1_spareMember 41 = .ok (.if_icmp .ge 9, 3) := by decide +kernel
theorem dX1_spareMember_44 : decode cX1_spareMember 44 = .ok (.iload 4, 2) := by decide +kernel
theorem dX1_spareMember_46 : decode cX1_spareMember 46 = .ok (.istore_n 2, 1) := by decide +kernel
theorem dX1_spareMember_47 : decode cX1_spareMember 47 = .ok (.iload 5, 2) := by decide +kernel
theorem dX1_spareMember_49 : decode cX1_spareMember 49 = .ok (.istore_n 3, 1) := by decide +kernel
theorem dX1_spareMember_50 : decode cX1_spareMember 50 = .ok (.iinc 4 1, 3) := by decide +kernel
theorem dX1_spareMember_53 : decode cX1_spareMember 53 = .ok (.goto (-46), 3) := by decide +kernel
theorem dX1_spareMember_56 : decode cX1_spareMember 56 = .ok (.iload_n 2, 1) := by decide +kernel
theorem dX1_spareMember_57 : decode cX1_spareMember 57 = .ok (.ireturn, 1) := by decide +kernel
theorem dX1_attach_0 : decode cX1_attach 0 = .ok (.iload_n 1, 1) := by decide +kernel
theorem dX1_attach_1 : decode cX1_attach 1 = .ok (.istore_n 3, 1) := by decide +kernel
theorem dX1_attach_2 : decode cX1_attach 2 = .ok (.bipush 100, 2) := by decide +kernel
theorem dX1_attach_4 : decode cX1_attach 4 = .ok (.istore 4, 2) := by decide +kernel
theorem dX1_attach_6 : decode cX1_attach 6 = .ok (.iconst 0, 1) := by decide +kernel
theorem dX1_attach_7 : decode cX1_attach 7 = .ok (.istore 5, 2) := by decide +kernel
theorem dX1_attach_9 : decode cX1_attach 9 = .ok (.iload 5, 2) := by decide +kernel
theorem dX1_attach_11 : decode cX1_attach 11 = .ok (.bipush 32, 2) := by decide +kernel
theorem dX1_attach_13 : decode cX1_attach 13 = .ok (.if_icmp .gt 110, 3) := by decide +kernel
theorem dX1_attach_16 : decode cX1_attach 16 = .ok (.aload_n 0, 1) := by decide +kernel
theorem dX1_attach_17 : decode cX1_attach 17 = .ok (.iload 4, 2) := by decide +kernel
theorem dX1_attach_19 : decode cX1_attach 19 = .ok (.iload_n 2, 1) := by decide +kernel
theorem dX1_attach_20 : decode cX1_attach 20 = .ok (.invokevirtual 49, 3) := by decide +kernel
theorem dX1_attach_23 : decode cX1_attach 23 = .ok (.ifCond .eq 15, 3) := by decide +kernel
theorem dX1_attach_26 : decode cX1_attach 26 = .ok (.aload_n 0, 1) := by decide +kernel
theorem dX1_attach_27 : decode cX1_attach 27 = .ok (.getfield 12, 3) := by decide +kernel
theorem dX1_attach_30 : decode cX1_attach 30 = .ok (.iload_n 3, 1) := by decide +kernel
theorem dX1_attach_31 : decode cX1_attach 31 = .ok (.iload_n 2, 1) := by decide +kernel
theorem dX1_attach_32 : decode cX1_attach 32 = .ok (.iload 4, 2) := by decide +kernel
theorem dX1_attach_34 : decode cX1_attach 34 = .ok (.invokevirtual 52, 3) := by decide +kernel
theorem dX1_attach_37 : decode cX1_attach 37 = .ok (.return_, 1) := by decide +kernel
theorem dX1_attach_38 : decode cX1_attach 38 = .ok (.aload_n 0, 1) := by decide +kernel
theorem dX1_attach_39 : decode cX1_attach 39 = .ok (.iload 4, 2) := by decide +kernel
theorem dX1_attach_41 : decode cX1_attach 41 = .ok (.iload_n 2, 1) := by decide +kernel
theorem dX1_attach_42 : decode cX1_attach 42 = .ok (.invokevirtual 56, 3) := by decide +kernel
theorem dX1_attach_45 : decode cX1_attach 45 = .ok (.istore 6, 2) := by decide +kernel
theorem dX1_attach_47 : decode cX1_attach 47 = .ok (.iload 6, 2) := by decide +kernel
theorem dX1_attach_49 : decode cX1_attach 49 = .ok (.iconst (-1), 1) := by decide +kernel
theorem dX1_attach_50 : decode cX1_attach 50 = .ok (.if_icmp .eq 40, 3) := by decide +kernel
theorem dX1_attach_53 : decode cX1_attach 53 = .ok (.aload_n 0, 1) := by decide +kernel
theorem dX1_attach_54 : decode cX1_attach 54 = .ok (.iload_n 3, 1) := by decide +kernel
theorem dX1_attach_55 : decode cX1_attach 55 = .ok (.iload 6, 2) := by decide +kernel
theorem dX1_attach_57 : decode cX1_attach 57 = .ok (.iload_n 2, 1) := by decide +kernel
theorem dX1_attach_58 : decode cX1_attach 58 = .ok (.invokevirtual 46, 3) := by decide +kernel
theorem dX1_attach_61 : decode cX1_attach 61 = .ok (.ifCond .eq 29, 3) := by decide +kernel
theorem dX1_attach_64 : decode cX1_attach 64 = .ok (.aload_n 0, 1) := by decide +kernel
theorem dX1_attach_65 : decode cX1_attach 65 = .ok (.iload_n 3, 1) := by decide +kernel
theorem dX1_attach_66 : decode cX1_attach 66 = .ok (.iload_n 2, 1) := by decide +kernel
theorem dX1_attach_67 : decode cX1_attach 67 = .ok (.invokevirtual 40, 3) := by decide +kernel
theorem dX1_attach_70 : decode cX1_attach 70 = .ok (.ifCond .eq 20, 3) := by decide +kernel
theorem dX1_attach_73 : decode cX1_attach 73 = .ok (.aload_n 0, 1) := by decide +kernel
theorem dX1_attach_74 : decode cX1_attach 74 = .ok (.iload_n 3, 1) := by decide +kernel
theorem dX1_attach_75 : decode cX1_attach 75 = .ok (.iload 6, 2) := by decide +kernel
theorem dX1_attach_77 : decode cX1_attach 77 = .ok (.iload_n 2, 1) := by decide +kernel
theorem dX1_attach_78 : decode cX1_attach 78 = .ok (.invokevirtual 59, 3) := by decide +kernel
theorem dX1_attach_81 : decode cX1_attach 81 = .ok (.iload_n 3, 1) := by decide +kernel
theorem dX1_attach_82 : decode cX1_attach 82 = .ok (.istore 4, 2) := by decide +kernel
theorem dX1_attach_84 : decode cX1_attach 84 = .ok (.iload 6, 2) := by decide +kernel
theorem dX1_attach_86 : decode cX1_attach 86 = .ok (.istore_n 3, 1) := by decide +kernel
theorem dX1_attach_87 : decode cX1_attach 87 = .ok (.goto 30, 3) := by decide +kernel
theorem dX1_attach_90 : decode cX1_attach 90 = .ok (.aload_n 0, 1) := by decide +kernel
theorem dX1_attach_91 : decode cX1_attach 91 = .ok (.iload 4, 2) := by decide +kernel
theorem dX1_attach_93 : decode cX1_attach 93 = .ok (.iload_n 2, 1) := by decide +kernel
theorem dX1_attach_94 : decode cX1_attach 94 = .ok (.invokevirtual 62, 3) := by decide +kernel
theorem dX1_attach_97 : decode cX1_attach 97 = .ok (.istore 4, 2) := by decide +kernel
theorem dX1_attach_99 : decode cX1_attach 99 = .ok (.iload 4, 2) := by decide +kernel
theorem dX1_attach_101 : decode cX1_attach 101 = .ok (.iconst (-1), 1) := by decide +kernel
theorem dX1_attach_102 : decode cX1_attach 102 = .ok (.if_icmp .ne 15, 3) := by decide +kernel
theorem dX1_attach_105 : decode cX1_attach 105 = .ok (.aload_n 0, 1) := by decide +kernel
theorem dX1_attach_106 : decode cX1_attach 106 = .ok (.iload_n 3, 1) := by decide +kernel
theorem dX1_attach_107 : decode cX1_attach 107 = .ok (.iload_n 2, 1) := by decide +kernel
theorem dX1_attach_108 : decode cX1_attach 108 = .ok (.aload_n 0, 1) := by decide +kernel
theorem dX1_attach_109 : decode cX1_attach 109 = .ok (.iload_n 2, 1) := by decide +kernel
theorem dX1_attach_110 : decode cX1_attach 110 = .ok (.invokevirtual 65, 3) := by decide +kernel
theorem dX1_attach_113 : decode cX1_attach 113 = .ok (.invokevirtual 68, 3) := by decide +kernel
theorem dX1_attach_116 : decode cX1_attach 116 = .ok (.return_, 1) := by decide +kernel
theorem dX1_attach_117 : decode cX1_attach 117 = .ok (.iinc 5 1, 3) := by decide +kernel
theorem dX1_attach_120 : decode cX1_attach 120 = .ok (.goto (-111), 3) := by decide +kernel
theorem dX1_attach_123 : decode cX1_attach 123 = .ok (.return_, 1) := by decide +kernel
theorem dX1_takePlace_0 : decode cX1_takePlace 0 = .ok (.aload_n 0, 1) := by decide +kernel
theorem dX1_takePlace_1 : decode cX1_takePlace 1 = .ok (.getfield 12, 3) := by decide +kernel
theorem dX1_takePlace_4 : decode cX1_takePlace 4 = .ok (.iload_n 2, 1) := by decide +kernel
theorem dX1_takePlace_5 : decode cX1_takePlace 5 = .ok (.iload_n 3, 1) := by decide +kernel
theorem dX1_takePlace_6 : decode cX1_takePlace 6 = .ok (.invokevirtual 18, 3) := by decide +kernel
theorem dX1_takePlace_9 : decode cX1_takePlace 9 = .ok (.istore 4, 2) := by decide +kernel
theorem dX1_takePlace_11 : decode cX1_takePlace 11 = .ok (.aload_n 0, 1) := by decide +kernel
theorem dX1_takePlace_12 : decode cX1_takePlace 12 = .ok (.getfield 12, 3) := by decide +kernel
theorem dX1_takePlace_15 : decode cX1_takePlace 15 = .ok (.iload_n 2, 1) := by decide +kernel
theorem dX1_takePlace_16 : decode cX1_takePlace 16 = .ok (.iload_n 3, 1) := by decide +kernel
theorem dX1_takePlace_17 : decode cX1_takePlace 17 = .ok (.iconst (-1), 1) := by decide +kernel
theorem dX1_takePlace_18 : decode cX1_takePlace 18 = .ok (.invokevirtual 52, 3) := by decide +kernel
theorem dX1_takePlace_21 : decode cX1_takePlace 21 = .ok (.aload_n 0, 1) := by decide +kernel
theorem dX1_takePlace_22 : decode cX1_takePlace 22 = .ok (.getfield 12, 3) := by decide +kernel
theorem dX1_takePlace_25 : decode cX1_takePlace 25 = .ok (.iload_n 1, 1) := by decide +kernel
theorem dX1_takePlace_26 : decode cX1_takePlace 26 = .ok (.iload_n 3, 1) := by decide +kernel
theorem dX1_takePlace_27 : decode cX1_takePlace 27 = .ok (.iload 4, 2) := by decide +kernel
theorem dX1_takePlace_29 : decode cX1_takePlace 29 = .ok (.invokevirtual 52, 3) := by decide +kernel
theorem dX1_takePlace_32 : decode cX1_takePlace 32 = .ok (.aload_n 0, 1) := by decide +kernel
theorem dX1_takePlace_33 : decode cX1_takePlace 33 = .ok (.getfield 12, 3) := by decide +kernel
theorem dX1_takePlace_36 : decode cX1_takePlace 36 = .ok (.bipush 6, 2) := by decide +kernel
theorem dX1_takePlace_38 : decode cX1_takePlace 38 = .ok (.iconst 1, 1) := by decide +kernel
theorem dX1_takePlace_39 : decode cX1_takePlace 39 = .ok (.invokevirtual 71, 3) := by decide +kernel
theorem dX1_takePlace_42 : decode cX1_takePlace 42 = .ok (.return_, 1) := by decide +kernel
theorem dX1_attachToSpare_0 : decode cX1_attachToSpare 0 = .ok (.iload_n 3, 1) := by decide +kernel
theorem dX1_attachToSpare_1 : decode cX1_attachToSpare 1 = .ok (.iconst (-1), 1) := by decide +kernel
theorem dX1_attachToSpare_2 : decode cX1_attachToSpare 2 = .ok (.if_icmp .eq 23, 3) := by decide +kernel
theorem dX1_attachToSpare_5 : decode cX1_attachToSpare 5 = .ok (.aload_n 0, 1) := by decide +kernel
theorem dX1_attachToSpare_6 : decode cX1_attachToSpare 6 = .ok (.getfield 12, 3) := by decide +kernel
theorem dX1_attachToSpare_9 : decode cX1_attachToSpare 9 = .ok (.iload_n 1, 1) := by decide +kernel
theorem dX1_attachToSpare_10 : decode cX1_attachToSpare 10 = .ok (.iload_n 2, 1) := by decide +kernel
theorem dX1_attachToSpare_11 : decode cX1_attachToSpare 11 = .ok (.iload_n 3, 1) := by decide +kernel
theorem dX1_attachToSpare_12 : decode cX1_attachToSpare 12 = .ok (.invokevirtual 52, 3) := by decide +kernel
theorem dX1_attachToSpare_15 : decode cX1_attachToSpare 15 = .ok (.aload_n 0, 1) := by decide +kernel
theorem dX1_attachToSpare_16 : decode cX1_attachToSpare 16 = .ok (.getfield 12, 3) := by decide +kernel
theorem dX1_attachToSpare_19 : decode cX1_attachToSpare 19 = .ok (.bipush 7, 2) := by decide +kernel
theorem dX1_attachToSpare_21 : decode cX1_attachToSpare 21 = .ok (.iconst 1, 1) := by decide +kernel
theorem dX1_attachToSpare_22 : decode cX1_attachToSpare 22 = .ok (.invokevirtual 71, 3) := by decide +kernel
theorem dX1_attachToSpare_25 : decode cX1_attachToSpare 25 = .ok (.return_, 1) := by decide +kernel
theorem dX1_isOrphan_0 : decode cX1_isOrphan 0 = .ok (.aload_n 0, 1) := by decide +kernel
theorem dX1_isOrphan_1 : decode cX1_isOrphan 1 = .ok (.getfield 12, 3) := by decide +kernel
theorem dX1_isOrphan_4 : decode cX1_isOrphan 4 = .ok (.iload_n 1, 1) := by decide +kernel
theorem dX1_isOrphan_5 : decode cX1_isOrphan 5 = .ok (.iconst 0, 1) := by decide +kernel
theorem dX1_isOrphan_6 : decode cX1_isOrphan 6 = .ok (.invokevirtual 22, 3) := by decide +kernel
theorem dX1_isOrphan_9 : decode cX1_isOrphan 9 = .ok (.iconst 1, 1) := by decide +kernel
theorem dX1_isOrphan_10 : decode cX1_isOrphan 10 = .ok (.if_icmp .ne 20, 3) := by decide +kernel
theorem dX1_isOrphan_13 : decode cX1_isOrphan 13 = .ok (.aload_n 0, 1) := by decide +kernel
theorem dX1_isOrphan_14 : decode cX1_isOrphan 14 = .ok (.getfield 12, 3) := by decide +kernel
theorem dX1_isOrphan_17 : decode cX1_isOrphan 17 = .ok (.iload_n 1, 1) := by decide +kernel
theorem dX1_isOrphan_18 : decode cX1_isOrphan 18 = .ok (.iload_n 2, 1) := by decide +kernel
theorem dX1_isOrphan_19 : decode cX1_isOrphan 19 = .ok (.invokevirtual 18, 3) := by decide +kernel
theorem dX1_isOrphan_22 : decode cX1_isOrphan 22 = .ok (.iconst (-1), 1) := by decide +kernel
theorem dX1_isOrphan_23 : decode cX1_isOrphan 23 = .ok (.if_icmp .ne 7, 3) := by decide +kernel
theorem dX1_isOrphan_26 : decode cX1_isOrphan 26 = .ok (.iconst 1, 1) := by decide +kernel
theorem dX1_isOrphan_27 : decode cX1_isOrphan 27 = .ok (.goto 4, 3) := by decide +kernel
theorem dX1_isOrphan_30 : decode cX1_isOrphan 30 = .ok (.iconst 0, 1) := by decide +kernel
theorem dX1_isOrphan_31 : decode cX1_isOrphan 31 = .ok (.ireturn, 1) := by decide +kernel
theorem dX1_attachOrphans_0 : decode cX1_attachOrphans 0 = .ok (.iconst 0, 1) := by decide +kernel
theorem dX1_attachOrphans_1 : decode cX1_attachOrphans 1 = .ok (.istore_n 1, 1) := by decide +kernel
theorem dX1_attachOrphans_2 : decode cX1_attachOrphans 2 = .ok (.iload_n 1, 1) := by decide +kernel
theorem dX1_attachOrphans_3 : decode cX1_attachOrphans 3 = .ok (.iconst 4, 1) := by decide +kernel
theorem dX1_attachOrphans_4 : decode cX1_attachOrphans 4 = .ok (.if_icmp .ge 38, 3) := by decide +kernel
theorem dX1_attachOrphans_7 : decode cX1_attachOrphans 7 = .ok (.iconst 0, 1) := by decide +kernel
theorem dX1_attachOrphans_8 : decode cX1_attachOrphans 8 = .ok (.istore_n 2, 1) := by decide +kernel
theorem dX1_attachOrphans_9 : decode cX1_attachOrphans 9 = .ok (.iload_n 2, 1) := by decide +kernel
theorem dX1_attachOrphans_10 : decode cX1_attachOrphans 10 = .ok (.bipush 32, 2) := by decide +kernel
theorem dX1_attachOrphans_12 : decode cX1_attachOrphans 12 = .ok (.if_icmp .ge 24, 3) := by decide +kernel
theorem dX1_attachOrphans_15 : decode cX1_attachOrphans 15 = .ok (.aload_n 0, 1) := by decide +kernel
theorem dX1_attachOrphans_16 : decode cX1_attachOrphans 16 = .ok (.iload_n 2, 1) := by decide +kernel
theorem dX1_attachOrphans_17 : decode cX1_attachOrphans 17 = .ok (.iload_n 1, 1) := by decide +kernel
theorem dX1_attachOrphans_18 : decode cX1_attachOrphans 18 = .ok (.invokevirtual 75, 3) := by decide +kernel
theorem dX1_attachOrphans_21 : decode cX1_attachOrphans 21 = .ok (.ifCond .eq 9, 3) := by decide +kernel
theorem dX1_attachOrphans_24 : decode cX1_attachOrphans 24 = .ok (.aload_n 0, 1) := by decide +kernel
theorem dX1_attachOrphans_25 : decode cX1_attachOrphans 25 = .ok (.iload_n 2, 1) := by decide +kernel
theorem dX1_attachOrphans_26 : decode cX1_attachOrphans 26 = .ok (.iload_n 1, 1) := by decide +kernel
theorem dX1_attachOrphans_27 : decode cX1_attachOrphans 27 = .ok (.invokevirtual 78, 3) := by decide +kernel
theorem dX1_attachOrphans_30 : decode cX1_attachOrphans 30 = .ok (.iinc 2 1, 3) := by decide +kernel
theorem dX1_attachOrphans_33 : decode cX1_attachOrphans 33 = .ok (.goto (-24), 3) := by decide +kernel
theorem dX1_attachOrphans_36 : decode cX1_attachOrphans 36 = .ok (.iinc 1 1, 3) := by decide +kernel
theorem dX1_attachOrphans_39 : decode cX1_attachOrphans 39 = .ok (.goto (-37), 3) := by decide +kernel
theorem dX1_attachOrphans_42 : decode cX1_attachOrphans 42 = .ok (.return_, 1) := by decide +kernel
theorem dX1_cutChildren_0 : decode cX1_cutChildren 0 = .ok (.aload_n 0, 1) := by decide +kernel
theorem dX1_cutChildren_1 : decode cX1_cutChildren 1 = .ok (.iload_n 1, 1) := by decide +kernel
theorem dX1_cutChildren_2 : decode cX1_cutChildren 2 = .ok (.iload_n 2, 1) := by decide +kernel
theorem dX1_cutChildren_3 : decode cX1_cutChildren 3 = .ok (.invokevirtual 33, 3) := by decide +kernel
theorem dX1_cutChildren_6 : decode cX1_cutChildren 6 = .ok (.istore 4, 2) := by decide +kernel
theorem dX1_cutChildren_8 : decode cX1_cutChildren 8 = .ok (.iload 4, 2) := by decide +kernel
theorem dX1_cutChildren_10 : decode cX1_cutChildren 10 = .ok (.iload_n 3, 1) := by decide +kernel
theorem dX1_cutChildren_11 : decode cX1_cutChildren 11 = .ok (.if_icmp .le 24, 3) := by decide +kernel
theorem dX1_cutChildren_14 : decode cX1_cutChildren 14 = .ok (.aload_n 0, 1) := by decide +kernel
theorem dX1_cutChildren_15 : decode cX1_cutChildren 15 = .ok (.getfield 12, 3) := by decide +kernel
theorem dX1_cutChildren_18 : decode cX1_cutChildren 18 = .ok (.aload_n 0, 1) := by decide +kernel
theorem dX1_cutChildren_19 : decode cX1_cutChildren 19 = .ok (.iload_n 1, 1) := by decide +kernel
theorem dX1_cutChildren_20 : decode cX1_cutChildren 20 = .ok (.iload_n 2, 1) := by decide +kernel
theorem dX1_cutChildren_21 : decode cX1_cutChildren 21 = .ok (.invokevirtual 56, 3) := by decide +kernel
theorem dX1_cutChildren_24 : decode cX1_cutChildren 24 = .ok (.iload_n 2, 1) := by decide +kernel
theorem dX1_cutChildren_25 : decode cX1_cutChildren 25 = .ok (.iconst (-1), 1) := by decide +kernel
theorem dX1_cutChildren_26 : decode cX1_cutChildren 26 = .ok (.invokevirtual 52, 3) := by decide +kernel
theorem dX1_cutChildren_29 : decode cX1_cutChildren 29 = .ok (.iinc 4 (-1), 3) := by decide +kernel
theorem dX1_cutChildren_32 : decode cX1_cutChildren 32 = .ok (.goto (-24), 3) := by decide +kernel
theorem dX1_cutChildren_35 : decode cX1_cutChildren 35 = .ok (.return_, 1) := by decide +kernel
theorem dX1_takeIn_0 : decode cX1_takeIn 0 = .ok (.aload_n 0, 1) := by decide +kernel
theorem dX1_takeIn_1 : decode cX1_takeIn 1 = .ok (.getfield 12, 3) := by decide +kernel
theorem dX1_takeIn_4 : decode cX1_takeIn 4 = .ok (.iload_n 1, 1) := by decide +kernel
theorem dX1_takeIn_5 : decode cX1_takeIn 5 = .ok (.iconst 0, 1) := by decide +kernel
theorem dX1_takeIn_6 : decode cX1_takeIn 6 = .ok (.iconst 1, 1) := by decide +kernel
theorem dX1_takeIn_7 : decode cX1_takeIn 7 = .ok (.invokevirtual 81, 3) := by decide +kernel
theorem dX1_takeIn_10 : decode cX1_takeIn 10 = .ok (.aload_n 0, 1) := by decide +kernel
theorem dX1_takeIn_11 : decode cX1_takeIn 11 = .ok (.getfield 12, 3) := by decide +kernel
theorem dX1_takeIn_14 : decode cX1_takeIn 14 = .ok (.iload_n 1, 1) := by decide +kernel
theorem dX1_takeIn_15 : decode cX1_takeIn 15 = .ok (.iconst 1, 1) := by decide +kernel
theorem dX1_takeIn_16 : decode cX1_takeIn 16 = .ok (.iload_n 2, 1) := by decide +kernel
theorem dX1_takeIn_17 : decode cX1_takeIn 17 = .ok (.invokevirtual 81, 3) := by decide +kernel
theorem dX1_takeIn_20 : decode cX1_takeIn 20 = .ok (.aload_n 0, 1) := by decide +kernel
theorem dX1_takeIn_21 : decode cX1_takeIn 21 = .ok (.getfield 12, 3) := by decide +kernel
theorem dX1_takeIn_24 : decode cX1_takeIn 24 = .ok (.iload_n 1, 1) := by decide +kernel
theorem dX1_takeIn_25 : decode cX1_takeIn 25 = .ok (.iconst 2, 1) := by decide +kernel
theorem dX1_takeIn_26 : decode cX1_takeIn 26 = .ok (.iload_n 3, 1) := by decide +kernel
theorem dX1_takeIn_27 : decode cX1_takeIn 27 = .ok (.invokevirtual 81, 3) := by decide +kernel
theorem dX1_takeIn_30 : decode cX1_takeIn 30 = .ok (.aload_n 0, 1) := by decide +kernel
theorem dX1_takeIn_31 : decode cX1_takeIn 31 = .ok (.getfield 12, 3) := by decide +kernel
theorem dX1_takeIn_34 : decode cX1_takeIn 34 = .ok (.iload_n 1, 1) := by decide +kernel
theorem dX1_takeIn_35 : decode cX1_takeIn 35 = .ok (.iconst 4, 1) := by decide +kernel
theorem dX1_takeIn_36 : decode cX1_takeIn 36 = .ok (.iconst (-1), 1) := by decide +kernel
theorem dX1_takeIn_37 : decode cX1_takeIn 37 = .ok (.invokevirtual 81, 3) := by decide +kernel
theorem dX1_takeIn_40 : decode cX1_takeIn 40 = .ok (.aload_n 0, 1) := by decide +kernel
theorem dX1_takeIn_41 : decode cX1_takeIn 41 = .ok (.getfield 12, 3) := by decide +kernel
theorem dX1_takeIn_44 : decode cX1_takeIn 44 = .ok (.iload_n 1, 1) := by decide +kernel
theorem dX1_takeIn_45 : decode cX1_takeIn 45 = .ok (.bipush 6, 2) := by decide +kernel
theorem dX1_takeIn_47 : decode cX1_takeIn 47 = .ok (.iconst (-1), 1) := by decide +kernel
theorem dX1_takeIn_48 : decode cX1_takeIn 48 = .ok (.invokevirtual 81, 3) := by decide +kernel
theorem dX1_takeIn_51 : decode cX1_takeIn 51 = .ok (.aload_n 0, 1) := by decide +kernel
theorem dX1_takeIn_52 : decode cX1_takeIn 52 = .ok (.getfield 12, 3) := by decide +kernel
theorem dX1_takeIn_55 : decode cX1_takeIn 55 = .ok (.iconst 0, 1) := by decide +kernel
theorem dX1_takeIn_56 : decode cX1_takeIn 56 = .ok (.iconst 1, 1) := by decide +kernel
theorem dX1_takeIn_57 : decode cX1_takeIn 57 = .ok (.invokevirtual 71, 3) := by decide +kernel
theorem dX1_takeIn_60 : decode cX1_takeIn 60 = .ok (.return_, 1) := by decide +kernel
theorem dX1_takeOut_0 : decode cX1_takeOut 0 = .ok (.iconst 0, 1) := by decide +kernel
theorem dX1_takeOut_1 : decode cX1_takeOut 1 = .ok (.istore_n 2, 1) := by decide +kernel
theorem dX1_takeOut_2 : decode cX1_takeOut 2 = .ok (.iload_n 2, 1) := by decide +kernel
theorem dX1_takeOut_3 : decode cX1_takeOut 3 = .ok (.iconst 4, 1) := by decide +kernel
theorem dX1_takeOut_4 : decode cX1_takeOut 4 = .ok (.if_icmp .ge 26, 3) := by decide +kernel
theorem dX1_takeOut_7 : decode cX1_takeOut 7 = .ok (.aload_n 0, 1) := by decide +kernel
theorem dX1_takeOut_8 : decode cX1_takeOut 8 = .ok (.iload_n 1, 1) := by decide +kernel
theorem dX1_takeOut_9 : decode cX1_takeOut 9 = .ok (.iload_n 2, 1) := by decide +kernel
theorem dX1_takeOut_10 : decode cX1_takeOut 10 = .ok (.iconst 0, 1) := by decide +kernel
theorem dX1_takeOut_11 : decode cX1_takeOut 11 = .ok (.invokevirtual 84, 3) := by decide +kernel
theorem dX1_takeOut_14 : decode cX1_takeOut 14 = .ok (.aload_n 0, 1) := by decide +kernel
theorem dX1_takeOut_15 : decode cX1_takeOut 15 = .ok (.getfield 12, 3) := by decide +kernel
theorem dX1_takeOut_18 : decode cX1_takeOut 18 = .ok (.iload_n 1, 1) := by decide +kernel
theorem dX1_takeOut_19 : decode cX1_takeOut 19 = .ok (.iload_n 2, 1) := by decide +kernel
theorem dX1_takeOut_20 : decode cX1_takeOut 20 = .ok (.iconst (-1), 1) := by decide +kernel
theorem dX1_takeOut_21 : decode cX1_takeOut 21 = .ok (.invokevirtual 52, 3) := by decide +kernel
theorem dX1_takeOut_24 : decode cX1_takeOut 24 = .ok (.iinc 2 1, 3) := by decide +kernel
theorem dX1_takeOut_27 : decode cX1_takeOut 27 = .ok (.goto (-25), 3) := by decide +kernel
theorem dX1_takeOut_30 : decode cX1_takeOut 30 = .ok (.iconst 0, 1) := by decide +kernel
theorem dX1_takeOut_31 : decode cX1_takeOut 31 = .ok (.istore_n 2, 1) := by decide +kernel
theorem dX1_takeOut_32 : decode cX1_takeOut 32 = .ok (.iload_n 2, 1) := by decide +kernel
theorem dX1_takeOut_33 : decode cX1_takeOut 33 = .ok (.bipush 10, 2) := by decide +kernel
theorem dX1_takeOut_35 : decode cX1_takeOut 35 = .ok (.if_icmp .ge 19, 3) := by decide +kernel
theorem dX1_takeOut_38 : decode cX1_takeOut 38 = .ok (.aload_n 0, 1) := by decide +kernel
theorem dX1_takeOut_39 : decode cX1_takeOut 39 = .ok (.getfield 12, 3) := by decide +kernel
theorem dX1_takeOut_42 : decode cX1_takeOut 42 = .ok (.iload_n 1, 1) := by decide +kernel
theorem dX1_takeOut_43 : decode cX1_takeOut 43 = .ok (.iload_n 2, 1) := by decide +kernel
theorem dX1_takeOut_44 : decode cX1_takeOut 44 = .ok (.iconst 0, 1) := by decide +kernel
theorem dX1_takeOut_45 : decode cX1_takeOut 45 = .ok (.invokevirtual 81, 3) := by decide +kernel
theorem dX1_takeOut_48 : decode cX1_takeOut 48 = .ok (.iinc 2 1, 3) := by decide +kernel
theorem dX1_takeOut_51 : decode cX1_takeOut 51 = .ok (.goto (-19), 3) := by decide +kernel
theorem dX1_takeOut_54 : decode cX1_takeOut 54 = .ok (.aload_n 0, 1) := by decide +kernel
theorem dX1_takeOut_55 : decode cX1_takeOut 55 = .ok (.getfield 12, 3) := by decide +kernel
theorem dX1_takeOut_58 : decode cX1_takeOut 58 = .ok (.iconst 0, 1) := by decide +kernel
theorem dX1_takeOut_59 : decode cX1_takeOut 59 = .ok (.iconst (-1), 1) := by decide +kernel
theorem dX1_takeOut_60 : decode cX1_takeOut 60 = .ok (.invokevirtual 71, 3) := by decide +kernel
theorem dX1_takeOut_63 : decode cX1_takeOut 63 = .ok (.return_, 1) := by decide +kernel
theorem dX1_connected_0 : decode cX1_connected 0 = .ok (.iconst 0, 1) := by decide +kernel
theorem dX1_connected_1 : decode cX1_connected 1 = .ok (.istore_n 2, 1) := by decide +kernel
theorem dX1_connected_2 : decode cX1_connected 2 = .ok (.iconst 0, 1) := by decide +kernel
theorem dX1_connected_3 : decode cX1_connected 3 = .ok (.istore_n 3, 1) := by decide +kernel
theorem dX1_connected_4 : decode cX1_connected 4 = .ok (.iload_n 3, 1) := by decide +kernel
theorem dX1_connected_5 : decode cX1_connected 5 = .ok (.bipush 32, 2) := by decide +kernel
theorem dX1_connected_7 : decode cX1_connected 7 = .ok (.if_icmp .ge 22, 3) := by decide +kernel
theorem dX1_connected_10 : decode cX1_connected 10 = .ok (.aload_n 0, 1) := by decide +kernel
theorem dX1_connected_11 : decode cX1_connected 11 = .ok (.iload_n 3, 1) := by decide +kernel
theorem dX1_connected_12 : decode cX1_connected 12 = .ok (.iload_n 1, 1) := by decide +kernel
theorem dX1_connected_13 : decode cX1_connected 13 = .ok (.invokevirtual 43, 3) := by decide +kernel
theorem dX1_connected_16 : decode cX1_connected 16 = .ok (.iconst (-1), 1) := by decide +kernel
theorem dX1_connected_17 : decode cX1_connected 17 = .ok (.if_icmp .eq 6, 3) := by decide +kernel
theorem dX1_connected_20 : decode cX1_connected 20 = .ok (.iinc 2 1, 3) := by decide +kernel
theorem dX1_connected_23 : decode cX1_connected 23 = .ok (.iinc 3 1, 3) := by decide +kernel
theorem dX1_connected_26 : decode cX1_connected 26 = .ok (.goto (-22), 3) := by decide +kernel
theorem dX1_connected_29 : decode cX1_connected 29 = .ok (.iload_n 2, 1) := by decide +kernel
theorem dX1_connected_30 : decode cX1_connected 30 = .ok (.ireturn, 1) := by decide +kernel
theorem dX1_orphans_0 : decode cX1_orphans 0 = .ok (.iconst 0, 1) := by decide +kernel
theorem dX1_orphans_1 : decode cX1_orphans 1 = .ok (.istore_n 2, 1) := by decide +kernel
theorem dX1_orphans_2 : decode cX1_orphans 2 = .ok (.iconst 0, 1) := by decide +kernel
theorem dX1_orphans_3 : decode cX1_orphans 3 = .ok (.istore_n 3, 1) := by decide +kernel
theorem dX1_orphans_4 : decode cX1_orphans 4 = .ok (.iload_n 3, 1) := by decide +kernel
theorem dX1_orphans_5 : decode cX1_orphans 5 = .ok (.bipush 32, 2) := by decide +kernel
theorem dX1_orphans_7 : decode cX1_orphans 7 = .ok (.if_icmp .ge 21, 3) := by decide +kernel
theorem dX1_orphans_10 : decode cX1_orphans 10 = .ok (.aload_n 0, 1) := by decide +kernel
theorem dX1_orphans_11 : decode cX1_orphans 11 = .ok (.iload_n 3, 1) := by decide +kernel
theorem dX1_orphans_12 : decode cX1_orphans 12 = .ok (.iload_n 1, 1) := by decide +kernel
theorem dX1_orphans_13 : decode cX1_orphans 13 = .ok (.invokevirtual 75, 3) := by decide +kernel
theorem dX1_orphans_16 : decode cX1_orphans 16 = .ok (.ifCond .eq 6, 3) := by decide +kernel
theorem dX1_orphans_19 : decode cX1_orphans 19 = .ok (.iinc 2 1, 3) := by decide +kernel
theorem dX1_orphans_22 : decode cX1_orphans 22 = .ok (.iinc 3 1, 3) := by decide +kernel
theorem dX1_orphans_25 : decode cX1_orphans 25 = .ok (.goto (-21), 3) := by decide +kernel
theorem dX1_orphans_28 : decode cX1_orphans 28 = .ok (.iload_n 2, 1) := by decide +kernel
theorem dX1_orphans_29 : decode cX1_orphans 29 = .ok (.ireturn, 1) := by decide +kernel
theorem dX1_greatestDepth_0 : decode cX1_greatestDepth 0 = .ok (.iconst 0, 1) := by decide +kernel
theorem dX1_greatestDepth_1 : decode cX1_greatestDepth 1 = .ok (.istore_n 2, 1) := by decide +kernel
theorem dX1_greatestDepth_2 : decode cX1_greatestDepth 2 = .ok (.iconst 0, 1) := by decide +kernel
theorem dX1_greatestDepth_3 : decode cX1_greatestDepth 3 = .ok (.istore_n 3, 1) := by decide +kernel
theorem dX1_greatestDepth_4 : decode cX1_greatestDepth 4 = .ok (.iload_n 3, 1) := by decide +kernel
theorem dX1_greatestDepth_5 : decode cX1_greatestDepth 5 = .ok (.bipush 32, 2) := by decide +kernel
theorem dX1_greatestDepth_7 : decode cX1_greatestDepth 7 = .ok (.if_icmp .ge 20, 3) := by decide +kernel
theorem dX1_greatestDepth_10 : decode cX1_greatestDepth 10 = .ok (.iload_n 2, 1) := by decide +kernel
theorem dX1_greatestDepth_11 : decode cX1_greatestDepth 11 = .ok (.aload_n 0, 1) := by decide +kernel
theorem dX1_greatestDepth_12 : decode cX1_greatestDepth 12 = .ok (.iload_n 3, 1) := by decide +kernel
theorem dX1_greatestDepth_13 : decode cX1_greatestDepth 13 = .ok (.iload_n 1, 1) := by decide +kernel
theorem dX1_greatestDepth_14 : decode cX1_greatestDepth 14 = .ok (.invokevirtual 43, 3) := by decide +kernel
theorem dX1_greatestDepth_17 : decode cX1_greatestDepth 17 = .ok (.invokestatic 87, 3) := by decide +kernel
theorem dX1_greatestDepth_20 : decode cX1_greatestDepth 20 = .ok (.istore_n 2, 1) := by decide +kernel
theorem dX1_greatestDepth_21 : decode cX1_greatestDepth 21 = .ok (.iinc 3 1, 3) := by decide +kernel
theorem dX1_greatestDepth_24 : decode cX1_greatestDepth 24 = .ok (.goto (-20), 3) := by decide +kernel
theorem dX1_greatestDepth_27 : decode cX1_greatestDepth 27 = .ok (.iload_n 2, 1) := by decide +kernel
theorem dX1_greatestDepth_28 : decode cX1_greatestDepth 28 = .ok (.ireturn, 1) := by decide +kernel
theorem dX1_withRoom_0 : decode cX1_withRoom 0 = .ok (.iconst 0, 1) := by decide +kernel
theorem dX1_withRoom_1 : decode cX1_withRoom 1 = .ok (.istore_n 2, 1) := by decide +kernel
theorem dX1_withRoom_2 : decode cX1_withRoom 2 = .ok (.iconst 0, 1) := by decide +kernel
theorem dX1_withRoom_3 : decode cX1_withRoom 3 = .ok (.istore_n 3, 1) := by decide +kernel
theorem dX1_withRoom_4 : decode cX1_withRoom 4 = .ok (.iload_n 3, 1) := by decide +kernel
theorem dX1_withRoom_5 : decode cX1_withRoom 5 = .ok (.bipush 32, 2) := by decide +kernel
theorem dX1_withRoom_7 : decode cX1_withRoom 7 = .ok (.if_icmp .ge 21, 3) := by decide +kernel
theorem dX1_withRoom_10 : decode cX1_withRoom 10 = .ok (.aload_n 0, 1) := by decide +kernel
theorem dX1_withRoom_11 : decode cX1_withRoom 11 = .ok (.iload_n 3, 1) := by decide +kernel
theorem dX1_withRoom_12 : decode cX1_withRoom 12 = .ok (.iload_n 1, 1) := by decide +kernel
theorem dX1_withRoom_13 : decode cX1_withRoom 13 = .ok (.invokevirtual 49, 3) := by decide +kernel
theorem dX1_withRoom_16 : decode cX1_withRoom 16 = .ok (.ifCond .eq 6, 3) := by decide +kernel
theorem dX1_withRoom_19 : decode cX1_withRoom 19 = .ok (.iinc 2 1, 3) := by decide +kernel
theorem dX1_withRoom_22 : decode cX1_withRoom 22 = .ok (.iinc 3 1, 3) := by decide +kernel
theorem dX1_withRoom_25 : decode cX1_withRoom 25 = .ok (.goto (-21), 3) := by decide +kernel
theorem dX1_withRoom_28 : decode cX1_withRoom 28 = .ok (.iload_n 2, 1) := by decide +kernel
theorem dX1_withRoom_29 : decode cX1_withRoom 29 = .ok (.ireturn, 1) := by decide +kernel
theorem dX1_withChildren_0 : decode cX1_withChildren 0 = .ok (.iconst 0, 1) := by decide +kernel
theorem dX1_withChildren_1 : decode cX1_withChildren 1 = .ok (.istore_n 2, 1) := by decide +kernel
theorem dX1_withChildren_2 : decode cX1_withChildren 2 = .ok (.iconst 0, 1) := by decide +kernel
theorem dX1_withChildren_3 : decode cX1_withChildren 3 = .ok (.istore_n 3, 1) := by decide +kernel
theorem dX1_withChildren_4 : decode cX1_withChildren 4 = .ok (.iload_n 3, 1) := by decide +kernel
theorem dX1_withChildren_5 : decode cX1_withChildren 5 = .ok (.bipush 32, 2) := by decide +kernel
theorem dX1_withChildren_7 : decode cX1_withChildren 7 = .ok (.if_icmp .ge 38, 3) := by decide +kernel
theorem dX1_withChildren_10 : decode cX1_withChildren 10 = .ok (.aload_n 0, 1) := by decide +kernel
theorem dX1_withChildren_11 : decode cX1_withChildren 11 = .ok (.getfield 12, 3) := by decide +kernel
theorem dX1_withChildren_14 : decode cX1_withChildren 14 = .ok (.iload_n 3, 1) := by decide +kernel
theorem dX1_withChildren_15 : decode cX1_withChildren 15 = .ok (.iconst 5, 1) := by decide +kernel
theorem dX1_withChildren_16 : decode cX1_withChildren 16 = .ok (.invokevirtual 22, 3) := by decide +kernel
theorem dX1_withChildren_19 : decode cX1_withChildren 19 = .ok (.ifCond .le 20, 3) := by decide +kernel
theorem dX1_withChildren_22 : decode cX1_withChildren 22 = .ok (.aload_n 0, 1) := by decide +kernel
theorem dX1_withChildren_23 : decode cX1_withChildren 23 = .ok (.getfield 12, 3) := by decide +kernel
theorem dX1_withChildren_26 : decode cX1_withChildren 26 = .ok (.iload_n 3, 1) := by decide +kernel
theorem dX1_withChildren_27 : decode cX1_withChildren 27 = .ok (.bipush 6, 2) := by decide +kernel
theorem dX1_withChildren_29 : decode cX1_withChildren 29 = .ok (.invokevirtual 22, 3) := by decide +kernel
theorem dX1_withChildren_32 : decode cX1_withChildren 32 = .ok (.iload_n 1, 1) := by decide +kernel
theorem dX1_withChildren_33 : decode cX1_withChildren 33 = .ok (.if_icmp .ne 6, 3) := by decide +kernel
theorem dX1_withChildren_36 : decode cX1_withChildren 36 = .ok (.iinc 2 1, 3) := by decide +kernel
theorem dX1_withChildren_39 : decode cX1_withChildren 39 = .ok (.iinc 3 1, 3) := by decide +kernel
theorem dX1_withChildren_42 : decode cX1_withChildren 42 = .ok (.goto (-38), 3) := by decide +kernel
theorem dX1_withChildren_45 : decode cX1_withChildren 45 = .ok (.iload_n 2, 1) := by decide +kernel
theorem dX1_withChildren_46 : decode cX1_withChildren 46 = .ok (.ireturn, 1) := by decide +kernel
theorem dX2_init_0 : decode cX2_init 0 = .ok (.aload_n 0, 1) := by decide +kernel
theorem dX2_init_1 : decode cX2_init 1 = .ok (.invokespecial 3, 3) := by decide +kernel
theorem dX2_init_4 : decode cX2_init 4 = .ok (.aload_n 0, 1) := by decide +kernel
theorem dX2_init_5 : decode cX2_init 5 = .ok (.sipush 1836, 3) := by decide +kernel
theorem dX2_init_8 : decode cX2_init 8 = .ok (.newarray .int, 2) := by decide +kernel
theorem dX2_init_10 : decode cX2_init 10 = .ok (.putfield 11, 3) := by decide +kernel
theorem dX2_init_13 : decode cX2_init 13 = .ok (.aload_n 0, 1) := by decide +kernel
theorem dX2_init_14 : decode cX2_init 14 = .ok (.iconst 0, 1) := by decide +kernel
theorem dX2_init_15 : decode cX2_init 15 = .ok (.putfield 17, 3) := by decide +kernel
theorem dX2_init_18 : decode cX2_init 18 = .ok (.aload_n 0, 1) := by decide +kernel
theorem dX2_init_19 : decode cX2_init 19 = .ok (.iconst 0, 1) := by decide +kernel
theorem dX2_init_20 : decode cX2_init 20 = .ok (.putfield 21, 3) := by decide +kernel
theorem dX2_init_23 : decode cX2_init 23 = .ok (.return_, 1) := by decide +kernel
theorem dX2_size_0 : decode cX2_size 0 = .ok (.aload_n 0, 1) := by decide +kernel
theorem dX2_size_1 : decode cX2_size 1 = .ok (.getfield 17, 3) := by decide +kernel
theorem dX2_size_4 : decode cX2_size 4 = .ok (.ireturn, 1) := by decide +kernel
theorem dX2_push_0 : decode cX2_push 0 = .ok (.aload_n 1, 1) := by decide +kernel
theorem dX2_push_1 : decode cX2_push 1 = .ok (.aload_n 0, 1) := by decide +kernel
theorem dX2_push_2 : decode cX2_push 2 = .ok (.getfield 11, 3) := by decide +kernel
theorem dX2_push_5 : decode cX2_push 5 = .ok (.aload_n 0, 1) := by decide +kernel
theorem dX2_push_6 : decode cX2_push 6 = .ok (.getfield 21, 3) := by decide +kernel
theorem dX2_push_9 : decode cX2_push 9 = .ok (.sipush 459, 3) := by decide +kernel
theorem dX2_push_12 : decode cX2_push 12 = .ok (.imul, 1) := by decide +kernel
theorem dX2_push_13 : decode cX2_push 13 = .ok (.invokevirtual 24, 3) := by decide +kernel
theorem dX2_push_16 : decode cX2_push 16 = .ok (.aload_n 0, 1) := by decide +kernel
theorem dX2_push_17 : decode cX2_push 17 = .ok (.aload_n 0, 1) := by decide +kernel
theorem dX2_push_18 : decode cX2_push 18 = .ok (.getfield 21, 3) := by decide +kernel
theorem dX2_push_21 : decode cX2_push 21 = .ok (.iconst 1, 1) := by decide +kernel
theorem dX2_push_22 : decode cX2_push 22 = .ok (.iadd, 1) := by decide +kernel
theorem dX2_push_23 : decode cX2_push 23 = .ok (.iconst 4, 1) := by decide +kernel
theorem dX2_push_24 : decode cX2_push 24 = .ok (.invokestatic 28, 3) := by decide +kernel
theorem dX2_push_27 : decode cX2_push 27 = .ok (.putfield 21, 3) := by decide +kernel
theorem dX2_push_30 : decode cX2_push 30 = .ok (.aload_n 0, 1) := by decide +kernel
theorem dX2_push_31 : decode cX2_push 31 = .ok (.aload_n 0, 1) := by decide +kernel
theorem dX2_push_32 : decode cX2_push 32 = .ok (.getfield 17, 3) := by decide +kernel
theorem dX2_push_35 : decode cX2_push 35 = .ok (.iconst 1, 1) := by decide +kernel
theorem dX2_push_36 : decode cX2_push 36 = .ok (.iadd, 1) := by decide +kernel
theorem dX2_push_37 : decode cX2_push 37 = .ok (.iconst 4, 1) := by decide +kernel
theorem dX2_push_38 : decode cX2_push 38 = .ok (.invokestatic 34, 3) := by decide +kernel
theorem dX2_push_41 : decode cX2_push 41 = .ok (.putfield 17, 3) := by decide +kernel
theorem dX2_push_44 : decode cX2_push 44 = .ok (.return_, 1) := by decide +kernel
theorem dX2_popInto_0 : decode cX2_popInto 0 = .ok (.aload_n 0, 1) := by decide +kernel
theorem dX2_popInto_1 : decode cX2_popInto 1 = .ok (.getfield 17, 3) := by decide +kernel
theorem dX2_popInto_4 : decode cX2_popInto 4 = .ok (.ifCond .ne 4, 3) := by decide +kernel
theorem dX2_popInto_7 : decode cX2_popInto 7 = .ok (.return_, 1) := by decide +kernel
theorem dX2_popInto_8 : decode cX2_popInto 8 = .ok (.aload_n 0, 1) := by decide +kernel
theorem dX2_popInto_9 : decode cX2_popInto 9 = .ok (.aload_n 0, 1) := by decide +kernel
theorem dX2_popInto_10 : decode cX2_popInto 10 = .ok (.getfield 21, 3) := by decide +kernel
theorem dX2_popInto_13 : decode cX2_popInto 13 = .ok (.iconst 1, 1) := by decide +kernel
theorem dX2_popInto_14 : decode cX2_popInto 14 = .ok (.isub, 1) := by decide +kernel
theorem dX2_popInto_15 : decode cX2_popInto 15 = .ok (.iconst 4, 1) := by decide +kernel
theorem dX2_popInto_16 : decode cX2_popInto 16 = .ok (.invokestatic 28, 3) := by decide +kernel
theorem dX2_popInto_19 : decode cX2_popInto 19 = .ok (.putfield 21, 3) := by decide +kernel
theorem dX2_popInto_22 : decode cX2_popInto 22 = .ok (.aload_n 0, 1) := by decide +kernel
theorem dX2_popInto_23 : decode cX2_popInto 23 = .ok (.dup, 1) := by decide +kernel
theorem dX2_popInto_24 : decode cX2_popInto 24 = .ok (.getfield 17, 3) := by decide +kernel
theorem dX2_popInto_27 : decode cX2_popInto 27 = .ok (.iconst 1, 1) := by decide +kernel
theorem dX2_popInto_28 : decode cX2_popInto 28 = .ok (.isub, 1) := by decide +kernel
theorem dX2_popInto_29 : decode cX2_popInto 29 = .ok (.putfield 17, 3) := by decide +kernel
theorem dX2_popInto_32 : decode cX2_popInto 32 = .ok (.aload_n 1, 1) := by decide +kernel
theorem dX2_popInto_33 : decode cX2_popInto 33 = .ok (.aload_n 0, 1) := by decide +kernel
theorem dX2_popInto_34 : decode cX2_popInto 34 = .ok (.getfield 11, 3) := by decide +kernel
theorem dX2_popInto_37 : decode cX2_popInto 37 = .ok (.aload_n 0, 1) := by decide +kernel
theorem dX2_popInto_38 : decode cX2_popInto 38 = .ok (.getfield 21, 3) := by decide +kernel
theorem dX2_popInto_41 : decode cX2_popInto 41 = .ok (.sipush 459, 3) := by decide +kernel
theorem dX2_popInto_44 : decode cX2_popInto 44 = .ok (.imul, 1) := by decide +kernel
theorem dX2_popInto_45 : decode cX2_popInto 45 = .ok (.invokevirtual 37, 3) := by decide +kernel
theorem dX2_popInto_48 : decode cX2_popInto 48 = .ok (.return_, 1) := by decide +kernel
theorem dX3_init_0 : decode cX3_init 0 = .ok (.aload_n 0, 1) := by decide +kernel
theorem dX3_init_1 : decode cX3_init 1 = .ok (.invokespecial 1, 3) := by decide +kernel
theorem dX3_init_4 : decode cX3_init 4 = .ok (.aload_n 0, 1) := by decide +kernel
theorem dX3_init_5 : decode cX3_init 5 = .ok (.new 7, 3) := by decide +kernel
theorem dX3_init_8 : decode cX3_init 8 = .ok (.dup, 1) := by decide +kernel
theorem dX3_init_9 : decode cX3_init 9 = .ok (.invokespecial 9, 3) := by decide +kernel
theorem dX3_init_12 : decode cX3_init 12 = .ok (.putfield 10, 3) := by decide +kernel
theorem dX3_init_15 : decode cX3_init 15 = .ok (.aload_n 0, 1) := by decide +kernel
theorem dX3_init_16 : decode cX3_init 16 = .ok (.aload_n 0, 1) := by decide +kernel
theorem dX3_init_17 : decode cX3_init 17 = .ok (.getfield 10, 3) := by decide +kernel
theorem dX3_init_20 : decode cX3_init 20 = .ok (.getfield 16, 3) := by decide +kernel
theorem dX3_init_23 : decode cX3_init 23 = .ok (.putfield 20, 3) := by decide +kernel
theorem dX3_init_26 : decode cX3_init 26 = .ok (.aload_n 0, 1) := by decide +kernel
theorem dX3_init_27 : decode cX3_init 27 = .ok (.new 21, 3) := by decide +kernel
theorem dX3_init_30 : decode cX3_init 30 = .ok (.dup, 1) := by decide +kernel
theorem dX3_init_31 : decode cX3_init 31 = .ok (.invokespecial 23, 3) := by decide +kernel
theorem dX3_init_34 : decode cX3_init 34 = .ok (.putfield 24, 3) := by decide +kernel
theorem dX3_init_37 : decode cX3_init 37 = .ok (.return_, 1) := by decide +kernel
theorem dX3_join_0 : decode cX3_join 0 = .ok (.iload_n 1, 1) := by decide +kernel
theorem dX3_join_1 : decode cX3_join 1 = .ok (.invokestatic 28, 3) := by decide +kernel
theorem dX3_join_4 : decode cX3_join 4 = .ok (.iload_n 2, 1) := by decide +kernel
theorem dX3_join_5 : decode cX3_join 5 = .ok (.iconst 0, 1) := by decide +kernel
theorem dX3_join_6 : decode cX3_join 6 = .ok (.bipush 8, 2) := by decide +kernel
theorem dX3_join_8 : decode cX3_join 8 = .ok (.invokestatic 32, 3) := by decide +kernel
theorem dX3_join_11 : decode cX3_join 11 = .ok (.iload_n 3, 1) := by decide +kernel
theorem dX3_join_12 : decode cX3_join 12 = .ok (.iconst 0, 1) := by decide +kernel
theorem dX3_join_13 : decode cX3_join 13 = .ok (.iconst 3, 1) := by decide +kernel
theorem dX3_join_14 : decode cX3_join 14 = .ok (.invokestatic 32, 3) := by decide +kernel
theorem dX3_join_17 : decode cX3_join 17 = .ok (.aload_n 0, 1) := by decide +kernel
theorem dX3_join_18 : decode cX3_join 18 = .ok (.iload_n 1, 1) := by decide +kernel
theorem dX3_join_19 : decode cX3_join 19 = .ok (.invokevirtual 36, 3) := by decide +kernel
theorem dX3_join_22 : decode cX3_join 22 = .ok (.ifCond .eq 13, 3) := by decide +kernel
theorem dX3_join_25 : decode cX3_join 25 = .ok (.new 40, 3) := by decide +kernel
theorem dX3_join_28 : decode cX3_join 28 = .ok (.dup, 1) := by decide +kernel
theorem dX3_join_29 : decode cX3_join 29 = .ok (.ldc 42, 2) := by decide +kernel
theorem dX3_join_31 : decode cX3_join 31 = .ok (.invokespecial 44, 3) := by decide +kernel
theorem dX3_join_34 : decode cX3_join 34 = .ok (.athrow, 1) := by decide +kernel
theorem dX3_join_35 : decode cX3_join 35 = .ok (.aload_n 0, 1) := by decide +kernel
theorem dX3_join_36 : decode cX3_join 36 = .ok (.getfield 24, 3) := by decide +kernel
theorem dX3_join_39 : decode cX3_join 39 = .ok (.aload_n 0, 1) := by decide +kernel
theorem dX3_join_40 : decode cX3_join 40 = .ok (.getfield 20, 3) := by decide +kernel
theorem dX3_join_43 : decode cX3_join 43 = .ok (.invokevirtual 47, 3) := by decide +kernel
theorem dX3_join_46 : decode cX3_join 46 = .ok (.aload_n 0, 1) := by decide +kernel
theorem dX3_join_47 : decode cX3_join 47 = .ok (.getfield 10, 3) := by decide +kernel
theorem dX3_join_50 : decode cX3_join 50 = .ok (.iload_n 1, 1) := by decide +kernel
theorem dX3_join_51 : decode cX3_join 51 = .ok (.iload_n 2, 1) := by decide +kernel
theorem dX3_join_52 : decode cX3_join 52 = .ok (.iload_n 3, 1) := by decide +kernel
theorem dX3_join_53 : decode cX3_join 53 = .ok (.invokevirtual 51, 3) := by decide +kernel
theorem dX3_join_56 : decode cX3_join 56 = .ok (.aload_n 0, 1) := by decide +kernel
theorem dX3_join_57 : decode cX3_join 57 = .ok (.getfield 10, 3) := by decide +kernel
theorem dX3_join_60 : decode cX3_join 60 = .ok (.invokevirtual 54, 3) := by decide +kernel
theorem dX3_join_63 : decode cX3_join 63 = .ok (.aload_n 0, 1) := by decide +kernel
theorem dX3_join_64 : decode cX3_join 64 = .ok (.iload_n 1, 1) := by decide +kernel
theorem dX3_join_65 : decode cX3_join 65 = .ok (.invokevirtual 57, 3) := by decide +kernel
theorem dX3_join_68 : decode cX3_join 68 = .ok (.ireturn, 1) := by decide +kernel
theorem dX3_leave_0 : decode cX3_leave 0 = .ok (.iload_n 1, 1) := by decide +kernel
theorem dX3_leave_1 : decode cX3_leave 1 = .ok (.invokestatic 28, 3) := by decide +kernel
theorem dX3_leave_4 : decode cX3_leave 4 = .ok (.aload_n 0, 1) := by decide +kernel
theorem dX3_leave_5 : decode cX3_leave 5 = .ok (.iload_n 1, 1) := by decide +kernel
theorem dX3_leave_6 : decode cX3_leave 6 = .ok (.invokevirtual 61, 3) := by decide +kernel
theorem dX3_leave_9 : decode cX3_leave 9 = .ok (.aload_n 0, 1) := by decide +kernel
theorem dX3_leave_10 : decode cX3_leave 10 = .ok (.getfield 24, 3) := by decide +kernel
theorem dX3_leave_13 : decode cX3_leave 13 = .ok (.aload_n 0, 1) := by decide +kernel
theorem dX3_leave_14 : decode cX3_leave 14 = .ok (.getfield 20, 3) := by decide +kernel
theorem dX3_leave_17 : decode cX3_leave 17 = .ok (.invokevirtual 47, 3) := by decide +kernel
theorem dX3_leave_20 : decode cX3_leave 20 = .ok (.aload_n 0, 1) := by decide +kernel
theorem dX3_leave_21 : decode cX3_leave 21 = .ok (.getfield 20, 3) := by decide +kernel
theorem dX3_leave_24 : decode cX3_leave 24 = .ok (.iload_n 1, 1) := by decide +kernel
theorem dX3_leave_25 : decode cX3_leave 25 = .ok (.iconst 5, 1) := by decide +kernel
theorem dX3_leave_26 : decode cX3_leave 26 = .ok (.invokevirtual 64, 3) := by decide +kernel
theorem dX3_leave_29 : decode cX3_leave 29 = .ok (.istore_n 2, 1) := by decide +kernel
theorem dX3_leave_30 : decode cX3_leave 30 = .ok (.aload_n 0, 1) := by decide +kernel
theorem dX3_leave_31 : decode cX3_leave 31 = .ok (.getfield 10, 3) := by decide +kernel
theorem dX3_leave_34 : decode cX3_leave 34 = .ok (.iload_n 1, 1) := by decide +kernel
theorem dX3_leave_35 : decode cX3_leave 35 = .ok (.invokevirtual 70, 3) := by decide +kernel
theorem dX3_leave_38 : decode cX3_leave 38 = .ok (.aload_n 0, 1) := by decide +kernel
theorem dX3_leave_39 : decode cX3_leave 39 = .ok (.getfield 10, 3) := by decide +kernel
theorem dX3_leave_42 : decode cX3_leave 42 = .ok (.invokevirtual 54, 3) := by decide +kernel
theorem dX3_leave_45 : decode cX3_leave 45 = .ok (.iload_n 2, 1) := by decide +kernel
theorem dX3_leave_46 : decode cX3_leave 46 = .ok (.ireturn, 1) := by decide +kernel
theorem dX3_fail_0 : decode cX3_fail 0 = .ok (.iload_n 1, 1) := by decide +kernel
theorem dX3_fail_1 : decode cX3_fail 1 = .ok (.invokestatic 28, 3) := by decide +kernel
theorem dX3_fail_4 : decode cX3_fail 4 = .ok (.aload_n 0, 1) := by decide +kernel
theorem dX3_fail_5 : decode cX3_fail 5 = .ok (.iload_n 1, 1) := by decide +kernel
theorem dX3_fail_6 : decode cX3_fail 6 = .ok (.invokevirtual 61, 3) := by decide +kernel
theorem dX3_fail_9 : decode cX3_fail 9 = .ok (.aload_n 0, 1) := by decide +kernel
theorem dX3_fail_10 : decode cX3_fail 10 = .ok (.iload_n 1, 1) := by decide +kernel
theorem dX3_fail_11 : decode cX3_fail 11 = .ok (.invokevirtual 73, 3) := by decide +kernel
theorem dX3_fail_14 : decode cX3_fail 14 = .ok (.ifCond .eq 13, 3) := by decide +kernel
theorem dX3_fail_17 : decode cX3_fail 17 = .ok (.new 40, 3) := by decide +kernel
theorem dX3_fail_20 : decode cX3_fail 20 = .ok (.dup, 1) := by decide +kernel
theorem dX3_fail_21 : decode cX3_fail 21 = .ok (.ldc 76, 2) := by decide +kernel
theorem dX3_fail_23 : decode cX3_fail 23 = .ok (.invokespecial 44, 3) := by decide +kernel
theorem dX3_fail_26 : decode cX3_fail 26 = .ok (.athrow, 1) := by decide +kernel
theorem dX3_fail_27 : decode cX3_fail 27 = .ok (.aload_n 0, 1) := by decide +kernel
theorem dX3_fail_28 : decode cX3_fail 28 = .ok (.getfield 24, 3) := by decide +kernel
theorem dX3_fail_31 : decode cX3_fail 31 = .ok (.aload_n 0, 1) := by decide +kernel
theorem dX3_fail_32 : decode cX3_fail 32 = .ok (.getfield 20, 3) := by decide +kernel
theorem dX3_fail_35 : decode cX3_fail 35 = .ok (.invokevirtual 47, 3) := by decide +kernel
theorem dX3_fail_38 : decode cX3_fail 38 = .ok (.aload_n 0, 1) := by decide +kernel
theorem dX3_fail_39 : decode cX3_fail 39 = .ok (.getfield 20, 3) := by decide +kernel
theorem dX3_fail_42 : decode cX3_fail 42 = .ok (.bipush 8, 2) := by decide +kernel
theorem dX3_fail_44 : decode cX3_fail 44 = .ok (.invokevirtual 78, 3) := by decide +kernel
theorem dX3_fail_47 : decode cX3_fail 47 = .ok (.aload_n 0, 1) := by decide +kernel
theorem dX3_fail_48 : decode cX3_fail 48 = .ok (.getfield 20, 3) := by decide +kernel
theorem dX3_fail_51 : decode cX3_fail 51 = .ok (.bipush 10, 2) := by decide +kernel
theorem dX3_fail_53 : decode cX3_fail 53 = .ok (.invokevirtual 78, 3) := by decide +kernel
theorem dX3_fail_56 : decode cX3_fail 56 = .ok (.iadd, 1) := by decide +kernel
theorem dX3_fail_57 : decode cX3_fail 57 = .ok (.istore_n 2, 1) := by decide +kernel
theorem dX3_fail_58 : decode cX3_fail 58 = .ok (.aload_n 0, 1) := by decide +kernel
theorem dX3_fail_59 : decode cX3_fail 59 = .ok (.getfield 20, 3) := by decide +kernel
theorem dX3_fail_62 : decode cX3_fail 62 = .ok (.iload_n 1, 1) := by decide +kernel
theorem dX3_fail_63 : decode cX3_fail 63 = .ok (.iconst 3, 1) := by decide +kernel
theorem dX3_fail_64 : decode cX3_fail 64 = .ok (.iconst 1, 1) := by decide +kernel
theorem dX3_fail_65 : decode cX3_fail 65 = .ok (.invokevirtual 81, 3) := by decide +kernel
theorem dX3_fail_68 : decode cX3_fail 68 = .ok (.aload_n 0, 1) := by decide +kernel
theorem dX3_fail_69 : decode cX3_fail 69 = .ok (.getfield 20, 3) := by decide +kernel
theorem dX3_fail_72 : decode cX3_fail 72 = .ok (.iload_n 1, 1) := by decide +kernel
theorem dX3_fail_73 : decode cX3_fail 73 = .ok (.iconst 4, 1) := by decide +kernel
theorem dX3_fail_74 : decode cX3_fail 74 = .ok (.iload_n 2, 1) := by decide +kernel
theorem dX3_fail_75 : decode cX3_fail 75 = .ok (.invokevirtual 81, 3) := by decide +kernel
theorem dX3_fail_78 : decode cX3_fail 78 = .ok (.iload_n 2, 1) := by decide +kernel
theorem dX3_fail_79 : decode cX3_fail 79 = .ok (.ireturn, 1) := by decide +kernel
theorem dX3_setBound_0 : decode cX3_setBound 0 = .ok (.iload_n 1, 1) := by decide +kernel
theorem dX3_setBound_1 : decode cX3_setBound 1 = .ok (.invokestatic 28, 3) := by decide +kernel
theorem dX3_setBound_4 : decode cX3_setBound 4 = .ok (.iload_n 2, 1) := by decide +kernel
theorem dX3_setBound_5 : decode cX3_setBound 5 = .ok (.iconst 0, 1) := by decide +kernel
theorem dX3_setBound_6 : decode cX3_setBound 6 = .ok (.bipush 8, 2) := by decide +kernel
theorem dX3_setBound_8 : decode cX3_setBound 8 = .ok (.invokestatic 32, 3) := by decide +kernel
theorem dX3_setBound_11 : decode cX3_setBound 11 = .ok (.aload_n 0, 1) := by decide +kernel
theorem dX3_setBound_12 : decode cX3_setBound 12 = .ok (.iload_n 1, 1) := by decide +kernel
theorem dX3_setBound_13 : decode cX3_setBound 13 = .ok (.invokevirtual 61, 3) := by decide +kernel
theorem dX3_setBound_16 : decode cX3_setBound 16 = .ok (.aload_n 0, 1) := by decide +kernel
theorem dX3_setBound_17 : decode cX3_setBound 17 = .ok (.getfield 24, 3) := by decide +kernel
theorem dX3_setBound_20 : decode cX3_setBound 20 = .ok (.aload_n 0, 1) := by decide +kernel
theorem dX3_setBound_21 : decode cX3_setBound 21 = .ok (.getfield 20, 3) := by decide +kernel
theorem dX3_setBound_24 : decode cX3_setBound 24 = .ok (.invokevirtual 47, 3) := by decide +kernel
theorem dX3_setBound_27 : decode cX3_setBound 27 = .ok (.aload_n 0, 1) := by decide +kernel
theorem dX3_setBound_28 : decode cX3_setBound 28 = .ok (.getfield 20, 3) := by decide +kernel
theorem dX3_setBound_31 : decode cX3_setBound 31 = .ok (.iload_n 1, 1) := by decide +kernel
theorem dX3_setBound_32 : decode cX3_setBound 32 = .ok (.iconst 1, 1) := by decide +kernel
theorem dX3_setBound_33 : decode cX3_setBound 33 = .ok (.invokevirtual 64, 3) := by decide +kernel
theorem dX3_setBound_36 : decode cX3_setBound 36 = .ok (.istore_n 3, 1) := by decide +kernel
theorem dX3_setBound_37 : decode cX3_setBound 37 = .ok (.aload_n 0, 1) := by decide +kernel
theorem dX3_setBound_38 : decode cX3_setBound 38 = .ok (.getfield 20, 3) := by decide +kernel
theorem dX3_setBound_41 : decode cX3_setBound 41 = .ok (.iload_n 1, 1) := by decide +kernel
theorem dX3_setBound_42 : decode cX3_setBound 42 = .ok (.iconst 1, 1) := by decide +kernel
theorem dX3_setBound_43 : decode cX3_setBound 43 = .ok (.iload_n 2, 1) := by decide +kernel
theorem dX3_setBound_44 : decode cX3_setBound 44 = .ok (.invokevirtual 81, 3) := by decide +kernel
theorem dX3_setBound_47 : decode cX3_setBound 47 = .ok (.aload_n 0, 1) := by decide +kernel
theorem dX3_setBound_48 : decode cX3_setBound 48 = .ok (.getfield 10, 3) := by decide +kernel
theorem dX3_setBound_51 : decode cX3_setBound 51 = .ok (.iload_n 1, 1) := by decide +kernel
theorem dX3_setBound_52 : decode cX3_setBound 52 = .ok (.aload_n 0, 1) := by decide +kernel
theorem dX3_setBound_53 : decode cX3_setBound 53 = .ok (.getfield 20, 3) := by decide +kernel
theorem dX3_setBound_56 : decode cX3_setBound 56 = .ok (.iload_n 1, 1) := by decide +kernel
theorem dX3_setBound_57 : decode cX3_setBound 57 = .ok (.bipush 6, 2) := by decide +kernel
theorem dX3_setBound_59 : decode cX3_setBound 59 = .ok (.invokevirtual 64, 3) := by decide +kernel
theorem dX3_setBound_62 : decode cX3_setBound 62 = .ok (.iload_n 2, 1) := by decide +kernel
theorem dX3_setBound_63 : decode cX3_setBound 63 = .ok (.invokevirtual 84, 3) := by decide +kernel
theorem dX3_setBound_66 : decode cX3_setBound 66 = .ok (.aload_n 0, 1) := by decide +kernel
theorem dX3_setBound_67 : decode cX3_setBound 67 = .ok (.getfield 10, 3) := by decide +kernel
theorem dX3_setBound_70 : decode cX3_setBound 70 = .ok (.invokevirtual 54, 3) := by decide +kernel
theorem dX3_setBound_73 : decode cX3_setBound 73 = .ok (.iload_n 3, 1) := by decide +kernel
theorem dX3_setBound_74 : decode cX3_setBound 74 = .ok (.ireturn, 1) := by decide +kernel
theorem dX3_setSource_0 : decode cX3_setSource 0 = .ok (.iload_n 1, 1) := by decide +kernel
theorem dX3_setSource_1 : decode cX3_setSource 1 = .ok (.iconst 1, 1) := by decide +kernel
theorem dX3_setSource_2 : decode cX3_setSource 2 = .ok (.bipush 8, 2) := by decide +kernel
theorem dX3_setSource_4 : decode cX3_setSource 4 = .ok (.invokestatic 32, 3) := by decide +kernel
theorem dX3_setSource_7 : decode cX3_setSource 7 = .ok (.aload_n 0, 1) := by decide +kernel
theorem dX3_setSource_8 : decode cX3_setSource 8 = .ok (.getfield 24, 3) := by decide +kernel
theorem dX3_setSource_11 : decode cX3_setSource 11 = .ok (.aload_n 0, 1) := by decide +kernel
theorem dX3_setSource_12 : decode cX3_setSource 12 = .ok (.getfield 20, 3) := by decide +kernel
theorem dX3_setSource_15 : decode cX3_setSource 15 = .ok (.invokevirtual 47, 3) := by decide +kernel
theorem dX3_setSource_18 : decode cX3_setSource 18 = .ok (.aload_n 0, 1) := by decide +kernel
theorem dX3_setSource_19 : decode cX3_setSource 19 = .ok (.getfield 20, 3) := by decide +kernel
theorem dX3_setSource_22 : decode cX3_setSource 22 = .ok (.bipush 9, 2) := by decide +kernel
theorem dX3_setSource_24 : decode cX3_setSource 24 = .ok (.invokevirtual 78, 3) := by decide +kernel
theorem dX3_setSource_27 : decode cX3_setSource 27 = .ok (.istore_n 2, 1) := by decide +kernel
theorem dX3_setSource_28 : decode cX3_setSource 28 = .ok (.aload_n 0, 1) := by decide +kernel
theorem dX3_setSource_29 : decode cX3_setSource 29 = .ok (.getfield 20, 3) := by decide +kernel
theorem dX3_setSource_32 : decode cX3_setSource 32 = .ok (.bipush 9, 2) := by decide +kernel
theorem dX3_setSource_34 : decode cX3_setSource 34 = .ok (.iload_n 1, 1) := by decide +kernel
theorem dX3_setSource_35 : decode cX3_setSource 35 = .ok (.invokevirtual 87, 3) := by decide +kernel
theorem dX3_setSource_38 : decode cX3_setSource 38 = .ok (.iconst 0, 1) := by decide +kernel
theorem dX3_setSource_39 : decode cX3_setSource 39 = .ok (.istore_n 3, 1) := by decide +kernel
theorem dX3_setSource_40 : decode cX3_setSource 40 = .ok (.iload_n 3, 1) := by decide +kernel
theorem dX3_setSource_41 : decode cX3_setSource 41 = .ok (.iconst 4, 1) := by decide +kernel
theorem dX3_setSource_42 : decode cX3_setSource 42 = .ok (.if_icmp .ge 20, 3) := by decide +kernel
theorem dX3_setSource_45 : decode cX3_setSource 45 = .ok (.aload_n 0, 1) := by decide +kernel
theorem dX3_setSource_46 : decode cX3_setSource 46 = .ok (.getfield 10, 3) := by decide +kernel
theorem dX3_setSource_49 : decode cX3_setSource 49 = .ok (.bipush 100, 2) := by decide +kernel
theorem dX3_setSource_51 : decode cX3_setSource 51 = .ok (.iload_n 3, 1) := by decide +kernel
theorem dX3_setSource_52 : decode cX3_setSource 52 = .ok (.iload_n 1, 1) := by decide +kernel
theorem dX3_setSource_53 : decode cX3_setSource 53 = .ok (.invokevirtual 84, 3) := by decide +kernel
theorem dX3_setSource_56 : decode cX3_setSource 56 = .ok (.iinc 3 1, 3) := by decide +kernel
theorem dX3_setSource_59 : decode cX3_setSource 59 = .ok (.goto (-19), 3) := by decide +kernel
theorem dX3_setSource_62 : decode cX3_setSource 62 = .ok (.aload_n 0, 1) := by decide +kernel
theorem dX3_setSource_63 : decode cX3_setSource 63 = .ok (.getfield 10, 3) := by decide +kernel
theorem dX3_setSource_66 : decode cX3_setSource 66 = .ok (.invokevirtual 54, 3) := by decide +kernel
theorem dX3_setSource_69 : decode cX3_setSource 69 = .ok (.iload_n 2, 1) := by decide +kernel
theorem dX3_setSource_70 : decode cX3_setSource 70 = .ok (.ireturn, 1) := by decide +kernel
theorem dX3_setDelay_0 : decode cX3_setDelay 0 = .ok (.iload_n 1, 1) := by decide +kernel
theorem dX3_setDelay_1 : decode cX3_setDelay 1 = .ok (.iconst 1, 1) := by decide +kernel
theorem dX3_setDelay_2 : decode cX3_setDelay 2 = .ok (.bipush 20, 2) := by decide +kernel
theorem dX3_setDelay_4 : decode cX3_setDelay 4 = .ok (.invokestatic 32, 3) := by decide +kernel
theorem dX3_setDelay_7 : decode cX3_setDelay 7 = .ok (.aload_n 0, 1) := by decide +kernel
theorem dX3_setDelay_8 : decode cX3_setDelay 8 = .ok (.getfield 24, 3) := by decide +kernel
theorem dX3_setDelay_11 : decode cX3_setDelay 11 = .ok (.aload_n 0, 1) := by decide +kernel
theorem dX3_setDelay_12 : decode cX3_setDelay 12 = .ok (.getfield 20, 3) := by decide +kernel
theorem dX3_setDelay_15 : decode cX3_setDelay 15 = .ok (.invokevirtual 47, 3) := by decide +kernel
theorem dX3_setDelay_18 : decode cX3_setDelay 18 = .ok (.aload_n 0, 1) := by decide +kernel
theorem dX3_setDelay_19 : decode cX3_setDelay 19 = .ok (.getfield 20, 3) := by decide +kernel
theorem dX3_setDelay_22 : decode cX3_setDelay 22 = .ok (.bipush 10, 2) := by decide +kernel
theorem dX3_setDelay_24 : decode cX3_setDelay 24 = .ok (.invokevirtual 78, 3) := by decide +kernel
theorem dX3_setDelay_27 : decode cX3_setDelay 27 = .ok (.istore_n 2, 1) := by decide +kernel
theorem dX3_setDelay_28 : decode cX3_setDelay 28 = .ok (.aload_n 0, 1) := by decide +kernel
theorem dX3_setDelay_29 : decode cX3_setDelay 29 = .ok (.getfield 20, 3) := by decide +kernel
theorem dX3_setDelay_32 : decode cX3_setDelay 32 = .ok (.bipush 10, 2) := by decide +kernel
theorem dX3_setDelay_34 : decode cX3_setDelay 34 = .ok (.iload_n 1, 1) := by decide +kernel
theorem dX3_setDelay_35 : decode cX3_setDelay 35 = .ok (.invokevirtual 87, 3) := by decide +kernel
theorem dX3_setDelay_38 : decode cX3_setDelay 38 = .ok (.iload_n 2, 1) := by decide +kernel
theorem dX3_setDelay_39 : decode cX3_setDelay 39 = .ok (.ireturn, 1) := by decide +kernel
theorem dX3_repair_0 : decode cX3_repair 0 = .ok (.aload_n 0, 1) := by decide +kernel
theorem dX3_repair_1 : decode cX3_repair 1 = .ok (.getfield 24, 3) := by decide +kernel
theorem dX3_repair_4 : decode cX3_repair 4 = .ok (.aload_n 0, 1) := by decide +kernel
theorem dX3_repair_5 : decode cX3_repair 5 = .ok (.getfield 20, 3) := by decide +kernel
theorem dX3_repair_8 : decode cX3_repair 8 = .ok (.invokevirtual 47, 3) := by decide +kernel
theorem dX3_repair_11 : decode cX3_repair 11 = .ok (.aload_n 0, 1) := by decide +kernel
theorem dX3_repair_12 : decode cX3_repair 12 = .ok (.getfield 10, 3) := by decide +kernel
theorem dX3_repair_15 : decode cX3_repair 15 = .ok (.invokevirtual 54, 3) := by decide +kernel
theorem dX3_repair_18 : decode cX3_repair 18 = .ok (.iconst 0, 1) := by decide +kernel
theorem dX3_repair_19 : decode cX3_repair 19 = .ok (.istore_n 1, 1) := by decide +kernel
theorem dX3_repair_20 : decode cX3_repair 20 = .ok (.iconst 0, 1) := by decide +kernel
theorem dX3_repair_21 : decode cX3_repair 21 = .ok (.istore_n 2, 1) := by decide +kernel
theorem dX3_repair_22 : decode cX3_repair 22 = .ok (.iload_n 2, 1) := by decide +kernel
theorem dX3_repair_23 : decode cX3_repair 23 = .ok (.iconst 4, 1) := by decide +kernel
theorem dX3_repair_24 : decode cX3_repair 24 = .ok (.if_icmp .ge 20, 3) := by decide +kernel
theorem dX3_repair_27 : decode cX3_repair 27 = .ok (.iload_n 1, 1) := by decide +kernel
theorem dX3_repair_28 : decode cX3_repair 28 = .ok (.aload_n 0, 1) := by decide +kernel
theorem dX3_repair_29 : decode cX3_repair 29 = .ok (.getfield 10, 3) := by decide +kernel
theorem dX3_repair_32 : decode cX3_repair 32 = .ok (.iload_n 2, 1) := by decide +kernel
theorem dX3_repair_33 : decode cX3_repair 33 = .ok (.invokevirtual 91, 3) := by decide +kernel
theorem dX3_repair_36 : decode cX3_repair 36 = .ok (.iadd, 1) := by decide +kernel
theorem dX3_repair_37 : decode cX3_repair 37 = .ok (.istore_n 1, 1) := by decide +kernel
theorem dX3_repair_38 : decode cX3_repair 38 = .ok (.iinc 2 1, 3) := by decide +kernel
theorem dX3_repair_41 : decode cX3_repair 41 = .ok (.goto (-19), 3) := by decide +kernel
theorem dX3_repair_44 : decode cX3_repair 44 = .ok (.iload_n 1, 1) := by decide +kernel
theorem dX3_repair_45 : decode cX3_repair 45 = .ok (.ireturn, 1) := by decide +kernel
theorem dX3_rejoin_0 : decode cX3_rejoin 0 = .ok (.iload_n 1, 1) := by decide +kernel
theorem dX3_rejoin_1 : decode cX3_rejoin 1 = .ok (.invokestatic 28, 3) := by decide +kernel
theorem dX3_rejoin_4 : decode cX3_rejoin 4 = .ok (.iload_n 2, 1) := by decide +kernel
theorem dX3_rejoin_5 : decode cX3_rejoin 5 = .ok (.invokestatic 94, 3) := by decide +kernel
theorem dX3_rejoin_8 : decode cX3_rejoin 8 = .ok (.aload_n 0, 1) := by decide +kernel
theorem dX3_rejoin_9 : decode cX3_rejoin 9 = .ok (.iload_n 1, 1) := by decide +kernel
theorem dX3_rejoin_10 : decode cX3_rejoin 10 = .ok (.invokevirtual 61, 3) := by decide +kernel
theorem dX3_rejoin_13 : decode cX3_rejoin 13 = .ok (.aload_n 0, 1) := by decide +kernel
theorem dX3_rejoin_14 : decode cX3_rejoin 14 = .ok (.getfield 24, 3) := by decide +kernel
theorem dX3_rejoin_17 : decode cX3_rejoin 17 = .ok (.aload_n 0, 1) := by decide +kernel
theorem dX3_rejoin_18 : decode cX3_rejoin 18 = .ok (.getfield 20, 3) := by decide +kernel
theorem dX3_rejoin_21 : decode cX3_rejoin 21 = .ok (.invokevirtual 47, 3) := by decide +kernel
theorem dX3_rejoin_24 : decode cX3_rejoin 24 = .ok (.aload_n 0, 1) := by decide +kernel
theorem dX3_rejoin_25 : decode cX3_rejoin 25 = .ok (.getfield 20, 3) := by decide +kernel
theorem dX3_rejoin_28 : decode cX3_rejoin 28 = .ok (.iload_n 1, 1) := by decide +kernel
theorem dX3_rejoin_29 : decode cX3_rejoin 29 = .ok (.iload_n 2, 1) := by decide +kernel
theorem dX3_rejoin_30 : decode cX3_rejoin 30 = .ok (.iconst (-1), 1) := by decide +kernel
theorem dX3_rejoin_31 : decode cX3_rejoin 31 = .ok (.invokevirtual 97, 3) := by decide +kernel
theorem dX3_rejoin_34 : decode cX3_rejoin 34 = .ok (.aload_n 0, 1) := by decide +kernel
theorem dX3_rejoin_35 : decode cX3_rejoin 35 = .ok (.getfield 10, 3) := by decide +kernel
theorem dX3_rejoin_38 : decode cX3_rejoin 38 = .ok (.iload_n 1, 1) := by decide +kernel
theorem dX3_rejoin_39 : decode cX3_rejoin 39 = .ok (.iload_n 2, 1) := by decide +kernel
theorem dX3_rejoin_40 : decode cX3_rejoin 40 = .ok (.invokevirtual 100, 3) := by decide +kernel
theorem dX3_rejoin_43 : decode cX3_rejoin 43 = .ok (.aload_n 0, 1) := by decide +kernel
theorem dX3_rejoin_44 : decode cX3_rejoin 44 = .ok (.getfield 20, 3) := by decide +kernel
theorem dX3_rejoin_47 : decode cX3_rejoin 47 = .ok (.iload_n 1, 1) := by decide +kernel
theorem dX3_rejoin_48 : decode cX3_rejoin 48 = .ok (.iload_n 2, 1) := by decide +kernel
theorem dX3_rejoin_49 : decode cX3_rejoin 49 = .ok (.invokevirtual 103, 3) := by decide +kernel
theorem dX3_rejoin_52 : decode cX3_rejoin 52 = .ok (.ireturn, 1) := by decide +kernel
theorem dX3_tick_0 : decode cX3_tick 0 = .ok (.iload_n 1, 1) := by decide +kernel
theorem dX3_tick_1 : decode cX3_tick 1 = .ok (.iconst 1, 1) := by decide +kernel
theorem dX3_tick_2 : decode cX3_tick 2 = .ok (.sipush 200, 3) := by decide +kernel
theorem dX3_tick_5 : decode cX3_tick 5 = .ok (.invokestatic 32, 3) := by decide +kernel
theorem dX3_tick_8 : decode cX3_tick 8 = .ok (.aload_n 0, 1) := by decide +kernel
theorem dX3_tick_9 : decode cX3_tick 9 = .ok (.getfield 24, 3) := by decide +kernel
theorem dX3_tick_12 : decode cX3_tick 12 = .ok (.aload_n 0, 1) := by decide +kernel
theorem dX3_tick_13 : decode cX3_tick 13 = .ok (.getfield 20, 3) := by decide +kernel
theorem dX3_tick_16 : decode cX3_tick 16 = .ok (.invokevirtual 47, 3) := by decide +kernel
theorem dX3_tick_19 : decode cX3_tick 19 = .ok (.iconst 0, 1) := by decide +kernel
theorem dX3_tick_20 : decode cX3_tick 20 = .ok (.istore_n 2, 1) := by decide +kernel
theorem dX3_tick_21 : decode cX3_tick 21 = .ok (.iconst 1, 1) := by decide +kernel
theorem dX3_tick_22 : decode cX3_tick 22 = .ok (.istore_n 3, 1) := by decide +kernel
theorem dX3_tick_23 : decode cX3_tick 23 = .ok (.iload_n 1, 1) := by decide +kernel
theorem dX3_tick_24 : decode cX3_tick 24 = .ok (.istore 4, 2) := by decide +kernel
theorem dX3_tick_26 : decode cX3_tick 26 = .ok (.iload 4, 2) := by decide +kernel
theorem dX3_tick_28 : decode cX3_tick 28 = .ok (.ifCond .le 62, 3) := by decide +kernel
theorem dX3_tick_31 : decode cX3_tick 31 = .ok (.aload_n 0, 1) := by decide +kernel
theorem dX3_tick_32 : decode cX3_tick 32 = .ok (.getfield 20, 3) := by decide +kernel
theorem dX3_tick_35 : decode cX3_tick 35 = .ok (.bipush 8, 2) := by decide +kernel
theorem dX3_tick_37 : decode cX3_tick 37 = .ok (.iconst 1, 1) := by decide +kernel
theorem dX3_tick_38 : decode cX3_tick 38 = .ok (.invokevirtual 106, 3) := by decide +kernel
theorem dX3_tick_41 : decode cX3_tick 41 = .ok (.aload_n 0, 1) := by decide +kernel
theorem dX3_tick_42 : decode cX3_tick 42 = .ok (.invokevirtual 109, 3) := by decide +kernel
theorem dX3_tick_45 : decode cX3_tick 45 = .ok (.iconst 1, 1) := by decide +kernel
theorem dX3_tick_46 : decode cX3_tick 46 = .ok (.iload 4, 2) := by decide +kernel
theorem dX3_tick_48 : decode cX3_tick 48 = .ok (.iconst 1, 1) := by decide +kernel
theorem dX3_tick_49 : decode cX3_tick 49 = .ok (.aload_n 0, 1) := by decide +kernel
theorem dX3_tick_50 : decode cX3_tick 50 = .ok (.invokevirtual 112, 3) := by decide +kernel
theorem dX3_tick_53 : decode cX3_tick 53 = .ok (.iadd, 1) := by decide +kernel
theorem dX3_tick_54 : decode cX3_tick 54 = .ok (.invokestatic 116, 3) := by decide +kernel
theorem dX3_tick_57 : decode cX3_tick 57 = .ok (.invokestatic 121, 3) := by decide +kernel
theorem dX3_tick_60 : decode cX3_tick 60 = .ok (.istore_n 3, 1) := by decide +kernel
theorem dX3_tick_61 : decode cX3_tick 61 = .ok (.iload_n 2, 1) := by decide +kernel
theorem dX3_tick_62 : decode cX3_tick 62 = .ok (.aload_n 0, 1) := by decide +kernel
theorem dX3_tick_63 : decode cX3_tick 63 = .ok (.iload_n 3, 1) := by decide +kernel
theorem dX3_tick_64 : decode cX3_tick 64 = .ok (.invokevirtual 124, 3) := by decide +kernel
theorem dX3_tick_67 : decode cX3_tick 67 = .ok (.iadd, 1) := by decide +kernel
theorem dX3_tick_68 : decode cX3_tick 68 = .ok (.istore_n 2, 1) := by decide +kernel
theorem dX3_tick_69 : decode cX3_tick 69 = .ok (.aload_n 0, 1) := by decide +kernel
theorem dX3_tick_70 : decode cX3_tick 70 = .ok (.getfield 20, 3) := by decide +kernel
theorem dX3_tick_73 : decode cX3_tick 73 = .ok (.bipush 8, 2) := by decide +kernel
theorem dX3_tick_75 : decode cX3_tick 75 = .ok (.iload_n 3, 1) := by decide +kernel
theorem dX3_tick_76 : decode cX3_tick 76 = .ok (.iconst 1, 1) := by decide +kernel
theorem dX3_tick_77 : decode cX3_tick 77 = .ok (.isub, 1) := by decide +kernel
theorem dX3_tick_78 : decode cX3_tick 78 = .ok (.invokevirtual 106, 3) := by decide +kernel
theorem dX3_tick_81 : decode cX3_tick 81 = .ok (.iload 4, 2) := by decide +kernel
theorem dX3_tick_83 : decode cX3_tick 83 = .ok (.iload_n 3, 1) := by decide +kernel
theorem dX3_tick_84 : decode cX3_tick 84 = .ok (.isub, 1) := by decide +kernel
theorem dX3_tick_85 : decode cX3_tick 85 = .ok (.istore 4, 2) := by decide +kernel
theorem dX3_tick_87 : decode cX3_tick 87 = .ok (.goto (-61), 3) := by decide +kernel
theorem dX3_tick_90 : decode cX3_tick 90 = .ok (.iload_n 2, 1) := by decide +kernel
theorem dX3_tick_91 : decode cX3_tick 91 = .ok (.ireturn, 1) := by decide +kernel
theorem dX3_time_0 : decode cX3_time 0 = .ok (.aload_n 0, 1) := by decide +kernel
theorem dX3_time_1 : decode cX3_time 1 = .ok (.getfield 20, 3) := by decide +kernel
theorem dX3_time_4 : decode cX3_time 4 = .ok (.bipush 8, 2) := by decide +kernel
theorem dX3_time_6 : decode cX3_time 6 = .ok (.invokevirtual 78, 3) := by decide +kernel
theorem dX3_time_9 : decode cX3_time 9 = .ok (.ireturn, 1) := by decide +kernel
theorem dX3_member_0 : decode cX3_member 0 = .ok (.iload_n 1, 1) := by decide +kernel
theorem dX3_member_1 : decode cX3_member 1 = .ok (.invokestatic 28, 3) := by decide +kernel
theorem dX3_member_4 : decode cX3_member 4 = .ok (.iload_n 2, 1) := by decide +kernel
theorem dX3_member_5 : decode cX3_member 5 = .ok (.iconst 0, 1) := by decide +kernel
theorem dX3_member_6 : decode cX3_member 6 = .ok (.bipush 9, 2) := by decide +kernel
theorem dX3_member_8 : decode cX3_member 8 = .ok (.invokestatic 32, 3) := by decide +kernel
theorem dX3_member_11 : decode cX3_member 11 = .ok (.aload_n 0, 1) := by decide +kernel
theorem dX3_member_12 : decode cX3_member 12 = .ok (.getfield 20, 3) := by decide +kernel
theorem dX3_member_15 : decode cX3_member 15 = .ok (.iload_n 1, 1) := by decide +kernel
theorem dX3_member_16 : decode cX3_member 16 = .ok (.iload_n 2, 1) := by decide +kernel
theorem dX3_member_17 : decode cX3_member 17 = .ok (.invokevirtual 64, 3) := by decide +kernel
theorem dX3_member_20 : decode cX3_member 20 = .ok (.ireturn, 1) := by decide +kernel
theorem dX3_parent_0 : decode cX3_parent 0 = .ok (.iload_n 1, 1) := by decide +kernel
theorem dX3_parent_1 : decode cX3_parent 1 = .ok (.invokestatic 28, 3) := by decide +kernel
theorem dX3_parent_4 : decode cX3_parent 4 = .ok (.iload_n 2, 1) := by decide +kernel
theorem dX3_parent_5 : decode cX3_parent 5 = .ok (.invokestatic 94, 3) := by decide +kernel
theorem dX3_parent_8 : decode cX3_parent 8 = .ok (.aload_n 0, 1) := by decide +kernel
theorem dX3_parent_9 : decode cX3_parent 9 = .ok (.iload_n 1, 1) := by decide +kernel
theorem dX3_parent_10 : decode cX3_parent 10 = .ok (.invokevirtual 61, 3) := by decide +kernel
theorem dX3_parent_13 : decode cX3_parent 13 = .ok (.aload_n 0, 1) := by decide +kernel
theorem dX3_parent_14 : decode cX3_parent 14 = .ok (.getfield 20, 3) := by decide +kernel
theorem dX3_parent_17 : decode cX3_parent 17 = .ok (.iload_n 1, 1) := by decide +kernel
theorem dX3_parent_18 : decode cX3_parent 18 = .ok (.iload_n 2, 1) := by decide +kernel
theorem dX3_parent_19 : decode cX3_parent 19 = .ok (.invokevirtual 103, 3) := by decide +kernel
theorem dX3_parent_22 : decode cX3_parent 22 = .ok (.ireturn, 1) := by decide +kernel
theorem dX3_depth_0 : decode cX3_depth 0 = .ok (.iload_n 1, 1) := by decide +kernel
theorem dX3_depth_1 : decode cX3_depth 1 = .ok (.invokestatic 28, 3) := by decide +kernel
theorem dX3_depth_4 : decode cX3_depth 4 = .ok (.iload_n 2, 1) := by decide +kernel
theorem dX3_depth_5 : decode cX3_depth 5 = .ok (.invokestatic 94, 3) := by decide +kernel
theorem dX3_depth_8 : decode cX3_depth 8 = .ok (.aload_n 0, 1) := by decide +kernel
theorem dX3_depth_9 : decode cX3_depth 9 = .ok (.iload_n 1, 1) := by decide +kernel
theorem dX3_depth_10 : decode cX3_depth 10 = .ok (.invokevirtual 61, 3) := by decide +kernel
theorem dX3_depth_13 : decode cX3_depth 13 = .ok (.aload_n 0, 1) := by decide +kernel
theorem dX3_depth_14 : decode cX3_depth 14 = .ok (.getfield 10, 3) := by decide +kernel
theorem dX3_depth_17 : decode cX3_depth 17 = .ok (.iload_n 1, 1) := by decide +kernel
theorem dX3_depth_18 : decode cX3_depth 18 = .ok (.iload_n 2, 1) := by decide +kernel
theorem dX3_depth_19 : decode cX3_depth 19 = .ok (.invokevirtual 127, 3) := by decide +kernel
theorem dX3_depth_22 : decode cX3_depth 22 = .ok (.ireturn, 1) := by decide +kernel
theorem dX3_child_0 : decode cX3_child 0 = .ok (.iload_n 1, 1) := by decide +kernel
theorem dX3_child_1 : decode cX3_child 1 = .ok (.invokestatic 130, 3) := by decide +kernel
theorem dX3_child_4 : decode cX3_child 4 = .ok (.iload_n 2, 1) := by decide +kernel
theorem dX3_child_5 : decode cX3_child 5 = .ok (.invokestatic 94, 3) := by decide +kernel
theorem dX3_child_8 : decode cX3_child 8 = .ok (.iload_n 3, 1) := by decide +kernel
theorem dX3_child_9 : decode cX3_child 9 = .ok (.ifCond .ge 13, 3) := by decide +kernel
theorem dX3_child_12 : decode cX3_child 12 = .ok (.new 133, 3) := by decide +kernel
theorem dX3_child_15 : decode cX3_child 15 = .ok (.dup, 1) := by decide +kernel
theorem dX3_child_16 : decode cX3_child 16 = .ok (.ldc 135, 2) := by decide +kernel
theorem dX3_child_18 : decode cX3_child 18 = .ok (.invokespecial 137, 3) := by decide +kernel
theorem dX3_child_21 : decode cX3_child 21 = .ok (.athrow, 1) := by decide +kernel
theorem dX3_child_22 : decode cX3_child 22 = .ok (.aload_n 0, 1) := by decide +kernel
theorem dX3_child_23 : decode cX3_child 23 = .ok (.iload_n 1, 1) := by decide +kernel
theorem dX3_child_24 : decode cX3_child 24 = .ok (.invokevirtual 138, 3) := by decide +kernel
theorem dX3_child_27 : decode cX3_child 27 = .ok (.aload_n 0, 1) := by decide +kernel
theorem dX3_child_28 : decode cX3_child 28 = .ok (.getfield 10, 3) := by decide +kernel
theorem dX3_child_31 : decode cX3_child 31 = .ok (.iload_n 1, 1) := by decide +kernel
theorem dX3_child_32 : decode cX3_child 32 = .ok (.iload_n 2, 1) := by decide +kernel
theorem dX3_child_33 : decode cX3_child 33 = .ok (.iload_n 3, 1) := by decide +kernel
theorem dX3_child_34 : decode cX3_child 34 = .ok (.invokevirtual 141, 3) := by decide +kernel
theorem dX3_child_37 : decode cX3_child 37 = .ok (.ireturn, 1) := by decide +kernel
theorem dX3_subtree_0 : decode cX3_subtree 0 = .ok (.iload_n 1, 1) := by decide +kernel
theorem dX3_subtree_1 : decode cX3_subtree 1 = .ok (.invokestatic 28, 3) := by decide +kernel
theorem dX3_subtree_4 : decode cX3_subtree 4 = .ok (.iload_n 2, 1) := by decide +kernel
theorem dX3_subtree_5 : decode cX3_subtree 5 = .ok (.invokestatic 94, 3) := by decide +kernel
theorem dX3_subtree_8 : decode cX3_subtree 8 = .ok (.aload_n 0, 1) := by decide +kernel
theorem dX3_subtree_9 : decode cX3_subtree 9 = .ok (.iload_n 1, 1) := by decide +kernel
theorem dX3_subtree_10 : decode cX3_subtree 10 = .ok (.invokevirtual 61, 3) := by decide +kernel
theorem dX3_subtree_13 : decode cX3_subtree 13 = .ok (.aload_n 0, 1) := by decide +kernel
theorem dX3_subtree_14 : decode cX3_subtree 14 = .ok (.getfield 10, 3) := by decide +kernel
theorem dX3_subtree_17 : decode cX3_subtree 17 = .ok (.iload_n 1, 1) := by decide +kernel
theorem dX3_subtree_18 : decode cX3_subtree 18 = .ok (.iload_n 2, 1) := by decide +kernel
theorem dX3_subtree_19 : decode cX3_subtree 19 = .ok (.invokevirtual 145, 3) := by decide +kernel
theorem dX3_subtree_22 : decode cX3_subtree 22 = .ok (.ireturn, 1) := by decide +kernel
theorem dX3_hasRoom_0 : decode cX3_hasRoom 0 = .ok (.iload_n 1, 1) := by decide +kernel
theorem dX3_hasRoom_1 : decode cX3_hasRoom 1 = .ok (.invokestatic 130, 3) := by decide +kernel
theorem dX3_hasRoom_4 : decode cX3_hasRoom 4 = .ok (.iload_n 2, 1) := by decide +kernel
theorem dX3_hasRoom_5 : decode cX3_hasRoom 5 = .ok (.invokestatic 94, 3) := by decide +kernel
theorem dX3_hasRoom_8 : decode cX3_hasRoom 8 = .ok (.aload_n 0, 1) := by decide +kernel
theorem dX3_hasRoom_9 : decode cX3_hasRoom 9 = .ok (.iload_n 1, 1) := by decide +kernel
theorem dX3_hasRoom_10 : decode cX3_hasRoom 10 = .ok (.invokevirtual 138, 3) := by decide +kernel
theorem dX3_hasRoom_13 : decode cX3_hasRoom 13 = .ok (.aload_n 0, 1) := by decide +kernel
theorem dX3_hasRoom_14 : decode cX3_hasRoom 14 = .ok (.getfield 10, 3) := by decide +kernel
theorem dX3_hasRoom_17 : decode cX3_hasRoom 17 = .ok (.iload_n 1, 1) := by decide +kernel
theorem dX3_hasRoom_18 : decode cX3_hasRoom 18 = .ok (.iload_n 2, 1) := by decide +kernel
theorem dX3_hasRoom_19 : decode cX3_hasRoom 19 = .ok (.invokevirtual 148, 3) := by decide +kernel
theorem dX3_hasRoom_22 : decode cX3_hasRoom 22 = .ok (.ireturn, 1) := by decide +kernel
theorem dX3_ranksBefore_0 : decode cX3_ranksBefore 0 = .ok (.iload_n 1, 1) := by decide +kernel
theorem dX3_ranksBefore_1 : decode cX3_ranksBefore 1 = .ok (.invokestatic 28, 3) := by decide +kernel
theorem dX3_ranksBefore_4 : decode cX3_ranksBefore 4 = .ok (.iload_n 2, 1) := by decide +kernel
theorem dX3_ranksBefore_5 : decode cX3_ranksBefore 5 = .ok (.invokestatic 28, 3) := by decide +kernel
theorem dX3_ranksBefore_8 : decode cX3_ranksBefore 8 = .ok (.iload_n 3, 1) := by decide +kernel
theorem dX3_ranksBefore_9 : decode cX3_ranksBefore 9 = .ok (.invokestatic 94, 3) := by decide +kernel
theorem dX3_ranksBefore_12 : decode cX3_ranksBefore 12 = .ok (.iload_n 1, 1) := by decide +kernel
theorem dX3_ranksBefore_13 : decode cX3_ranksBefore 13 = .ok (.iload_n 2, 1) := by decide +kernel
theorem dX3_ranksBefore_14 : decode cX3_ranksBefore 14 = .ok (.if_icmp .ne 13, 3) := by decide +kernel
theorem dX3_ranksBefore_17 : decode cX3_ranksBefore 17 = .ok (.new 133, 3) := by decide +kernel
theorem dX3_ranksBefore_20 : decode cX3_ranksBefore 20 = .ok (.dup, 1) := by decide +kernel
theorem dX3_ranksBefore_21 : decode cX3_ranksBefore 21 = .ok (.ldc 152, 2) := by decide +kernel
theorem dX3_ranksBefore_23 : decode cX3_ranksBefore 23 = .ok (.invokespecial 137, 3) := by decide +kernel
theorem dX3_ranksBefore_26 : decode cX3_ranksBefore 26 = .ok (.athrow, 1) := by decide +kernel
theorem dX3_ranksBefore_27 : decode cX3_ranksBefore 27 = .ok (.aload_n 0, 1) := by decide +kernel
theorem dX3_ranksBefore_28 : decode cX3_ranksBefore 28 = .ok (.iload_n 1, 1) := by decide +kernel
theorem dX3_ranksBefore_29 : decode cX3_ranksBefore 29 = .ok (.invokevirtual 61, 3) := by decide +kernel
theorem dX3_ranksBefore_32 : decode cX3_ranksBefore 32 = .ok (.aload_n 0, 1) := by decide +kernel
theorem dX3_ranksBefore_33 : decode cX3_ranksBefore 33 = .ok (.iload_n 2, 1) := by decide +kernel
theorem dX3_ranksBefore_34 : decode cX3_ranksBefore 34 = .ok (.invokevirtual 61, 3) := by decide +kernel
theorem dX3_ranksBefore_37 : decode cX3_ranksBefore 37 = .ok (.aload_n 0, 1) := by decide +kernel
theorem dX3_ranksBefore_38 : decode cX3_ranksBefore 38 = .ok (.getfield 10, 3) := by decide +kernel
theorem dX3_ranksBefore_41 : decode cX3_ranksBefore 41 = .ok (.iload_n 1, 1) := by decide +kernel
theorem dX3_ranksBefore_42 : decode cX3_ranksBefore 42 = .ok (.iload_n 2, 1) := by decide +kernel
theorem dX3_ranksBefore_43 : decode cX3_ranksBefore 43 = .ok (.iload_n 3, 1) := by decide +kernel
theorem dX3_ranksBefore_44 : decode cX3_ranksBefore 44 = .ok (.invokevirtual 154, 3) := by decide +kernel
theorem dX3_ranksBefore_47 : decode cX3_ranksBefore 47 = .ok (.ireturn, 1) := by decide +kernel
theorem dX3_harm_0 : decode cX3_harm 0 = .ok (.iload_n 1, 1) := by decide +kernel
theorem dX3_harm_1 : decode cX3_harm 1 = .ok (.invokestatic 28, 3) := by decide +kernel
theorem dX3_harm_4 : decode cX3_harm 4 = .ok (.aload_n 0, 1) := by decide +kernel
theorem dX3_harm_5 : decode cX3_harm 5 = .ok (.iload_n 1, 1) := by decide +kernel
theorem dX3_harm_6 : decode cX3_harm 6 = .ok (.invokevirtual 61, 3) := by decide +kernel
theorem dX3_harm_9 : decode cX3_harm 9 = .ok (.aload_n 0, 1) := by decide +kernel
theorem dX3_harm_10 : decode cX3_harm 10 = .ok (.getfield 20, 3) := by decide +kernel
theorem dX3_harm_13 : decode cX3_harm 13 = .ok (.iload_n 1, 1) := by decide +kernel
theorem dX3_harm_14 : decode cX3_harm 14 = .ok (.bipush 6, 2) := by decide +kernel
theorem dX3_harm_16 : decode cX3_harm 16 = .ok (.invokevirtual 64, 3) := by decide +kernel
theorem dX3_harm_19 : decode cX3_harm 19 = .ok (.istore_n 2, 1) := by decide +kernel
theorem dX3_harm_20 : decode cX3_harm 20 = .ok (.iconst 0, 1) := by decide +kernel
theorem dX3_harm_21 : decode cX3_harm 21 = .ok (.istore_n 3, 1) := by decide +kernel
theorem dX3_harm_22 : decode cX3_harm 22 = .ok (.iconst 0, 1) := by decide +kernel
theorem dX3_harm_23 : decode cX3_harm 23 = .ok (.istore 4, 2) := by decide +kernel
theorem dX3_harm_25 : decode cX3_harm 25 = .ok (.iload 4, 2) := by decide +kernel
theorem dX3_harm_27 : decode cX3_harm 27 = .ok (.bipush 32, 2) := by decide +kernel
theorem dX3_harm_29 : decode cX3_harm 29 = .ok (.if_icmp .ge 45, 3) := by decide +kernel
theorem dX3_harm_32 : decode cX3_harm 32 = .ok (.iload 4, 2) := by decide +kernel
theorem dX3_harm_34 : decode cX3_harm 34 = .ok (.iload_n 1, 1) := by decide +kernel
theorem dX3_harm_35 : decode cX3_harm 35 = .ok (.if_icmp .eq 33, 3) := by decide +kernel
theorem dX3_harm_38 : decode cX3_harm 38 = .ok (.aload_n 0, 1) := by decide +kernel
theorem dX3_harm_39 : decode cX3_harm 39 = .ok (.getfield 10, 3) := by decide +kernel
theorem dX3_harm_42 : decode cX3_harm 42 = .ok (.iload 4, 2) := by decide +kernel
theorem dX3_harm_44 : decode cX3_harm 44 = .ok (.iload_n 1, 1) := by decide +kernel
theorem dX3_harm_45 : decode cX3_harm 45 = .ok (.iload_n 2, 1) := by decide +kernel
theorem dX3_harm_46 : decode cX3_harm 46 = .ok (.invokevirtual 158, 3) := by decide +kernel
theorem dX3_harm_49 : decode cX3_harm 49 = .ok (.ifCond .eq 19, 3) := by decide +kernel
theorem dX3_harm_52 : decode cX3_harm 52 = .ok (.aload_n 0, 1) := by decide +kernel
theorem dX3_harm_53 : decode cX3_harm 53 = .ok (.getfield 10, 3) := by decide +kernel
theorem dX3_harm_56 : decode cX3_harm 56 = .ok (.iload 4, 2) := by decide +kernel
theorem dX3_harm_58 : decode cX3_harm 58 = .ok (.iload_n 2, 1) := by decide +kernel
theorem dX3_harm_59 : decode cX3_harm 59 = .ok (.invokevirtual 161, 3) := by decide +kernel
theorem dX3_harm_62 : decode cX3_harm 62 = .ok (.ifCond .eq 6, 3) := by decide +kernel
theorem dX3_harm_65 : decode cX3_harm 65 = .ok (.iinc 3 1, 3) := by decide +kernel
theorem dX3_harm_68 : decode cX3_harm 68 = .ok (.iinc 4 1, 3) := by decide +kernel
theorem dX3_harm_71 : decode cX3_harm 71 = .ok (.goto (-46), 3) := by decide +kernel
theorem dX3_harm_74 : decode cX3_harm 74 = .ok (.iload_n 3, 1) := by decide +kernel
theorem dX3_harm_75 : decode cX3_harm 75 = .ok (.ireturn, 1) := by decide +kernel
theorem dX3_pieces_0 : decode cX3_pieces 0 = .ok (.iload_n 1, 1) := by decide +kernel
theorem dX3_pieces_1 : decode cX3_pieces 1 = .ok (.invokestatic 28, 3) := by decide +kernel
theorem dX3_pieces_4 : decode cX3_pieces 4 = .ok (.aload_n 0, 1) := by decide +kernel
theorem dX3_pieces_5 : decode cX3_pieces 5 = .ok (.iload_n 1, 1) := by decide +kernel
theorem dX3_pieces_6 : decode cX3_pieces 6 = .ok (.invokevirtual 61, 3) := by decide +kernel
theorem dX3_pieces_9 : decode cX3_pieces 9 = .ok (.aload_n 0, 1) := by decide +kernel
theorem dX3_pieces_10 : decode cX3_pieces 10 = .ok (.getfield 10, 3) := by decide +kernel
theorem dX3_pieces_13 : decode cX3_pieces 13 = .ok (.iload_n 1, 1) := by decide +kernel
theorem dX3_pieces_14 : decode cX3_pieces 14 = .ok (.invokevirtual 164, 3) := by decide +kernel
theorem dX3_pieces_17 : decode cX3_pieces 17 = .ok (.ireturn, 1) := by decide +kernel
theorem dX3_stripe_0 : decode cX3_stripe 0 = .ok (.iload_n 1, 1) := by decide +kernel
theorem dX3_stripe_1 : decode cX3_stripe 1 = .ok (.invokestatic 94, 3) := by decide +kernel
theorem dX3_stripe_4 : decode cX3_stripe 4 = .ok (.iload_n 2, 1) := by decide +kernel
theorem dX3_stripe_5 : decode cX3_stripe 5 = .ok (.iconst 0, 1) := by decide +kernel
theorem dX3_stripe_6 : decode cX3_stripe 6 = .ok (.iconst 5, 1) := by decide +kernel
theorem dX3_stripe_7 : decode cX3_stripe 7 = .ok (.invokestatic 32, 3) := by decide +kernel
theorem dX3_stripe_10 : decode cX3_stripe 10 = .ok (.iload_n 2, 1) := by decide +kernel
theorem dX3_stripe_11 : decode cX3_stripe 11 = .ok (.tableswitch 80 0 4 #[33, 42, 51, 60, 71], 33) := by decide +kernel
theorem dX3_stripe_44 : decode cX3_stripe 44 = .ok (.aload_n 0, 1) := by decide +kernel
theorem dX3_stripe_45 : decode cX3_stripe 45 = .ok (.getfield 10, 3) := by decide +kernel
theorem dX3_stripe_48 : decode cX3_stripe 48 = .ok (.iload_n 1, 1) := by decide +kernel
theorem dX3_stripe_49 : decode cX3_stripe 49 = .ok (.invokevirtual 167, 3) := by decide +kernel
theorem dX3_stripe_52 : decode cX3_stripe 52 = .ok (.ireturn, 1) := by decide +kernel
theorem dX3_stripe_53 : decode cX3_stripe 53 = .ok (.aload_n 0, 1) := by decide +kernel
theorem dX3_stripe_54 : decode cX3_stripe 54 = .ok (.getfield 10, 3) := by decide +kernel
theorem dX3_stripe_57 : decode cX3_stripe 57 = .ok (.iload_n 1, 1) := by decide +kernel
theorem dX3_stripe_58 : decode cX3_stripe 58 = .ok (.invokevirtual 91, 3) := by decide +kernel
theorem dX3_stripe_61 : decode cX3_stripe 61 = .ok (.ireturn, 1) := by decide +kernel
theorem dX3_stripe_62 : decode cX3_stripe 62 = .ok (.aload_n 0, 1) := by decide +kernel
theorem dX3_stripe_63 : decode cX3_stripe 63 = .ok (.getfield 10, 3) := by decide +kernel
theorem dX3_stripe_66 : decode cX3_stripe 66 = .ok (.iload_n 1, 1) := by decide +kernel
theorem dX3_stripe_67 : decode cX3_stripe 67 = .ok (.invokevirtual 170, 3) := by decide +kernel
theorem dX3_stripe_70 : decode cX3_stripe 70 = .ok (.ireturn, 1) := by decide +kernel
theorem dX3_stripe_71 : decode cX3_stripe 71 = .ok (.aload_n 0, 1) := by decide +kernel
theorem dX3_stripe_72 : decode cX3_stripe 72 = .ok (.getfield 10, 3) := by decide +kernel
theorem dX3_stripe_75 : decode cX3_stripe 75 = .ok (.bipush 100, 2) := by decide +kernel
theorem dX3_stripe_77 : decode cX3_stripe 77 = .ok (.iload_n 1, 1) := by decide +kernel
theorem dX3_stripe_78 : decode cX3_stripe 78 = .ok (.invokevirtual 173, 3) := by decide +kernel
theorem dX3_stripe_81 : decode cX3_stripe 81 = .ok (.ireturn, 1) := by decide +kernel
theorem dX3_stripe_82 : decode cX3_stripe 82 = .ok (.aload_n 0, 1) := by decide +kernel
theorem dX3_stripe_83 : decode cX3_stripe 83 = .ok (.getfield 10, 3) := by decide +kernel
theorem dX3_stripe_86 : decode cX3_stripe 86 = .ok (.iload_n 1, 1) := by decide +kernel
theorem dX3_stripe_87 : decode cX3_stripe 87 = .ok (.invokevirtual 176, 3) := by decide +kernel
theorem dX3_stripe_90 : decode cX3_stripe 90 = .ok (.ireturn, 1) := by decide +kernel
theorem dX3_stripe_91 : decode cX3_stripe 91 = .ok (.aload_n 0, 1) := by decide +kernel
theorem dX3_stripe_92 : decode cX3_stripe 92 = .ok (.getfield 10, 3) := by decide +kernel
theorem dX3_stripe_95 : decode cX3_stripe 95 = .ok (.iload_n 1, 1) := by decide +kernel
theorem dX3_stripe_96 : decode cX3_stripe 96 = .ok (.invokevirtual 179, 3) := by decide +kernel
theorem dX3_stripe_99 : decode cX3_stripe 99 = .ok (.ireturn, 1) := by decide +kernel
theorem dX3_count_0 : decode cX3_count 0 = .ok (.iload_n 1, 1) := by decide +kernel
theorem dX3_count_1 : decode cX3_count 1 = .ok (.iconst 0, 1) := by decide +kernel
theorem dX3_count_2 : decode cX3_count 2 = .ok (.bipush 7, 2) := by decide +kernel
theorem dX3_count_4 : decode cX3_count 4 = .ok (.invokestatic 32, 3) := by decide +kernel
theorem dX3_count_7 : decode cX3_count 7 = .ok (.aload_n 0, 1) := by decide +kernel
theorem dX3_count_8 : decode cX3_count 8 = .ok (.getfield 20, 3) := by decide +kernel
theorem dX3_count_11 : decode cX3_count 11 = .ok (.iload_n 1, 1) := by decide +kernel
theorem dX3_count_12 : decode cX3_count 12 = .ok (.invokevirtual 78, 3) := by decide +kernel
theorem dX3_count_15 : decode cX3_count 15 = .ok (.ireturn, 1) := by decide +kernel
theorem dX3_undo_0 : decode cX3_undo 0 = .ok (.aload_n 0, 1) := by decide +kernel
theorem dX3_undo_1 : decode cX3_undo 1 = .ok (.getfield 24, 3) := by decide +kernel
theorem dX3_undo_4 : decode cX3_undo 4 = .ok (.invokevirtual 182, 3) := by decide +kernel
theorem dX3_undo_7 : decode cX3_undo 7 = .ok (.ifCond .ne 13, 3) := by decide +kernel
theorem dX3_undo_10 : decode cX3_undo 10 = .ok (.new 40, 3) := by decide +kernel
theorem dX3_undo_13 : decode cX3_undo 13 = .ok (.dup, 1) := by decide +kernel
theorem dX3_undo_14 : decode cX3_undo 14 = .ok (.ldc 185, 2) := by decide +kernel
theorem dX3_undo_16 : decode cX3_undo 16 = .ok (.invokespecial 44, 3) := by decide +kernel
theorem dX3_undo_19 : decode cX3_undo 19 = .ok (.athrow, 1) := by decide +kernel
theorem dX3_undo_20 : decode cX3_undo 20 = .ok (.aload_n 0, 1) := by decide +kernel
theorem dX3_undo_21 : decode cX3_undo 21 = .ok (.getfield 24, 3) := by decide +kernel
theorem dX3_undo_24 : decode cX3_undo 24 = .ok (.aload_n 0, 1) := by decide +kernel
theorem dX3_undo_25 : decode cX3_undo 25 = .ok (.getfield 20, 3) := by decide +kernel
theorem dX3_undo_28 : decode cX3_undo 28 = .ok (.invokevirtual 187, 3) := by decide +kernel
theorem dX3_undo_31 : decode cX3_undo 31 = .ok (.aload_n 0, 1) := by decide +kernel
theorem dX3_undo_32 : decode cX3_undo 32 = .ok (.getfield 24, 3) := by decide +kernel
theorem dX3_undo_35 : decode cX3_undo 35 = .ok (.invokevirtual 182, 3) := by decide +kernel
theorem dX3_undo_38 : decode cX3_undo 38 = .ok (.ireturn, 1) := by decide +kernel
theorem dX3_digest_0 : decode cX3_digest 0 = .ok (.ldc2_w 190, 3) := by decide +kernel
theorem dX3_digest_3 : decode cX3_digest 3 = .ok (.aload_n 0, 1) := by decide +kernel
theorem dX3_digest_4 : decode cX3_digest 4 = .ok (.getfield 24, 3) := by decide +kernel
theorem dX3_digest_7 : decode cX3_digest 7 = .ok (.invokevirtual 182, 3) := by decide +kernel
theorem dX3_digest_10 : decode cX3_digest 10 = .ok (.i2l, 1) := by decide +kernel
theorem dX3_digest_11 : decode cX3_digest 11 = .ok (.invokestatic 192, 3) := by decide +kernel
theorem dX3_digest_14 : decode cX3_digest 14 = .ok (.lstore_n 1, 1) := by decide +kernel
theorem dX3_digest_15 : decode cX3_digest 15 = .ok (.lload_n 1, 1) := by decide +kernel
theorem dX3_digest_16 : decode cX3_digest 16 = .ok (.aload_n 0, 1) := by decide +kernel
theorem dX3_digest_17 : decode cX3_digest 17 = .ok (.getfield 20, 3) := by decide +kernel
theorem dX3_digest_20 : decode cX3_digest 20 = .ok (.bipush 8, 2) := by decide +kernel
theorem dX3_digest_22 : decode cX3_digest 22 = .ok (.invokevirtual 78, 3) := by decide +kernel
theorem dX3_digest_25 : decode cX3_digest 25 = .ok (.i2l, 1) := by decide +kernel
theorem dX3_digest_26 : decode cX3_digest 26 = .ok (.invokestatic 192, 3) := by decide +kernel
theorem dX3_digest_29 : decode cX3_digest 29 = .ok (.lstore_n 1, 1) := by decide +kernel
theorem dX3_digest_30 : decode cX3_digest 30 = .ok (.lload_n 1, 1) := by decide +kernel
theorem dX3_digest_31 : decode cX3_digest 31 = .ok (.aload_n 0, 1) := by decide +kernel
theorem dX3_digest_32 : decode cX3_digest 32 = .ok (.getfield 20, 3) := by decide +kernel
theorem dX3_digest_35 : decode cX3_digest 35 = .ok (.bipush 9, 2) := by decide +kernel
theorem dX3_digest_37 : decode cX3_digest 37 = .ok (.invokevirtual 78, 3) := by decide +kernel
theorem dX3_digest_40 : decode cX3_digest 40 = .ok (.i2l, 1) := by decide +kernel
theorem dX3_digest_41 : decode cX3_digest 41 = .ok (.invokestatic 192, 3) := by decide +kernel
theorem dX3_digest_44 : decode cX3_digest 44 = .ok (.lstore_n 1, 1) := by decide +kernel
theorem dX3_digest_45 : decode cX3_digest 45 = .ok (.lload_n 1, 1) := by decide +kernel
theorem dX3_digest_46 : decode cX3_digest 46 = .ok (.aload_n 0, 1) := by decide +kernel
theorem dX3_digest_47 : decode cX3_digest 47 = .ok (.getfield 20, 3) := by decide +kernel
theorem dX3_digest_50 : decode cX3_digest 50 = .ok (.bipush 10, 2) := by decide +kernel
theorem dX3_digest_52 : decode cX3_digest 52 = .ok (.invokevirtual 78, 3) := by decide +kernel
theorem dX3_digest_55 : decode cX3_digest 55 = .ok (.i2l, 1) := by decide +kernel
theorem dX3_digest_56 : decode cX3_digest 56 = .ok (.invokestatic 192, 3) := by decide +kernel
theorem dX3_digest_59 : decode cX3_digest 59 = .ok (.lstore_n 1, 1) := by decide +kernel
theorem dX3_digest_60 : decode cX3_digest 60 = .ok (.iconst 0, 1) := by decide +kernel
theorem dX3_digest_61 : decode cX3_digest 61 = .ok (.istore_n 3, 1) := by decide +kernel
theorem dX3_digest_62 : decode cX3_digest 62 = .ok (.iload_n 3, 1) := by decide +kernel
theorem dX3_digest_63 : decode cX3_digest 63 = .ok (.bipush 32, 2) := by decide +kernel
theorem dX3_digest_65 : decode cX3_digest 65 = .ok (.if_icmp .ge 16, 3) := by decide +kernel
theorem dX3_digest_68 : decode cX3_digest 68 = .ok (.aload_n 0, 1) := by decide +kernel
theorem dX3_digest_69 : decode cX3_digest 69 = .ok (.lload_n 1, 1) := by decide +kernel
theorem dX3_digest_70 : decode cX3_digest 70 = .ok (.iload_n 3, 1) := by decide +kernel
theorem dX3_digest_71 : decode cX3_digest 71 = .ok (.invokevirtual 196, 3) := by decide +kernel
theorem dX3_digest_74 : decode cX3_digest 74 = .ok (.lstore_n 1, 1) := by decide +kernel
theorem dX3_digest_75 : decode cX3_digest 75 = .ok (.iinc 3 1, 3) := by decide +kernel
theorem dX3_digest_78 : decode cX3_digest 78 = .ok (.goto (-16), 3) := by decide +kernel
theorem dX3_digest_81 : decode cX3_digest 81 = .ok (.iconst 0, 1) := by decide +kernel
theorem dX3_digest_82 : decode cX3_digest 82 = .ok (.istore_n 3, 1) := by decide +kernel
theorem dX3_digest_83 : decode cX3_digest 83 = .ok (.iload_n 3, 1) := by decide +kernel
theorem dX3_digest_84 : decode cX3_digest 84 = .ok (.iconst 4, 1) := by decide +kernel
theorem dX3_digest_85 : decode cX3_digest 85 = .ok (.if_icmp .ge 38, 3) := by decide +kernel
theorem dX3_digest_88 : decode cX3_digest 88 = .ok (.iconst 0, 1) := by decide +kernel
theorem dX3_digest_89 : decode cX3_digest 89 = .ok (.istore 4, 2) := by decide +kernel
theorem dX3_digest_91 : decode cX3_digest 91 = .ok (.iload 4, 2) := by decide +kernel
theorem dX3_digest_93 : decode cX3_digest 93 = .ok (.bipush 6, 2) := by decide +kernel
theorem dX3_digest_95 : decode cX3_digest 95 = .ok (.if_icmp .ge 22, 3) := by decide +kernel
theorem dX3_digest_98 : decode cX3_digest 98 = .ok (.lload_n 1, 1) := by decide +kernel
theorem dX3_digest_99 : decode cX3_digest 99 = .ok (.aload_n 0, 1) := by decide +kernel
theorem dX3_digest_100 : decode cX3_digest 100 = .ok (.iload_n 3, 1) := by decide +kernel
theorem dX3_digest_101 : decode cX3_digest 101 = .ok (.iload 4, 2) := by decide +kernel
theorem dX3_digest_103 : decode cX3_digest 103 = .ok (.invokevirtual 200, 3) := by decide +kernel
theorem dX3_digest_106 : decode cX3_digest 106 = .ok (.i2l, 1) := by decide +kernel
theorem dX3_digest_107 : decode cX3_digest 107 = .ok (.invokestatic 192, 3) := by decide +kernel
theorem dX3_digest_110 : decode cX3_digest 110 = .ok (.lstore_n 1, 1) := by decide +kernel
theorem dX3_digest_111 : decode cX3_digest 111 = .ok (.iinc 4 1, 3) := by decide +kernel
theorem dX3_digest_114 : decode cX3_digest 114 = .ok (.goto (-23), 3) := by decide +kernel
theorem dX3_digest_117 : decode cX3_digest 117 = .ok (.iinc 3 1, 3) := by decide +kernel
theorem dX3_digest_120 : decode cX3_digest 120 = .ok (.goto (-37), 3) := by decide +kernel
theorem dX3_digest_123 : decode cX3_digest 123 = .ok (.iconst 0, 1) := by decide +kernel
theorem dX3_digest_124 : decode cX3_digest 124 = .ok (.istore_n 3, 1) := by decide +kernel
theorem dX3_digest_125 : decode cX3_digest 125 = .ok (.iload_n 3, 1) := by decide +kernel
theorem dX3_digest_126 : decode cX3_digest 126 = .ok (.bipush 8, 2) := by decide +kernel
theorem dX3_digest_128 : decode cX3_digest 128 = .ok (.if_icmp .ge 23, 3) := by decide +kernel
theorem dX3_digest_131 : decode cX3_digest 131 = .ok (.lload_n 1, 1) := by decide +kernel
theorem dX3_digest_132 : decode cX3_digest 132 = .ok (.aload_n 0, 1) := by decide +kernel
theorem dX3_digest_133 : decode cX3_digest 133 = .ok (.getfield 20, 3) := by decide +kernel
theorem dX3_digest_136 : decode cX3_digest 136 = .ok (.iload_n 3, 1) := by decide +kernel
theorem dX3_digest_137 : decode cX3_digest 137 = .ok (.invokevirtual 78, 3) := by decide +kernel
theorem dX3_digest_140 : decode cX3_digest 140 = .ok (.i2l, 1) := by decide +kernel
theorem dX3_digest_141 : decode cX3_digest 141 = .ok (.invokestatic 192, 3) := by decide +kernel
theorem dX3_digest_144 : decode cX3_digest 144 = .ok (.lstore_n 1, 1) := by decide +kernel
theorem dX3_digest_145 : decode cX3_digest 145 = .ok (.iinc 3 1, 3) := by decide +kernel
theorem dX3_digest_148 : decode cX3_digest 148 = .ok (.goto (-23), 3) := by decide +kernel
theorem dX3_digest_151 : decode cX3_digest 151 = .ok (.lload_n 1, 1) := by decide +kernel
theorem dX3_digest_152 : decode cX3_digest 152 = .ok (.lreturn, 1) := by decide +kernel
theorem dX3_mixedWithMember_0 : decode cX3_mixedWithMember 0 = .ok (.lload_n 1, 1) := by decide +kernel
theorem dX3_mixedWithMember_1 : decode cX3_mixedWithMember 1 = .ok (.lstore 4, 2) := by decide +kernel
theorem dX3_mixedWithMember_3 : decode cX3_mixedWithMember 3 = .ok (.iconst 0, 1) := by decide +kernel
theorem dX3_mixedWithMember_4 : decode cX3_mixedWithMember 4 = .ok (.istore 6, 2) := by decide +kernel
theorem dX3_mixedWithMember_6 : decode cX3_mixedWithMember 6 = .ok (.iload 6, 2) := by decide +kernel
theorem dX3_mixedWithMember_8 : decode cX3_mixedWithMember 8 = .ok (.bipush 10, 2) := by decide +kernel
theorem dX3_mixedWithMember_10 : decode cX3_mixedWithMember 10 = .ok (.if_icmp .ge 27, 3) := by decide +kernel
theorem dX3_mixedWithMember_13 : decode cX3_mixedWithMember 13 = .ok (.lload 4, 2) := by decide +kernel
theorem dX3_mixedWithMember_15 : decode cX3_mixedWithMember 15 = .ok (.aload_n 0, 1) := by decide +kernel
theorem dX3_mixedWithMember_16 : decode cX3_mixedWithMember 16 = .ok (.getfield 20, 3) := by decide +kernel
theorem dX3_mixedWithMember_19 : decode cX3_mixedWithMember 19 = .ok (.iload_n 3, 1) := by decide +kernel
theorem dX3_mixedWithMember_20 : decode cX3_mixedWithMember 20 = .ok (.iload 6, 2) := by decide +kernel
theorem dX3_mixedWithMember_22 : decode cX3_mixedWithMember 22 = .ok (.invokevirtual 64, 3) := by decide +kernel
theorem dX3_mixedWithMember_25 : decode cX3_mixedWithMember 25 = .ok (.i2l, 1) := by decide +kernel
theorem dX3_mixedWithMember_26 : decode cX3_mixedWithMember 26 = .ok (.invokestatic 192, 3) := by decide +kernel
theorem dX3_mixedWithMember_29 : decode cX3_mixedWithMember 29 = .ok (.lstore 4, 2) := by decide +kernel
theorem dX3_mixedWithMember_31 : decode cX3_mixedWithMember 31 = .ok (.iinc 6 1, 3) := by decide +kernel
theorem dX3_mixedWithMember_34 : decode cX3_mixedWithMember 34 = .ok (.goto (-28), 3) := by decide +kernel
theorem dX3_mixedWithMember_37 : decode cX3_mixedWithMember 37 = .ok (.aload_n 0, 1) := by decide +kernel
theorem dX3_mixedWithMember_38 : decode cX3_mixedWithMember 38 = .ok (.iload_n 3, 1) := by decide +kernel
theorem dX3_mixedWithMember_39 : decode cX3_mixedWithMember 39 = .ok (.invokevirtual 36, 3) := by decide +kernel
theorem dX3_mixedWithMember_42 : decode cX3_mixedWithMember 42 = .ok (.ifCond .ne 6, 3) := by decide +kernel
theorem dX3_mixedWithMember_45 : decode cX3_mixedWithMember 45 = .ok (.lload 4, 2) := by decide +kernel
theorem dX3_mixedWithMember_47 : decode cX3_mixedWithMember 47 = .ok (.lreturn, 1) := by decide +kernel
theorem dX3_mixedWithMember_48 : decode cX3_mixedWithMember 48 = .ok (.lload 4, 2) := by decide +kernel
theorem dX3_mixedWithMember_50 : decode cX3_mixedWithMember 50 = .ok (.aload_n 0, 1) := by decide +kernel
theorem dX3_mixedWithMember_51 : decode cX3_mixedWithMember 51 = .ok (.iload_n 3, 1) := by decide +kernel
theorem dX3_mixedWithMember_52 : decode cX3_mixedWithMember 52 = .ok (.invokevirtual 203, 3) := by decide +kernel
theorem dX3_mixedWithMember_55 : decode cX3_mixedWithMember 55 = .ok (.i2l, 1) := by decide +kernel
theorem dX3_mixedWithMember_56 : decode cX3_mixedWithMember 56 = .ok (.invokestatic 192, 3) := by decide +kernel
theorem dX3_mixedWithMember_59 : decode cX3_mixedWithMember 59 = .ok (.lstore 4, 2) := by decide +kernel
theorem dX3_mixedWithMember_61 : decode cX3_mixedWithMember 61 = .ok (.lload 4, 2) := by decide +kernel
theorem dX3_mixedWithMember_63 : decode cX3_mixedWithMember 63 = .ok (.aload_n 0, 1) := by decide +kernel
theorem dX3_mixedWithMember_64 : decode cX3_mixedWithMember 64 = .ok (.getfield 10, 3) := by decide +kernel
theorem dX3_mixedWithMember_67 : decode cX3_mixedWithMember 67 = .ok (.iload_n 3, 1) := by decide +kernel
theorem dX3_mixedWithMember_68 : decode cX3_mixedWithMember 68 = .ok (.invokevirtual 164, 3) := by decide +kernel
theorem dX3_mixedWithMember_71 : decode cX3_mixedWithMember 71 = .ok (.i2l, 1) := by decide +kernel
theorem dX3_mixedWithMember_72 : decode cX3_mixedWithMember 72 = .ok (.invokestatic 192, 3) := by decide +kernel
theorem dX3_mixedWithMember_75 : decode cX3_mixedWithMember 75 = .ok (.lstore 4, 2) := by decide +kernel
theorem dX3_mixedWithMember_77 : decode cX3_mixedWithMember 77 = .ok (.iconst 0, 1) := by decide +kernel
theorem dX3_mixedWithMember_78 : decode cX3_mixedWithMember 78 = .ok (.istore 6, 2) := by decide +kernel
theorem dX3_mixedWithMember_80 : decode cX3_mixedWithMember 80 = .ok (.iload 6, 2) := by decide +kernel
theorem dX3_mixedWithMember_82 : decode cX3_mixedWithMember 82 = .ok (.iconst 4, 1) := by decide +kernel
theorem dX3_mixedWithMember_83 : decode cX3_mixedWithMember 83 = .ok (.if_icmp .ge 88, 3) := by decide +kernel
theorem dX3_mixedWithMember_86 : decode cX3_mixedWithMember 86 = .ok (.lload 4, 2) := by decide +kernel
theorem dX3_mixedWithMember_88 : decode cX3_mixedWithMember 88 = .ok (.aload_n 0, 1) := by decide +kernel
theorem dX3_mixedWithMember_89 : decode cX3_mixedWithMember 89 = .ok (.getfield 20, 3) := by decide +kernel
theorem dX3_mixedWithMember_92 : decode cX3_mixedWithMember 92 = .ok (.iload_n 3, 1) := by decide +kernel
theorem dX3_mixedWithMember_93 : decode cX3_mixedWithMember 93 = .ok (.iload 6, 2) := by decide +kernel
theorem dX3_mixedWithMember_95 : decode cX3_mixedWithMember 95 = .ok (.invokevirtual 103, 3) := by decide +kernel
theorem dX3_mixedWithMember_98 : decode cX3_mixedWithMember 98 = .ok (.i2l, 1) := by decide +kernel
theorem dX3_mixedWithMember_99 : decode cX3_mixedWithMember 99 = .ok (.invokestatic 192, 3) := by decide +kernel
theorem dX3_mixedWithMember_102 : decode cX3_mixedWithMember 102 = .ok (.lstore 4, 2) := by decide +kernel
theorem dX3_mixedWithMember_104 : decode cX3_mixedWithMember 104 = .ok (.lload 4, 2) := by decide +kernel
theorem dX3_mixedWithMember_106 : decode cX3_mixedWithMember 106 = .ok (.aload_n 0, 1) := by decide +kernel
theorem dX3_mixedWithMember_107 : decode cX3_mixedWithMember 107 = .ok (.getfield 10, 3) := by decide +kernel
theorem dX3_mixedWithMember_110 : decode cX3_mixedWithMember 110 = .ok (.iload_n 3, 1) := by decide +kernel
theorem dX3_mixedWithMember_111 : decode cX3_mixedWithMember 111 = .ok (.iload 6, 2) := by decide +kernel
theorem dX3_mixedWithMember_113 : decode cX3_mixedWithMember 113 = .ok (.invokevirtual 127, 3) := by decide +kernel
theorem dX3_mixedWithMember_116 : decode cX3_mixedWithMember 116 = .ok (.i2l, 1) := by decide +kernel
theorem dX3_mixedWithMember_117 : decode cX3_mixedWithMember 117 = .ok (.invokestatic 192, 3) := by decide +kernel
theorem dX3_mixedWithMember_120 : decode cX3_mixedWithMember 120 = .ok (.lstore 4, 2) := by decide +kernel
theorem dX3_mixedWithMember_122 : decode cX3_mixedWithMember 122 = .ok (.lload 4, 2) := by decide +kernel
theorem dX3_mixedWithMember_124 : decode cX3_mixedWithMember 124 = .ok (.aload_n 0, 1) := by decide +kernel
theorem dX3_mixedWithMember_125 : decode cX3_mixedWithMember 125 = .ok (.getfield 10, 3) := by decide +kernel
theorem dX3_mixedWithMember_128 : decode cX3_mixedWithMember 128 = .ok (.iload_n 3, 1) := by decide +kernel
theorem dX3_mixedWithMember_129 : decode cX3_mixedWithMember 129 = .ok (.iload 6, 2) := by decide +kernel
theorem dX3_mixedWithMember_131 : decode cX3_mixedWithMember 131 = .ok (.invokevirtual 145, 3) := by decide +kernel
theorem dX3_mixedWithMember_134 : decode cX3_mixedWithMember 134 = .ok (.i2l, 1) := by decide +kernel
theorem dX3_mixedWithMember_135 : decode cX3_mixedWithMember 135 = .ok (.invokestatic 192, 3) := by decide +kernel
theorem dX3_mixedWithMember_138 : decode cX3_mixedWithMember 138 = .ok (.lstore 4, 2) := by decide +kernel
theorem dX3_mixedWithMember_140 : decode cX3_mixedWithMember 140 = .ok (.lload 4, 2) := by decide +kernel
theorem dX3_mixedWithMember_142 : decode cX3_mixedWithMember 142 = .ok (.aload_n 0, 1) := by decide +kernel
theorem dX3_mixedWithMember_143 : decode cX3_mixedWithMember 143 = .ok (.getfield 10, 3) := by decide +kernel
theorem dX3_mixedWithMember_146 : decode cX3_mixedWithMember 146 = .ok (.iload_n 3, 1) := by decide +kernel
theorem dX3_mixedWithMember_147 : decode cX3_mixedWithMember 147 = .ok (.iload 6, 2) := by decide +kernel
theorem dX3_mixedWithMember_149 : decode cX3_mixedWithMember 149 = .ok (.invokevirtual 148, 3) := by decide +kernel
theorem dX3_mixedWithMember_152 : decode cX3_mixedWithMember 152 = .ok (.ifCond .eq 7, 3) := by decide +kernel
theorem dX3_mixedWithMember_155 : decode cX3_mixedWithMember 155 = .ok (.lconst 1, 1) := by decide +kernel
theorem dX3_mixedWithMember_156 : decode cX3_mixedWithMember 156 = .ok (.goto 4, 3) := by decide +kernel
theorem dX3_mixedWithMember_159 : decode cX3_mixedWithMember 159 = .ok (.lconst 0, 1) := by decide +kernel
theorem dX3_mixedWithMember_160 : decode cX3_mixedWithMember 160 = .ok (.invokestatic 192, 3) := by decide +kernel
theorem dX3_mixedWithMember_163 : decode cX3_mixedWithMember 163 = .ok (.lstore 4, 2) := by decide +kernel
theorem dX3_mixedWithMember_165 : decode cX3_mixedWithMember 165 = .ok (.iinc 6 1, 3) := by decide +kernel
theorem dX3_mixedWithMember_168 : decode cX3_mixedWithMember 168 = .ok (.goto (-88), 3) := by decide +kernel
theorem dX3_mixedWithMember_171 : decode cX3_mixedWithMember 171 = .ok (.lload 4, 2) := by decide +kernel
theorem dX3_mixedWithMember_173 : decode cX3_mixedWithMember 173 = .ok (.lreturn, 1) := by decide +kernel
theorem dX3_mixed_0 : decode cX3_mixed 0 = .ok (.ldc2_w 206, 3) := by decide +kernel
theorem dX3_mixed_3 : decode cX3_mixed 3 = .ok (.lload_n 0, 1) := by decide +kernel
theorem dX3_mixed_4 : decode cX3_mixed 4 = .ok (.lmul, 1) := by decide +kernel
theorem dX3_mixed_5 : decode cX3_mixed 5 = .ok (.lload_n 2, 1) := by decide +kernel
theorem dX3_mixed_6 : decode cX3_mixed 6 = .ok (.ladd, 1) := by decide +kernel
theorem dX3_mixed_7 : decode cX3_mixed 7 = .ok (.lreturn, 1) := by decide +kernel
theorem dX3_isJoined_0 : decode cX3_isJoined 0 = .ok (.aload_n 0, 1) := by decide +kernel
theorem dX3_isJoined_1 : decode cX3_isJoined 1 = .ok (.getfield 20, 3) := by decide +kernel
theorem dX3_isJoined_4 : decode cX3_isJoined 4 = .ok (.iload_n 1, 1) := by decide +kernel
theorem dX3_isJoined_5 : decode cX3_isJoined 5 = .ok (.iconst 0, 1) := by decide +kernel
theorem dX3_isJoined_6 : decode cX3_isJoined 6 = .ok (.invokevirtual 64, 3) := by decide +kernel
theorem dX3_isJoined_9 : decode cX3_isJoined 9 = .ok (.iconst 1, 1) := by decide +kernel
theorem dX3_isJoined_10 : decode cX3_isJoined 10 = .ok (.if_icmp .ne 7, 3) := by decide +kernel
theorem dX3_isJoined_13 : decode cX3_isJoined 13 = .ok (.iconst 1, 1) := by decide +kernel
theorem dX3_isJoined_14 : decode cX3_isJoined 14 = .ok (.goto 4, 3) := by decide +kernel
theorem dX3_isJoined_17 : decode cX3_isJoined 17 = .ok (.iconst 0, 1) := by decide +kernel
theorem dX3_isJoined_18 : decode cX3_isJoined 18 = .ok (.ireturn, 1) := by decide +kernel
theorem dX3_hasFailed_0 : decode cX3_hasFailed 0 = .ok (.aload_n 0, 1) := by decide +kernel
theorem dX3_hasFailed_1 : decode cX3_hasFailed 1 = .ok (.getfield 20, 3) := by decide +kernel
theorem dX3_hasFailed_4 : decode cX3_hasFailed 4 = .ok (.iload_n 1, 1) := by decide +kernel
theorem dX3_hasFailed_5 : decode cX3_hasFailed 5 = .ok (.iconst 3, 1) := by decide +kernel
theorem dX3_hasFailed_6 : decode cX3_hasFailed 6 = .ok (.invokevirtual 64, 3) := by decide +kernel
theorem dX3_hasFailed_9 : decode cX3_hasFailed 9 = .ok (.iconst 1, 1) := by decide +kernel
theorem dX3_hasFailed_10 : decode cX3_hasFailed 10 = .ok (.if_icmp .ne 7, 3) := by decide +kernel
theorem dX3_hasFailed_13 : decode cX3_hasFailed 13 = .ok (.iconst 1, 1) := by decide +kernel
theorem dX3_hasFailed_14 : decode cX3_hasFailed 14 = .ok (.goto 4, 3) := by decide +kernel
theorem dX3_hasFailed_17 : decode cX3_hasFailed 17 = .ok (.iconst 0, 1) := by decide +kernel
theorem dX3_hasFailed_18 : decode cX3_hasFailed 18 = .ok (.ireturn, 1) := by decide +kernel
theorem dX3_connectedStripes_0 : decode cX3_connectedStripes 0 = .ok (.iconst 0, 1) := by decide +kernel
theorem dX3_connectedStripes_1 : decode cX3_connectedStripes 1 = .ok (.istore_n 2, 1) := by decide +kernel
theorem dX3_connectedStripes_2 : decode cX3_connectedStripes 2 = .ok (.iconst 0, 1) := by decide +kernel
theorem dX3_connectedStripes_3 : decode cX3_connectedStripes 3 = .ok (.istore_n 3, 1) := by decide +kernel
theorem dX3_connectedStripes_4 : decode cX3_connectedStripes 4 = .ok (.iload_n 3, 1) := by decide +kernel
theorem dX3_connectedStripes_5 : decode cX3_connectedStripes 5 = .ok (.iconst 4, 1) := by decide +kernel
theorem dX3_connectedStripes_6 : decode cX3_connectedStripes 6 = .ok (.if_icmp .ge 25, 3) := by decide +kernel
theorem dX3_connectedStripes_9 : decode cX3_connectedStripes 9 = .ok (.aload_n 0, 1) := by decide +kernel
theorem dX3_connectedStripes_10 : decode cX3_connectedStripes 10 = .ok (.getfield 10, 3) := by decide +kernel
theorem dX3_connectedStripes_13 : decode cX3_connectedStripes 13 = .ok (.iload_n 1, 1) := by decide +kernel
theorem dX3_connectedStripes_14 : decode cX3_connectedStripes 14 = .ok (.iload_n 3, 1) := by decide +kernel
theorem dX3_connectedStripes_15 : decode cX3_connectedStripes 15 = .ok (.invokevirtual 127, 3) := by decide +kernel
theorem dX3_connectedStripes_18 : decode cX3_connectedStripes 18 = .ok (.iconst (-1), 1) := by decide +kernel
theorem dX3_connectedStripes_19 : decode cX3_connectedStripes 19 = .ok (.if_icmp .eq 6, 3) := by decide +kernel
theorem dX3_connectedStripes_22 : decode cX3_connectedStripes 22 = .ok (.iinc 2 1, 3) := by decide +kernel
theorem dX3_connectedStripes_25 : decode cX3_connectedStripes 25 = .ok (.iinc 3 1, 3) := by decide +kernel
theorem dX3_connectedStripes_28 : decode cX3_connectedStripes 28 = .ok (.goto (-24), 3) := by decide +kernel
theorem dX3_connectedStripes_31 : decode cX3_connectedStripes 31 = .ok (.iload_n 2, 1) := by decide +kernel
theorem dX3_connectedStripes_32 : decode cX3_connectedStripes 32 = .ok (.ireturn, 1) := by decide +kernel
theorem dX3_noticeFailures_0 : decode cX3_noticeFailures 0 = .ok (.iconst 0, 1) := by decide +kernel
theorem dX3_noticeFailures_1 : decode cX3_noticeFailures 1 = .ok (.istore_n 1, 1) := by decide +kernel
theorem dX3_noticeFailures_2 : decode cX3_noticeFailures 2 = .ok (.iload_n 1, 1) := by decide +kernel
theorem dX3_noticeFailures_3 : decode cX3_noticeFailures 3 = .ok (.bipush 32, 2) := by decide +kernel
theorem dX3_noticeFailures_5 : decode cX3_noticeFailures 5 = .ok (.if_icmp .ge 62, 3) := by decide +kernel
theorem dX3_noticeFailures_8 : decode cX3_noticeFailures 8 = .ok (.aload_n 0, 1) := by decide +kernel
theorem dX3_noticeFailures_9 : decode cX3_noticeFailures 9 = .ok (.iload_n 1, 1) := by decide +kernel
theorem dX3_noticeFailures_10 : decode cX3_noticeFailures 10 = .ok (.invokevirtual 73, 3) := by decide +kernel
theorem dX3_noticeFailures_13 : decode cX3_noticeFailures 13 = .ok (.ifCond .eq 48, 3) := by decide +kernel
theorem dX3_noticeFailures_16 : decode cX3_noticeFailures 16 = .ok (.aload_n 0, 1) := by decide +kernel
theorem dX3_noticeFailures_17 : decode cX3_noticeFailures 17 = .ok (.getfield 20, 3) := by decide +kernel
theorem dX3_noticeFailures_20 : decode cX3_noticeFailures 20 = .ok (.iload_n 1, 1) := by decide +kernel
theorem dX3_noticeFailures_21 : decode cX3_noticeFailures 21 = .ok (.iconst 4, 1) := by decide +kernel
theorem dX3_noticeFailures_22 : decode cX3_noticeFailures 22 = .ok (.invokevirtual 64, 3) := by decide +kernel
theorem dX3_noticeFailures_25 : decode cX3_noticeFailures 25 = .ok (.aload_n 0, 1) := by decide +kernel
theorem dX3_noticeFailures_26 : decode cX3_noticeFailures 26 = .ok (.getfield 20, 3) := by decide +kernel
theorem dX3_noticeFailures_29 : decode cX3_noticeFailures 29 = .ok (.bipush 8, 2) := by decide +kernel
theorem dX3_noticeFailures_31 : decode cX3_noticeFailures 31 = .ok (.invokevirtual 78, 3) := by decide +kernel
theorem dX3_noticeFailures_34 : decode cX3_noticeFailures 34 = .ok (.if_icmp .ne 27, 3) := by decide +kernel
theorem dX3_noticeFailures_37 : decode cX3_noticeFailures 37 = .ok (.aload_n 0, 1) := by decide +kernel
theorem dX3_noticeFailures_38 : decode cX3_noticeFailures 38 = .ok (.getfield 10, 3) := by decide +kernel
theorem dX3_noticeFailures_41 : decode cX3_noticeFailures 41 = .ok (.iload_n 1, 1) := by decide +kernel
theorem dX3_noticeFailures_42 : decode cX3_noticeFailures 42 = .ok (.invokevirtual 70, 3) := by decide +kernel
theorem dX3_noticeFailures_45 : decode cX3_noticeFailures 45 = .ok (.aload_n 0, 1) := by decide +kernel
theorem dX3_noticeFailures_46 : decode cX3_noticeFailures 46 = .ok (.getfield 10, 3) := by decide +kernel
theorem dX3_noticeFailures_49 : decode cX3_noticeFailures 49 = .ok (.invokevirtual 54, 3) := by decide +kernel
theorem dX3_noticeFailures_52 : decode cX3_noticeFailures 52 = .ok (.aload_n 0, 1) := by decide +kernel
theorem dX3_noticeFailures_53 : decode cX3_noticeFailures 53 = .ok (.getfield 20, 3) := by decide +kernel
theorem dX3_noticeFailures_56 : decode cX3_noticeFailures 56 = .ok (.iconst 5, 1) := by decide +kernel
theorem dX3_noticeFailures_57 : decode cX3_noticeFailures 57 = .ok (.iconst 1, 1) := by decide +kernel
theorem dX3_noticeFailures_58 : decode cX3_noticeFailures 58 = .ok (.invokevirtual 106, 3) := by decide +kernel
theorem dX3_noticeFailures_61 : decode cX3_noticeFailures 61 = .ok (.iinc 1 1, 3) := by decide +kernel
theorem dX3_noticeFailures_64 : decode cX3_noticeFailures 64 = .ok (.goto (-62), 3) := by decide +kernel
theorem dX3_noticeFailures_67 : decode cX3_noticeFailures 67 = .ok (.return_, 1) := by decide +kernel
theorem dX3_quietTicks_0 : decode cX3_quietTicks 0 = .ok (.sipush 200, 3) := by decide +kernel
theorem dX3_quietTicks_3 : decode cX3_quietTicks 3 = .ok (.istore_n 1, 1) := by decide +kernel
theorem dX3_quietTicks_4 : decode cX3_quietTicks 4 = .ok (.iconst 0, 1) := by decide +kernel
theorem dX3_quietTicks_5 : decode cX3_quietTicks 5 = .ok (.istore_n 2, 1) := by decide +kernel
theorem dX3_quietTicks_6 : decode cX3_quietTicks 6 = .ok (.iload_n 2, 1) := by decide +kernel
theorem dX3_quietTicks_7 : decode cX3_quietTicks 7 = .ok (.bipush 32, 2) := by decide +kernel
theorem dX3_quietTicks_9 : decode cX3_quietTicks 9 = .ok (.if_icmp .ge 43, 3) := by decide +kernel
theorem dX3_quietTicks_12 : decode cX3_quietTicks 12 = .ok (.aload_n 0, 1) := by decide +kernel
theorem dX3_quietTicks_13 : decode cX3_quietTicks 13 = .ok (.iload_n 2, 1) := by decide +kernel
theorem dX3_quietTicks_14 : decode cX3_quietTicks 14 = .ok (.invokevirtual 73, 3) := by decide +kernel
theorem dX3_quietTicks_17 : decode cX3_quietTicks 17 = .ok (.ifCond .eq 29, 3) := by decide +kernel
theorem dX3_quietTicks_20 : decode cX3_quietTicks 20 = .ok (.iload_n 1, 1) := by decide +kernel
theorem dX3_quietTicks_21 : decode cX3_quietTicks 21 = .ok (.aload_n 0, 1) := by decide +kernel
theorem dX3_quietTicks_22 : decode cX3_quietTicks 22 = .ok (.getfield 20, 3) := by decide +kernel
theorem dX3_quietTicks_25 : decode cX3_quietTicks 25 = .ok (.iload_n 2, 1) := by decide +kernel
theorem dX3_quietTicks_26 : decode cX3_quietTicks 26 = .ok (.iconst 4, 1) := by decide +kernel
theorem dX3_quietTicks_27 : decode cX3_quietTicks 27 = .ok (.invokevirtual 64, 3) := by decide +kernel
theorem dX3_quietTicks_30 : decode cX3_quietTicks 30 = .ok (.aload_n 0, 1) := by decide +kernel
theorem dX3_quietTicks_31 : decode cX3_quietTicks 31 = .ok (.getfield 20, 3) := by decide +kernel
theorem dX3_quietTicks_34 : decode cX3_quietTicks 34 = .ok (.bipush 8, 2) := by decide +kernel
theorem dX3_quietTicks_36 : decode cX3_quietTicks 36 = .ok (.invokevirtual 78, 3) := by decide +kernel
theorem dX3_quietTicks_39 : decode cX3_quietTicks 39 = .ok (.isub, 1) := by decide +kernel
theorem dX3_quietTicks_40 : decode cX3_quietTicks 40 = .ok (.iconst 1, 1) := by decide +kernel
theorem dX3_quietTicks_41 : decode cX3_quietTicks 41 = .ok (.isub, 1) := by decide +kernel
theorem dX3_quietTicks_42 : decode cX3_quietTicks 42 = .ok (.invokestatic 116, 3) := by decide +kernel
theorem dX3_quietTicks_45 : decode cX3_quietTicks 45 = .ok (.istore_n 1, 1) := by decide +kernel
theorem dX3_quietTicks_46 : decode cX3_quietTicks 46 = .ok (.iinc 2 1, 3) := by decide +kernel
theorem dX3_quietTicks_49 : decode cX3_quietTicks 49 = .ok (.goto (-43), 3) := by decide +kernel
theorem dX3_quietTicks_52 : decode cX3_quietTicks 52 = .ok (.iload_n 1, 1) := by decide +kernel
theorem dX3_quietTicks_53 : decode cX3_quietTicks 53 = .ok (.ireturn, 1) := by decide +kernel
theorem dX3_sendBlocks_0 : decode cX3_sendBlocks 0 = .ok (.iconst 0, 1) := by decide +kernel
theorem dX3_sendBlocks_1 : decode cX3_sendBlocks 1 = .ok (.istore_n 2, 1) := by decide +kernel
theorem dX3_sendBlocks_2 : decode cX3_sendBlocks 2 = .ok (.aload_n 0, 1) := by decide +kernel
theorem dX3_sendBlocks_3 : decode cX3_sendBlocks 3 = .ok (.getfield 20, 3) := by decide +kernel
theorem dX3_sendBlocks_6 : decode cX3_sendBlocks 6 = .ok (.iconst 1, 1) := by decide +kernel
theorem dX3_sendBlocks_7 : decode cX3_sendBlocks 7 = .ok (.iload_n 1, 1) := by decide +kernel
theorem dX3_sendBlocks_8 : decode cX3_sendBlocks 8 = .ok (.invokevirtual 106, 3) := by decide +kernel
theorem dX3_sendBlocks_11 : decode cX3_sendBlocks 11 = .ok (.iconst 0, 1) := by decide +kernel
theorem dX3_sendBlocks_12 : decode cX3_sendBlocks 12 = .ok (.istore_n 3, 1) := by decide +kernel
theorem dX3_sendBlocks_13 : decode cX3_sendBlocks 13 = .ok (.iload_n 3, 1) := by decide +kernel
theorem dX3_sendBlocks_14 : decode cX3_sendBlocks 14 = .ok (.bipush 32, 2) := by decide +kernel
theorem dX3_sendBlocks_16 : decode cX3_sendBlocks 16 = .ok (.if_icmp .ge 26, 3) := by decide +kernel
theorem dX3_sendBlocks_19 : decode cX3_sendBlocks 19 = .ok (.aload_n 0, 1) := by decide +kernel
theorem dX3_sendBlocks_20 : decode cX3_sendBlocks 20 = .ok (.iload_n 3, 1) := by decide +kernel
theorem dX3_sendBlocks_21 : decode cX3_sendBlocks 21 = .ok (.invokevirtual 36, 3) := by decide +kernel
theorem dX3_sendBlocks_24 : decode cX3_sendBlocks 24 = .ok (.ifCond .eq 12, 3) := by decide +kernel
theorem dX3_sendBlocks_27 : decode cX3_sendBlocks 27 = .ok (.iload_n 2, 1) := by decide +kernel
theorem dX3_sendBlocks_28 : decode cX3_sendBlocks 28 = .ok (.aload_n 0, 1) := by decide +kernel
theorem dX3_sendBlocks_29 : decode cX3_sendBlocks 29 = .ok (.iload_n 3, 1) := by decide +kernel
theorem dX3_sendBlocks_30 : decode cX3_sendBlocks 30 = .ok (.iload_n 1, 1) := by decide +kernel
theorem dX3_sendBlocks_31 : decode cX3_sendBlocks 31 = .ok (.invokevirtual 208, 3) := by decide +kernel
theorem dX3_sendBlocks_34 : decode cX3_sendBlocks 34 = .ok (.iadd, 1) := by decide +kernel
theorem dX3_sendBlocks_35 : decode cX3_sendBlocks 35 = .ok (.istore_n 2, 1) := by decide +kernel
theorem dX3_sendBlocks_36 : decode cX3_sendBlocks 36 = .ok (.iinc 3 1, 3) := by decide +kernel
theorem dX3_sendBlocks_39 : decode cX3_sendBlocks 39 = .ok (.goto (-26), 3) := by decide +kernel
theorem dX3_sendBlocks_42 : decode cX3_sendBlocks 42 = .ok (.iload_n 2, 1) := by decide +kernel
theorem dX3_sendBlocks_43 : decode cX3_sendBlocks 43 = .ok (.ireturn, 1) := by decide +kernel
theorem dX3_receiveBlocks_0 : decode cX3_receiveBlocks 0 = .ok (.aload_n 0, 1) := by decide +kernel
theorem dX3_receiveBlocks_1 : decode cX3_receiveBlocks 1 = .ok (.getfield 10, 3) := by decide +kernel
theorem dX3_receiveBlocks_4 : decode cX3_receiveBlocks 4 = .ok (.iload_n 1, 1) := by decide +kernel
theorem dX3_receiveBlocks_5 : decode cX3_receiveBlocks 5 = .ok (.invokevirtual 164, 3) := by decide +kernel
theorem dX3_receiveBlocks_8 : decode cX3_receiveBlocks 8 = .ok (.istore_n 3, 1) := by decide +kernel
theorem dX3_receiveBlocks_9 : decode cX3_receiveBlocks 9 = .ok (.aload_n 0, 1) := by decide +kernel
theorem dX3_receiveBlocks_10 : decode cX3_receiveBlocks 10 = .ok (.getfield 20, 3) := by decide +kernel
theorem dX3_receiveBlocks_13 : decode cX3_receiveBlocks 13 = .ok (.iload_n 1, 1) := by decide +kernel
theorem dX3_receiveBlocks_14 : decode cX3_receiveBlocks 14 = .ok (.bipush 7, 2) := by decide +kernel
theorem dX3_receiveBlocks_16 : decode cX3_receiveBlocks 16 = .ok (.iload_n 3, 1) := by decide +kernel
theorem dX3_receiveBlocks_17 : decode cX3_receiveBlocks 17 = .ok (.iload_n 2, 1) := by decide +kernel
theorem dX3_receiveBlocks_18 : decode cX3_receiveBlocks 18 = .ok (.imul, 1) := by decide +kernel
theorem dX3_receiveBlocks_19 : decode cX3_receiveBlocks 19 = .ok (.invokevirtual 211, 3) := by decide +kernel
theorem dX3_receiveBlocks_22 : decode cX3_receiveBlocks 22 = .ok (.aload_n 0, 1) := by decide +kernel
theorem dX3_receiveBlocks_23 : decode cX3_receiveBlocks 23 = .ok (.getfield 20, 3) := by decide +kernel
theorem dX3_receiveBlocks_26 : decode cX3_receiveBlocks 26 = .ok (.iconst 2, 1) := by decide +kernel
theorem dX3_receiveBlocks_27 : decode cX3_receiveBlocks 27 = .ok (.iload_n 3, 1) := by decide +kernel
theorem dX3_receiveBlocks_28 : decode cX3_receiveBlocks 28 = .ok (.iload_n 2, 1) := by decide +kernel
theorem dX3_receiveBlocks_29 : decode cX3_receiveBlocks 29 = .ok (.imul, 1) := by decide +kernel
theorem dX3_receiveBlocks_30 : decode cX3_receiveBlocks 30 = .ok (.invokevirtual 106, 3) := by decide +kernel
theorem dX3_receiveBlocks_33 : decode cX3_receiveBlocks 33 = .ok (.iload_n 3, 1) := by decide +kernel
theorem dX3_receiveBlocks_34 : decode cX3_receiveBlocks 34 = .ok (.iconst 3, 1) := by decide +kernel
theorem dX3_receiveBlocks_35 : decode cX3_receiveBlocks 35 = .ok (.if_icmp .lt 25, 3) := by decide +kernel
theorem dX3_receiveBlocks_38 : decode cX3_receiveBlocks 38 = .ok (.aload_n 0, 1) := by decide +kernel
theorem dX3_receiveBlocks_39 : decode cX3_receiveBlocks 39 = .ok (.getfield 20, 3) := by decide +kernel
theorem dX3_receiveBlocks_42 : decode cX3_receiveBlocks 42 = .ok (.iload_n 1, 1) := by decide +kernel
theorem dX3_receiveBlocks_43 : decode cX3_receiveBlocks 43 = .ok (.bipush 8, 2) := by decide +kernel
theorem dX3_receiveBlocks_45 : decode cX3_receiveBlocks 45 = .ok (.iload_n 2, 1) := by decide +kernel
theorem dX3_receiveBlocks_46 : decode cX3_receiveBlocks 46 = .ok (.invokevirtual 211, 3) := by decide +kernel
theorem dX3_receiveBlocks_49 : decode cX3_receiveBlocks 49 = .ok (.aload_n 0, 1) := by decide +kernel
theorem dX3_receiveBlocks_50 : decode cX3_receiveBlocks 50 = .ok (.getfield 20, 3) := by decide +kernel
theorem dX3_receiveBlocks_53 : decode cX3_receiveBlocks 53 = .ok (.iconst 3, 1) := by decide +kernel
theorem dX3_receiveBlocks_54 : decode cX3_receiveBlocks 54 = .ok (.iload_n 2, 1) := by decide +kernel
theorem dX3_receiveBlocks_55 : decode cX3_receiveBlocks 55 = .ok (.invokevirtual 106, 3) := by decide +kernel
theorem dX3_receiveBlocks_58 : decode cX3_receiveBlocks 58 = .ok (.iconst 0, 1) := by decide +kernel
theorem dX3_receiveBlocks_59 : decode cX3_receiveBlocks 59 = .ok (.ireturn, 1) := by decide +kernel
theorem dX3_receiveBlocks_60 : decode cX3_receiveBlocks 60 = .ok (.aload_n 0, 1) := by decide +kernel
theorem dX3_receiveBlocks_61 : decode cX3_receiveBlocks 61 = .ok (.iload_n 1, 1) := by decide +kernel
theorem dX3_receiveBlocks_62 : decode cX3_receiveBlocks 62 = .ok (.invokevirtual 73, 3) := by decide +kernel
theorem dX3_receiveBlocks_65 : decode cX3_receiveBlocks 65 = .ok (.ifCond .eq 5, 3) := by decide +kernel
theorem dX3_receiveBlocks_68 : decode cX3_receiveBlocks 68 = .ok (.iconst 0, 1) := by decide +kernel
theorem dX3_receiveBlocks_69 : decode cX3_receiveBlocks 69 = .ok (.ireturn, 1) := by decide +kernel
theorem dX3_receiveBlocks_70 : decode cX3_receiveBlocks 70 = .ok (.aload_n 0, 1) := by decide +kernel
theorem dX3_receiveBlocks_71 : decode cX3_receiveBlocks 71 = .ok (.getfield 20, 3) := by decide +kernel
theorem dX3_receiveBlocks_74 : decode cX3_receiveBlocks 74 = .ok (.iload_n 1, 1) := by decide +kernel
theorem dX3_receiveBlocks_75 : decode cX3_receiveBlocks 75 = .ok (.bipush 9, 2) := by decide +kernel
theorem dX3_receiveBlocks_77 : decode cX3_receiveBlocks 77 = .ok (.iload_n 2, 1) := by decide +kernel
theorem dX3_receiveBlocks_78 : decode cX3_receiveBlocks 78 = .ok (.invokevirtual 211, 3) := by decide +kernel
theorem dX3_receiveBlocks_81 : decode cX3_receiveBlocks 81 = .ok (.aload_n 0, 1) := by decide +kernel
theorem dX3_receiveBlocks_82 : decode cX3_receiveBlocks 82 = .ok (.getfield 20, 3) := by decide +kernel
theorem dX3_receiveBlocks_85 : decode cX3_receiveBlocks 85 = .ok (.iconst 4, 1) := by decide +kernel
theorem dX3_receiveBlocks_86 : decode cX3_receiveBlocks 86 = .ok (.iload_n 2, 1) := by decide +kernel
theorem dX3_receiveBlocks_87 : decode cX3_receiveBlocks 87 = .ok (.invokevirtual 106, 3) := by decide +kernel
theorem dX3_receiveBlocks_90 : decode cX3_receiveBlocks 90 = .ok (.iload_n 2, 1) := by decide +kernel
theorem dX3_receiveBlocks_91 : decode cX3_receiveBlocks 91 = .ok (.ireturn, 1) := by decide +kernel
theorem dX3_requireMember_0 : decode cX3_requireMember 0 = .ok (.iload_n 0, 1) := by decide +kernel
theorem dX3_requireMember_1 : decode cX3_requireMember 1 = .ok (.ifCond .lt 9, 3) := by decide +kernel
theorem dX3_requireMember_4 : decode cX3_requireMember 4 = .ok (.iload_n 0, 1) := by decide +kernel
theorem dX3_requireMember_5 : decode cX3_requireMember 5 = .ok (.bipush 32, 2) := by decide +kernel
theorem dX3_requireMember_7 : decode cX3_requireMember 7 = .ok (.if_icmp .lt 13, 3) := by decide +kernel
theorem dX3_requireMember_10 : decode cX3_requireMember 10 = .ok (.new 214, 3) := by decide +kernel
theorem dX3_requireMember_13 : decode cX3_requireMember 13 = .ok (.dup, 1) := by decide +kernel
theorem dX3_requireMember_14 : decode cX3_requireMember 14 = .ok (.ldc 216, 2) := by decide +kernel
theorem dX3_requireMember_16 : decode cX3_requireMember 16 = .ok (.invokespecial 218, 3) := by decide +kernel
theorem dX3_requireMember_19 : decode cX3_requireMember 19 = .ok (.athrow, 1) := by decide +kernel
theorem dX3_requireMember_20 : decode cX3_requireMember 20 = .ok (.return_, 1) := by decide +kernel
theorem dX3_requirePlace_0 : decode cX3_requirePlace 0 = .ok (.iload_n 0, 1) := by decide +kernel
theorem dX3_requirePlace_1 : decode cX3_requirePlace 1 = .ok (.bipush 100, 2) := by decide +kernel
theorem dX3_requirePlace_3 : decode cX3_requirePlace 3 = .ok (.if_icmp .eq 7, 3) := by decide +kernel
theorem dX3_requirePlace_6 : decode cX3_requirePlace 6 = .ok (.iload_n 0, 1) := by decide +kernel
theorem dX3_requirePlace_7 : decode cX3_requirePlace 7 = .ok (.invokestatic 28, 3) := by decide +kernel
theorem dX3_requirePlace_10 : decode cX3_requirePlace 10 = .ok (.return_, 1) := by decide +kernel
theorem dX3_requireStripe_0 : decode cX3_requireStripe 0 = .ok (.iload_n 0, 1) := by decide +kernel
theorem dX3_requireStripe_1 : decode cX3_requireStripe 1 = .ok (.ifCond .lt 8, 3) := by decide +kernel
theorem dX3_requireStripe_4 : decode cX3_requireStripe 4 = .ok (.iload_n 0, 1) := by decide +kernel
theorem dX3_requireStripe_5 : decode cX3_requireStripe 5 = .ok (.iconst 4, 1) := by decide +kernel
theorem dX3_requireStripe_6 : decode cX3_requireStripe 6 = .ok (.if_icmp .lt 13, 3) := by decide +kernel
theorem dX3_requireStripe_9 : decode cX3_requireStripe 9 = .ok (.new 214, 3) := by decide +kernel
theorem dX3_requireStripe_12 : decode cX3_requireStripe 12 = .ok (.dup, 1) := by decide +kernel
theorem dX3_requireStripe_13 : decode cX3_requireStripe 13 = .ok (.ldc 219, 2) := by decide +kernel
theorem dX3_requireStripe_15 : decode cX3_requireStripe 15 = .ok (.invokespecial 218, 3) := by decide +kernel
theorem dX3_requireStripe_18 : decode cX3_requireStripe 18 = .ok (.athrow, 1) := by decide +kernel
theorem dX3_requireStripe_19 : decode cX3_requireStripe 19 = .ok (.return_, 1) := by decide +kernel
theorem dX3_requireRange_0 : decode cX3_requireRange 0 = .ok (.iload_n 0, 1) := by decide +kernel
theorem dX3_requireRange_1 : decode cX3_requireRange 1 = .ok (.iload_n 1, 1) := by decide +kernel
theorem dX3_requireRange_2 : decode cX3_requireRange 2 = .ok (.if_icmp .lt 8, 3) := by decide +kernel
theorem dX3_requireRange_5 : decode cX3_requireRange 5 = .ok (.iload_n 0, 1) := by decide +kernel
theorem dX3_requireRange_6 : decode cX3_requireRange 6 = .ok (.iload_n 2, 1) := by decide +kernel
theorem dX3_requireRange_7 : decode cX3_requireRange 7 = .ok (.if_icmp .le 13, 3) := by decide +kernel
theorem dX3_requireRange_10 : decode cX3_requireRange 10 = .ok (.new 133, 3) := by decide +kernel
theorem dX3_requireRange_13 : decode cX3_requireRange 13 = .ok (.dup, 1) := by decide +kernel
theorem dX3_requireRange_14 : decode cX3_requireRange 14 = .ok (.ldc 221, 2) := by decide +kernel
theorem dX3_requireRange_16 : decode cX3_requireRange 16 = .ok (.invokespecial 137, 3) := by decide +kernel
theorem dX3_requireRange_19 : decode cX3_requireRange 19 = .ok (.athrow, 1) := by decide +kernel
theorem dX3_requireRange_20 : decode cX3_requireRange 20 = .ok (.return_, 1) := by decide +kernel
theorem dX3_requireJoined_0 : decode cX3_requireJoined 0 = .ok (.aload_n 0, 1) := by decide +kernel
theorem dX3_requireJoined_1 : decode cX3_requireJoined 1 = .ok (.iload_n 1, 1) := by decide +kernel
theorem dX3_requireJoined_2 : decode cX3_requireJoined 2 = .ok (.invokevirtual 36, 3) := by decide +kernel
theorem dX3_requireJoined_5 : decode cX3_requireJoined 5 = .ok (.ifCond .ne 13, 3) := by decide +kernel
theorem dX3_requireJoined_8 : decode cX3_requireJoined 8 = .ok (.new 40, 3) := by decide +kernel
theorem dX3_requireJoined_11 : decode cX3_requireJoined 11 = .ok (.dup, 1) := by decide +kernel
theorem dX3_requireJoined_12 : decode cX3_requireJoined 12 = .ok (.ldc 223, 2) := by decide +kernel
theorem dX3_requireJoined_14 : decode cX3_requireJoined 14 = .ok (.invokespecial 44, 3) := by decide +kernel
theorem dX3_requireJoined_17 : decode cX3_requireJoined 17 = .ok (.athrow, 1) := by decide +kernel
theorem dX3_requireJoined_18 : decode cX3_requireJoined 18 = .ok (.return_, 1) := by decide +kernel
theorem dX3_requireJoinedPlace_0 : decode cX3_requireJoinedPlace 0 = .ok (.iload_n 1, 1) := by decide +kernel
theorem dX3_requireJoinedPlace_1 : decode cX3_requireJoinedPlace 1 = .ok (.bipush 100, 2) := by decide +kernel
theorem dX3_requireJoinedPlace_3 : decode cX3_requireJoinedPlace 3 = .ok (.if_icmp .eq 8, 3) := by decide +kernel
theorem dX3_requireJoinedPlace_6 : decode cX3_requireJoinedPlace 6 = .ok (.aload_n 0, 1) := by decide +kernel
theorem dX3_requireJoinedPlace_7 : decode cX3_requireJoinedPlace 7 = .ok (.iload_n 1, 1) := by decide +kernel
theorem dX3_requireJoinedPlace_8 : decode cX3_requireJoinedPlace 8 = .ok (.invokevirtual 61, 3) := by decide +kernel
theorem dX3_requireJoinedPlace_11 : decode cX3_requireJoinedPlace 11 = .ok (.return_, 1) := by decide +kernel
theorem dX4_init_0 : decode cX4_init 0 = .ok (.aload_n 0, 1) := by decide +kernel
theorem dX4_init_1 : decode cX4_init 1 = .ok (.invokespecial 1, 3) := by decide +kernel
theorem dX4_init_4 : decode cX4_init 4 = .ok (.aload_n 0, 1) := by decide +kernel
theorem dX4_init_5 : decode cX4_init 5 = .ok (.sipush 395, 3) := by decide +kernel
theorem dX4_init_8 : decode cX4_init 8 = .ok (.newarray .int, 2) := by decide +kernel
theorem dX4_init_10 : decode cX4_init 10 = .ok (.putfield 7, 3) := by decide +kernel
theorem dX4_init_13 : decode cX4_init 13 = .ok (.aload_n 0, 1) := by decide +kernel
theorem dX4_init_14 : decode cX4_init 14 = .ok (.sipush 1580, 3) := by decide +kernel
theorem dX4_init_17 : decode cX4_init 17 = .ok (.newarray .int, 2) := by decide +kernel
theorem dX4_init_19 : decode cX4_init 19 = .ok (.putfield 13, 3) := by decide +kernel
theorem dX4_init_22 : decode cX4_init 22 = .ok (.aload_n 0, 1) := by decide +kernel
theorem dX4_init_23 : decode cX4_init 23 = .ok (.getfield 7, 3) := by decide +kernel
theorem dX4_init_26 : decode cX4_init 26 = .ok (.iconst 0, 1) := by decide +kernel
theorem dX4_init_27 : decode cX4_init 27 = .ok (.iconst 2, 1) := by decide +kernel
theorem dX4_init_28 : decode cX4_init 28 = .ok (.iastore, 1) := by decide +kernel
theorem dX4_init_29 : decode cX4_init 29 = .ok (.aload_n 0, 1) := by decide +kernel
theorem dX4_init_30 : decode cX4_init 30 = .ok (.getfield 7, 3) := by decide +kernel
theorem dX4_init_33 : decode cX4_init 33 = .ok (.iconst 1, 1) := by decide +kernel
theorem dX4_init_34 : decode cX4_init 34 = .ok (.iconst 3, 1) := by decide +kernel
theorem dX4_init_35 : decode cX4_init 35 = .ok (.iastore, 1) := by decide +kernel
theorem dX4_init_36 : decode cX4_init 36 = .ok (.return_, 1) := by decide +kernel
theorem dX4_thrown_0 : decode cX4_thrown 0 = .ok (.aload_n 0, 1) := by decide +kernel
theorem dX4_thrown_1 : decode cX4_thrown 1 = .ok (.getfield 16, 3) := by decide +kernel
theorem dX4_thrown_4 : decode cX4_thrown 4 = .ok (.ireturn, 1) := by decide +kernel
theorem dX4_in_0 : decode cX4_in 0 = .ok (.iload_n 0, 1) := by decide +kernel
theorem dX4_in_1 : decode cX4_in 1 = .ok (.iload_n 1, 1) := by decide +kernel
theorem dX4_in_2 : decode cX4_in 2 = .ok (.if_icmp .lt 12, 3) := by decide +kernel
theorem dX4_in_5 : decode cX4_in 5 = .ok (.iload_n 0, 1) := by decide +kernel
theorem dX4_in_6 : decode cX4_in 6 = .ok (.iload_n 2, 1) := by decide +kernel
theorem dX4_in_7 : decode cX4_in 7 = .ok (.if_icmp .gt 7, 3) := by decide +kernel
theorem dX4_in_10 : decode cX4_in 10 = .ok (.iconst 1, 1) := by decide +kernel
theorem dX4_in_11 : decode cX4_in 11 = .ok (.goto 4, 3) := by decide +kernel
theorem dX4_in_14 : decode cX4_in 14 = .ok (.iconst 0, 1) := by decide +kernel
theorem dX4_in_15 : decode cX4_in 15 = .ok (.ireturn, 1) := by decide +kernel
theorem dX4_keep_0 : decode cX4_keep 0 = .ok (.aload_n 0, 1) := by decide +kernel
theorem dX4_keep_1 : decode cX4_keep 1 = .ok (.getfield 20, 3) := by decide +kernel
theorem dX4_keep_4 : decode cX4_keep 4 = .ok (.iconst 4, 1) := by decide +kernel
theorem dX4_keep_5 : decode cX4_keep 5 = .ok (.if_icmp .ne 44, 3) := by decide +kernel
theorem dX4_keep_8 : decode cX4_keep 8 = .ok (.iconst 0, 1) := by decide +kernel
theorem dX4_keep_9 : decode cX4_keep 9 = .ok (.istore_n 1, 1) := by decide +kernel
theorem dX4_keep_10 : decode cX4_keep 10 = .ok (.iload_n 1, 1) := by decide +kernel
theorem dX4_keep_11 : decode cX4_keep 11 = .ok (.sipush 1185, 3) := by decide +kernel
theorem dX4_keep_14 : decode cX4_keep 14 = .ok (.if_icmp .ge 25, 3) := by decide +kernel
theorem dX4_keep_17 : decode cX4_keep 17 = .ok (.aload_n 0, 1) := by decide +kernel
theorem dX4_keep_18 : decode cX4_keep 18 = .ok (.getfield 13, 3) := by decide +kernel
theorem dX4_keep_21 : decode cX4_keep 21 = .ok (.iload_n 1, 1) := by decide +kernel
theorem dX4_keep_22 : decode cX4_keep 22 = .ok (.aload_n 0, 1) := by decide +kernel
theorem dX4_keep_23 : decode cX4_keep 23 = .ok (.getfield 13, 3) := by decide +kernel
theorem dX4_keep_26 : decode cX4_keep 26 = .ok (.iload_n 1, 1) := by decide +kernel
theorem dX4_keep_27 : decode cX4_keep 27 = .ok (.sipush 395, 3) := by decide +kernel
theorem dX4_keep_30 : decode cX4_keep 30 = .ok (.iadd, 1) := by decide +kernel
theorem dX4_keep_31 : decode cX4_keep 31 = .ok (.iaload, 1) := by decide +kernel
theorem dX4_keep_32 : decode cX4_keep 32 = .ok (.iastore, 1) := by decide +kernel
theorem dX4_keep_33 : decode cX4_keep 33 = .ok (.iinc 1 1, 3) := by decide +kernel
theorem dX4_keep_36 : decode cX4_keep 36 = .ok (.goto (-26), 3) := by decide +kernel
theorem dX4_keep_39 : decode cX4_keep 39 = .ok (.aload_n 0, 1) := by decide +kernel
theorem dX4_keep_40 : decode cX4_keep 40 = .ok (.dup, 1) := by decide +kernel
theorem dX4_keep_41 : decode cX4_keep 41 = .ok (.getfield 20, 3) := by decide +kernel
theorem dX4_keep_44 : decode cX4_keep 44 = .ok (.iconst 1, 1) := by decide +kernel
theorem dX4_keep_45 : decode cX4_keep 45 = .ok (.isub, 1) := by decide +kernel
theorem dX4_keep_46 : decode cX4_keep 46 = .ok (.putfield 20, 3) := by decide +kernel
theorem dX4_keep_49 : decode cX4_keep 49 = .ok (.iconst 0, 1) := by decide +kernel
theorem dX4_keep_50 : decode cX4_keep 50 = .ok (.istore_n 1, 1) := by decide +kernel
theorem dX4_keep_51 : decode cX4_keep 51 = .ok (.iload_n 1, 1) := by decide +kernel
theorem dX4_keep_52 : decode cX4_keep 52 = .ok (.sipush 395, 3) := by decide +kernel
theorem dX4_keep_55 : decode cX4_keep 55 = .ok (.if_icmp .ge 30, 3) := by decide +kernel
theorem dX4_keep_58 : decode cX4_keep 58 = .ok (.aload_n 0, 1) := by decide +kernel
theorem dX4_keep_59 : decode cX4_keep 59 = .ok (.getfield 13, 3) := by decide +kernel
theorem dX4_keep_62 : decode cX4_keep 62 = .ok (.sipush 395, 3) := by decide +kernel
theorem dX4_keep_65 : decode cX4_keep 65 = .ok (.aload_n 0, 1) := by decide +kernel
theorem dX4_keep_66 : decode cX4_keep 66 = .ok (.getfield 20, 3) := by decide +kernel
theorem dX4_keep_69 : decode cX4_keep 69 = .ok (.imul, 1) := by decide +kernel
theorem dX4_keep_70 : decode cX4_keep 70 = .ok (.iload_n 1, 1) := by decide +kernel
theorem dX4_keep_71 : decode cX4_keep 71 = .ok (.iadd, 1) := by decide +kernel
theorem dX4_keep_72 : decode cX4_keep 72 = .ok (.aload_n 0, 1) := by decide +kernel
theorem dX4_keep_73 : decode cX4_keep 73 = .ok (.getfield 7, 3) := by decide +kernel
theorem dX4_keep_76 : decode cX4_keep 76 = .ok (.iload_n 1, 1) := by decide +kernel
theorem dX4_keep_77 : decode cX4_keep 77 = .ok (.iaload, 1) := by decide +kernel
theorem dX4_keep_78 : decode cX4_keep 78 = .ok (.iastore, 1) := by decide +kernel
theorem dX4_keep_79 : decode cX4_keep 79 = .ok (.iinc 1 1, 3) := by decide +kernel
theorem dX4_keep_82 : decode cX4_keep 82 = .ok (.goto (-31), 3) := by decide +kernel
theorem dX4_keep_85 : decode cX4_keep 85 = .ok (.aload_n 0, 1) := by decide +kernel
theorem dX4_keep_86 : decode cX4_keep 86 = .ok (.dup, 1) := by decide +kernel
theorem dX4_keep_87 : decode cX4_keep 87 = .ok (.getfield 20, 3) := by decide +kernel
theorem dX4_keep_90 : decode cX4_keep 90 = .ok (.iconst 1, 1) := by decide +kernel
theorem dX4_keep_91 : decode cX4_keep 91 = .ok (.iadd, 1) := by decide +kernel
theorem dX4_keep_92 : decode cX4_keep 92 = .ok (.putfield 20, 3) := by decide +kernel
theorem dX4_keep_95 : decode cX4_keep 95 = .ok (.return_, 1) := by decide +kernel
theorem dX4_isMember_0 : decode cX4_isMember 0 = .ok (.iload_n 0, 1) := by decide +kernel
theorem dX4_isMember_1 : decode cX4_isMember 1 = .ok (.iconst 0, 1) := by decide +kernel
theorem dX4_isMember_2 : decode cX4_isMember 2 = .ok (.bipush 31, 2) := by decide +kernel
theorem dX4_isMember_4 : decode cX4_isMember 4 = .ok (.invokestatic 23, 3) := by decide +kernel
theorem dX4_isMember_7 : decode cX4_isMember 7 = .ok (.ireturn, 1) := by decide +kernel
theorem dX4_isStripe_0 : decode cX4_isStripe 0 = .ok (.iload_n 0, 1) := by decide +kernel
theorem dX4_isStripe_1 : decode cX4_isStripe 1 = .ok (.iconst 0, 1) := by decide +kernel
theorem dX4_isStripe_2 : decode cX4_isStripe 2 = .ok (.iconst 3, 1) := by decide +kernel
theorem dX4_isStripe_3 : decode cX4_isStripe 3 = .ok (.invokestatic 23, 3) := by decide +kernel
theorem dX4_isStripe_6 : decode cX4_isStripe 6 = .ok (.ireturn, 1) := by decide +kernel
theorem dX4_of_0 : decode cX4_of 0 = .ok (.aload_n 0, 1) := by decide +kernel
theorem dX4_of_1 : decode cX4_of 1 = .ok (.getfield 7, 3) := by decide +kernel
theorem dX4_of_4 : decode cX4_of 4 = .ok (.bipush 11, 2) := by decide +kernel
theorem dX4_of_6 : decode cX4_of 6 = .ok (.bipush 12, 2) := by decide +kernel
theorem dX4_of_8 : decode cX4_of 8 = .ok (.iload_n 1, 1) := by decide +kernel
theorem dX4_of_9 : decode cX4_of 9 = .ok (.imul, 1) := by decide +kernel
theorem dX4_of_10 : decode cX4_of 10 = .ok (.iadd, 1) := by decide +kernel
theorem dX4_of_11 : decode cX4_of 11 = .ok (.iload_n 2, 1) := by decide +kernel
theorem dX4_of_12 : decode cX4_of 12 = .ok (.iadd, 1) := by decide +kernel
theorem dX4_of_13 : decode cX4_of 13 = .ok (.iaload, 1) := by decide +kernel
theorem dX4_of_14 : decode cX4_of 14 = .ok (.ireturn, 1) := by decide +kernel
theorem dX4_put_0 : decode cX4_put 0 = .ok (.aload_n 0, 1) := by decide +kernel
theorem dX4_put_1 : decode cX4_put 1 = .ok (.getfield 7, 3) := by decide +kernel
theorem dX4_put_4 : decode cX4_put 4 = .ok (.bipush 11, 2) := by decide +kernel
theorem dX4_put_6 : decode cX4_put 6 = .ok (.bipush 12, 2) := by decide +kernel
theorem dX4_put_8 : decode cX4_put 8 = .ok (.iload_n 1, 1) := by decide +kernel
theorem dX4_put_9 : decode cX4_put 9 = .ok (.imul, 1) := by decide +kernel
theorem dX4_put_10 : decode cX4_put 10 = .ok (.iadd, 1) := by decide +kernel
theorem dX4_put_11 : decode cX4_put 11 = .ok (.iload_n 2, 1) := by decide +kernel
theorem dX4_put_12 : decode cX4_put 12 = .ok (.iadd, 1) := by decide +kernel
theorem dX4_put_13 : decode cX4_put 13 = .ok (.iload_n 3, 1) := by decide +kernel
theorem dX4_put_14 : decode cX4_put 14 = .ok (.iastore, 1) := by decide +kernel
theorem dX4_put_15 : decode cX4_put 15 = .ok (.return_, 1) := by decide +kernel
theorem dX4_isJoined_0 : decode cX4_isJoined 0 = .ok (.aload_n 0, 1) := by decide +kernel
theorem dX4_isJoined_1 : decode cX4_isJoined 1 = .ok (.iload_n 1, 1) := by decide +kernel
theorem dX4_isJoined_2 : decode cX4_isJoined 2 = .ok (.iconst 0, 1) := by decide +kernel
theorem dX4_isJoined_3 : decode cX4_isJoined 3 = .ok (.invokevirtual 27, 3) := by decide +kernel
theorem dX4_isJoined_6 : decode cX4_isJoined 6 = .ok (.iconst 1, 1) := by decide +kernel
theorem dX4_isJoined_7 : decode cX4_isJoined 7 = .ok (.if_icmp .ne 7, 3) := by decide +kernel
theorem dX4_isJoined_10 : decode cX4_isJoined 10 = .ok (.iconst 1, 1) := by decide +kernel
theorem dX4_isJoined_11 : decode cX4_isJoined 11 = .ok (.goto 4, 3) := by decide +kernel
theorem dX4_isJoined_14 : decode cX4_isJoined 14 = .ok (.iconst 0, 1) := by decide +kernel
theorem dX4_isJoined_15 : decode cX4_isJoined 15 = .ok (.ireturn, 1) := by decide +kernel
theorem dX4_isChild_0 : decode cX4_isChild 0 = .ok (.aload_n 0, 1) := by decide +kernel
theorem dX4_isChild_1 : decode cX4_isChild 1 = .ok (.iload_n 1, 1) := by decide +kernel
theorem dX4_isChild_2 : decode cX4_isChild 2 = .ok (.invokevirtual 31, 3) := by decide +kernel
theorem dX4_isChild_5 : decode cX4_isChild 5 = .ok (.ifCond .eq 20, 3) := by decide +kernel
theorem dX4_isChild_8 : decode cX4_isChild 8 = .ok (.aload_n 0, 1) := by decide +kernel
theorem dX4_isChild_9 : decode cX4_isChild 9 = .ok (.iload_n 1, 1) := by decide +kernel
theorem dX4_isChild_10 : decode cX4_isChild 10 = .ok (.bipush 8, 2) := by decide +kernel
theorem dX4_isChild_12 : decode cX4_isChild 12 = .ok (.iload_n 3, 1) := by decide +kernel
theorem dX4_isChild_13 : decode cX4_isChild 13 = .ok (.iadd, 1) := by decide +kernel
theorem dX4_isChild_14 : decode cX4_isChild 14 = .ok (.invokevirtual 27, 3) := by decide +kernel
theorem dX4_isChild_17 : decode cX4_isChild 17 = .ok (.iload_n 2, 1) := by decide +kernel
theorem dX4_isChild_18 : decode cX4_isChild 18 = .ok (.if_icmp .ne 7, 3) := by decide +kernel
theorem dX4_isChild_21 : decode cX4_isChild 21 = .ok (.iconst 1, 1) := by decide +kernel
theorem dX4_isChild_22 : decode cX4_isChild 22 = .ok (.goto 4, 3) := by decide +kernel
theorem dX4_isChild_25 : decode cX4_isChild 25 = .ok (.iconst 0, 1) := by decide +kernel
theorem dX4_isChild_26 : decode cX4_isChild 26 = .ok (.ireturn, 1) := by decide +kernel
theorem dX4_childrenIn_0 : decode cX4_childrenIn 0 = .ok (.iconst 0, 1) := by decide +kernel
theorem dX4_childrenIn_1 : decode cX4_childrenIn 1 = .ok (.istore_n 3, 1) := by decide +kernel
theorem dX4_childrenIn_2 : decode cX4_childrenIn 2 = .ok (.iconst 0, 1) := by decide +kernel
theorem dX4_childrenIn_3 : decode cX4_childrenIn 3 = .ok (.istore 4, 2) := by decide +kernel
theorem dX4_childrenIn_5 : decode cX4_childrenIn 5 = .ok (.iload 4, 2) := by decide +kernel
theorem dX4_childrenIn_7 : decode cX4_childrenIn 7 = .ok (.bipush 32, 2) := by decide +kernel
theorem dX4_childrenIn_9 : decode cX4_childrenIn 9 = .ok (.if_icmp .ge 28, 3) := by decide +kernel
theorem dX4_childrenIn_12 : decode cX4_childrenIn 12 = .ok (.iload_n 3, 1) := by decide +kernel
theorem dX4_childrenIn_13 : decode cX4_childrenIn 13 = .ok (.aload_n 0, 1) := by decide +kernel
theorem dX4_childrenIn_14 : decode cX4_childrenIn 14 = .ok (.iload 4, 2) := by decide +kernel
theorem dX4_childrenIn_16 : decode cX4_childrenIn 16 = .ok (.iload_n 1, 1) := by decide +kernel
theorem dX4_childrenIn_17 : decode cX4_childrenIn 17 = .ok (.iload_n 2, 1) := by decide +kernel
theorem dX4_childrenIn_18 : decode cX4_childrenIn 18 = .ok (.invokevirtual 35, 3) := by decide +kernel
theorem dX4_childrenIn_21 : decode cX4_childrenIn 21 = .ok (.ifCond .eq 7, 3) := by decide +kernel
theorem dX4_childrenIn_24 : decode cX4_childrenIn 24 = .ok (.iconst 1, 1) := by decide +kernel
theorem dX4_childrenIn_25 : decode cX4_childrenIn 25 = .ok (.goto 4, 3) := by decide +kernel
theorem dX4_childrenIn_28 : decode cX4_childrenIn 28 = .ok (.iconst 0, 1) := by decide +kernel
theorem dX4_childrenIn_29 : decode cX4_childrenIn 29 = .ok (.iadd, 1) := by decide +kernel
theorem dX4_childrenIn_30 : decode cX4_childrenIn 30 = .ok (.istore_n 3, 1) := by decide +kernel
theorem dX4_childrenIn_31 : decode cX4_childrenIn 31 = .ok (.iinc 4 1, 3) := by decide +kernel
theorem dX4_childrenIn_34 : decode cX4_childrenIn 34 = .ok (.goto (-29), 3) := by decide +kernel
theorem dX4_childrenIn_37 : decode cX4_childrenIn 37 = .ok (.iload_n 3, 1) := by decide +kernel
theorem dX4_childrenIn_38 : decode cX4_childrenIn 38 = .ok (.ireturn, 1) := by decide +kernel
theorem dX4_childrenOf_0 : decode cX4_childrenOf 0 = .ok (.iconst 0, 1) := by decide +kernel
theorem dX4_childrenOf_1 : decode cX4_childrenOf 1 = .ok (.istore_n 2, 1) := by decide +kernel
theorem dX4_childrenOf_2 : decode cX4_childrenOf 2 = .ok (.iconst 0, 1) := by decide +kernel
theorem dX4_childrenOf_3 : decode cX4_childrenOf 3 = .ok (.istore_n 3, 1) := by decide +kernel
theorem dX4_childrenOf_4 : decode cX4_childrenOf 4 = .ok (.iload_n 3, 1) := by decide +kernel
theorem dX4_childrenOf_5 : decode cX4_childrenOf 5 = .ok (.iconst 4, 1) := by decide +kernel
theorem dX4_childrenOf_6 : decode cX4_childrenOf 6 = .ok (.if_icmp .ge 18, 3) := by decide +kernel
theorem dX4_childrenOf_9 : decode cX4_childrenOf 9 = .ok (.iload_n 2, 1) := by decide +kernel
theorem dX4_childrenOf_10 : decode cX4_childrenOf 10 = .ok (.aload_n 0, 1) := by decide +kernel
theorem dX4_childrenOf_11 : decode cX4_childrenOf 11 = .ok (.iload_n 1, 1) := by decide +kernel
theorem dX4_childrenOf_12 : decode cX4_childrenOf 12 = .ok (.iload_n 3, 1) := by decide +kernel
theorem dX4_childrenOf_13 : decode cX4_childrenOf 13 = .ok (.invokevirtual 38, 3) := by decide +kernel
theorem dX4_childrenOf_16 : decode cX4_childrenOf 16 = .ok (.iadd, 1) := by decide +kernel
theorem dX4_childrenOf_17 : decode cX4_childrenOf 17 = .ok (.istore_n 2, 1) := by decide +kernel
theorem dX4_childrenOf_18 : decode cX4_childrenOf 18 = .ok (.iinc 3 1, 3) := by decide +kernel
theorem dX4_childrenOf_21 : decode cX4_childrenOf 21 = .ok (.goto (-17), 3) := by decide +kernel
theorem dX4_childrenOf_24 : decode cX4_childrenOf 24 = .ok (.iload_n 2, 1) := by decide +kernel
theorem dX4_childrenOf_25 : decode cX4_childrenOf 25 = .ok (.ireturn, 1) := by decide +kernel
theorem dX4_depthOf_0 : decode cX4_depthOf 0 = .ok (.iconst 0, 1) := by decide +kernel
theorem dX4_depthOf_1 : decode cX4_depthOf 1 = .ok (.istore_n 3, 1) := by decide +kernel
theorem dX4_depthOf_2 : decode cX4_depthOf 2 = .ok (.iload_n 1, 1) := by decide +kernel
theorem dX4_depthOf_3 : decode cX4_depthOf 3 = .ok (.istore 4, 2) := by decide +kernel
theorem dX4_depthOf_5 : decode cX4_depthOf 5 = .ok (.iload 4, 2) := by decide +kernel
theorem dX4_depthOf_7 : decode cX4_depthOf 7 = .ok (.bipush 100, 2) := by decide +kernel
theorem dX4_depthOf_9 : decode cX4_depthOf 9 = .ok (.if_icmp .eq 27, 3) := by decide +kernel
theorem dX4_depthOf_12 : decode cX4_depthOf 12 = .ok (.iload 4, 2) := by decide +kernel
theorem dX4_depthOf_14 : decode cX4_depthOf 14 = .ok (.iconst (-1), 1) := by decide +kernel
theorem dX4_depthOf_15 : decode cX4_depthOf 15 = .ok (.if_icmp .eq 21, 3) := by decide +kernel
theorem dX4_depthOf_18 : decode cX4_depthOf 18 = .ok (.aload_n 0, 1) := by decide +kernel
theorem dX4_depthOf_19 : decode cX4_depthOf 19 = .ok (.iload 4, 2) := by decide +kernel
theorem dX4_depthOf_21 : decode cX4_depthOf 21 = .ok (.bipush 8, 2) := by decide +kernel
theorem dX4_depthOf_23 : decode cX4_depthOf 23 = .ok (.iload_n 2, 1) := by decide +kernel
theorem dX4_depthOf_24 : decode cX4_depthOf 24 = .ok (.iadd, 1) := by decide +kernel
theorem dX4_depthOf_25 : decode cX4_depthOf 25 = .ok (.invokevirtual 27, 3) := by decide +kernel
theorem dX4_depthOf_28 : decode cX4_depthOf 28 = .ok (.istore 4, 2) := by decide +kernel
theorem dX4_depthOf_30 : decode cX4_depthOf 30 = .ok (.iinc 3 1, 3) := by decide +kernel
theorem dX4_depthOf_33 : decode cX4_depthOf 33 = .ok (.goto (-28), 3) := by decide +kernel
theorem dX4_depthOf_36 : decode cX4_depthOf 36 = .ok (.iload 4, 2) := by decide +kernel
theorem dX4_depthOf_38 : decode cX4_depthOf 38 = .ok (.bipush 100, 2) := by decide +kernel
theorem dX4_depthOf_40 : decode cX4_depthOf 40 = .ok (.if_icmp .ne 7, 3) := by decide +kernel
theorem dX4_depthOf_43 : decode cX4_depthOf 43 = .ok (.iload_n 3, 1) := by decide +kernel
theorem dX4_depthOf_44 : decode cX4_depthOf 44 = .ok (.goto 4, 3) := by decide +kernel
theorem dX4_depthOf_47 : decode cX4_depthOf 47 = .ok (.iconst (-1), 1) := by decide +kernel
theorem dX4_depthOf_48 : decode cX4_depthOf 48 = .ok (.ireturn, 1) := by decide +kernel
theorem dX4_isUnder_0 : decode cX4_isUnder 0 = .ok (.iload_n 1, 1) := by decide +kernel
theorem dX4_isUnder_1 : decode cX4_isUnder 1 = .ok (.istore 4, 2) := by decide +kernel
theorem dX4_isUnder_3 : decode cX4_isUnder 3 = .ok (.iload 4, 2) := by decide +kernel
theorem dX4_isUnder_5 : decode cX4_isUnder 5 = .ok (.bipush 100, 2) := by decide +kernel
theorem dX4_isUnder_7 : decode cX4_isUnder 7 = .ok (.if_icmp .eq 30, 3) := by decide +kernel
theorem dX4_isUnder_10 : decode cX4_isUnder 10 = .ok (.iload 4, 2) := by decide +kernel
theorem dX4_isUnder_12 : decode cX4_isUnder 12 = .ok (.iconst (-1), 1) := by decide +kernel
theorem dX4_isUnder_13 : decode cX4_isUnder 13 = .ok (.if_icmp .eq 24, 3) := by decide +kernel
theorem dX4_isUnder_16 : decode cX4_isUnder 16 = .ok (.iload 4, 2) := by decide +kernel
theorem dX4_isUnder_18 : decode cX4_isUnder 18 = .ok (.iload_n 2, 1) := by decide +kernel
theorem dX4_isUnder_19 : decode cX4_isUnder 19 = .ok (.if_icmp .eq 18, 3) := by decide +kernel
theorem dX4_isUnder_22 : decode cX4_isUnder 22 = .ok (.aload_n 0, 1) := by decide +kernel
theorem dX4_isUnder_23 : decode cX4_isUnder 23 = .ok (.iload 4, 2) := by decide +kernel
theorem dX4_isUnder_25 : decode cX4_isUnder 25 = .ok (.bipush 8, 2) := by decide +kernel
theorem dX4_isUnder_27 : decode cX4_isUnder 27 = .ok (.iload_n 3, 1) := by decide +kernel
theorem dX4_isUnder_28 : decode cX4_isUnder 28 = .ok (.iadd, 1) := by decide +kernel
theorem dX4_isUnder_29 : decode cX4_isUnder 29 = .ok (.invokevirtual 27, 3) := by decide +kernel
theorem dX4_isUnder_32 : decode cX4_isUnder 32 = .ok (.istore 4, 2) := by decide +kernel
theorem dX4_isUnder_34 : decode cX4_isUnder 34 = .ok (.goto (-31), 3) := by decide +kernel
theorem dX4_isUnder_37 : decode cX4_isUnder 37 = .ok (.iload 4, 2) := by decide +kernel
theorem dX4_isUnder_39 : decode cX4_isUnder 39 = .ok (.iload_n 2, 1) := by decide +kernel
theorem dX4_isUnder_40 : decode cX4_isUnder 40 = .ok (.if_icmp .ne 7, 3) := by decide +kernel
theorem dX4_isUnder_43 : decode cX4_isUnder 43 = .ok (.iconst 1, 1) := by decide +kernel
theorem dX4_isUnder_44 : decode cX4_isUnder 44 = .ok (.goto 4, 3) := by decide +kernel
theorem dX4_isUnder_47 : decode cX4_isUnder 47 = .ok (.iconst 0, 1) := by decide +kernel
theorem dX4_isUnder_48 : decode cX4_isUnder 48 = .ok (.ireturn, 1) := by decide +kernel
theorem dX4_isInnerElsewhere_0 : decode cX4_isInnerElsewhere 0 = .ok (.aload_n 0, 1) := by decide +kernel
theorem dX4_isInnerElsewhere_1 : decode cX4_isInnerElsewhere 1 = .ok (.iload_n 1, 1) := by decide +kernel
theorem dX4_isInnerElsewhere_2 : decode cX4_isInnerElsewhere 2 = .ok (.invokevirtual 41, 3) := by decide +kernel
theorem dX4_isInnerElsewhere_5 : decode cX4_isInnerElsewhere 5 = .ok (.aload_n 0, 1) := by decide +kernel
theorem dX4_isInnerElsewhere_6 : decode cX4_isInnerElsewhere 6 = .ok (.iload_n 1, 1) := by decide +kernel
theorem dX4_isInnerElsewhere_7 : decode cX4_isInnerElsewhere 7 = .ok (.iload_n 2, 1) := by decide +kernel
theorem dX4_isInnerElsewhere_8 : decode cX4_isInnerElsewhere 8 = .ok (.invokevirtual 38, 3) := by decide +kernel
theorem dX4_isInnerElsewhere_11 : decode cX4_isInnerElsewhere 11 = .ok (.if_icmp .le 7, 3) := by decide +kernel
theorem dX4_isInnerElsewhere_14 : decode cX4_isInnerElsewhere 14 = .ok (.iconst 1, 1) := by decide +kernel
theorem dX4_isInnerElsewhere_15 : decode cX4_isInnerElsewhere 15 = .ok (.goto 4, 3) := by decide +kernel
theorem dX4_isInnerElsewhere_18 : decode cX4_isInnerElsewhere 18 = .ok (.iconst 0, 1) := by decide +kernel
theorem dX4_isInnerElsewhere_19 : decode cX4_isInnerElsewhere 19 = .ok (.ireturn, 1) := by decide +kernel
theorem dX4_canBeInner_0 : decode cX4_canBeInner 0 = .ok (.aload_n 0, 1) := by decide +kernel
theorem dX4_canBeInner_1 : decode cX4_canBeInner 1 = .ok (.iload_n 1, 1) := by decide +kernel
theorem dX4_canBeInner_2 : decode cX4_canBeInner 2 = .ok (.iconst 1, 1) := by decide +kernel
theorem dX4_canBeInner_3 : decode cX4_canBeInner 3 = .ok (.invokevirtual 27, 3) := by decide +kernel
theorem dX4_canBeInner_6 : decode cX4_canBeInner 6 = .ok (.ifCond .le 16, 3) := by decide +kernel
theorem dX4_canBeInner_9 : decode cX4_canBeInner 9 = .ok (.aload_n 0, 1) := by decide +kernel
theorem dX4_canBeInner_10 : decode cX4_canBeInner 10 = .ok (.iload_n 1, 1) := by decide +kernel
theorem dX4_canBeInner_11 : decode cX4_canBeInner 11 = .ok (.iload_n 2, 1) := by decide +kernel
theorem dX4_canBeInner_12 : decode cX4_canBeInner 12 = .ok (.invokevirtual 45, 3) := by decide +kernel
theorem dX4_canBeInner_15 : decode cX4_canBeInner 15 = .ok (.ifCond .ne 7, 3) := by decide +kernel
theorem dX4_canBeInner_18 : decode cX4_canBeInner 18 = .ok (.iconst 1, 1) := by decide +kernel
theorem dX4_canBeInner_19 : decode cX4_canBeInner 19 = .ok (.goto 4, 3) := by decide +kernel
theorem dX4_canBeInner_22 : decode cX4_canBeInner 22 = .ok (.iconst 0, 1) := by decide +kernel
theorem dX4_canBeInner_23 : decode cX4_canBeInner 23 = .ok (.ireturn, 1) := by decide +kernel
theorem dX4_isRoomy_0 : decode cX4_isRoomy 0 = .ok (.iload_n 1, 1) := by decide +kernel
theorem dX4_isRoomy_1 : decode cX4_isRoomy 1 = .ok (.bipush 100, 2) := by decide +kernel
theorem dX4_isRoomy_3 : decode cX4_isRoomy 3 = .ok (.if_icmp .ne 25, 3) := by decide +kernel
theorem dX4_isRoomy_6 : decode cX4_isRoomy 6 = .ok (.aload_n 0, 1) := by decide +kernel
theorem dX4_isRoomy_7 : decode cX4_isRoomy 7 = .ok (.bipush 100, 2) := by decide +kernel
theorem dX4_isRoomy_9 : decode cX4_isRoomy 9 = .ok (.iload_n 2, 1) := by decide +kernel
theorem dX4_isRoomy_10 : decode cX4_isRoomy 10 = .ok (.invokevirtual 38, 3) := by decide +kernel
theorem dX4_isRoomy_13 : decode cX4_isRoomy 13 = .ok (.aload_n 0, 1) := by decide +kernel
theorem dX4_isRoomy_14 : decode cX4_isRoomy 14 = .ok (.getfield 7, 3) := by decide +kernel
theorem dX4_isRoomy_17 : decode cX4_isRoomy 17 = .ok (.iconst 0, 1) := by decide +kernel
theorem dX4_isRoomy_18 : decode cX4_isRoomy 18 = .ok (.iaload, 1) := by decide +kernel
theorem dX4_isRoomy_19 : decode cX4_isRoomy 19 = .ok (.if_icmp .ge 7, 3) := by decide +kernel
theorem dX4_isRoomy_22 : decode cX4_isRoomy 22 = .ok (.iconst 1, 1) := by decide +kernel
theorem dX4_isRoomy_23 : decode cX4_isRoomy 23 = .ok (.goto 4, 3) := by decide +kernel
theorem dX4_isRoomy_26 : decode cX4_isRoomy 26 = .ok (.iconst 0, 1) := by decide +kernel
theorem dX4_isRoomy_27 : decode cX4_isRoomy 27 = .ok (.ireturn, 1) := by decide +kernel
theorem dX4_isRoomy_28 : decode cX4_isRoomy 28 = .ok (.aload_n 0, 1) := by decide +kernel
theorem dX4_isRoomy_29 : decode cX4_isRoomy 29 = .ok (.iload_n 1, 1) := by decide +kernel
theorem dX4_isRoomy_30 : decode cX4_isRoomy 30 = .ok (.iload_n 2, 1) := by decide +kernel
theorem dX4_isRoomy_31 : decode cX4_isRoomy 31 = .ok (.invokevirtual 49, 3) := by decide +kernel
theorem dX4_isRoomy_34 : decode cX4_isRoomy 34 = .ok (.iconst (-1), 1) := by decide +kernel
theorem dX4_isRoomy_35 : decode cX4_isRoomy 35 = .ok (.if_icmp .eq 30, 3) := by decide +kernel
theorem dX4_isRoomy_38 : decode cX4_isRoomy 38 = .ok (.aload_n 0, 1) := by decide +kernel
theorem dX4_isRoomy_39 : decode cX4_isRoomy 39 = .ok (.iload_n 1, 1) := by decide +kernel
theorem dX4_isRoomy_40 : decode cX4_isRoomy 40 = .ok (.invokevirtual 41, 3) := by decide +kernel
theorem dX4_isRoomy_43 : decode cX4_isRoomy 43 = .ok (.aload_n 0, 1) := by decide +kernel
theorem dX4_isRoomy_44 : decode cX4_isRoomy 44 = .ok (.iload_n 1, 1) := by decide +kernel
theorem dX4_isRoomy_45 : decode cX4_isRoomy 45 = .ok (.iconst 1, 1) := by decide +kernel
theorem dX4_isRoomy_46 : decode cX4_isRoomy 46 = .ok (.invokevirtual 27, 3) := by decide +kernel
theorem dX4_isRoomy_49 : decode cX4_isRoomy 49 = .ok (.if_icmp .ge 16, 3) := by decide +kernel
theorem dX4_isRoomy_52 : decode cX4_isRoomy 52 = .ok (.aload_n 0, 1) := by decide +kernel
theorem dX4_isRoomy_53 : decode cX4_isRoomy 53 = .ok (.iload_n 1, 1) := by decide +kernel
theorem dX4_isRoomy_54 : decode cX4_isRoomy 54 = .ok (.iload_n 2, 1) := by decide +kernel
theorem dX4_isRoomy_55 : decode cX4_isRoomy 55 = .ok (.invokevirtual 45, 3) := by decide +kernel
theorem dX4_isRoomy_58 : decode cX4_isRoomy 58 = .ok (.ifCond .ne 7, 3) := by decide +kernel
theorem dX4_isRoomy_61 : decode cX4_isRoomy 61 = .ok (.iconst 1, 1) := by decide +kernel
theorem dX4_isRoomy_62 : decode cX4_isRoomy 62 = .ok (.goto 4, 3) := by decide +kernel
theorem dX4_isRoomy_65 : decode cX4_isRoomy 65 = .ok (.iconst 0, 1) := by decide +kernel
theorem dX4_isRoomy_66 : decode cX4_isRoomy 66 = .ok (.ireturn, 1) := by decide +kernel
theorem dX4_isAhead_0 : decode cX4_isAhead 0 = .ok (.aload_n 0, 1) := by decide +kernel
theorem dX4_isAhead_1 : decode cX4_isAhead 1 = .ok (.iload_n 1, 1) := by decide +kernel
theorem dX4_isAhead_2 : decode cX4_isAhead 2 = .ok (.iconst 2, 1) := by decide +kernel
theorem dX4_isAhead_3 : decode cX4_isAhead 3 = .ok (.invokevirtual 27, 3) := by decide +kernel
theorem dX4_isAhead_6 : decode cX4_isAhead 6 = .ok (.iload_n 3, 1) := by decide +kernel
theorem dX4_isAhead_7 : decode cX4_isAhead 7 = .ok (.if_icmp .ne 7, 3) := by decide +kernel
theorem dX4_isAhead_10 : decode cX4_isAhead 10 = .ok (.iconst 1, 1) := by decide +kernel
theorem dX4_isAhead_11 : decode cX4_isAhead 11 = .ok (.goto 4, 3) := by decide +kernel
theorem dX4_isAhead_14 : decode cX4_isAhead 14 = .ok (.iconst 0, 1) := by decide +kernel
theorem dX4_isAhead_15 : decode cX4_isAhead 15 = .ok (.istore 4, 2) := by decide +kernel
theorem dX4_isAhead_17 : decode cX4_isAhead 17 = .ok (.aload_n 0, 1) := by decide +kernel
theorem dX4_isAhead_18 : decode cX4_isAhead 18 = .ok (.iload_n 2, 1) := by decide +kernel
theorem dX4_isAhead_19 : decode cX4_isAhead 19 = .ok (.iconst 2, 1) := by decide +kernel
theorem dX4_isAhead_20 : decode cX4_isAhead 20 = .ok (.invokevirtual 27, 3) := by decide +kernel
theorem dX4_isAhead_23 : decode cX4_isAhead 23 = .ok (.iload_n 3, 1) := by decide +kernel
theorem dX4_isAhead_24 : decode cX4_isAhead 24 = .ok (.if_icmp .ne 7, 3) := by decide +kernel
theorem dX4_isAhead_27 : decode cX4_isAhead 27 = .ok (.iconst 1, 1) := by decide +kernel
theorem dX4_isAhead_28 : decode cX4_isAhead 28 = .ok (.goto 4, 3) := by decide +kernel
theorem dX4_isAhead_31 : decode cX4_isAhead 31 = .ok (.iconst 0, 1) := by decide +kernel
theorem dX4_isAhead_32 : decode cX4_isAhead 32 = .ok (.istore 5, 2) := by decide +kernel
theorem dX4_isAhead_34 : decode cX4_isAhead 34 = .ok (.iload 4, 2) := by decide +kernel
theorem dX4_isAhead_36 : decode cX4_isAhead 36 = .ok (.iload 5, 2) := by decide +kernel
theorem dX4_isAhead_38 : decode cX4_isAhead 38 = .ok (.if_icmp .eq 6, 3) := by decide +kernel
theorem dX4_isAhead_41 : decode cX4_isAhead 41 = .ok (.iload 4, 2) := by decide +kernel
theorem dX4_isAhead_43 : decode cX4_isAhead 43 = .ok (.ireturn, 1) := by decide +kernel
theorem dX4_isAhead_44 : decode cX4_isAhead 44 = .ok (.aload_n 0, 1) := by decide +kernel
theorem dX4_isAhead_45 : decode cX4_isAhead 45 = .ok (.iload_n 1, 1) := by decide +kernel
theorem dX4_isAhead_46 : decode cX4_isAhead 46 = .ok (.iconst 1, 1) := by decide +kernel
theorem dX4_isAhead_47 : decode cX4_isAhead 47 = .ok (.invokevirtual 27, 3) := by decide +kernel
theorem dX4_isAhead_50 : decode cX4_isAhead 50 = .ok (.aload_n 0, 1) := by decide +kernel
theorem dX4_isAhead_51 : decode cX4_isAhead 51 = .ok (.iload_n 2, 1) := by decide +kernel
theorem dX4_isAhead_52 : decode cX4_isAhead 52 = .ok (.iconst 1, 1) := by decide +kernel
theorem dX4_isAhead_53 : decode cX4_isAhead 53 = .ok (.invokevirtual 27, 3) := by decide +kernel
theorem dX4_isAhead_56 : decode cX4_isAhead 56 = .ok (.if_icmp .eq 26, 3) := by decide +kernel
theorem dX4_isAhead_59 : decode cX4_isAhead 59 = .ok (.aload_n 0, 1) := by decide +kernel
theorem dX4_isAhead_60 : decode cX4_isAhead 60 = .ok (.iload_n 1, 1) := by decide +kernel
theorem dX4_isAhead_61 : decode cX4_isAhead 61 = .ok (.iconst 1, 1) := by decide +kernel
theorem dX4_isAhead_62 : decode cX4_isAhead 62 = .ok (.invokevirtual 27, 3) := by decide +kernel
theorem dX4_isAhead_65 : decode cX4_isAhead 65 = .ok (.aload_n 0, 1) := by decide +kernel
theorem dX4_isAhead_66 : decode cX4_isAhead 66 = .ok (.iload_n 2, 1) := by decide +kernel
theorem dX4_isAhead_67 : decode cX4_isAhead 67 = .ok (.iconst 1, 1) := by decide +kernel
theorem dX4_isAhead_68 : decode cX4_isAhead 68 = .ok (.invokevirtual 27, 3) := by decide +kernel
theorem dX4_isAhead_71 : decode cX4_isAhead 71 = .ok (.if_icmp .le 7, 3) := by decide +kernel
theorem dX4_isAhead_74 : decode cX4_isAhead 74 = .ok (.iconst 1, 1) := by decide +kernel
theorem dX4_isAhead_75 : decode cX4_isAhead 75 = .ok (.goto 17, 3) := by decide +kernel
theorem dX4_isAhead_78 : decode cX4_isAhead 78 = .ok (.iconst 0, 1) := by decide +kernel
theorem dX4_isAhead_79 : decode cX4_isAhead 79 = .ok (.goto 13, 3) := by decide +kernel
theorem dX4_isAhead_82 : decode cX4_isAhead 82 = .ok (.iload_n 1, 1) := by decide +kernel
theorem dX4_isAhead_83 : decode cX4_isAhead 83 = .ok (.iload_n 2, 1) := by decide +kernel
theorem dX4_isAhead_84 : decode cX4_isAhead 84 = .ok (.if_icmp .ge 7, 3) := by decide +kernel
theorem dX4_isAhead_87 : decode cX4_isAhead 87 = .ok (.iconst 1, 1) := by decide +kernel
theorem dX4_isAhead_88 : decode cX4_isAhead 88 = .ok (.goto 4, 3) := by decide +kernel
theorem dX4_isAhead_91 : decode cX4_isAhead 91 = .ok (.iconst 0, 1) := by decide +kernel
theorem dX4_isAhead_92 : decode cX4_isAhead 92 = .ok (.ireturn, 1) := by decide +kernel
theorem dX4_lastChild_0 : decode cX4_lastChild 0 = .ok (.iconst (-1), 1) := by decide +kernel
theorem dX4_lastChild_1 : decode cX4_lastChild 1 = .ok (.istore_n 3, 1) := by decide +kernel
theorem dX4_lastChild_2 : decode cX4_lastChild 2 = .ok (.iconst 0, 1) := by decide +kernel
theorem dX4_lastChild_3 : decode cX4_lastChild 3 = .ok (.istore 4, 2) := by decide +kernel
theorem dX4_lastChild_5 : decode cX4_lastChild 5 = .ok (.iload 4, 2) := by decide +kernel
theorem dX4_lastChild_7 : decode cX4_lastChild 7 = .ok (.bipush 32, 2) := by decide +kernel
theorem dX4_lastChild_9 : decode cX4_lastChild 9 = .ok (.if_icmp .ge 43, 3) := by decide +kernel
theorem dX4_lastChild_12 : decode cX4_lastChild 12 = .ok (.aload_n 0, 1) := by decide +kernel
theorem dX4_lastChild_13 : decode cX4_lastChild 13 = .ok (.iload 4, 2) := by decide +kernel
theorem dX4_lastChild_15 : decode cX4_lastChild 15 = .ok (.iload_n 1, 1) := by decide +kernel
theorem dX4_lastChild_16 : decode cX4_lastChild 16 = .ok (.iload_n 2, 1) := by decide +kernel
theorem dX4_lastChild_17 : decode cX4_lastChild 17 = .ok (.invokevirtual 35, 3) := by decide +kernel
theorem dX4_lastChild_20 : decode cX4_lastChild 20 = .ok (.ifCond .eq 24, 3) := by decide +kernel
theorem dX4_lastChild_23 : decode cX4_lastChild 23 = .ok (.iload_n 3, 1) := by decide +kernel
theorem dX4_lastChild_24 : decode cX4_lastChild 24 = .ok (.iconst (-1), 1) := by decide +kernel
theorem dX4_lastChild_25 : decode cX4_lastChild 25 = .ok (.if_icmp .eq 14, 3) := by decide +kernel
theorem dX4_lastChild_28 : decode cX4_lastChild 28 = .ok (.aload_n 0, 1) := by decide +kernel
theorem dX4_lastChild_29 : decode cX4_lastChild 29 = .ok (.iload_n 3, 1) := by decide +kernel
theorem dX4_lastChild_30 : decode cX4_lastChild 30 = .ok (.iload 4, 2) := by decide +kernel
theorem dX4_lastChild_32 : decode cX4_lastChild 32 = .ok (.iload_n 2, 1) := by decide +kernel
theorem dX4_lastChild_33 : decode cX4_lastChild 33 = .ok (.invokevirtual 52, 3) := by decide +kernel
theorem dX4_lastChild_36 : decode cX4_lastChild 36 = .ok (.ifCond .eq 8, 3) := by decide +kernel
theorem dX4_lastChild_39 : decode cX4_lastChild 39 = .ok (.iload 4, 2) := by decide +kernel
theorem dX4_lastChild_41 : decode cX4_lastChild 41 = .ok (.goto 4, 3) := by decide +kernel
theorem dX4_lastChild_44 : decode cX4_lastChild 44 = .ok (.iload_n 3, 1) := by decide +kernel
theorem dX4_lastChild_45 : decode cX4_lastChild 45 = .ok (.istore_n 3, 1) := by decide +kernel
theorem dX4_lastChild_46 : decode cX4_lastChild 46 = .ok (.iinc 4 1, 3) := by decide +kernel
theorem dX4_lastChild_49 : decode cX4_lastChild 49 = .ok (.goto (-44), 3) := by decide +kernel
theorem dX4_lastChild_52 : decode cX4_lastChild 52 = .ok (.iload_n 3, 1) := by decide +kernel
theorem dX4_lastChild_53 : decode cX4_lastChild 53 = .ok (.ireturn, 1) := by decide +kernel
theorem dX4_firstInner_0 : decode cX4_firstInner 0 = .ok (.iconst (-1), 1) := by decide +kernel
theorem dX4_firstInner_1 : decode cX4_firstInner 1 = .ok (.istore_n 3, 1) := by decide +kernel
theorem dX4_firstInner_2 : decode cX4_firstInner 2 = .ok (.iconst 0, 1) := by decide +kernel
theorem dX4_firstInner_3 : decode cX4_firstInner 3 = .ok (.istore 4, 2) := by decide +kernel
theorem dX4_firstInner_5 : decode cX4_firstInner 5 = .ok (.iload 4, 2) := by decide +kernel
theorem dX4_firstInner_7 : decode cX4_firstInner 7 = .ok (.bipush 32, 2) := by decide +kernel
theorem dX4_firstInner_9 : decode cX4_firstInner 9 = .ok (.if_icmp .ge 53, 3) := by decide +kernel
theorem dX4_firstInner_12 : decode cX4_firstInner 12 = .ok (.aload_n 0, 1) := by decide +kernel
theorem dX4_firstInner_13 : decode cX4_firstInner 13 = .ok (.iload 4, 2) := by decide +kernel
theorem dX4_firstInner_15 : decode cX4_firstInner 15 = .ok (.iload_n 1, 1) := by decide +kernel
theorem dX4_firstInner_16 : decode cX4_firstInner 16 = .ok (.iload_n 2, 1) := by decide +kernel
theorem dX4_firstInner_17 : decode cX4_firstInner 17 = .ok (.invokevirtual 35, 3) := by decide +kernel
theorem dX4_firstInner_20 : decode cX4_firstInner 20 = .ok (.ifCond .eq 34, 3) := by decide +kernel
theorem dX4_firstInner_23 : decode cX4_firstInner 23 = .ok (.aload_n 0, 1) := by decide +kernel
theorem dX4_firstInner_24 : decode cX4_firstInner 24 = .ok (.iload 4, 2) := by decide +kernel
theorem dX4_firstInner_26 : decode cX4_firstInner 26 = .ok (.iload_n 2, 1) := by decide +kernel
theorem dX4_firstInner_27 : decode cX4_firstInner 27 = .ok (.invokevirtual 55, 3) := by decide +kernel
theorem dX4_firstInner_30 : decode cX4_firstInner 30 = .ok (.ifCond .eq 24, 3) := by decide +kernel
theorem dX4_firstInner_33 : decode cX4_firstInner 33 = .ok (.iload_n 3, 1) := by decide +kernel
theorem dX4_firstInner_34 : decode cX4_firstInner 34 = .ok (.iconst (-1), 1) := by decide +kernel
theorem dX4_firstInner_35 : decode cX4_firstInner 35 = .ok (.if_icmp .eq 14, 3) := by decide +kernel
theorem dX4_firstInner_38 : decode cX4_firstInner 38 = .ok (.aload_n 0, 1) := by decide +kernel
theorem dX4_firstInner_39 : decode cX4_firstInner 39 = .ok (.iload 4, 2) := by decide +kernel
theorem dX4_firstInner_41 : decode cX4_firstInner 41 = .ok (.iload_n 3, 1) := by decide +kernel
theorem dX4_firstInner_42 : decode cX4_firstInner 42 = .ok (.iload_n 2, 1) := by decide +kernel
theorem dX4_firstInner_43 : decode cX4_firstInner 43 = .ok (.invokevirtual 52, 3) := by decide +kernel
theorem dX4_firstInner_46 : decode cX4_firstInner 46 = .ok (.ifCond .eq 8, 3) := by decide +kernel
theorem dX4_firstInner_49 : decode cX4_firstInner 49 = .ok (.iload 4, 2) := by decide +kernel
theorem dX4_firstInner_51 : decode cX4_firstInner 51 = .ok (.goto 4, 3) := by decide +kernel
theorem dX4_firstInner_54 : decode cX4_firstInner 54 = .ok (.iload_n 3, 1) := by decide +kernel
theorem dX4_firstInner_55 : decode cX4_firstInner 55 = .ok (.istore_n 3, 1) := by decide +kernel
theorem dX4_firstInner_56 : decode cX4_firstInner 56 = .ok (.iinc 4 1, 3) := by decide +kernel
theorem dX4_firstInner_59 : decode cX4_firstInner 59 = .ok (.goto (-54), 3) := by decide +kernel
theorem dX4_firstInner_62 : decode cX4_firstInner 62 = .ok (.iload_n 3, 1) := by decide +kernel
theorem dX4_firstInner_63 : decode cX4_firstInner 63 = .ok (.ireturn, 1) := by decide +kernel
theorem dX4_nearestRoom_0 : decode cX4_nearestRoom 0 = .ok (.iconst (-1), 1) := by decide +kernel
theorem dX4_nearestRoom_1 : decode cX4_nearestRoom 1 = .ok (.istore_n 3, 1) := by decide +kernel
theorem dX4_nearestRoom_2 : decode cX4_nearestRoom 2 = .ok (.iconst 0, 1) := by decide +kernel
theorem dX4_nearestRoom_3 : decode cX4_nearestRoom 3 = .ok (.istore 4, 2) := by decide +kernel
theorem dX4_nearestRoom_5 : decode cX4_nearestRoom 5 = .ok (.iconst 0, 1) := by decide +kernel
theorem dX4_nearestRoom_6 : decode cX4_nearestRoom 6 = .ok (.istore 5, 2) := by decide +kernel
theorem dX4_nearestRoom_8 : decode cX4_nearestRoom 8 = .ok (.iload 5, 2) := by decide +kernel
theorem dX4_nearestRoom_10 : decode cX4_nearestRoom 10 = .ok (.bipush 32, 2) := by decide +kernel
theorem dX4_nearestRoom_12 : decode cX4_nearestRoom 12 = .ok (.if_icmp .ge 68, 3) := by decide +kernel
theorem dX4_nearestRoom_15 : decode cX4_nearestRoom 15 = .ok (.aload_n 0, 1) := by decide +kernel
theorem dX4_nearestRoom_16 : decode cX4_nearestRoom 16 = .ok (.iload 5, 2) := by decide +kernel
theorem dX4_nearestRoom_18 : decode cX4_nearestRoom 18 = .ok (.invokevirtual 31, 3) := by decide +kernel
theorem dX4_nearestRoom_21 : decode cX4_nearestRoom 21 = .ok (.ifCond .eq 53, 3) := by decide +kernel
theorem dX4_nearestRoom_24 : decode cX4_nearestRoom 24 = .ok (.aload_n 0, 1) := by decide +kernel
theorem dX4_nearestRoom_25 : decode cX4_nearestRoom 25 = .ok (.iload 5, 2) := by decide +kernel
theorem dX4_nearestRoom_27 : decode cX4_nearestRoom 27 = .ok (.iload_n 2, 1) := by decide +kernel
theorem dX4_nearestRoom_28 : decode cX4_nearestRoom 28 = .ok (.invokevirtual 58, 3) := by decide +kernel
theorem dX4_nearestRoom_31 : decode cX4_nearestRoom 31 = .ok (.ifCond .eq 43, 3) := by decide +kernel
theorem dX4_nearestRoom_34 : decode cX4_nearestRoom 34 = .ok (.aload_n 0, 1) := by decide +kernel
theorem dX4_nearestRoom_35 : decode cX4_nearestRoom 35 = .ok (.iload 5, 2) := by decide +kernel
theorem dX4_nearestRoom_37 : decode cX4_nearestRoom 37 = .ok (.iload_n 1, 1) := by decide +kernel
theorem dX4_nearestRoom_38 : decode cX4_nearestRoom 38 = .ok (.iload_n 2, 1) := by decide +kernel
theorem dX4_nearestRoom_39 : decode cX4_nearestRoom 39 = .ok (.invokevirtual 61, 3) := by decide +kernel
theorem dX4_nearestRoom_42 : decode cX4_nearestRoom 42 = .ok (.ifCond .ne 32, 3) := by decide +kernel
theorem dX4_nearestRoom_45 : decode cX4_nearestRoom 45 = .ok (.iload_n 3, 1) := by decide +kernel
theorem dX4_nearestRoom_46 : decode cX4_nearestRoom 46 = .ok (.iconst (-1), 1) := by decide +kernel
theorem dX4_nearestRoom_47 : decode cX4_nearestRoom 47 = .ok (.if_icmp .eq 15, 3) := by decide +kernel
theorem dX4_nearestRoom_50 : decode cX4_nearestRoom 50 = .ok (.aload_n 0, 1) := by decide +kernel
theorem dX4_nearestRoom_51 : decode cX4_nearestRoom 51 = .ok (.iload 5, 2) := by decide +kernel
theorem dX4_nearestRoom_53 : decode cX4_nearestRoom 53 = .ok (.iload_n 2, 1) := by decide +kernel
theorem dX4_nearestRoom_54 : decode cX4_nearestRoom 54 = .ok (.invokevirtual 49, 3) := by decide +kernel
theorem dX4_nearestRoom_57 : decode cX4_nearestRoom 57 = .ok (.iload 4, 2) := by decide +kernel
theorem dX4_nearestRoom_59 : decode cX4_nearestRoom 59 = .ok (.if_icmp .ge 15, 3) := by decide +kernel
theorem dX4_nearestRoom_62 : decode cX4_nearestRoom 62 = .ok (.iload 5, 2) := by decide +kernel
theorem dX4_nearestRoom_64 : decode cX4_nearestRoom 64 = .ok (.istore_n 3, 1) := by decide +kernel
theorem dX4_nearestRoom_65 : decode cX4_nearestRoom 65 = .ok (.aload_n 0, 1) := by decide +kernel
theorem dX4_nearestRoom_66 : decode cX4_nearestRoom 66 = .ok (.iload 5, 2) := by decide +kernel
theorem dX4_nearestRoom_68 : decode cX4_nearestRoom 68 = .ok (.iload_n 2, 1) := by decide +kernel
theorem dX4_nearestRoom_69 : decode cX4_nearestRoom 69 = .ok (.invokevirtual 49, 3) := by decide +kernel
theorem dX4_nearestRoom_72 : decode cX4_nearestRoom 72 = .ok (.istore 4, 2) := by decide +kernel
theorem dX4_nearestRoom_74 : decode cX4_nearestRoom 74 = .ok (.iinc 5 1, 3) := by decide +kernel
theorem dX4_nearestRoom_77 : decode cX4_nearestRoom 77 = .ok (.goto (-69), 3) := by decide +kernel
theorem dX4_nearestRoom_80 : decode cX4_nearestRoom 80 = .ok (.iload_n 3, 1) := by decide +kernel
theorem dX4_nearestRoom_81 : decode cX4_nearestRoom 81 = .ok (.ireturn, 1) := by decide +kernel
theorem dX4_attach_0 : decode cX4_attach 0 = .ok (.iload_n 1, 1) := by decide +kernel
theorem dX4_attach_1 : decode cX4_attach 1 = .ok (.istore_n 3, 1) := by decide +kernel
theorem dX4_attach_2 : decode cX4_attach 2 = .ok (.bipush 100, 2) := by decide +kernel
theorem dX4_attach_4 : decode cX4_attach 4 = .ok (.istore 4, 2) := by decide +kernel
theorem dX4_attach_6 : decode cX4_attach 6 = .ok (.iload 4, 2) := by decide +kernel
theorem dX4_attach_8 : decode cX4_attach 8 = .ok (.iconst (-1), 1) := by decide +kernel
theorem dX4_attach_9 : decode cX4_attach 9 = .ok (.if_icmp .eq 102, 3) := by decide +kernel
theorem dX4_attach_12 : decode cX4_attach 12 = .ok (.aload_n 0, 1) := by decide +kernel
theorem dX4_attach_13 : decode cX4_attach 13 = .ok (.iload 4, 2) := by decide +kernel
theorem dX4_attach_15 : decode cX4_attach 15 = .ok (.iload_n 2, 1) := by decide +kernel
theorem dX4_attach_16 : decode cX4_attach 16 = .ok (.invokevirtual 58, 3) := by decide +kernel
theorem dX4_attach_19 : decode cX4_attach 19 = .ok (.ifCond .ne 92, 3) := by decide +kernel
theorem dX4_attach_22 : decode cX4_attach 22 = .ok (.aload_n 0, 1) := by decide +kernel
theorem dX4_attach_23 : decode cX4_attach 23 = .ok (.iload 4, 2) := by decide +kernel
theorem dX4_attach_25 : decode cX4_attach 25 = .ok (.iload_n 2, 1) := by decide +kernel
theorem dX4_attach_26 : decode cX4_attach 26 = .ok (.invokevirtual 64, 3) := by decide +kernel
theorem dX4_attach_29 : decode cX4_attach 29 = .ok (.istore 5, 2) := by decide +kernel
theorem dX4_attach_31 : decode cX4_attach 31 = .ok (.iload 5, 2) := by decide +kernel
theorem dX4_attach_33 : decode cX4_attach 33 = .ok (.iconst (-1), 1) := by decide +kernel
theorem dX4_attach_34 : decode cX4_attach 34 = .ok (.if_icmp .eq 65, 3) := by decide +kernel
theorem dX4_attach_37 : decode cX4_attach 37 = .ok (.aload_n 0, 1) := by decide +kernel
theorem dX4_attach_38 : decode cX4_attach 38 = .ok (.iload_n 3, 1) := by decide +kernel
theorem dX4_attach_39 : decode cX4_attach 39 = .ok (.iload 5, 2) := by decide +kernel
theorem dX4_attach_41 : decode cX4_attach 41 = .ok (.iload_n 2, 1) := by decide +kernel
theorem dX4_attach_42 : decode cX4_attach 42 = .ok (.invokevirtual 52, 3) := by decide +kernel
theorem dX4_attach_45 : decode cX4_attach 45 = .ok (.ifCond .eq 54, 3) := by decide +kernel
theorem dX4_attach_48 : decode cX4_attach 48 = .ok (.aload_n 0, 1) := by decide +kernel
theorem dX4_attach_49 : decode cX4_attach 49 = .ok (.iload_n 3, 1) := by decide +kernel
theorem dX4_attach_50 : decode cX4_attach 50 = .ok (.iload_n 2, 1) := by decide +kernel
theorem dX4_attach_51 : decode cX4_attach 51 = .ok (.invokevirtual 55, 3) := by decide +kernel
theorem dX4_attach_54 : decode cX4_attach 54 = .ok (.ifCond .eq 45, 3) := by decide +kernel
theorem dX4_attach_57 : decode cX4_attach 57 = .ok (.aload_n 0, 1) := by decide +kernel
theorem dX4_attach_58 : decode cX4_attach 58 = .ok (.iload_n 3, 1) := by decide +kernel
theorem dX4_attach_59 : decode cX4_attach 59 = .ok (.bipush 8, 2) := by decide +kernel
theorem dX4_attach_61 : decode cX4_attach 61 = .ok (.iload_n 2, 1) := by decide +kernel
theorem dX4_attach_62 : decode cX4_attach 62 = .ok (.iadd, 1) := by decide +kernel
theorem dX4_attach_63 : decode cX4_attach 63 = .ok (.iload 4, 2) := by decide +kernel
theorem dX4_attach_65 : decode cX4_attach 65 = .ok (.invokevirtual 67, 3) := by decide +kernel
theorem dX4_attach_68 : decode cX4_attach 68 = .ok (.aload_n 0, 1) := by decide +kernel
theorem dX4_attach_69 : decode cX4_attach 69 = .ok (.iload 5, 2) := by decide +kernel
theorem dX4_attach_71 : decode cX4_attach 71 = .ok (.bipush 8, 2) := by decide +kernel
theorem dX4_attach_73 : decode cX4_attach 73 = .ok (.iload_n 2, 1) := by decide +kernel
theorem dX4_attach_74 : decode cX4_attach 74 = .ok (.iadd, 1) := by decide +kernel
theorem dX4_attach_75 : decode cX4_attach 75 = .ok (.iconst (-1), 1) := by decide +kernel
theorem dX4_attach_76 : decode cX4_attach 76 = .ok (.invokevirtual 67, 3) := by decide +kernel
theorem dX4_attach_79 : decode cX4_attach 79 = .ok (.aload_n 0, 1) := by decide +kernel
theorem dX4_attach_80 : decode cX4_attach 80 = .ok (.getfield 7, 3) := by decide +kernel
theorem dX4_attach_83 : decode cX4_attach 83 = .ok (.bipush 9, 2) := by decide +kernel
theorem dX4_attach_85 : decode cX4_attach 85 = .ok (.dup2, 1) := by decide +kernel
theorem dX4_attach_86 : decode cX4_attach 86 = .ok (.iaload, 1) := by decide +kernel
theorem dX4_attach_87 : decode cX4_attach 87 = .ok (.iconst 1, 1) := by decide +kernel
theorem dX4_attach_88 : decode cX4_attach 88 = .ok (.iadd, 1) := by decide +kernel
theorem dX4_attach_89 : decode cX4_attach 89 = .ok (.iastore, 1) := by decide +kernel
theorem dX4_attach_90 : decode cX4_attach 90 = .ok (.iload_n 3, 1) := by decide +kernel
theorem dX4_attach_91 : decode cX4_attach 91 = .ok (.istore 4, 2) := by decide +kernel
theorem dX4_attach_93 : decode cX4_attach 93 = .ok (.iload 5, 2) := by decide +kernel
theorem dX4_attach_95 : decode cX4_attach 95 = .ok (.istore_n 3, 1) := by decide +kernel
theorem dX4_attach_96 : decode cX4_attach 96 = .ok (.goto 12, 3) := by decide +kernel
theorem dX4_attach_99 : decode cX4_attach 99 = .ok (.aload_n 0, 1) := by decide +kernel
theorem dX4_attach_100 : decode cX4_attach 100 = .ok (.iload 4, 2) := by decide +kernel
theorem dX4_attach_102 : decode cX4_attach 102 = .ok (.iload_n 2, 1) := by decide +kernel
theorem dX4_attach_103 : decode cX4_attach 103 = .ok (.invokevirtual 71, 3) := by decide +kernel
theorem dX4_attach_106 : decode cX4_attach 106 = .ok (.istore 4, 2) := by decide +kernel
theorem dX4_attach_108 : decode cX4_attach 108 = .ok (.goto (-102), 3) := by decide +kernel
theorem dX4_attach_111 : decode cX4_attach 111 = .ok (.iload 4, 2) := by decide +kernel
theorem dX4_attach_113 : decode cX4_attach 113 = .ok (.iconst (-1), 1) := by decide +kernel
theorem dX4_attach_114 : decode cX4_attach 114 = .ok (.if_icmp .ne 32, 3) := by decide +kernel
theorem dX4_attach_117 : decode cX4_attach 117 = .ok (.aload_n 0, 1) := by decide +kernel
theorem dX4_attach_118 : decode cX4_attach 118 = .ok (.iload_n 3, 1) := by decide +kernel
theorem dX4_attach_119 : decode cX4_attach 119 = .ok (.iload_n 2, 1) := by decide +kernel
theorem dX4_attach_120 : decode cX4_attach 120 = .ok (.invokevirtual 74, 3) := by decide +kernel
theorem dX4_attach_123 : decode cX4_attach 123 = .ok (.istore 4, 2) := by decide +kernel
theorem dX4_attach_125 : decode cX4_attach 125 = .ok (.aload_n 0, 1) := by decide +kernel
theorem dX4_attach_126 : decode cX4_attach 126 = .ok (.getfield 7, 3) := by decide +kernel
theorem dX4_attach_129 : decode cX4_attach 129 = .ok (.bipush 10, 2) := by decide +kernel
theorem dX4_attach_131 : decode cX4_attach 131 = .ok (.dup2, 1) := by decide +kernel
theorem dX4_attach_132 : decode cX4_attach 132 = .ok (.iaload, 1) := by decide +kernel
theorem dX4_attach_133 : decode cX4_attach 133 = .ok (.iload 4, 2) := by decide +kernel
theorem dX4_attach_135 : decode cX4_attach 135 = .ok (.iconst (-1), 1) := by decide +kernel
theorem dX4_attach_136 : decode cX4_attach 136 = .ok (.if_icmp .ne 7, 3) := by decide +kernel
theorem dX4_attach_139 : decode cX4_attach 139 = .ok (.iconst 0, 1) := by decide +kernel
theorem dX4_attach_140 : decode cX4_attach 140 = .ok (.goto 4, 3) := by decide +kernel
theorem dX4_attach_143 : decode cX4_attach 143 = .ok (.iconst 1, 1) := by decide +kernel
theorem dX4_attach_144 : decode cX4_attach 144 = .ok (.iadd, 1) := by decide +kernel
theorem dX4_attach_145 : decode cX4_attach 145 = .ok (.iastore, 1) := by decide +kernel
theorem dX4_attach_146 : decode cX4_attach 146 = .ok (.aload_n 0, 1) := by decide +kernel
theorem dX4_attach_147 : decode cX4_attach 147 = .ok (.iload_n 3, 1) := by decide +kernel
theorem dX4_attach_148 : decode cX4_attach 148 = .ok (.bipush 8, 2) := by decide +kernel
theorem dX4_attach_150 : decode cX4_attach 150 = .ok (.iload_n 2, 1) := by decide +kernel
theorem dX4_attach_151 : decode cX4_attach 151 = .ok (.iadd, 1) := by decide +kernel
theorem dX4_attach_152 : decode cX4_attach 152 = .ok (.iload 4, 2) := by decide +kernel
theorem dX4_attach_154 : decode cX4_attach 154 = .ok (.invokevirtual 67, 3) := by decide +kernel
theorem dX4_attach_157 : decode cX4_attach 157 = .ok (.return_, 1) := by decide +kernel
theorem dX4_attachAll_0 : decode cX4_attachAll 0 = .ok (.iconst 0, 1) := by decide +kernel
theorem dX4_attachAll_1 : decode cX4_attachAll 1 = .ok (.istore_n 1, 1) := by decide +kernel
theorem dX4_attachAll_2 : decode cX4_attachAll 2 = .ok (.iload_n 1, 1) := by decide +kernel
theorem dX4_attachAll_3 : decode cX4_attachAll 3 = .ok (.iconst 4, 1) := by decide +kernel
theorem dX4_attachAll_4 : decode cX4_attachAll 4 = .ok (.if_icmp .ge 39, 3) := by decide +kernel
theorem dX4_attachAll_7 : decode cX4_attachAll 7 = .ok (.iconst 0, 1) := by decide +kernel
theorem dX4_attachAll_8 : decode cX4_attachAll 8 = .ok (.istore_n 2, 1) := by decide +kernel
theorem dX4_attachAll_9 : decode cX4_attachAll 9 = .ok (.iload_n 2, 1) := by decide +kernel
theorem dX4_attachAll_10 : decode cX4_attachAll 10 = .ok (.bipush 32, 2) := by decide +kernel
theorem dX4_attachAll_12 : decode cX4_attachAll 12 = .ok (.if_icmp .ge 25, 3) := by decide +kernel
theorem dX4_attachAll_15 : decode cX4_attachAll 15 = .ok (.aload_n 0, 1) := by decide +kernel
theorem dX4_attachAll_16 : decode cX4_attachAll 16 = .ok (.iload_n 2, 1) := by decide +kernel
theorem dX4_attachAll_17 : decode cX4_attachAll 17 = .ok (.iconst (-1), 1) := by decide +kernel
theorem dX4_attachAll_18 : decode cX4_attachAll 18 = .ok (.iload_n 1, 1) := by decide +kernel
theorem dX4_attachAll_19 : decode cX4_attachAll 19 = .ok (.invokevirtual 35, 3) := by decide +kernel
theorem dX4_attachAll_22 : decode cX4_attachAll 22 = .ok (.ifCond .eq 9, 3) := by decide +kernel
theorem dX4_attachAll_25 : decode cX4_attachAll 25 = .ok (.aload_n 0, 1) := by decide +kernel
theorem dX4_attachAll_26 : decode cX4_attachAll 26 = .ok (.iload_n 2, 1) := by decide +kernel
theorem dX4_attachAll_27 : decode cX4_attachAll 27 = .ok (.iload_n 1, 1) := by decide +kernel
theorem dX4_attachAll_28 : decode cX4_attachAll 28 = .ok (.invokevirtual 77, 3) := by decide +kernel
theorem dX4_attachAll_31 : decode cX4_attachAll 31 = .ok (.iinc 2 1, 3) := by decide +kernel
theorem dX4_attachAll_34 : decode cX4_attachAll 34 = .ok (.goto (-25), 3) := by decide +kernel
theorem dX4_attachAll_37 : decode cX4_attachAll 37 = .ok (.iinc 1 1, 3) := by decide +kernel
theorem dX4_attachAll_40 : decode cX4_attachAll 40 = .ok (.goto (-38), 3) := by decide +kernel
theorem dX4_attachAll_43 : decode cX4_attachAll 43 = .ok (.return_, 1) := by decide +kernel
theorem dX4_orphans_0 : decode cX4_orphans 0 = .ok (.aload_n 0, 1) := by decide +kernel
theorem dX4_orphans_1 : decode cX4_orphans 1 = .ok (.iconst (-1), 1) := by decide +kernel
theorem dX4_orphans_2 : decode cX4_orphans 2 = .ok (.iload_n 1, 1) := by decide +kernel
theorem dX4_orphans_3 : decode cX4_orphans 3 = .ok (.invokevirtual 38, 3) := by decide +kernel
theorem dX4_orphans_6 : decode cX4_orphans 6 = .ok (.ireturn, 1) := by decide +kernel
theorem dX4_join_0 : decode cX4_join 0 = .ok (.aload_n 0, 1) := by decide +kernel
theorem dX4_join_1 : decode cX4_join 1 = .ok (.iload_n 1, 1) := by decide +kernel
theorem dX4_join_2 : decode cX4_join 2 = .ok (.invokestatic 81, 3) := by decide +kernel
theorem dX4_join_5 : decode cX4_join 5 = .ok (.ifCond .ne 7, 3) := by decide +kernel
theorem dX4_join_8 : decode cX4_join 8 = .ok (.iconst 1, 1) := by decide +kernel
theorem dX4_join_9 : decode cX4_join 9 = .ok (.goto 37, 3) := by decide +kernel
theorem dX4_join_12 : decode cX4_join 12 = .ok (.iload_n 2, 1) := by decide +kernel
theorem dX4_join_13 : decode cX4_join 13 = .ok (.iconst 0, 1) := by decide +kernel
theorem dX4_join_14 : decode cX4_join 14 = .ok (.bipush 8, 2) := by decide +kernel
theorem dX4_join_16 : decode cX4_join 16 = .ok (.invokestatic 23, 3) := by decide +kernel
theorem dX4_join_19 : decode cX4_join 19 = .ok (.ifCond .eq 10, 3) := by decide +kernel
theorem dX4_join_22 : decode cX4_join 22 = .ok (.iload_n 3, 1) := by decide +kernel
theorem dX4_join_23 : decode cX4_join 23 = .ok (.invokestatic 84, 3) := by decide +kernel
theorem dX4_join_26 : decode cX4_join 26 = .ok (.ifCond .ne 7, 3) := by decide +kernel
theorem dX4_join_29 : decode cX4_join 29 = .ok (.iconst 2, 1) := by decide +kernel
theorem dX4_join_30 : decode cX4_join 30 = .ok (.goto 16, 3) := by decide +kernel
theorem dX4_join_33 : decode cX4_join 33 = .ok (.aload_n 0, 1) := by decide +kernel
theorem dX4_join_34 : decode cX4_join 34 = .ok (.iload_n 1, 1) := by decide +kernel
theorem dX4_join_35 : decode cX4_join 35 = .ok (.invokevirtual 31, 3) := by decide +kernel
theorem dX4_join_38 : decode cX4_join 38 = .ok (.ifCond .eq 7, 3) := by decide +kernel
theorem dX4_join_41 : decode cX4_join 41 = .ok (.iconst 3, 1) := by decide +kernel
theorem dX4_join_42 : decode cX4_join 42 = .ok (.goto 4, 3) := by decide +kernel
theorem dX4_join_45 : decode cX4_join 45 = .ok (.iconst 0, 1) := by decide +kernel
theorem dX4_join_46 : decode cX4_join 46 = .ok (.putfield 16, 3) := by decide +kernel
theorem dX4_join_49 : decode cX4_join 49 = .ok (.aload_n 0, 1) := by decide +kernel
theorem dX4_join_50 : decode cX4_join 50 = .ok (.getfield 16, 3) := by decide +kernel
theorem dX4_join_53 : decode cX4_join 53 = .ok (.ifCond .eq 5, 3) := by decide +kernel
theorem dX4_join_56 : decode cX4_join 56 = .ok (.iconst 0, 1) := by decide +kernel
theorem dX4_join_57 : decode cX4_join 57 = .ok (.ireturn, 1) := by decide +kernel
theorem dX4_join_58 : decode cX4_join 58 = .ok (.aload_n 0, 1) := by decide +kernel
theorem dX4_join_59 : decode cX4_join 59 = .ok (.invokevirtual 87, 3) := by decide +kernel
theorem dX4_join_62 : decode cX4_join 62 = .ok (.iconst 0, 1) := by decide +kernel
theorem dX4_join_63 : decode cX4_join 63 = .ok (.istore 4, 2) := by decide +kernel
theorem dX4_join_65 : decode cX4_join 65 = .ok (.iload 4, 2) := by decide +kernel
theorem dX4_join_67 : decode cX4_join 67 = .ok (.bipush 12, 2) := by decide +kernel
theorem dX4_join_69 : decode cX4_join 69 = .ok (.if_icmp .ge 17, 3) := by decide +kernel
theorem dX4_join_72 : decode cX4_join 72 = .ok (.aload_n 0, 1) := by decide +kernel
theorem dX4_join_73 : decode cX4_join 73 = .ok (.iload_n 1, 1) := by decide +kernel
theorem dX4_join_74 : decode cX4_join 74 = .ok (.iload 4, 2) := by decide +kernel
theorem dX4_join_76 : decode cX4_join 76 = .ok (.iconst 0, 1) := by decide +kernel
theorem dX4_join_77 : decode cX4_join 77 = .ok (.invokevirtual 67, 3) := by decide +kernel
theorem dX4_join_80 : decode cX4_join 80 = .ok (.iinc 4 1, 3) := by decide +kernel
theorem dX4_join_83 : decode cX4_join 83 = .ok (.goto (-18), 3) := by decide +kernel
theorem dX4_join_86 : decode cX4_join 86 = .ok (.aload_n 0, 1) := by decide +kernel
theorem dX4_join_87 : decode cX4_join 87 = .ok (.iload_n 1, 1) := by decide +kernel
theorem dX4_join_88 : decode cX4_join 88 = .ok (.iconst 0, 1) := by decide +kernel
theorem dX4_join_89 : decode cX4_join 89 = .ok (.iconst 1, 1) := by decide +kernel
theorem dX4_join_90 : decode cX4_join 90 = .ok (.invokevirtual 67, 3) := by decide +kernel
theorem dX4_join_93 : decode cX4_join 93 = .ok (.aload_n 0, 1) := by decide +kernel
theorem dX4_join_94 : decode cX4_join 94 = .ok (.iload_n 1, 1) := by decide +kernel
theorem dX4_join_95 : decode cX4_join 95 = .ok (.iconst 1, 1) := by decide +kernel
theorem dX4_join_96 : decode cX4_join 96 = .ok (.iload_n 2, 1) := by decide +kernel
theorem dX4_join_97 : decode cX4_join 97 = .ok (.invokevirtual 67, 3) := by decide +kernel
theorem dX4_join_100 : decode cX4_join 100 = .ok (.aload_n 0, 1) := by decide +kernel
theorem dX4_join_101 : decode cX4_join 101 = .ok (.iload_n 1, 1) := by decide +kernel
theorem dX4_join_102 : decode cX4_join 102 = .ok (.iconst 2, 1) := by decide +kernel
theorem dX4_join_103 : decode cX4_join 103 = .ok (.iload_n 3, 1) := by decide +kernel
theorem dX4_join_104 : decode cX4_join 104 = .ok (.invokevirtual 67, 3) := by decide +kernel
theorem dX4_join_107 : decode cX4_join 107 = .ok (.iconst 0, 1) := by decide +kernel
theorem dX4_join_108 : decode cX4_join 108 = .ok (.istore 4, 2) := by decide +kernel
theorem dX4_join_110 : decode cX4_join 110 = .ok (.iload 4, 2) := by decide +kernel
theorem dX4_join_112 : decode cX4_join 112 = .ok (.iconst 4, 1) := by decide +kernel
theorem dX4_join_113 : decode cX4_join 113 = .ok (.if_icmp .ge 20, 3) := by decide +kernel
theorem dX4_join_116 : decode cX4_join 116 = .ok (.aload_n 0, 1) := by decide +kernel
theorem dX4_join_117 : decode cX4_join 117 = .ok (.iload_n 1, 1) := by decide +kernel
theorem dX4_join_118 : decode cX4_join 118 = .ok (.bipush 8, 2) := by decide +kernel
theorem dX4_join_120 : decode cX4_join 120 = .ok (.iload 4, 2) := by decide +kernel
theorem dX4_join_122 : decode cX4_join 122 = .ok (.iadd, 1) := by decide +kernel
theorem dX4_join_123 : decode cX4_join 123 = .ok (.iconst (-1), 1) := by decide +kernel
theorem dX4_join_124 : decode cX4_join 124 = .ok (.invokevirtual 67, 3) := by decide +kernel
theorem dX4_join_127 : decode cX4_join 127 = .ok (.iinc 4 1, 3) := by decide +kernel
theorem dX4_join_130 : decode cX4_join 130 = .ok (.goto (-20), 3) := by decide +kernel
theorem dX4_join_133 : decode cX4_join 133 = .ok (.aload_n 0, 1) := by decide +kernel
theorem dX4_join_134 : decode cX4_join 134 = .ok (.invokevirtual 90, 3) := by decide +kernel
theorem dX4_join_137 : decode cX4_join 137 = .ok (.iconst 0, 1) := by decide +kernel
theorem dX4_join_138 : decode cX4_join 138 = .ok (.istore 4, 2) := by decide +kernel
theorem dX4_join_140 : decode cX4_join 140 = .ok (.iconst 0, 1) := by decide +kernel
