theorem dX4_join_141 : decode cX4_join 141 = .ok (.istore 5, 2) := by decide +kernel
theorem dX4_join_143 : decode cX4_join 143 = .ok (.iload 5, 2) := by decide +kernel
theorem dX4_join_145 : decode cX4_join 145 = .ok (.iconst 4, 1) := by decide +kernel
theorem dX4_join_146 : decode cX4_join 146 = .ok (.if_icmp .ge 30, 3) := by decide +kernel
theorem dX4_join_149 : decode cX4_join 149 = .ok (.iload 4, 2) := by decide +kernel
theorem dX4_join_151 : decode cX4_join 151 = .ok (.aload_n 0, 1) := by decide +kernel
theorem dX4_join_152 : decode cX4_join 152 = .ok (.iload_n 1, 1) := by decide +kernel
theorem dX4_join_153 : decode cX4_join 153 = .ok (.iload 5, 2) := by decide +kernel
theorem dX4_join_155 : decode cX4_join 155 = .ok (.invokevirtual 49, 3) := by decide +kernel
theorem dX4_join_158 : decode cX4_join 158 = .ok (.iconst (-1), 1) := by decide +kernel
theorem dX4_join_159 : decode cX4_join 159 = .ok (.if_icmp .ne 7, 3) := by decide +kernel
theorem dX4_join_162 : decode cX4_join 162 = .ok (.iconst 0, 1) := by decide +kernel
theorem dX4_join_163 : decode cX4_join 163 = .ok (.goto 4, 3) := by decide +kernel
theorem dX4_join_166 : decode cX4_join 166 = .ok (.iconst 1, 1) := by decide +kernel
theorem dX4_join_167 : decode cX4_join 167 = .ok (.iadd, 1) := by decide +kernel
theorem dX4_join_168 : decode cX4_join 168 = .ok (.istore 4, 2) := by decide +kernel
theorem dX4_join_170 : decode cX4_join 170 = .ok (.iinc 5 1, 3) := by decide +kernel
theorem dX4_join_173 : decode cX4_join 173 = .ok (.goto (-30), 3) := by decide +kernel
theorem dX4_join_176 : decode cX4_join 176 = .ok (.iload 4, 2) := by decide +kernel
theorem dX4_join_178 : decode cX4_join 178 = .ok (.ireturn, 1) := by decide +kernel
theorem dX4_goes_0 : decode cX4_goes 0 = .ok (.iconst 0, 1) := by decide +kernel
theorem dX4_goes_1 : decode cX4_goes 1 = .ok (.istore_n 2, 1) := by decide +kernel
theorem dX4_goes_2 : decode cX4_goes 2 = .ok (.iload_n 2, 1) := by decide +kernel
theorem dX4_goes_3 : decode cX4_goes 3 = .ok (.iconst 4, 1) := by decide +kernel
theorem dX4_goes_4 : decode cX4_goes 4 = .ok (.if_icmp .ge 43, 3) := by decide +kernel
theorem dX4_goes_7 : decode cX4_goes 7 = .ok (.iconst 0, 1) := by decide +kernel
theorem dX4_goes_8 : decode cX4_goes 8 = .ok (.istore_n 3, 1) := by decide +kernel
theorem dX4_goes_9 : decode cX4_goes 9 = .ok (.iload_n 3, 1) := by decide +kernel
theorem dX4_goes_10 : decode cX4_goes 10 = .ok (.bipush 32, 2) := by decide +kernel
theorem dX4_goes_12 : decode cX4_goes 12 = .ok (.if_icmp .ge 29, 3) := by decide +kernel
theorem dX4_goes_15 : decode cX4_goes 15 = .ok (.aload_n 0, 1) := by decide +kernel
theorem dX4_goes_16 : decode cX4_goes 16 = .ok (.iload_n 3, 1) := by decide +kernel
theorem dX4_goes_17 : decode cX4_goes 17 = .ok (.iload_n 1, 1) := by decide +kernel
theorem dX4_goes_18 : decode cX4_goes 18 = .ok (.iload_n 2, 1) := by decide +kernel
theorem dX4_goes_19 : decode cX4_goes 19 = .ok (.invokevirtual 35, 3) := by decide +kernel
theorem dX4_goes_22 : decode cX4_goes 22 = .ok (.ifCond .eq 13, 3) := by decide +kernel
theorem dX4_goes_25 : decode cX4_goes 25 = .ok (.aload_n 0, 1) := by decide +kernel
theorem dX4_goes_26 : decode cX4_goes 26 = .ok (.iload_n 3, 1) := by decide +kernel
theorem dX4_goes_27 : decode cX4_goes 27 = .ok (.bipush 8, 2) := by decide +kernel
theorem dX4_goes_29 : decode cX4_goes 29 = .ok (.iload_n 2, 1) := by decide +kernel
theorem dX4_goes_30 : decode cX4_goes 30 = .ok (.iadd, 1) := by decide +kernel
theorem dX4_goes_31 : decode cX4_goes 31 = .ok (.iconst (-1), 1) := by decide +kernel
theorem dX4_goes_32 : decode cX4_goes 32 = .ok (.invokevirtual 67, 3) := by decide +kernel
theorem dX4_goes_35 : decode cX4_goes 35 = .ok (.iinc 3 1, 3) := by decide +kernel
theorem dX4_goes_38 : decode cX4_goes 38 = .ok (.goto (-29), 3) := by decide +kernel
theorem dX4_goes_41 : decode cX4_goes 41 = .ok (.iinc 2 1, 3) := by decide +kernel
theorem dX4_goes_44 : decode cX4_goes 44 = .ok (.goto (-42), 3) := by decide +kernel
theorem dX4_goes_47 : decode cX4_goes 47 = .ok (.iconst 0, 1) := by decide +kernel
theorem dX4_goes_48 : decode cX4_goes 48 = .ok (.istore_n 2, 1) := by decide +kernel
theorem dX4_goes_49 : decode cX4_goes 49 = .ok (.iload_n 2, 1) := by decide +kernel
theorem dX4_goes_50 : decode cX4_goes 50 = .ok (.bipush 12, 2) := by decide +kernel
theorem dX4_goes_52 : decode cX4_goes 52 = .ok (.if_icmp .ge 16, 3) := by decide +kernel
theorem dX4_goes_55 : decode cX4_goes 55 = .ok (.aload_n 0, 1) := by decide +kernel
theorem dX4_goes_56 : decode cX4_goes 56 = .ok (.iload_n 1, 1) := by decide +kernel
theorem dX4_goes_57 : decode cX4_goes 57 = .ok (.iload_n 2, 1) := by decide +kernel
theorem dX4_goes_58 : decode cX4_goes 58 = .ok (.iconst 0, 1) := by decide +kernel
theorem dX4_goes_59 : decode cX4_goes 59 = .ok (.invokevirtual 67, 3) := by decide +kernel
theorem dX4_goes_62 : decode cX4_goes 62 = .ok (.iinc 2 1, 3) := by decide +kernel
theorem dX4_goes_65 : decode cX4_goes 65 = .ok (.goto (-16), 3) := by decide +kernel
theorem dX4_goes_68 : decode cX4_goes 68 = .ok (.aload_n 0, 1) := by decide +kernel
theorem dX4_goes_69 : decode cX4_goes 69 = .ok (.invokevirtual 90, 3) := by decide +kernel
theorem dX4_goes_72 : decode cX4_goes 72 = .ok (.return_, 1) := by decide +kernel
theorem dX4_leave_0 : decode cX4_leave 0 = .ok (.aload_n 0, 1) := by decide +kernel
theorem dX4_leave_1 : decode cX4_leave 1 = .ok (.iload_n 1, 1) := by decide +kernel
theorem dX4_leave_2 : decode cX4_leave 2 = .ok (.invokestatic 81, 3) := by decide +kernel
theorem dX4_leave_5 : decode cX4_leave 5 = .ok (.ifCond .ne 7, 3) := by decide +kernel
theorem dX4_leave_8 : decode cX4_leave 8 = .ok (.iconst 1, 1) := by decide +kernel
theorem dX4_leave_9 : decode cX4_leave 9 = .ok (.goto 16, 3) := by decide +kernel
theorem dX4_leave_12 : decode cX4_leave 12 = .ok (.aload_n 0, 1) := by decide +kernel
theorem dX4_leave_13 : decode cX4_leave 13 = .ok (.iload_n 1, 1) := by decide +kernel
theorem dX4_leave_14 : decode cX4_leave 14 = .ok (.invokevirtual 31, 3) := by decide +kernel
theorem dX4_leave_17 : decode cX4_leave 17 = .ok (.ifCond .eq 7, 3) := by decide +kernel
theorem dX4_leave_20 : decode cX4_leave 20 = .ok (.iconst 0, 1) := by decide +kernel
theorem dX4_leave_21 : decode cX4_leave 21 = .ok (.goto 4, 3) := by decide +kernel
theorem dX4_leave_24 : decode cX4_leave 24 = .ok (.iconst 2, 1) := by decide +kernel
theorem dX4_leave_25 : decode cX4_leave 25 = .ok (.putfield 16, 3) := by decide +kernel
theorem dX4_leave_28 : decode cX4_leave 28 = .ok (.aload_n 0, 1) := by decide +kernel
theorem dX4_leave_29 : decode cX4_leave 29 = .ok (.getfield 16, 3) := by decide +kernel
theorem dX4_leave_32 : decode cX4_leave 32 = .ok (.ifCond .eq 5, 3) := by decide +kernel
theorem dX4_leave_35 : decode cX4_leave 35 = .ok (.iconst 0, 1) := by decide +kernel
theorem dX4_leave_36 : decode cX4_leave 36 = .ok (.ireturn, 1) := by decide +kernel
theorem dX4_leave_37 : decode cX4_leave 37 = .ok (.aload_n 0, 1) := by decide +kernel
theorem dX4_leave_38 : decode cX4_leave 38 = .ok (.invokevirtual 87, 3) := by decide +kernel
theorem dX4_leave_41 : decode cX4_leave 41 = .ok (.aload_n 0, 1) := by decide +kernel
theorem dX4_leave_42 : decode cX4_leave 42 = .ok (.iload_n 1, 1) := by decide +kernel
theorem dX4_leave_43 : decode cX4_leave 43 = .ok (.invokevirtual 41, 3) := by decide +kernel
theorem dX4_leave_46 : decode cX4_leave 46 = .ok (.istore_n 2, 1) := by decide +kernel
theorem dX4_leave_47 : decode cX4_leave 47 = .ok (.aload_n 0, 1) := by decide +kernel
theorem dX4_leave_48 : decode cX4_leave 48 = .ok (.iload_n 1, 1) := by decide +kernel
theorem dX4_leave_49 : decode cX4_leave 49 = .ok (.invokevirtual 93, 3) := by decide +kernel
theorem dX4_leave_52 : decode cX4_leave 52 = .ok (.iload_n 2, 1) := by decide +kernel
theorem dX4_leave_53 : decode cX4_leave 53 = .ok (.ireturn, 1) := by decide +kernel
theorem dX4_fail_0 : decode cX4_fail 0 = .ok (.aload_n 0, 1) := by decide +kernel
theorem dX4_fail_1 : decode cX4_fail 1 = .ok (.iload_n 1, 1) := by decide +kernel
theorem dX4_fail_2 : decode cX4_fail 2 = .ok (.invokestatic 81, 3) := by decide +kernel
theorem dX4_fail_5 : decode cX4_fail 5 = .ok (.ifCond .ne 7, 3) := by decide +kernel
theorem dX4_fail_8 : decode cX4_fail 8 = .ok (.iconst 1, 1) := by decide +kernel
theorem dX4_fail_9 : decode cX4_fail 9 = .ok (.goto 25, 3) := by decide +kernel
theorem dX4_fail_12 : decode cX4_fail 12 = .ok (.aload_n 0, 1) := by decide +kernel
theorem dX4_fail_13 : decode cX4_fail 13 = .ok (.iload_n 1, 1) := by decide +kernel
theorem dX4_fail_14 : decode cX4_fail 14 = .ok (.invokevirtual 31, 3) := by decide +kernel
theorem dX4_fail_17 : decode cX4_fail 17 = .ok (.ifCond .eq 16, 3) := by decide +kernel
theorem dX4_fail_20 : decode cX4_fail 20 = .ok (.aload_n 0, 1) := by decide +kernel
theorem dX4_fail_21 : decode cX4_fail 21 = .ok (.iload_n 1, 1) := by decide +kernel
theorem dX4_fail_22 : decode cX4_fail 22 = .ok (.iconst 3, 1) := by decide +kernel
theorem dX4_fail_23 : decode cX4_fail 23 = .ok (.invokevirtual 27, 3) := by decide +kernel
theorem dX4_fail_26 : decode cX4_fail 26 = .ok (.ifCond .ne 7, 3) := by decide +kernel
theorem dX4_fail_29 : decode cX4_fail 29 = .ok (.iconst 0, 1) := by decide +kernel
theorem dX4_fail_30 : decode cX4_fail 30 = .ok (.goto 4, 3) := by decide +kernel
theorem dX4_fail_33 : decode cX4_fail 33 = .ok (.iconst 2, 1) := by decide +kernel
theorem dX4_fail_34 : decode cX4_fail 34 = .ok (.putfield 16, 3) := by decide +kernel
theorem dX4_fail_37 : decode cX4_fail 37 = .ok (.aload_n 0, 1) := by decide +kernel
theorem dX4_fail_38 : decode cX4_fail 38 = .ok (.getfield 16, 3) := by decide +kernel
theorem dX4_fail_41 : decode cX4_fail 41 = .ok (.ifCond .eq 5, 3) := by decide +kernel
theorem dX4_fail_44 : decode cX4_fail 44 = .ok (.iconst 0, 1) := by decide +kernel
theorem dX4_fail_45 : decode cX4_fail 45 = .ok (.ireturn, 1) := by decide +kernel
theorem dX4_fail_46 : decode cX4_fail 46 = .ok (.aload_n 0, 1) := by decide +kernel
theorem dX4_fail_47 : decode cX4_fail 47 = .ok (.invokevirtual 87, 3) := by decide +kernel
theorem dX4_fail_50 : decode cX4_fail 50 = .ok (.aload_n 0, 1) := by decide +kernel
theorem dX4_fail_51 : decode cX4_fail 51 = .ok (.iload_n 1, 1) := by decide +kernel
theorem dX4_fail_52 : decode cX4_fail 52 = .ok (.iconst 3, 1) := by decide +kernel
theorem dX4_fail_53 : decode cX4_fail 53 = .ok (.iconst 1, 1) := by decide +kernel
theorem dX4_fail_54 : decode cX4_fail 54 = .ok (.invokevirtual 67, 3) := by decide +kernel
theorem dX4_fail_57 : decode cX4_fail 57 = .ok (.aload_n 0, 1) := by decide +kernel
theorem dX4_fail_58 : decode cX4_fail 58 = .ok (.iload_n 1, 1) := by decide +kernel
theorem dX4_fail_59 : decode cX4_fail 59 = .ok (.iconst 4, 1) := by decide +kernel
theorem dX4_fail_60 : decode cX4_fail 60 = .ok (.aload_n 0, 1) := by decide +kernel
theorem dX4_fail_61 : decode cX4_fail 61 = .ok (.getfield 7, 3) := by decide +kernel
theorem dX4_fail_64 : decode cX4_fail 64 = .ok (.iconst 2, 1) := by decide +kernel
theorem dX4_fail_65 : decode cX4_fail 65 = .ok (.iaload, 1) := by decide +kernel
theorem dX4_fail_66 : decode cX4_fail 66 = .ok (.aload_n 0, 1) := by decide +kernel
theorem dX4_fail_67 : decode cX4_fail 67 = .ok (.getfield 7, 3) := by decide +kernel
theorem dX4_fail_70 : decode cX4_fail 70 = .ok (.iconst 1, 1) := by decide +kernel
theorem dX4_fail_71 : decode cX4_fail 71 = .ok (.iaload, 1) := by decide +kernel
theorem dX4_fail_72 : decode cX4_fail 72 = .ok (.iadd, 1) := by decide +kernel
theorem dX4_fail_73 : decode cX4_fail 73 = .ok (.invokevirtual 67, 3) := by decide +kernel
theorem dX4_fail_76 : decode cX4_fail 76 = .ok (.aload_n 0, 1) := by decide +kernel
theorem dX4_fail_77 : decode cX4_fail 77 = .ok (.getfield 7, 3) := by decide +kernel
theorem dX4_fail_80 : decode cX4_fail 80 = .ok (.iconst 2, 1) := by decide +kernel
theorem dX4_fail_81 : decode cX4_fail 81 = .ok (.iaload, 1) := by decide +kernel
theorem dX4_fail_82 : decode cX4_fail 82 = .ok (.aload_n 0, 1) := by decide +kernel
theorem dX4_fail_83 : decode cX4_fail 83 = .ok (.getfield 7, 3) := by decide +kernel
theorem dX4_fail_86 : decode cX4_fail 86 = .ok (.iconst 1, 1) := by decide +kernel
theorem dX4_fail_87 : decode cX4_fail 87 = .ok (.iaload, 1) := by decide +kernel
theorem dX4_fail_88 : decode cX4_fail 88 = .ok (.iadd, 1) := by decide +kernel
theorem dX4_fail_89 : decode cX4_fail 89 = .ok (.ireturn, 1) := by decide +kernel
theorem dX4_cut_0 : decode cX4_cut 0 = .ok (.aload_n 0, 1) := by decide +kernel
theorem dX4_cut_1 : decode cX4_cut 1 = .ok (.iload_n 1, 1) := by decide +kernel
theorem dX4_cut_2 : decode cX4_cut 2 = .ok (.iload_n 2, 1) := by decide +kernel
theorem dX4_cut_3 : decode cX4_cut 3 = .ok (.invokevirtual 38, 3) := by decide +kernel
theorem dX4_cut_6 : decode cX4_cut 6 = .ok (.iload_n 3, 1) := by decide +kernel
theorem dX4_cut_7 : decode cX4_cut 7 = .ok (.if_icmp .le 21, 3) := by decide +kernel
theorem dX4_cut_10 : decode cX4_cut 10 = .ok (.aload_n 0, 1) := by decide +kernel
theorem dX4_cut_11 : decode cX4_cut 11 = .ok (.aload_n 0, 1) := by decide +kernel
theorem dX4_cut_12 : decode cX4_cut 12 = .ok (.iload_n 1, 1) := by decide +kernel
theorem dX4_cut_13 : decode cX4_cut 13 = .ok (.iload_n 2, 1) := by decide +kernel
theorem dX4_cut_14 : decode cX4_cut 14 = .ok (.invokevirtual 64, 3) := by decide +kernel
theorem dX4_cut_17 : decode cX4_cut 17 = .ok (.bipush 8, 2) := by decide +kernel
theorem dX4_cut_19 : decode cX4_cut 19 = .ok (.iload_n 2, 1) := by decide +kernel
theorem dX4_cut_20 : decode cX4_cut 20 = .ok (.iadd, 1) := by decide +kernel
theorem dX4_cut_21 : decode cX4_cut 21 = .ok (.iconst (-1), 1) := by decide +kernel
theorem dX4_cut_22 : decode cX4_cut 22 = .ok (.invokevirtual 67, 3) := by decide +kernel
theorem dX4_cut_25 : decode cX4_cut 25 = .ok (.goto (-25), 3) := by decide +kernel
theorem dX4_cut_28 : decode cX4_cut 28 = .ok (.return_, 1) := by decide +kernel
theorem dX4_setBound_0 : decode cX4_setBound 0 = .ok (.aload_n 0, 1) := by decide +kernel
theorem dX4_setBound_1 : decode cX4_setBound 1 = .ok (.iload_n 1, 1) := by decide +kernel
theorem dX4_setBound_2 : decode cX4_setBound 2 = .ok (.invokestatic 81, 3) := by decide +kernel
theorem dX4_setBound_5 : decode cX4_setBound 5 = .ok (.ifCond .ne 7, 3) := by decide +kernel
theorem dX4_setBound_8 : decode cX4_setBound 8 = .ok (.iconst 1, 1) := by decide +kernel
theorem dX4_setBound_9 : decode cX4_setBound 9 = .ok (.goto 30, 3) := by decide +kernel
theorem dX4_setBound_12 : decode cX4_setBound 12 = .ok (.iload_n 2, 1) := by decide +kernel
theorem dX4_setBound_13 : decode cX4_setBound 13 = .ok (.iconst 0, 1) := by decide +kernel
theorem dX4_setBound_14 : decode cX4_setBound 14 = .ok (.bipush 8, 2) := by decide +kernel
theorem dX4_setBound_16 : decode cX4_setBound 16 = .ok (.invokestatic 23, 3) := by decide +kernel
theorem dX4_setBound_19 : decode cX4_setBound 19 = .ok (.ifCond .ne 7, 3) := by decide +kernel
theorem dX4_setBound_22 : decode cX4_setBound 22 = .ok (.iconst 2, 1) := by decide +kernel
theorem dX4_setBound_23 : decode cX4_setBound 23 = .ok (.goto 16, 3) := by decide +kernel
theorem dX4_setBound_26 : decode cX4_setBound 26 = .ok (.aload_n 0, 1) := by decide +kernel
theorem dX4_setBound_27 : decode cX4_setBound 27 = .ok (.iload_n 1, 1) := by decide +kernel
theorem dX4_setBound_28 : decode cX4_setBound 28 = .ok (.invokevirtual 31, 3) := by decide +kernel
theorem dX4_setBound_31 : decode cX4_setBound 31 = .ok (.ifCond .eq 7, 3) := by decide +kernel
theorem dX4_setBound_34 : decode cX4_setBound 34 = .ok (.iconst 0, 1) := by decide +kernel
theorem dX4_setBound_35 : decode cX4_setBound 35 = .ok (.goto 4, 3) := by decide +kernel
theorem dX4_setBound_38 : decode cX4_setBound 38 = .ok (.iconst 3, 1) := by decide +kernel
theorem dX4_setBound_39 : decode cX4_setBound 39 = .ok (.putfield 16, 3) := by decide +kernel
theorem dX4_setBound_42 : decode cX4_setBound 42 = .ok (.aload_n 0, 1) := by decide +kernel
theorem dX4_setBound_43 : decode cX4_setBound 43 = .ok (.getfield 16, 3) := by decide +kernel
theorem dX4_setBound_46 : decode cX4_setBound 46 = .ok (.ifCond .eq 5, 3) := by decide +kernel
theorem dX4_setBound_49 : decode cX4_setBound 49 = .ok (.iconst 0, 1) := by decide +kernel
theorem dX4_setBound_50 : decode cX4_setBound 50 = .ok (.ireturn, 1) := by decide +kernel
theorem dX4_setBound_51 : decode cX4_setBound 51 = .ok (.aload_n 0, 1) := by decide +kernel
theorem dX4_setBound_52 : decode cX4_setBound 52 = .ok (.invokevirtual 87, 3) := by decide +kernel
theorem dX4_setBound_55 : decode cX4_setBound 55 = .ok (.aload_n 0, 1) := by decide +kernel
theorem dX4_setBound_56 : decode cX4_setBound 56 = .ok (.iload_n 1, 1) := by decide +kernel
theorem dX4_setBound_57 : decode cX4_setBound 57 = .ok (.iconst 1, 1) := by decide +kernel
theorem dX4_setBound_58 : decode cX4_setBound 58 = .ok (.invokevirtual 27, 3) := by decide +kernel
theorem dX4_setBound_61 : decode cX4_setBound 61 = .ok (.istore_n 3, 1) := by decide +kernel
theorem dX4_setBound_62 : decode cX4_setBound 62 = .ok (.aload_n 0, 1) := by decide +kernel
theorem dX4_setBound_63 : decode cX4_setBound 63 = .ok (.iload_n 1, 1) := by decide +kernel
theorem dX4_setBound_64 : decode cX4_setBound 64 = .ok (.iconst 1, 1) := by decide +kernel
theorem dX4_setBound_65 : decode cX4_setBound 65 = .ok (.iload_n 2, 1) := by decide +kernel
theorem dX4_setBound_66 : decode cX4_setBound 66 = .ok (.invokevirtual 67, 3) := by decide +kernel
theorem dX4_setBound_69 : decode cX4_setBound 69 = .ok (.iconst 0, 1) := by decide +kernel
theorem dX4_setBound_70 : decode cX4_setBound 70 = .ok (.istore 4, 2) := by decide +kernel
theorem dX4_setBound_72 : decode cX4_setBound 72 = .ok (.iload 4, 2) := by decide +kernel
theorem dX4_setBound_74 : decode cX4_setBound 74 = .ok (.iconst 4, 1) := by decide +kernel
theorem dX4_setBound_75 : decode cX4_setBound 75 = .ok (.if_icmp .ge 17, 3) := by decide +kernel
theorem dX4_setBound_78 : decode cX4_setBound 78 = .ok (.aload_n 0, 1) := by decide +kernel
theorem dX4_setBound_79 : decode cX4_setBound 79 = .ok (.iload_n 1, 1) := by decide +kernel
theorem dX4_setBound_80 : decode cX4_setBound 80 = .ok (.iload 4, 2) := by decide +kernel
theorem dX4_setBound_82 : decode cX4_setBound 82 = .ok (.iload_n 2, 1) := by decide +kernel
theorem dX4_setBound_83 : decode cX4_setBound 83 = .ok (.invokevirtual 97, 3) := by decide +kernel
theorem dX4_setBound_86 : decode cX4_setBound 86 = .ok (.iinc 4 1, 3) := by decide +kernel
theorem dX4_setBound_89 : decode cX4_setBound 89 = .ok (.goto (-17), 3) := by decide +kernel
theorem dX4_setBound_92 : decode cX4_setBound 92 = .ok (.aload_n 0, 1) := by decide +kernel
theorem dX4_setBound_93 : decode cX4_setBound 93 = .ok (.invokevirtual 90, 3) := by decide +kernel
theorem dX4_setBound_96 : decode cX4_setBound 96 = .ok (.iload_n 3, 1) := by decide +kernel
theorem dX4_setBound_97 : decode cX4_setBound 97 = .ok (.ireturn, 1) := by decide +kernel
theorem dX4_setSource_0 : decode cX4_setSource 0 = .ok (.aload_n 0, 1) := by decide +kernel
theorem dX4_setSource_1 : decode cX4_setSource 1 = .ok (.iload_n 1, 1) := by decide +kernel
theorem dX4_setSource_2 : decode cX4_setSource 2 = .ok (.iconst 1, 1) := by decide +kernel
theorem dX4_setSource_3 : decode cX4_setSource 3 = .ok (.bipush 8, 2) := by decide +kernel
theorem dX4_setSource_5 : decode cX4_setSource 5 = .ok (.invokestatic 23, 3) := by decide +kernel
theorem dX4_setSource_8 : decode cX4_setSource 8 = .ok (.ifCond .eq 7, 3) := by decide +kernel
theorem dX4_setSource_11 : decode cX4_setSource 11 = .ok (.iconst 0, 1) := by decide +kernel
theorem dX4_setSource_12 : decode cX4_setSource 12 = .ok (.goto 4, 3) := by decide +kernel
theorem dX4_setSource_15 : decode cX4_setSource 15 = .ok (.iconst 1, 1) := by decide +kernel
theorem dX4_setSource_16 : decode cX4_setSource 16 = .ok (.putfield 16, 3) := by decide +kernel
theorem dX4_setSource_19 : decode cX4_setSource 19 = .ok (.aload_n 0, 1) := by decide +kernel
theorem dX4_setSource_20 : decode cX4_setSource 20 = .ok (.getfield 16, 3) := by decide +kernel
theorem dX4_setSource_23 : decode cX4_setSource 23 = .ok (.ifCond .eq 5, 3) := by decide +kernel
theorem dX4_setSource_26 : decode cX4_setSource 26 = .ok (.iconst 0, 1) := by decide +kernel
theorem dX4_setSource_27 : decode cX4_setSource 27 = .ok (.ireturn, 1) := by decide +kernel
theorem dX4_setSource_28 : decode cX4_setSource 28 = .ok (.aload_n 0, 1) := by decide +kernel
theorem dX4_setSource_29 : decode cX4_setSource 29 = .ok (.invokevirtual 87, 3) := by decide +kernel
theorem dX4_setSource_32 : decode cX4_setSource 32 = .ok (.aload_n 0, 1) := by decide +kernel
theorem dX4_setSource_33 : decode cX4_setSource 33 = .ok (.getfield 7, 3) := by decide +kernel
theorem dX4_setSource_36 : decode cX4_setSource 36 = .ok (.iconst 0, 1) := by decide +kernel
theorem dX4_setSource_37 : decode cX4_setSource 37 = .ok (.iaload, 1) := by decide +kernel
theorem dX4_setSource_38 : decode cX4_setSource 38 = .ok (.istore_n 2, 1) := by decide +kernel
theorem dX4_setSource_39 : decode cX4_setSource 39 = .ok (.aload_n 0, 1) := by decide +kernel
theorem dX4_setSource_40 : decode cX4_setSource 40 = .ok (.getfield 7, 3) := by decide +kernel
theorem dX4_setSource_43 : decode cX4_setSource 43 = .ok (.iconst 0, 1) := by decide +kernel
theorem dX4_setSource_44 : decode cX4_setSource 44 = .ok (.iload_n 1, 1) := by decide +kernel
theorem dX4_setSource_45 : decode cX4_setSource 45 = .ok (.iastore, 1) := by decide +kernel
theorem dX4_setSource_46 : decode cX4_setSource 46 = .ok (.iconst 0, 1) := by decide +kernel
theorem dX4_setSource_47 : decode cX4_setSource 47 = .ok (.istore_n 3, 1) := by decide +kernel
theorem dX4_setSource_48 : decode cX4_setSource 48 = .ok (.iload_n 3, 1) := by decide +kernel
theorem dX4_setSource_49 : decode cX4_setSource 49 = .ok (.iconst 4, 1) := by decide +kernel
theorem dX4_setSource_50 : decode cX4_setSource 50 = .ok (.if_icmp .ge 17, 3) := by decide +kernel
theorem dX4_setSource_53 : decode cX4_setSource 53 = .ok (.aload_n 0, 1) := by decide +kernel
theorem dX4_setSource_54 : decode cX4_setSource 54 = .ok (.bipush 100, 2) := by decide +kernel
theorem dX4_setSource_56 : decode cX4_setSource 56 = .ok (.iload_n 3, 1) := by decide +kernel
theorem dX4_setSource_57 : decode cX4_setSource 57 = .ok (.iload_n 1, 1) := by decide +kernel
theorem dX4_setSource_58 : decode cX4_setSource 58 = .ok (.invokevirtual 97, 3) := by decide +kernel
theorem dX4_setSource_61 : decode cX4_setSource 61 = .ok (.iinc 3 1, 3) := by decide +kernel
theorem dX4_setSource_64 : decode cX4_setSource 64 = .ok (.goto (-16), 3) := by decide +kernel
theorem dX4_setSource_67 : decode cX4_setSource 67 = .ok (.aload_n 0, 1) := by decide +kernel
theorem dX4_setSource_68 : decode cX4_setSource 68 = .ok (.invokevirtual 90, 3) := by decide +kernel
theorem dX4_setSource_71 : decode cX4_setSource 71 = .ok (.iload_n 2, 1) := by decide +kernel
theorem dX4_setSource_72 : decode cX4_setSource 72 = .ok (.ireturn, 1) := by decide +kernel
theorem dX4_setDelay_0 : decode cX4_setDelay 0 = .ok (.aload_n 0, 1) := by decide +kernel
theorem dX4_setDelay_1 : decode cX4_setDelay 1 = .ok (.iload_n 1, 1) := by decide +kernel
theorem dX4_setDelay_2 : decode cX4_setDelay 2 = .ok (.iconst 1, 1) := by decide +kernel
theorem dX4_setDelay_3 : decode cX4_setDelay 3 = .ok (.bipush 20, 2) := by decide +kernel
theorem dX4_setDelay_5 : decode cX4_setDelay 5 = .ok (.invokestatic 23, 3) := by decide +kernel
theorem dX4_setDelay_8 : decode cX4_setDelay 8 = .ok (.ifCond .eq 7, 3) := by decide +kernel
theorem dX4_setDelay_11 : decode cX4_setDelay 11 = .ok (.iconst 0, 1) := by decide +kernel
theorem dX4_setDelay_12 : decode cX4_setDelay 12 = .ok (.goto 4, 3) := by decide +kernel
theorem dX4_setDelay_15 : decode cX4_setDelay 15 = .ok (.iconst 1, 1) := by decide +kernel
theorem dX4_setDelay_16 : decode cX4_setDelay 16 = .ok (.putfield 16, 3) := by decide +kernel
theorem dX4_setDelay_19 : decode cX4_setDelay 19 = .ok (.aload_n 0, 1) := by decide +kernel
theorem dX4_setDelay_20 : decode cX4_setDelay 20 = .ok (.getfield 16, 3) := by decide +kernel
theorem dX4_setDelay_23 : decode cX4_setDelay 23 = .ok (.ifCond .eq 5, 3) := by decide +kernel
theorem dX4_setDelay_26 : decode cX4_setDelay 26 = .ok (.iconst 0, 1) := by decide +kernel
theorem dX4_setDelay_27 : decode cX4_setDelay 27 = .ok (.ireturn, 1) := by decide +kernel
theorem dX4_setDelay_28 : decode cX4_setDelay 28 = .ok (.aload_n 0, 1) := by decide +kernel
theorem dX4_setDelay_29 : decode cX4_setDelay 29 = .ok (.invokevirtual 87, 3) := by decide +kernel
theorem dX4_setDelay_32 : decode cX4_setDelay 32 = .ok (.aload_n 0, 1) := by decide +kernel
theorem dX4_setDelay_33 : decode cX4_setDelay 33 = .ok (.getfield 7, 3) := by decide +kernel
theorem dX4_setDelay_36 : decode cX4_setDelay 36 = .ok (.iconst 1, 1) := by decide +kernel
theorem dX4_setDelay_37 : decode cX4_setDelay 37 = .ok (.iaload, 1) := by decide +kernel
theorem dX4_setDelay_38 : decode cX4_setDelay 38 = .ok (.istore_n 2, 1) := by decide +kernel
theorem dX4_setDelay_39 : decode cX4_setDelay 39 = .ok (.aload_n 0, 1) := by decide +kernel
theorem dX4_setDelay_40 : decode cX4_setDelay 40 = .ok (.getfield 7, 3) := by decide +kernel
theorem dX4_setDelay_43 : decode cX4_setDelay 43 = .ok (.iconst 1, 1) := by decide +kernel
theorem dX4_setDelay_44 : decode cX4_setDelay 44 = .ok (.iload_n 1, 1) := by decide +kernel
theorem dX4_setDelay_45 : decode cX4_setDelay 45 = .ok (.iastore, 1) := by decide +kernel
theorem dX4_setDelay_46 : decode cX4_setDelay 46 = .ok (.iload_n 2, 1) := by decide +kernel
theorem dX4_setDelay_47 : decode cX4_setDelay 47 = .ok (.ireturn, 1) := by decide +kernel
theorem dX4_repair_0 : decode cX4_repair 0 = .ok (.aload_n 0, 1) := by decide +kernel
theorem dX4_repair_1 : decode cX4_repair 1 = .ok (.iconst 0, 1) := by decide +kernel
theorem dX4_repair_2 : decode cX4_repair 2 = .ok (.putfield 16, 3) := by decide +kernel
theorem dX4_repair_5 : decode cX4_repair 5 = .ok (.aload_n 0, 1) := by decide +kernel
theorem dX4_repair_6 : decode cX4_repair 6 = .ok (.invokevirtual 87, 3) := by decide +kernel
theorem dX4_repair_9 : decode cX4_repair 9 = .ok (.aload_n 0, 1) := by decide +kernel
theorem dX4_repair_10 : decode cX4_repair 10 = .ok (.invokevirtual 90, 3) := by decide +kernel
theorem dX4_repair_13 : decode cX4_repair 13 = .ok (.aload_n 0, 1) := by decide +kernel
theorem dX4_repair_14 : decode cX4_repair 14 = .ok (.iconst 0, 1) := by decide +kernel
theorem dX4_repair_15 : decode cX4_repair 15 = .ok (.invokevirtual 100, 3) := by decide +kernel
theorem dX4_repair_18 : decode cX4_repair 18 = .ok (.aload_n 0, 1) := by decide +kernel
theorem dX4_repair_19 : decode cX4_repair 19 = .ok (.iconst 1, 1) := by decide +kernel
theorem dX4_repair_20 : decode cX4_repair 20 = .ok (.invokevirtual 100, 3) := by decide +kernel
theorem dX4_repair_23 : decode cX4_repair 23 = .ok (.iadd, 1) := by decide +kernel
theorem dX4_repair_24 : decode cX4_repair 24 = .ok (.aload_n 0, 1) := by decide +kernel
theorem dX4_repair_25 : decode cX4_repair 25 = .ok (.iconst 2, 1) := by decide +kernel
theorem dX4_repair_26 : decode cX4_repair 26 = .ok (.invokevirtual 100, 3) := by decide +kernel
theorem dX4_repair_29 : decode cX4_repair 29 = .ok (.iadd, 1) := by decide +kernel
theorem dX4_repair_30 : decode cX4_repair 30 = .ok (.aload_n 0, 1) := by decide +kernel
theorem dX4_repair_31 : decode cX4_repair 31 = .ok (.iconst 3, 1) := by decide +kernel
theorem dX4_repair_32 : decode cX4_repair 32 = .ok (.invokevirtual 100, 3) := by decide +kernel
theorem dX4_repair_35 : decode cX4_repair 35 = .ok (.iadd, 1) := by decide +kernel
theorem dX4_repair_36 : decode cX4_repair 36 = .ok (.ireturn, 1) := by decide +kernel
theorem dX4_rejoin_0 : decode cX4_rejoin 0 = .ok (.aload_n 0, 1) := by decide +kernel
theorem dX4_rejoin_1 : decode cX4_rejoin 1 = .ok (.iload_n 1, 1) := by decide +kernel
theorem dX4_rejoin_2 : decode cX4_rejoin 2 = .ok (.invokestatic 81, 3) := by decide +kernel
theorem dX4_rejoin_5 : decode cX4_rejoin 5 = .ok (.ifCond .eq 10, 3) := by decide +kernel
theorem dX4_rejoin_8 : decode cX4_rejoin 8 = .ok (.iload_n 2, 1) := by decide +kernel
theorem dX4_rejoin_9 : decode cX4_rejoin 9 = .ok (.invokestatic 84, 3) := by decide +kernel
theorem dX4_rejoin_12 : decode cX4_rejoin 12 = .ok (.ifCond .ne 7, 3) := by decide +kernel
theorem dX4_rejoin_15 : decode cX4_rejoin 15 = .ok (.iconst 1, 1) := by decide +kernel
theorem dX4_rejoin_16 : decode cX4_rejoin 16 = .ok (.goto 16, 3) := by decide +kernel
theorem dX4_rejoin_19 : decode cX4_rejoin 19 = .ok (.aload_n 0, 1) := by decide +kernel
theorem dX4_rejoin_20 : decode cX4_rejoin 20 = .ok (.iload_n 1, 1) := by decide +kernel
theorem dX4_rejoin_21 : decode cX4_rejoin 21 = .ok (.invokevirtual 31, 3) := by decide +kernel
theorem dX4_rejoin_24 : decode cX4_rejoin 24 = .ok (.ifCond .eq 7, 3) := by decide +kernel
theorem dX4_rejoin_27 : decode cX4_rejoin 27 = .ok (.iconst 0, 1) := by decide +kernel
theorem dX4_rejoin_28 : decode cX4_rejoin 28 = .ok (.goto 4, 3) := by decide +kernel
theorem dX4_rejoin_31 : decode cX4_rejoin 31 = .ok (.iconst 2, 1) := by decide +kernel
theorem dX4_rejoin_32 : decode cX4_rejoin 32 = .ok (.putfield 16, 3) := by decide +kernel
theorem dX4_rejoin_35 : decode cX4_rejoin 35 = .ok (.aload_n 0, 1) := by decide +kernel
theorem dX4_rejoin_36 : decode cX4_rejoin 36 = .ok (.getfield 16, 3) := by decide +kernel
theorem dX4_rejoin_39 : decode cX4_rejoin 39 = .ok (.ifCond .eq 5, 3) := by decide +kernel
theorem dX4_rejoin_42 : decode cX4_rejoin 42 = .ok (.iconst 0, 1) := by decide +kernel
theorem dX4_rejoin_43 : decode cX4_rejoin 43 = .ok (.ireturn, 1) := by decide +kernel
theorem dX4_rejoin_44 : decode cX4_rejoin 44 = .ok (.aload_n 0, 1) := by decide +kernel
theorem dX4_rejoin_45 : decode cX4_rejoin 45 = .ok (.invokevirtual 87, 3) := by decide +kernel
theorem dX4_rejoin_48 : decode cX4_rejoin 48 = .ok (.aload_n 0, 1) := by decide +kernel
theorem dX4_rejoin_49 : decode cX4_rejoin 49 = .ok (.iload_n 1, 1) := by decide +kernel
theorem dX4_rejoin_50 : decode cX4_rejoin 50 = .ok (.bipush 8, 2) := by decide +kernel
theorem dX4_rejoin_52 : decode cX4_rejoin 52 = .ok (.iload_n 2, 1) := by decide +kernel
theorem dX4_rejoin_53 : decode cX4_rejoin 53 = .ok (.iadd, 1) := by decide +kernel
theorem dX4_rejoin_54 : decode cX4_rejoin 54 = .ok (.iconst (-1), 1) := by decide +kernel
theorem dX4_rejoin_55 : decode cX4_rejoin 55 = .ok (.invokevirtual 67, 3) := by decide +kernel
theorem dX4_rejoin_58 : decode cX4_rejoin 58 = .ok (.aload_n 0, 1) := by decide +kernel
theorem dX4_rejoin_59 : decode cX4_rejoin 59 = .ok (.iload_n 1, 1) := by decide +kernel
theorem dX4_rejoin_60 : decode cX4_rejoin 60 = .ok (.iload_n 2, 1) := by decide +kernel
theorem dX4_rejoin_61 : decode cX4_rejoin 61 = .ok (.invokevirtual 77, 3) := by decide +kernel
theorem dX4_rejoin_64 : decode cX4_rejoin 64 = .ok (.aload_n 0, 1) := by decide +kernel
theorem dX4_rejoin_65 : decode cX4_rejoin 65 = .ok (.iload_n 1, 1) := by decide +kernel
theorem dX4_rejoin_66 : decode cX4_rejoin 66 = .ok (.bipush 8, 2) := by decide +kernel
theorem dX4_rejoin_68 : decode cX4_rejoin 68 = .ok (.iload_n 2, 1) := by decide +kernel
theorem dX4_rejoin_69 : decode cX4_rejoin 69 = .ok (.iadd, 1) := by decide +kernel
theorem dX4_rejoin_70 : decode cX4_rejoin 70 = .ok (.invokevirtual 27, 3) := by decide +kernel
theorem dX4_rejoin_73 : decode cX4_rejoin 73 = .ok (.ireturn, 1) := by decide +kernel
theorem dX4_gets_0 : decode cX4_gets 0 = .ok (.iload_n 1, 1) := by decide +kernel
theorem dX4_gets_1 : decode cX4_gets 1 = .ok (.istore 4, 2) := by decide +kernel
theorem dX4_gets_3 : decode cX4_gets 3 = .ok (.iload 4, 2) := by decide +kernel
theorem dX4_gets_5 : decode cX4_gets 5 = .ok (.bipush 100, 2) := by decide +kernel
theorem dX4_gets_7 : decode cX4_gets 7 = .ok (.if_icmp .eq 40, 3) := by decide +kernel
theorem dX4_gets_10 : decode cX4_gets 10 = .ok (.iload 4, 2) := by decide +kernel
theorem dX4_gets_12 : decode cX4_gets 12 = .ok (.iconst (-1), 1) := by decide +kernel
theorem dX4_gets_13 : decode cX4_gets 13 = .ok (.if_icmp .eq 34, 3) := by decide +kernel
theorem dX4_gets_16 : decode cX4_gets 16 = .ok (.aload_n 0, 1) := by decide +kernel
theorem dX4_gets_17 : decode cX4_gets 17 = .ok (.iload 4, 2) := by decide +kernel
theorem dX4_gets_19 : decode cX4_gets 19 = .ok (.iconst 3, 1) := by decide +kernel
theorem dX4_gets_20 : decode cX4_gets 20 = .ok (.invokevirtual 27, 3) := by decide +kernel
theorem dX4_gets_23 : decode cX4_gets 23 = .ok (.ifCond .ne 24, 3) := by decide +kernel
theorem dX4_gets_26 : decode cX4_gets 26 = .ok (.iload 4, 2) := by decide +kernel
theorem dX4_gets_28 : decode cX4_gets 28 = .ok (.iload_n 3, 1) := by decide +kernel
theorem dX4_gets_29 : decode cX4_gets 29 = .ok (.if_icmp .eq 18, 3) := by decide +kernel
theorem dX4_gets_32 : decode cX4_gets 32 = .ok (.aload_n 0, 1) := by decide +kernel
theorem dX4_gets_33 : decode cX4_gets 33 = .ok (.iload 4, 2) := by decide +kernel
theorem dX4_gets_35 : decode cX4_gets 35 = .ok (.bipush 8, 2) := by decide +kernel
theorem dX4_gets_37 : decode cX4_gets 37 = .ok (.iload_n 2, 1) := by decide +kernel
theorem dX4_gets_38 : decode cX4_gets 38 = .ok (.iadd, 1) := by decide +kernel
theorem dX4_gets_39 : decode cX4_gets 39 = .ok (.invokevirtual 27, 3) := by decide +kernel
theorem dX4_gets_42 : decode cX4_gets 42 = .ok (.istore 4, 2) := by decide +kernel
theorem dX4_gets_44 : decode cX4_gets 44 = .ok (.goto (-41), 3) := by decide +kernel
theorem dX4_gets_47 : decode cX4_gets 47 = .ok (.iload 4, 2) := by decide +kernel
theorem dX4_gets_49 : decode cX4_gets 49 = .ok (.bipush 100, 2) := by decide +kernel
theorem dX4_gets_51 : decode cX4_gets 51 = .ok (.if_icmp .ne 7, 3) := by decide +kernel
theorem dX4_gets_54 : decode cX4_gets 54 = .ok (.iconst 1, 1) := by decide +kernel
theorem dX4_gets_55 : decode cX4_gets 55 = .ok (.goto 4, 3) := by decide +kernel
theorem dX4_gets_58 : decode cX4_gets 58 = .ok (.iconst 0, 1) := by decide +kernel
theorem dX4_gets_59 : decode cX4_gets 59 = .ok (.ireturn, 1) := by decide +kernel
theorem dX4_piecesOf_0 : decode cX4_piecesOf 0 = .ok (.iconst 0, 1) := by decide +kernel
theorem dX4_piecesOf_1 : decode cX4_piecesOf 1 = .ok (.istore_n 3, 1) := by decide +kernel
theorem dX4_piecesOf_2 : decode cX4_piecesOf 2 = .ok (.iconst 0, 1) := by decide +kernel
theorem dX4_piecesOf_3 : decode cX4_piecesOf 3 = .ok (.istore 4, 2) := by decide +kernel
theorem dX4_piecesOf_5 : decode cX4_piecesOf 5 = .ok (.iload 4, 2) := by decide +kernel
theorem dX4_piecesOf_7 : decode cX4_piecesOf 7 = .ok (.iconst 4, 1) := by decide +kernel
theorem dX4_piecesOf_8 : decode cX4_piecesOf 8 = .ok (.if_icmp .ge 28, 3) := by decide +kernel
theorem dX4_piecesOf_11 : decode cX4_piecesOf 11 = .ok (.iload_n 3, 1) := by decide +kernel
theorem dX4_piecesOf_12 : decode cX4_piecesOf 12 = .ok (.aload_n 0, 1) := by decide +kernel
theorem dX4_piecesOf_13 : decode cX4_piecesOf 13 = .ok (.iload_n 1, 1) := by decide +kernel
theorem dX4_piecesOf_14 : decode cX4_piecesOf 14 = .ok (.iload 4, 2) := by decide +kernel
theorem dX4_piecesOf_16 : decode cX4_piecesOf 16 = .ok (.iload_n 2, 1) := by decide +kernel
theorem dX4_piecesOf_17 : decode cX4_piecesOf 17 = .ok (.invokevirtual 103, 3) := by decide +kernel
theorem dX4_piecesOf_20 : decode cX4_piecesOf 20 = .ok (.ifCond .eq 7, 3) := by decide +kernel
theorem dX4_piecesOf_23 : decode cX4_piecesOf 23 = .ok (.iconst 1, 1) := by decide +kernel
theorem dX4_piecesOf_24 : decode cX4_piecesOf 24 = .ok (.goto 4, 3) := by decide +kernel
theorem dX4_piecesOf_27 : decode cX4_piecesOf 27 = .ok (.iconst 0, 1) := by decide +kernel
theorem dX4_piecesOf_28 : decode cX4_piecesOf 28 = .ok (.iadd, 1) := by decide +kernel
theorem dX4_piecesOf_29 : decode cX4_piecesOf 29 = .ok (.istore_n 3, 1) := by decide +kernel
theorem dX4_piecesOf_30 : decode cX4_piecesOf 30 = .ok (.iinc 4 1, 3) := by decide +kernel
theorem dX4_piecesOf_33 : decode cX4_piecesOf 33 = .ok (.goto (-28), 3) := by decide +kernel
theorem dX4_piecesOf_36 : decode cX4_piecesOf 36 = .ok (.iload_n 3, 1) := by decide +kernel
theorem dX4_piecesOf_37 : decode cX4_piecesOf 37 = .ok (.ireturn, 1) := by decide +kernel
theorem dX4_sendTo_0 : decode cX4_sendTo 0 = .ok (.aload_n 0, 1) := by decide +kernel
theorem dX4_sendTo_1 : decode cX4_sendTo 1 = .ok (.iload_n 1, 1) := by decide +kernel
theorem dX4_sendTo_2 : decode cX4_sendTo 2 = .ok (.iconst (-1), 1) := by decide +kernel
theorem dX4_sendTo_3 : decode cX4_sendTo 3 = .ok (.invokevirtual 106, 3) := by decide +kernel
theorem dX4_sendTo_6 : decode cX4_sendTo 6 = .ok (.istore_n 2, 1) := by decide +kernel
theorem dX4_sendTo_7 : decode cX4_sendTo 7 = .ok (.iload_n 2, 1) := by decide +kernel
theorem dX4_sendTo_8 : decode cX4_sendTo 8 = .ok (.iconst 3, 1) := by decide +kernel
theorem dX4_sendTo_9 : decode cX4_sendTo 9 = .ok (.if_icmp .lt 7, 3) := by decide +kernel
theorem dX4_sendTo_12 : decode cX4_sendTo 12 = .ok (.iconst 1, 1) := by decide +kernel
theorem dX4_sendTo_13 : decode cX4_sendTo 13 = .ok (.goto 4, 3) := by decide +kernel
theorem dX4_sendTo_16 : decode cX4_sendTo 16 = .ok (.iconst 0, 1) := by decide +kernel
theorem dX4_sendTo_17 : decode cX4_sendTo 17 = .ok (.istore_n 3, 1) := by decide +kernel
theorem dX4_sendTo_18 : decode cX4_sendTo 18 = .ok (.iload_n 3, 1) := by decide +kernel
theorem dX4_sendTo_19 : decode cX4_sendTo 19 = .ok (.ifCond .ne 16, 3) := by decide +kernel
theorem dX4_sendTo_22 : decode cX4_sendTo 22 = .ok (.aload_n 0, 1) := by decide +kernel
theorem dX4_sendTo_23 : decode cX4_sendTo 23 = .ok (.iload_n 1, 1) := by decide +kernel
theorem dX4_sendTo_24 : decode cX4_sendTo 24 = .ok (.iconst 3, 1) := by decide +kernel
theorem dX4_sendTo_25 : decode cX4_sendTo 25 = .ok (.invokevirtual 27, 3) := by decide +kernel
theorem dX4_sendTo_28 : decode cX4_sendTo 28 = .ok (.ifCond .ne 7, 3) := by decide +kernel
theorem dX4_sendTo_31 : decode cX4_sendTo 31 = .ok (.iconst 1, 1) := by decide +kernel
theorem dX4_sendTo_32 : decode cX4_sendTo 32 = .ok (.goto 4, 3) := by decide +kernel
theorem dX4_sendTo_35 : decode cX4_sendTo 35 = .ok (.iconst 0, 1) := by decide +kernel
theorem dX4_sendTo_36 : decode cX4_sendTo 36 = .ok (.istore 4, 2) := by decide +kernel
theorem dX4_sendTo_38 : decode cX4_sendTo 38 = .ok (.aload_n 0, 1) := by decide +kernel
theorem dX4_sendTo_39 : decode cX4_sendTo 39 = .ok (.iload_n 1, 1) := by decide +kernel
theorem dX4_sendTo_40 : decode cX4_sendTo 40 = .ok (.iconst 5, 1) := by decide +kernel
theorem dX4_sendTo_41 : decode cX4_sendTo 41 = .ok (.aload_n 0, 1) := by decide +kernel
theorem dX4_sendTo_42 : decode cX4_sendTo 42 = .ok (.iload_n 1, 1) := by decide +kernel
theorem dX4_sendTo_43 : decode cX4_sendTo 43 = .ok (.iconst 5, 1) := by decide +kernel
theorem dX4_sendTo_44 : decode cX4_sendTo 44 = .ok (.invokevirtual 27, 3) := by decide +kernel
theorem dX4_sendTo_47 : decode cX4_sendTo 47 = .ok (.iload_n 2, 1) := by decide +kernel
theorem dX4_sendTo_48 : decode cX4_sendTo 48 = .ok (.iadd, 1) := by decide +kernel
theorem dX4_sendTo_49 : decode cX4_sendTo 49 = .ok (.invokevirtual 67, 3) := by decide +kernel
theorem dX4_sendTo_52 : decode cX4_sendTo 52 = .ok (.aload_n 0, 1) := by decide +kernel
theorem dX4_sendTo_53 : decode cX4_sendTo 53 = .ok (.iload_n 1, 1) := by decide +kernel
theorem dX4_sendTo_54 : decode cX4_sendTo 54 = .ok (.bipush 6, 2) := by decide +kernel
theorem dX4_sendTo_56 : decode cX4_sendTo 56 = .ok (.aload_n 0, 1) := by decide +kernel
theorem dX4_sendTo_57 : decode cX4_sendTo 57 = .ok (.iload_n 1, 1) := by decide +kernel
theorem dX4_sendTo_58 : decode cX4_sendTo 58 = .ok (.bipush 6, 2) := by decide +kernel
theorem dX4_sendTo_60 : decode cX4_sendTo 60 = .ok (.invokevirtual 27, 3) := by decide +kernel
theorem dX4_sendTo_63 : decode cX4_sendTo 63 = .ok (.iload_n 3, 1) := by decide +kernel
theorem dX4_sendTo_64 : decode cX4_sendTo 64 = .ok (.iadd, 1) := by decide +kernel
theorem dX4_sendTo_65 : decode cX4_sendTo 65 = .ok (.invokevirtual 67, 3) := by decide +kernel
theorem dX4_sendTo_68 : decode cX4_sendTo 68 = .ok (.aload_n 0, 1) := by decide +kernel
theorem dX4_sendTo_69 : decode cX4_sendTo 69 = .ok (.iload_n 1, 1) := by decide +kernel
theorem dX4_sendTo_70 : decode cX4_sendTo 70 = .ok (.bipush 7, 2) := by decide +kernel
theorem dX4_sendTo_72 : decode cX4_sendTo 72 = .ok (.aload_n 0, 1) := by decide +kernel
theorem dX4_sendTo_73 : decode cX4_sendTo 73 = .ok (.iload_n 1, 1) := by decide +kernel
theorem dX4_sendTo_74 : decode cX4_sendTo 74 = .ok (.bipush 7, 2) := by decide +kernel
theorem dX4_sendTo_76 : decode cX4_sendTo 76 = .ok (.invokevirtual 27, 3) := by decide +kernel
theorem dX4_sendTo_79 : decode cX4_sendTo 79 = .ok (.iload 4, 2) := by decide +kernel
theorem dX4_sendTo_81 : decode cX4_sendTo 81 = .ok (.iadd, 1) := by decide +kernel
theorem dX4_sendTo_82 : decode cX4_sendTo 82 = .ok (.invokevirtual 67, 3) := by decide +kernel
theorem dX4_sendTo_85 : decode cX4_sendTo 85 = .ok (.aload_n 0, 1) := by decide +kernel
theorem dX4_sendTo_86 : decode cX4_sendTo 86 = .ok (.getfield 7, 3) := by decide +kernel
theorem dX4_sendTo_89 : decode cX4_sendTo 89 = .ok (.iconst 5, 1) := by decide +kernel
theorem dX4_sendTo_90 : decode cX4_sendTo 90 = .ok (.dup2, 1) := by decide +kernel
theorem dX4_sendTo_91 : decode cX4_sendTo 91 = .ok (.iaload, 1) := by decide +kernel
theorem dX4_sendTo_92 : decode cX4_sendTo 92 = .ok (.iload_n 2, 1) := by decide +kernel
theorem dX4_sendTo_93 : decode cX4_sendTo 93 = .ok (.iadd, 1) := by decide +kernel
theorem dX4_sendTo_94 : decode cX4_sendTo 94 = .ok (.iastore, 1) := by decide +kernel
theorem dX4_sendTo_95 : decode cX4_sendTo 95 = .ok (.aload_n 0, 1) := by decide +kernel
theorem dX4_sendTo_96 : decode cX4_sendTo 96 = .ok (.getfield 7, 3) := by decide +kernel
theorem dX4_sendTo_99 : decode cX4_sendTo 99 = .ok (.bipush 6, 2) := by decide +kernel
theorem dX4_sendTo_101 : decode cX4_sendTo 101 = .ok (.dup2, 1) := by decide +kernel
theorem dX4_sendTo_102 : decode cX4_sendTo 102 = .ok (.iaload, 1) := by decide +kernel
theorem dX4_sendTo_103 : decode cX4_sendTo 103 = .ok (.iload_n 3, 1) := by decide +kernel
theorem dX4_sendTo_104 : decode cX4_sendTo 104 = .ok (.iadd, 1) := by decide +kernel
theorem dX4_sendTo_105 : decode cX4_sendTo 105 = .ok (.iastore, 1) := by decide +kernel
theorem dX4_sendTo_106 : decode cX4_sendTo 106 = .ok (.aload_n 0, 1) := by decide +kernel
theorem dX4_sendTo_107 : decode cX4_sendTo 107 = .ok (.getfield 7, 3) := by decide +kernel
theorem dX4_sendTo_110 : decode cX4_sendTo 110 = .ok (.bipush 7, 2) := by decide +kernel
theorem dX4_sendTo_112 : decode cX4_sendTo 112 = .ok (.dup2, 1) := by decide +kernel
theorem dX4_sendTo_113 : decode cX4_sendTo 113 = .ok (.iaload, 1) := by decide +kernel
theorem dX4_sendTo_114 : decode cX4_sendTo 114 = .ok (.iload 4, 2) := by decide +kernel
theorem dX4_sendTo_116 : decode cX4_sendTo 116 = .ok (.iadd, 1) := by decide +kernel
theorem dX4_sendTo_117 : decode cX4_sendTo 117 = .ok (.iastore, 1) := by decide +kernel
theorem dX4_sendTo_118 : decode cX4_sendTo 118 = .ok (.return_, 1) := by decide +kernel
theorem dX4_tickOne_0 : decode cX4_tickOne 0 = .ok (.aload_n 0, 1) := by decide +kernel
theorem dX4_tickOne_1 : decode cX4_tickOne 1 = .ok (.getfield 7, 3) := by decide +kernel
theorem dX4_tickOne_4 : decode cX4_tickOne 4 = .ok (.iconst 2, 1) := by decide +kernel
theorem dX4_tickOne_5 : decode cX4_tickOne 5 = .ok (.dup2, 1) := by decide +kernel
theorem dX4_tickOne_6 : decode cX4_tickOne 6 = .ok (.iaload, 1) := by decide +kernel
theorem dX4_tickOne_7 : decode cX4_tickOne 7 = .ok (.iconst 1, 1) := by decide +kernel
theorem dX4_tickOne_8 : decode cX4_tickOne 8 = .ok (.iadd, 1) := by decide +kernel
theorem dX4_tickOne_9 : decode cX4_tickOne 9 = .ok (.iastore, 1) := by decide +kernel
theorem dX4_tickOne_10 : decode cX4_tickOne 10 = .ok (.iconst 0, 1) := by decide +kernel
theorem dX4_tickOne_11 : decode cX4_tickOne 11 = .ok (.istore_n 1, 1) := by decide +kernel
theorem dX4_tickOne_12 : decode cX4_tickOne 12 = .ok (.iload_n 1, 1) := by decide +kernel
theorem dX4_tickOne_13 : decode cX4_tickOne 13 = .ok (.bipush 32, 2) := by decide +kernel
theorem dX4_tickOne_15 : decode cX4_tickOne 15 = .ok (.if_icmp .ge 58, 3) := by decide +kernel
theorem dX4_tickOne_18 : decode cX4_tickOne 18 = .ok (.aload_n 0, 1) := by decide +kernel
theorem dX4_tickOne_19 : decode cX4_tickOne 19 = .ok (.iload_n 1, 1) := by decide +kernel
theorem dX4_tickOne_20 : decode cX4_tickOne 20 = .ok (.invokevirtual 31, 3) := by decide +kernel
theorem dX4_tickOne_23 : decode cX4_tickOne 23 = .ok (.ifCond .eq 44, 3) := by decide +kernel
theorem dX4_tickOne_26 : decode cX4_tickOne 26 = .ok (.aload_n 0, 1) := by decide +kernel
theorem dX4_tickOne_27 : decode cX4_tickOne 27 = .ok (.iload_n 1, 1) := by decide +kernel
theorem dX4_tickOne_28 : decode cX4_tickOne 28 = .ok (.iconst 3, 1) := by decide +kernel
theorem dX4_tickOne_29 : decode cX4_tickOne 29 = .ok (.invokevirtual 27, 3) := by decide +kernel
theorem dX4_tickOne_32 : decode cX4_tickOne 32 = .ok (.iconst 1, 1) := by decide +kernel
theorem dX4_tickOne_33 : decode cX4_tickOne 33 = .ok (.if_icmp .ne 34, 3) := by decide +kernel
theorem dX4_tickOne_36 : decode cX4_tickOne 36 = .ok (.aload_n 0, 1) := by decide +kernel
theorem dX4_tickOne_37 : decode cX4_tickOne 37 = .ok (.iload_n 1, 1) := by decide +kernel
theorem dX4_tickOne_38 : decode cX4_tickOne 38 = .ok (.iconst 4, 1) := by decide +kernel
theorem dX4_tickOne_39 : decode cX4_tickOne 39 = .ok (.invokevirtual 27, 3) := by decide +kernel
theorem dX4_tickOne_42 : decode cX4_tickOne 42 = .ok (.aload_n 0, 1) := by decide +kernel
theorem dX4_tickOne_43 : decode cX4_tickOne 43 = .ok (.getfield 7, 3) := by decide +kernel
theorem dX4_tickOne_46 : decode cX4_tickOne 46 = .ok (.iconst 2, 1) := by decide +kernel
theorem dX4_tickOne_47 : decode cX4_tickOne 47 = .ok (.iaload, 1) := by decide +kernel
theorem dX4_tickOne_48 : decode cX4_tickOne 48 = .ok (.if_icmp .ne 19, 3) := by decide +kernel
theorem dX4_tickOne_51 : decode cX4_tickOne 51 = .ok (.aload_n 0, 1) := by decide +kernel
theorem dX4_tickOne_52 : decode cX4_tickOne 52 = .ok (.getfield 7, 3) := by decide +kernel
theorem dX4_tickOne_55 : decode cX4_tickOne 55 = .ok (.bipush 8, 2) := by decide +kernel
theorem dX4_tickOne_57 : decode cX4_tickOne 57 = .ok (.dup2, 1) := by decide +kernel
theorem dX4_tickOne_58 : decode cX4_tickOne 58 = .ok (.iaload, 1) := by decide +kernel
theorem dX4_tickOne_59 : decode cX4_tickOne 59 = .ok (.iconst 1, 1) := by decide +kernel
theorem dX4_tickOne_60 : decode cX4_tickOne 60 = .ok (.iadd, 1) := by decide +kernel
theorem dX4_tickOne_61 : decode cX4_tickOne 61 = .ok (.iastore, 1) := by decide +kernel
theorem dX4_tickOne_62 : decode cX4_tickOne 62 = .ok (.aload_n 0, 1) := by decide +kernel
theorem dX4_tickOne_63 : decode cX4_tickOne 63 = .ok (.iload_n 1, 1) := by decide +kernel
theorem dX4_tickOne_64 : decode cX4_tickOne 64 = .ok (.invokevirtual 93, 3) := by decide +kernel
theorem dX4_tickOne_67 : decode cX4_tickOne 67 = .ok (.iinc 1 1, 3) := by decide +kernel
theorem dX4_tickOne_70 : decode cX4_tickOne 70 = .ok (.goto (-58), 3) := by decide +kernel
theorem dX4_tickOne_73 : decode cX4_tickOne 73 = .ok (.aload_n 0, 1) := by decide +kernel
theorem dX4_tickOne_74 : decode cX4_tickOne 74 = .ok (.getfield 7, 3) := by decide +kernel
theorem dX4_tickOne_77 : decode cX4_tickOne 77 = .ok (.iconst 4, 1) := by decide +kernel
theorem dX4_tickOne_78 : decode cX4_tickOne 78 = .ok (.dup2, 1) := by decide +kernel
theorem dX4_tickOne_79 : decode cX4_tickOne 79 = .ok (.iaload, 1) := by decide +kernel
theorem dX4_tickOne_80 : decode cX4_tickOne 80 = .ok (.iconst 1, 1) := by decide +kernel
theorem dX4_tickOne_81 : decode cX4_tickOne 81 = .ok (.iadd, 1) := by decide +kernel
theorem dX4_tickOne_82 : decode cX4_tickOne 82 = .ok (.iastore, 1) := by decide +kernel
theorem dX4_tickOne_83 : decode cX4_tickOne 83 = .ok (.iconst 0, 1) := by decide +kernel
theorem dX4_tickOne_84 : decode cX4_tickOne 84 = .ok (.istore_n 1, 1) := by decide +kernel
theorem dX4_tickOne_85 : decode cX4_tickOne 85 = .ok (.iload_n 1, 1) := by decide +kernel
theorem dX4_tickOne_86 : decode cX4_tickOne 86 = .ok (.bipush 32, 2) := by decide +kernel
theorem dX4_tickOne_88 : decode cX4_tickOne 88 = .ok (.if_icmp .ge 22, 3) := by decide +kernel
theorem dX4_tickOne_91 : decode cX4_tickOne 91 = .ok (.aload_n 0, 1) := by decide +kernel
theorem dX4_tickOne_92 : decode cX4_tickOne 92 = .ok (.iload_n 1, 1) := by decide +kernel
theorem dX4_tickOne_93 : decode cX4_tickOne 93 = .ok (.invokevirtual 31, 3) := by decide +kernel
theorem dX4_tickOne_96 : decode cX4_tickOne 96 = .ok (.ifCond .eq 8, 3) := by decide +kernel
theorem dX4_tickOne_99 : decode cX4_tickOne 99 = .ok (.aload_n 0, 1) := by decide +kernel
theorem dX4_tickOne_100 : decode cX4_tickOne 100 = .ok (.iload_n 1, 1) := by decide +kernel
theorem dX4_tickOne_101 : decode cX4_tickOne 101 = .ok (.invokevirtual 109, 3) := by decide +kernel
theorem dX4_tickOne_104 : decode cX4_tickOne 104 = .ok (.iinc 1 1, 3) := by decide +kernel
theorem dX4_tickOne_107 : decode cX4_tickOne 107 = .ok (.goto (-22), 3) := by decide +kernel
theorem dX4_tickOne_110 : decode cX4_tickOne 110 = .ok (.return_, 1) := by decide +kernel
theorem dX4_tick_0 : decode cX4_tick 0 = .ok (.aload_n 0, 1) := by decide +kernel
theorem dX4_tick_1 : decode cX4_tick 1 = .ok (.iload_n 1, 1) := by decide +kernel
theorem dX4_tick_2 : decode cX4_tick 2 = .ok (.iconst 1, 1) := by decide +kernel
theorem dX4_tick_3 : decode cX4_tick 3 = .ok (.sipush 200, 3) := by decide +kernel
theorem dX4_tick_6 : decode cX4_tick 6 = .ok (.invokestatic 23, 3) := by decide +kernel
theorem dX4_tick_9 : decode cX4_tick 9 = .ok (.ifCond .eq 7, 3) := by decide +kernel
theorem dX4_tick_12 : decode cX4_tick 12 = .ok (.iconst 0, 1) := by decide +kernel
theorem dX4_tick_13 : decode cX4_tick 13 = .ok (.goto 4, 3) := by decide +kernel
theorem dX4_tick_16 : decode cX4_tick 16 = .ok (.iconst 1, 1) := by decide +kernel
theorem dX4_tick_17 : decode cX4_tick 17 = .ok (.putfield 16, 3) := by decide +kernel
theorem dX4_tick_20 : decode cX4_tick 20 = .ok (.aload_n 0, 1) := by decide +kernel
theorem dX4_tick_21 : decode cX4_tick 21 = .ok (.getfield 16, 3) := by decide +kernel
theorem dX4_tick_24 : decode cX4_tick 24 = .ok (.ifCond .eq 5, 3) := by decide +kernel
theorem dX4_tick_27 : decode cX4_tick 27 = .ok (.iconst 0, 1) := by decide +kernel
theorem dX4_tick_28 : decode cX4_tick 28 = .ok (.ireturn, 1) := by decide +kernel
theorem dX4_tick_29 : decode cX4_tick 29 = .ok (.aload_n 0, 1) := by decide +kernel
theorem dX4_tick_30 : decode cX4_tick 30 = .ok (.invokevirtual 87, 3) := by decide +kernel
theorem dX4_tick_33 : decode cX4_tick 33 = .ok (.aload_n 0, 1) := by decide +kernel
theorem dX4_tick_34 : decode cX4_tick 34 = .ok (.getfield 7, 3) := by decide +kernel
theorem dX4_tick_37 : decode cX4_tick 37 = .ok (.bipush 7, 2) := by decide +kernel
theorem dX4_tick_39 : decode cX4_tick 39 = .ok (.iaload, 1) := by decide +kernel
theorem dX4_tick_40 : decode cX4_tick 40 = .ok (.istore_n 2, 1) := by decide +kernel
theorem dX4_tick_41 : decode cX4_tick 41 = .ok (.iconst 0, 1) := by decide +kernel
theorem dX4_tick_42 : decode cX4_tick 42 = .ok (.istore_n 3, 1) := by decide +kernel
theorem dX4_tick_43 : decode cX4_tick 43 = .ok (.iload_n 3, 1) := by decide +kernel
theorem dX4_tick_44 : decode cX4_tick 44 = .ok (.iload_n 1, 1) := by decide +kernel
theorem dX4_tick_45 : decode cX4_tick 45 = .ok (.if_icmp .ge 13, 3) := by decide +kernel
theorem dX4_tick_48 : decode cX4_tick 48 = .ok (.aload_n 0, 1) := by decide +kernel
theorem dX4_tick_49 : decode cX4_tick 49 = .ok (.invokevirtual 112, 3) := by decide +kernel
theorem dX4_tick_52 : decode cX4_tick 52 = .ok (.iinc 3 1, 3) := by decide +kernel
theorem dX4_tick_55 : decode cX4_tick 55 = .ok (.goto (-12), 3) := by decide +kernel
theorem dX4_tick_58 : decode cX4_tick 58 = .ok (.aload_n 0, 1) := by decide +kernel
theorem dX4_tick_59 : decode cX4_tick 59 = .ok (.getfield 7, 3) := by decide +kernel
theorem dX4_tick_62 : decode cX4_tick 62 = .ok (.bipush 7, 2) := by decide +kernel
theorem dX4_tick_64 : decode cX4_tick 64 = .ok (.iaload, 1) := by decide +kernel
theorem dX4_tick_65 : decode cX4_tick 65 = .ok (.iload_n 2, 1) := by decide +kernel
theorem dX4_tick_66 : decode cX4_tick 66 = .ok (.isub, 1) := by decide +kernel
theorem dX4_tick_67 : decode cX4_tick 67 = .ok (.ireturn, 1) := by decide +kernel
theorem dX4_time_0 : decode cX4_time 0 = .ok (.aload_n 0, 1) := by decide +kernel
theorem dX4_time_1 : decode cX4_time 1 = .ok (.iconst 0, 1) := by decide +kernel
theorem dX4_time_2 : decode cX4_time 2 = .ok (.putfield 16, 3) := by decide +kernel
theorem dX4_time_5 : decode cX4_time 5 = .ok (.aload_n 0, 1) := by decide +kernel
theorem dX4_time_6 : decode cX4_time 6 = .ok (.getfield 7, 3) := by decide +kernel
theorem dX4_time_9 : decode cX4_time 9 = .ok (.iconst 2, 1) := by decide +kernel
theorem dX4_time_10 : decode cX4_time 10 = .ok (.iaload, 1) := by decide +kernel
theorem dX4_time_11 : decode cX4_time 11 = .ok (.ireturn, 1) := by decide +kernel
theorem dX4_innerStripe_0 : decode cX4_innerStripe 0 = .ok (.iconst (-1), 1) := by decide +kernel
theorem dX4_innerStripe_1 : decode cX4_innerStripe 1 = .ok (.istore_n 2, 1) := by decide +kernel
theorem dX4_innerStripe_2 : decode cX4_innerStripe 2 = .ok (.iconst 0, 1) := by decide +kernel
theorem dX4_innerStripe_3 : decode cX4_innerStripe 3 = .ok (.istore_n 3, 1) := by decide +kernel
theorem dX4_innerStripe_4 : decode cX4_innerStripe 4 = .ok (.iload_n 3, 1) := by decide +kernel
theorem dX4_innerStripe_5 : decode cX4_innerStripe 5 = .ok (.iconst 4, 1) := by decide +kernel
theorem dX4_innerStripe_6 : decode cX4_innerStripe 6 = .ok (.if_icmp .ge 24, 3) := by decide +kernel
theorem dX4_innerStripe_9 : decode cX4_innerStripe 9 = .ok (.aload_n 0, 1) := by decide +kernel
theorem dX4_innerStripe_10 : decode cX4_innerStripe 10 = .ok (.iload_n 1, 1) := by decide +kernel
theorem dX4_innerStripe_11 : decode cX4_innerStripe 11 = .ok (.iload_n 3, 1) := by decide +kernel
theorem dX4_innerStripe_12 : decode cX4_innerStripe 12 = .ok (.invokevirtual 38, 3) := by decide +kernel
theorem dX4_innerStripe_15 : decode cX4_innerStripe 15 = .ok (.ifCond .le 7, 3) := by decide +kernel
theorem dX4_innerStripe_18 : decode cX4_innerStripe 18 = .ok (.iload_n 3, 1) := by decide +kernel
theorem dX4_innerStripe_19 : decode cX4_innerStripe 19 = .ok (.goto 4, 3) := by decide +kernel
theorem dX4_innerStripe_22 : decode cX4_innerStripe 22 = .ok (.iload_n 2, 1) := by decide +kernel
theorem dX4_innerStripe_23 : decode cX4_innerStripe 23 = .ok (.istore_n 2, 1) := by decide +kernel
theorem dX4_innerStripe_24 : decode cX4_innerStripe 24 = .ok (.iinc 3 1, 3) := by decide +kernel
theorem dX4_innerStripe_27 : decode cX4_innerStripe 27 = .ok (.goto (-23), 3) := by decide +kernel
theorem dX4_innerStripe_30 : decode cX4_innerStripe 30 = .ok (.iload_n 2, 1) := by decide +kernel
theorem dX4_innerStripe_31 : decode cX4_innerStripe 31 = .ok (.ireturn, 1) := by decide +kernel
theorem dX4_memberOf_0 : decode cX4_memberOf 0 = .ok (.aload_n 0, 1) := by decide +kernel
theorem dX4_memberOf_1 : decode cX4_memberOf 1 = .ok (.iload_n 1, 1) := by decide +kernel
theorem dX4_memberOf_2 : decode cX4_memberOf 2 = .ok (.invokevirtual 31, 3) := by decide +kernel
theorem dX4_memberOf_5 : decode cX4_memberOf 5 = .ok (.ifCond .ne 5, 3) := by decide +kernel
theorem dX4_memberOf_8 : decode cX4_memberOf 8 = .ok (.iconst 0, 1) := by decide +kernel
theorem dX4_memberOf_9 : decode cX4_memberOf 9 = .ok (.ireturn, 1) := by decide +kernel
theorem dX4_memberOf_10 : decode cX4_memberOf 10 = .ok (.iload_n 2, 1) := by decide +kernel
theorem dX4_memberOf_11 : decode cX4_memberOf 11 = .ok (.tableswitch 58 4 6 #[25, 46, 52], 25) := by decide +kernel
theorem dX4_memberOf_36 : decode cX4_memberOf 36 = .ok (.aload_n 0, 1) := by decide +kernel
theorem dX4_memberOf_37 : decode cX4_memberOf 37 = .ok (.iload_n 1, 1) := by decide +kernel
theorem dX4_memberOf_38 : decode cX4_memberOf 38 = .ok (.iconst 3, 1) := by decide +kernel
theorem dX4_memberOf_39 : decode cX4_memberOf 39 = .ok (.invokevirtual 27, 3) := by decide +kernel
theorem dX4_memberOf_42 : decode cX4_memberOf 42 = .ok (.iconst 1, 1) := by decide +kernel
theorem dX4_memberOf_43 : decode cX4_memberOf 43 = .ok (.if_icmp .ne 12, 3) := by decide +kernel
theorem dX4_memberOf_46 : decode cX4_memberOf 46 = .ok (.aload_n 0, 1) := by decide +kernel
theorem dX4_memberOf_47 : decode cX4_memberOf 47 = .ok (.iload_n 1, 1) := by decide +kernel
theorem dX4_memberOf_48 : decode cX4_memberOf 48 = .ok (.iconst 4, 1) := by decide +kernel
theorem dX4_memberOf_49 : decode cX4_memberOf 49 = .ok (.invokevirtual 27, 3) := by decide +kernel
theorem dX4_memberOf_52 : decode cX4_memberOf 52 = .ok (.goto 4, 3) := by decide +kernel
theorem dX4_memberOf_55 : decode cX4_memberOf 55 = .ok (.iconst (-1), 1) := by decide +kernel
theorem dX4_memberOf_56 : decode cX4_memberOf 56 = .ok (.ireturn, 1) := by decide +kernel
theorem dX4_memberOf_57 : decode cX4_memberOf 57 = .ok (.aload_n 0, 1) := by decide +kernel
theorem dX4_memberOf_58 : decode cX4_memberOf 58 = .ok (.iload_n 1, 1) := by decide +kernel
theorem dX4_memberOf_59 : decode cX4_memberOf 59 = .ok (.invokevirtual 41, 3) := by decide +kernel
theorem dX4_memberOf_62 : decode cX4_memberOf 62 = .ok (.ireturn, 1) := by decide +kernel
theorem dX4_memberOf_63 : decode cX4_memberOf 63 = .ok (.aload_n 0, 1) := by decide +kernel
theorem dX4_memberOf_64 : decode cX4_memberOf 64 = .ok (.iload_n 1, 1) := by decide +kernel
theorem dX4_memberOf_65 : decode cX4_memberOf 65 = .ok (.invokevirtual 115, 3) := by decide +kernel
theorem dX4_memberOf_68 : decode cX4_memberOf 68 = .ok (.ireturn, 1) := by decide +kernel
theorem dX4_memberOf_69 : decode cX4_memberOf 69 = .ok (.aload_n 0, 1) := by decide +kernel
theorem dX4_memberOf_70 : decode cX4_memberOf 70 = .ok (.iload_n 1, 1) := by decide +kernel
theorem dX4_memberOf_71 : decode cX4_memberOf 71 = .ok (.iload_n 2, 1) := by decide +kernel
theorem dX4_memberOf_72 : decode cX4_memberOf 72 = .ok (.iconst 4, 1) := by decide +kernel
theorem dX4_memberOf_73 : decode cX4_memberOf 73 = .ok (.if_icmp .ge 7, 3) := by decide +kernel
theorem dX4_memberOf_76 : decode cX4_memberOf 76 = .ok (.iload_n 2, 1) := by decide +kernel
theorem dX4_memberOf_77 : decode cX4_memberOf 77 = .ok (.goto 9, 3) := by decide +kernel
theorem dX4_memberOf_80 : decode cX4_memberOf 80 = .ok (.iconst 5, 1) := by decide +kernel
theorem dX4_memberOf_81 : decode cX4_memberOf 81 = .ok (.iload_n 2, 1) := by decide +kernel
theorem dX4_memberOf_82 : decode cX4_memberOf 82 = .ok (.iadd, 1) := by decide +kernel
theorem dX4_memberOf_83 : decode cX4_memberOf 83 = .ok (.bipush 7, 2) := by decide +kernel
theorem dX4_memberOf_85 : decode cX4_memberOf 85 = .ok (.isub, 1) := by decide +kernel
theorem dX4_memberOf_86 : decode cX4_memberOf 86 = .ok (.invokevirtual 27, 3) := by decide +kernel
theorem dX4_memberOf_89 : decode cX4_memberOf 89 = .ok (.ireturn, 1) := by decide +kernel
theorem dX4_member_0 : decode cX4_member 0 = .ok (.aload_n 0, 1) := by decide +kernel
theorem dX4_member_1 : decode cX4_member 1 = .ok (.iload_n 1, 1) := by decide +kernel
theorem dX4_member_2 : decode cX4_member 2 = .ok (.invokestatic 81, 3) := by decide +kernel
theorem dX4_member_5 : decode cX4_member 5 = .ok (.ifCond .ne 7, 3) := by decide +kernel
theorem dX4_member_8 : decode cX4_member 8 = .ok (.iconst 1, 1) := by decide +kernel
theorem dX4_member_9 : decode cX4_member 9 = .ok (.goto 18, 3) := by decide +kernel
theorem dX4_member_12 : decode cX4_member 12 = .ok (.iload_n 2, 1) := by decide +kernel
theorem dX4_member_13 : decode cX4_member 13 = .ok (.iconst 0, 1) := by decide +kernel
theorem dX4_member_14 : decode cX4_member 14 = .ok (.bipush 9, 2) := by decide +kernel
theorem dX4_member_16 : decode cX4_member 16 = .ok (.invokestatic 23, 3) := by decide +kernel
theorem dX4_member_19 : decode cX4_member 19 = .ok (.ifCond .ne 7, 3) := by decide +kernel
theorem dX4_member_22 : decode cX4_member 22 = .ok (.iconst 2, 1) := by decide +kernel
theorem dX4_member_23 : decode cX4_member 23 = .ok (.goto 4, 3) := by decide +kernel
theorem dX4_member_26 : decode cX4_member 26 = .ok (.iconst 0, 1) := by decide +kernel
theorem dX4_member_27 : decode cX4_member 27 = .ok (.putfield 16, 3) := by decide +kernel
theorem dX4_member_30 : decode cX4_member 30 = .ok (.aload_n 0, 1) := by decide +kernel
theorem dX4_member_31 : decode cX4_member 31 = .ok (.getfield 16, 3) := by decide +kernel
theorem dX4_member_34 : decode cX4_member 34 = .ok (.ifCond .eq 7, 3) := by decide +kernel
theorem dX4_member_37 : decode cX4_member 37 = .ok (.iconst 0, 1) := by decide +kernel
theorem dX4_member_38 : decode cX4_member 38 = .ok (.goto 9, 3) := by decide +kernel
theorem dX4_member_41 : decode cX4_member 41 = .ok (.aload_n 0, 1) := by decide +kernel
theorem dX4_member_42 : decode cX4_member 42 = .ok (.iload_n 1, 1) := by decide +kernel
theorem dX4_member_43 : decode cX4_member 43 = .ok (.iload_n 2, 1) := by decide +kernel
theorem dX4_member_44 : decode cX4_member 44 = .ok (.invokevirtual 118, 3) := by decide +kernel
theorem dX4_member_47 : decode cX4_member 47 = .ok (.ireturn, 1) := by decide +kernel
theorem dX4_misses_0 : decode cX4_misses 0 = .ok (.iload_n 0, 1) := by decide +kernel
theorem dX4_misses_1 : decode cX4_misses 1 = .ok (.ifCond .ne 7, 3) := by decide +kernel
theorem dX4_misses_4 : decode cX4_misses 4 = .ok (.iconst 1, 1) := by decide +kernel
theorem dX4_misses_5 : decode cX4_misses 5 = .ok (.goto 12, 3) := by decide +kernel
theorem dX4_misses_8 : decode cX4_misses 8 = .ok (.iload_n 1, 1) := by decide +kernel
theorem dX4_misses_9 : decode cX4_misses 9 = .ok (.ifCond .eq 7, 3) := by decide +kernel
theorem dX4_misses_12 : decode cX4_misses 12 = .ok (.iconst 0, 1) := by decide +kernel
theorem dX4_misses_13 : decode cX4_misses 13 = .ok (.goto 4, 3) := by decide +kernel
theorem dX4_misses_16 : decode cX4_misses 16 = .ok (.iconst 2, 1) := by decide +kernel
theorem dX4_misses_17 : decode cX4_misses 17 = .ok (.ireturn, 1) := by decide +kernel
theorem dX4_parent_0 : decode cX4_parent 0 = .ok (.iload_n 1, 1) := by decide +kernel
theorem dX4_parent_1 : decode cX4_parent 1 = .ok (.invokestatic 81, 3) := by decide +kernel
theorem dX4_parent_4 : decode cX4_parent 4 = .ok (.ifCond .eq 14, 3) := by decide +kernel
theorem dX4_parent_7 : decode cX4_parent 7 = .ok (.iload_n 2, 1) := by decide +kernel
theorem dX4_parent_8 : decode cX4_parent 8 = .ok (.invokestatic 84, 3) := by decide +kernel
theorem dX4_parent_11 : decode cX4_parent 11 = .ok (.ifCond .eq 7, 3) := by decide +kernel
theorem dX4_parent_14 : decode cX4_parent 14 = .ok (.iconst 1, 1) := by decide +kernel
theorem dX4_parent_15 : decode cX4_parent 15 = .ok (.goto 4, 3) := by decide +kernel
theorem dX4_parent_18 : decode cX4_parent 18 = .ok (.iconst 0, 1) := by decide +kernel
theorem dX4_parent_19 : decode cX4_parent 19 = .ok (.istore_n 3, 1) := by decide +kernel
theorem dX4_parent_20 : decode cX4_parent 20 = .ok (.aload_n 0, 1) := by decide +kernel
theorem dX4_parent_21 : decode cX4_parent 21 = .ok (.iload_n 3, 1) := by decide +kernel
theorem dX4_parent_22 : decode cX4_parent 22 = .ok (.iload_n 3, 1) := by decide +kernel
theorem dX4_parent_23 : decode cX4_parent 23 = .ok (.ifCond .eq 15, 3) := by decide +kernel
theorem dX4_parent_26 : decode cX4_parent 26 = .ok (.aload_n 0, 1) := by decide +kernel
theorem dX4_parent_27 : decode cX4_parent 27 = .ok (.iload_n 1, 1) := by decide +kernel
theorem dX4_parent_28 : decode cX4_parent 28 = .ok (.invokevirtual 31, 3) := by decide +kernel
theorem dX4_parent_31 : decode cX4_parent 31 = .ok (.ifCond .eq 7, 3) := by decide +kernel
theorem dX4_parent_34 : decode cX4_parent 34 = .ok (.iconst 1, 1) := by decide +kernel
theorem dX4_parent_35 : decode cX4_parent 35 = .ok (.goto 4, 3) := by decide +kernel
theorem dX4_parent_38 : decode cX4_parent 38 = .ok (.iconst 0, 1) := by decide +kernel
theorem dX4_parent_39 : decode cX4_parent 39 = .ok (.invokestatic 121, 3) := by decide +kernel
theorem dX4_parent_42 : decode cX4_parent 42 = .ok (.putfield 16, 3) := by decide +kernel
theorem dX4_parent_45 : decode cX4_parent 45 = .ok (.aload_n 0, 1) := by decide +kernel
theorem dX4_parent_46 : decode cX4_parent 46 = .ok (.getfield 16, 3) := by decide +kernel
theorem dX4_parent_49 : decode cX4_parent 49 = .ok (.ifCond .eq 7, 3) := by decide +kernel
theorem dX4_parent_52 : decode cX4_parent 52 = .ok (.iconst 0, 1) := by decide +kernel
theorem dX4_parent_53 : decode cX4_parent 53 = .ok (.goto 12, 3) := by decide +kernel
theorem dX4_parent_56 : decode cX4_parent 56 = .ok (.aload_n 0, 1) := by decide +kernel
theorem dX4_parent_57 : decode cX4_parent 57 = .ok (.iload_n 1, 1) := by decide +kernel
theorem dX4_parent_58 : decode cX4_parent 58 = .ok (.bipush 8, 2) := by decide +kernel
theorem dX4_parent_60 : decode cX4_parent 60 = .ok (.iload_n 2, 1) := by decide +kernel
theorem dX4_parent_61 : decode cX4_parent 61 = .ok (.iadd, 1) := by decide +kernel
theorem dX4_parent_62 : decode cX4_parent 62 = .ok (.invokevirtual 27, 3) := by decide +kernel
theorem dX4_parent_65 : decode cX4_parent 65 = .ok (.ireturn, 1) := by decide +kernel
theorem dX4_depth_0 : decode cX4_depth 0 = .ok (.iload_n 1, 1) := by decide +kernel
theorem dX4_depth_1 : decode cX4_depth 1 = .ok (.invokestatic 81, 3) := by decide +kernel
theorem dX4_depth_4 : decode cX4_depth 4 = .ok (.ifCond .eq 14, 3) := by decide +kernel
theorem dX4_depth_7 : decode cX4_depth 7 = .ok (.iload_n 2, 1) := by decide +kernel
theorem dX4_depth_8 : decode cX4_depth 8 = .ok (.invokestatic 84, 3) := by decide +kernel
theorem dX4_depth_11 : decode cX4_depth 11 = .ok (.ifCond .eq 7, 3) := by decide +kernel
theorem dX4_depth_14 : decode cX4_depth 14 = .ok (.iconst 1, 1) := by decide +kernel
theorem dX4_depth_15 : decode cX4_depth 15 = .ok (.goto 4, 3) := by decide +kernel
theorem dX4_depth_18 : decode cX4_depth 18 = .ok (.iconst 0, 1) := by decide +kernel
theorem dX4_depth_19 : decode cX4_depth 19 = .ok (.istore_n 3, 1) := by decide +kernel
theorem dX4_depth_20 : decode cX4_depth 20 = .ok (.aload_n 0, 1) := by decide +kernel
theorem dX4_depth_21 : decode cX4_depth 21 = .ok (.iload_n 3, 1) := by decide +kernel
theorem dX4_depth_22 : decode cX4_depth 22 = .ok (.iload_n 3, 1) := by decide +kernel
theorem dX4_depth_23 : decode cX4_depth 23 = .ok (.ifCond .eq 15, 3) := by decide +kernel
theorem dX4_depth_26 : decode cX4_depth 26 = .ok (.aload_n 0, 1) := by decide +kernel
theorem dX4_depth_27 : decode cX4_depth 27 = .ok (.iload_n 1, 1) := by decide +kernel
theorem dX4_depth_28 : decode cX4_depth 28 = .ok (.invokevirtual 31, 3) := by decide +kernel
theorem dX4_depth_31 : decode cX4_depth 31 = .ok (.ifCond .eq 7, 3) := by decide +kernel
theorem dX4_depth_34 : decode cX4_depth 34 = .ok (.iconst 1, 1) := by decide +kernel
theorem dX4_depth_35 : decode cX4_depth 35 = .ok (.goto 4, 3) := by decide +kernel
theorem dX4_depth_38 : decode cX4_depth 38 = .ok (.iconst 0, 1) := by decide +kernel
theorem dX4_depth_39 : decode cX4_depth 39 = .ok (.invokestatic 121, 3) := by decide +kernel
theorem dX4_depth_42 : decode cX4_depth 42 = .ok (.putfield 16, 3) := by decide +kernel
theorem dX4_depth_45 : decode cX4_depth 45 = .ok (.aload_n 0, 1) := by decide +kernel
theorem dX4_depth_46 : decode cX4_depth 46 = .ok (.getfield 16, 3) := by decide +kernel
theorem dX4_depth_49 : decode cX4_depth 49 = .ok (.ifCond .eq 7, 3) := by decide +kernel
theorem dX4_depth_52 : decode cX4_depth 52 = .ok (.iconst 0, 1) := by decide +kernel
theorem dX4_depth_53 : decode cX4_depth 53 = .ok (.goto 9, 3) := by decide +kernel
theorem dX4_depth_56 : decode cX4_depth 56 = .ok (.aload_n 0, 1) := by decide +kernel
theorem dX4_depth_57 : decode cX4_depth 57 = .ok (.iload_n 1, 1) := by decide +kernel
theorem dX4_depth_58 : decode cX4_depth 58 = .ok (.iload_n 2, 1) := by decide +kernel
theorem dX4_depth_59 : decode cX4_depth 59 = .ok (.invokevirtual 49, 3) := by decide +kernel
theorem dX4_depth_62 : decode cX4_depth 62 = .ok (.ireturn, 1) := by decide +kernel
theorem dX4_child_0 : decode cX4_child 0 = .ok (.iload_n 1, 1) := by decide +kernel
theorem dX4_child_1 : decode cX4_child 1 = .ok (.bipush 100, 2) := by decide +kernel
theorem dX4_child_3 : decode cX4_child 3 = .ok (.if_icmp .eq 10, 3) := by decide +kernel
theorem dX4_child_6 : decode cX4_child 6 = .ok (.iload_n 1, 1) := by decide +kernel
theorem dX4_child_7 : decode cX4_child 7 = .ok (.invokestatic 81, 3) := by decide +kernel
theorem dX4_child_10 : decode cX4_child 10 = .ok (.ifCond .eq 14, 3) := by decide +kernel
theorem dX4_child_13 : decode cX4_child 13 = .ok (.iload_n 2, 1) := by decide +kernel
theorem dX4_child_14 : decode cX4_child 14 = .ok (.invokestatic 84, 3) := by decide +kernel
theorem dX4_child_17 : decode cX4_child 17 = .ok (.ifCond .eq 7, 3) := by decide +kernel
theorem dX4_child_20 : decode cX4_child 20 = .ok (.iconst 1, 1) := by decide +kernel
theorem dX4_child_21 : decode cX4_child 21 = .ok (.goto 4, 3) := by decide +kernel
theorem dX4_child_24 : decode cX4_child 24 = .ok (.iconst 0, 1) := by decide +kernel
theorem dX4_child_25 : decode cX4_child 25 = .ok (.istore 4, 2) := by decide +kernel
theorem dX4_child_27 : decode cX4_child 27 = .ok (.aload_n 0, 1) := by decide +kernel
theorem dX4_child_28 : decode cX4_child 28 = .ok (.iload 4, 2) := by decide +kernel
theorem dX4_child_30 : decode cX4_child 30 = .ok (.ifCond .ne 7, 3) := by decide +kernel
theorem dX4_child_33 : decode cX4_child 33 = .ok (.iconst 1, 1) := by decide +kernel
theorem dX4_child_34 : decode cX4_child 34 = .ok (.goto 30, 3) := by decide +kernel
theorem dX4_child_37 : decode cX4_child 37 = .ok (.iload_n 3, 1) := by decide +kernel
theorem dX4_child_38 : decode cX4_child 38 = .ok (.ifCond .ge 7, 3) := by decide +kernel
theorem dX4_child_41 : decode cX4_child 41 = .ok (.iconst 2, 1) := by decide +kernel
theorem dX4_child_42 : decode cX4_child 42 = .ok (.goto 22, 3) := by decide +kernel
theorem dX4_child_45 : decode cX4_child 45 = .ok (.iload_n 1, 1) := by decide +kernel
theorem dX4_child_46 : decode cX4_child 46 = .ok (.bipush 100, 2) := by decide +kernel
theorem dX4_child_48 : decode cX4_child 48 = .ok (.if_icmp .eq 11, 3) := by decide +kernel
theorem dX4_child_51 : decode cX4_child 51 = .ok (.aload_n 0, 1) := by decide +kernel
theorem dX4_child_52 : decode cX4_child 52 = .ok (.iload_n 1, 1) := by decide +kernel
theorem dX4_child_53 : decode cX4_child 53 = .ok (.invokevirtual 31, 3) := by decide +kernel
theorem dX4_child_56 : decode cX4_child 56 = .ok (.ifCond .eq 7, 3) := by decide +kernel
theorem dX4_child_59 : decode cX4_child 59 = .ok (.iconst 0, 1) := by decide +kernel
theorem dX4_child_60 : decode cX4_child 60 = .ok (.goto 4, 3) := by decide +kernel
theorem dX4_child_63 : decode cX4_child 63 = .ok (.iconst 3, 1) := by decide +kernel
theorem dX4_child_64 : decode cX4_child 64 = .ok (.putfield 16, 3) := by decide +kernel
theorem dX4_child_67 : decode cX4_child 67 = .ok (.aload_n 0, 1) := by decide +kernel
theorem dX4_child_68 : decode cX4_child 68 = .ok (.getfield 16, 3) := by decide +kernel
theorem dX4_child_71 : decode cX4_child 71 = .ok (.ifCond .eq 5, 3) := by decide +kernel
theorem dX4_child_74 : decode cX4_child 74 = .ok (.iconst 0, 1) := by decide +kernel
theorem dX4_child_75 : decode cX4_child 75 = .ok (.ireturn, 1) := by decide +kernel
theorem dX4_child_76 : decode cX4_child 76 = .ok (.iload_n 3, 1) := by decide +kernel
theorem dX4_child_77 : decode cX4_child 77 = .ok (.istore 5, 2) := by decide +kernel
theorem dX4_child_79 : decode cX4_child 79 = .ok (.iconst 0, 1) := by decide +kernel
theorem dX4_child_80 : decode cX4_child 80 = .ok (.istore 6, 2) := by decide +kernel
theorem dX4_child_82 : decode cX4_child 82 = .ok (.iload 6, 2) := by decide +kernel
theorem dX4_child_84 : decode cX4_child 84 = .ok (.bipush 32, 2) := by decide +kernel
theorem dX4_child_86 : decode cX4_child 86 = .ok (.if_icmp .ge 31, 3) := by decide +kernel
theorem dX4_child_89 : decode cX4_child 89 = .ok (.aload_n 0, 1) := by decide +kernel
theorem dX4_child_90 : decode cX4_child 90 = .ok (.iload 6, 2) := by decide +kernel
theorem dX4_child_92 : decode cX4_child 92 = .ok (.iload_n 1, 1) := by decide +kernel
theorem dX4_child_93 : decode cX4_child 93 = .ok (.iload_n 2, 1) := by decide +kernel
theorem dX4_child_94 : decode cX4_child 94 = .ok (.invokevirtual 35, 3) := by decide +kernel
theorem dX4_child_97 : decode cX4_child 97 = .ok (.ifCond .eq 14, 3) := by decide +kernel
theorem dX4_child_100 : decode cX4_child 100 = .ok (.iload 5, 2) := by decide +kernel
theorem dX4_child_102 : decode cX4_child 102 = .ok (.ifCond .ne 6, 3) := by decide +kernel
theorem dX4_child_105 : decode cX4_child 105 = .ok (.iload 6, 2) := by decide +kernel
theorem dX4_child_107 : decode cX4_child 107 = .ok (.ireturn, 1) := by decide +kernel
theorem dX4_child_108 : decode cX4_child 108 = .ok (.iinc 5 (-1), 3) := by decide +kernel
theorem dX4_child_111 : decode cX4_child 111 = .ok (.iinc 6 1, 3) := by decide +kernel
theorem dX4_child_114 : decode cX4_child 114 = .ok (.goto (-32), 3) := by decide +kernel
theorem dX4_child_117 : decode cX4_child 117 = .ok (.iconst (-1), 1) := by decide +kernel
theorem dX4_child_118 : decode cX4_child 118 = .ok (.ireturn, 1) := by decide +kernel
theorem dX4_subtreeOf_0 : decode cX4_subtreeOf 0 = .ok (.iconst 0, 1) := by decide +kernel
theorem dX4_subtreeOf_1 : decode cX4_subtreeOf 1 = .ok (.istore_n 3, 1) := by decide +kernel
theorem dX4_subtreeOf_2 : decode cX4_subtreeOf 2 = .ok (.iconst 0, 1) := by decide +kernel
theorem dX4_subtreeOf_3 : decode cX4_subtreeOf 3 = .ok (.istore 4, 2) := by decide +kernel
theorem dX4_subtreeOf_5 : decode cX4_subtreeOf 5 = .ok (.iload 4, 2) := by decide +kernel
theorem dX4_subtreeOf_7 : decode cX4_subtreeOf 7 = .ok (.bipush 32, 2) := by decide +kernel
theorem dX4_subtreeOf_9 : decode cX4_subtreeOf 9 = .ok (.if_icmp .ge 37, 3) := by decide +kernel
theorem dX4_subtreeOf_12 : decode cX4_subtreeOf 12 = .ok (.iload_n 3, 1) := by decide +kernel
theorem dX4_subtreeOf_13 : decode cX4_subtreeOf 13 = .ok (.aload_n 0, 1) := by decide +kernel
theorem dX4_subtreeOf_14 : decode cX4_subtreeOf 14 = .ok (.iload 4, 2) := by decide +kernel
theorem dX4_subtreeOf_16 : decode cX4_subtreeOf 16 = .ok (.invokevirtual 31, 3) := by decide +kernel
theorem dX4_subtreeOf_19 : decode cX4_subtreeOf 19 = .ok (.ifCond .eq 18, 3) := by decide +kernel
theorem dX4_subtreeOf_22 : decode cX4_subtreeOf 22 = .ok (.aload_n 0, 1) := by decide +kernel
theorem dX4_subtreeOf_23 : decode cX4_subtreeOf 23 = .ok (.iload 4, 2) := by decide +kernel
theorem dX4_subtreeOf_25 : decode cX4_subtreeOf 25 = .ok (.iload_n 1, 1) := by decide +kernel
theorem dX4_subtreeOf_26 : decode cX4_subtreeOf 26 = .ok (.iload_n 2, 1) := by decide +kernel
theorem dX4_subtreeOf_27 : decode cX4_subtreeOf 27 = .ok (.invokevirtual 61, 3) := by decide +kernel
theorem dX4_subtreeOf_30 : decode cX4_subtreeOf 30 = .ok (.ifCond .eq 7, 3) := by decide +kernel
theorem dX4_subtreeOf_33 : decode cX4_subtreeOf 33 = .ok (.iconst 1, 1) := by decide +kernel
theorem dX4_subtreeOf_34 : decode cX4_subtreeOf 34 = .ok (.goto 4, 3) := by decide +kernel
theorem dX4_subtreeOf_37 : decode cX4_subtreeOf 37 = .ok (.iconst 0, 1) := by decide +kernel
theorem dX4_subtreeOf_38 : decode cX4_subtreeOf 38 = .ok (.iadd, 1) := by decide +kernel
theorem dX4_subtreeOf_39 : decode cX4_subtreeOf 39 = .ok (.istore_n 3, 1) := by decide +kernel
theorem dX4_subtreeOf_40 : decode cX4_subtreeOf 40 = .ok (.iinc 4 1, 3) := by decide +kernel
theorem dX4_subtreeOf_43 : decode cX4_subtreeOf 43 = .ok (.goto (-38), 3) := by decide +kernel
theorem dX4_subtreeOf_46 : decode cX4_subtreeOf 46 = .ok (.iload_n 3, 1) := by decide +kernel
theorem dX4_subtreeOf_47 : decode cX4_subtreeOf 47 = .ok (.ireturn, 1) := by decide +kernel
theorem dX4_subtree_0 : decode cX4_subtree 0 = .ok (.iload_n 1, 1) := by decide +kernel
theorem dX4_subtree_1 : decode cX4_subtree 1 = .ok (.invokestatic 81, 3) := by decide +kernel
theorem dX4_subtree_4 : decode cX4_subtree 4 = .ok (.ifCond .eq 14, 3) := by decide +kernel
theorem dX4_subtree_7 : decode cX4_subtree 7 = .ok (.iload_n 2, 1) := by decide +kernel
theorem dX4_subtree_8 : decode cX4_subtree 8 = .ok (.invokestatic 84, 3) := by decide +kernel
theorem dX4_subtree_11 : decode cX4_subtree 11 = .ok (.ifCond .eq 7, 3) := by decide +kernel
theorem dX4_subtree_14 : decode cX4_subtree 14 = .ok (.iconst 1, 1) := by decide +kernel
theorem dX4_subtree_15 : decode cX4_subtree 15 = .ok (.goto 4, 3) := by decide +kernel
theorem dX4_subtree_18 : decode cX4_subtree 18 = .ok (.iconst 0, 1) := by decide +kernel
theorem dX4_subtree_19 : decode cX4_subtree 19 = .ok (.istore_n 3, 1) := by decide +kernel
theorem dX4_subtree_20 : decode cX4_subtree 20 = .ok (.aload_n 0, 1) := by decide +kernel
theorem dX4_subtree_21 : decode cX4_subtree 21 = .ok (.iload_n 3, 1) := by decide +kernel
theorem dX4_subtree_22 : decode cX4_subtree 22 = .ok (.iload_n 3, 1) := by decide +kernel
theorem dX4_subtree_23 : decode cX4_subtree 23 = .ok (.ifCond .eq 15, 3) := by decide +kernel
theorem dX4_subtree_26 : decode cX4_subtree 26 = .ok (.aload_n 0, 1) := by decide +kernel
theorem dX4_subtree_27 : decode cX4_subtree 27 = .ok (.iload_n 1, 1) := by decide +kernel
theorem dX4_subtree_28 : decode cX4_subtree 28 = .ok (.invokevirtual 31, 3) := by decide +kernel
theorem dX4_subtree_31 : decode cX4_subtree 31 = .ok (.ifCond .eq 7, 3) := by decide +kernel
theorem dX4_subtree_34 : decode cX4_subtree 34 = .ok (.iconst 1, 1) := by decide +kernel
theorem dX4_subtree_35 : decode cX4_subtree 35 = .ok (.goto 4, 3) := by decide +kernel
theorem dX4_subtree_38 : decode cX4_subtree 38 = .ok (.iconst 0, 1) := by decide +kernel
theorem dX4_subtree_39 : decode cX4_subtree 39 = .ok (.invokestatic 121, 3) := by decide +kernel
theorem dX4_subtree_42 : decode cX4_subtree 42 = .ok (.putfield 16, 3) := by decide +kernel
theorem dX4_subtree_45 : decode cX4_subtree 45 = .ok (.aload_n 0, 1) := by decide +kernel
theorem dX4_subtree_46 : decode cX4_subtree 46 = .ok (.getfield 16, 3) := by decide +kernel
theorem dX4_subtree_49 : decode cX4_subtree 49 = .ok (.ifCond .eq 7, 3) := by decide +kernel
theorem dX4_subtree_52 : decode cX4_subtree 52 = .ok (.iconst 0, 1) := by decide +kernel
theorem dX4_subtree_53 : decode cX4_subtree 53 = .ok (.goto 9, 3) := by decide +kernel
theorem dX4_subtree_56 : decode cX4_subtree 56 = .ok (.aload_n 0, 1) := by decide +kernel
theorem dX4_subtree_57 : decode cX4_subtree 57 = .ok (.iload_n 1, 1) := by decide +kernel
theorem dX4_subtree_58 : decode cX4_subtree 58 = .ok (.iload_n 2, 1) := by decide +kernel
theorem dX4_subtree_59 : decode cX4_subtree 59 = .ok (.invokevirtual 125, 3) := by decide +kernel
theorem dX4_subtree_62 : decode cX4_subtree 62 = .ok (.ireturn, 1) := by decide +kernel
theorem dX4_hasRoom_0 : decode cX4_hasRoom 0 = .ok (.iload_n 1, 1) := by decide +kernel
theorem dX4_hasRoom_1 : decode cX4_hasRoom 1 = .ok (.bipush 100, 2) := by decide +kernel
theorem dX4_hasRoom_3 : decode cX4_hasRoom 3 = .ok (.if_icmp .eq 10, 3) := by decide +kernel
theorem dX4_hasRoom_6 : decode cX4_hasRoom 6 = .ok (.iload_n 1, 1) := by decide +kernel
theorem dX4_hasRoom_7 : decode cX4_hasRoom 7 = .ok (.invokestatic 81, 3) := by decide +kernel
theorem dX4_hasRoom_10 : decode cX4_hasRoom 10 = .ok (.ifCond .eq 14, 3) := by decide +kernel
theorem dX4_hasRoom_13 : decode cX4_hasRoom 13 = .ok (.iload_n 2, 1) := by decide +kernel
theorem dX4_hasRoom_14 : decode cX4_hasRoom 14 = .ok (.invokestatic 84, 3) := by decide +kernel
theorem dX4_hasRoom_17 : decode cX4_hasRoom 17 = .ok (.ifCond .eq 7, 3) := by decide +kernel
theorem dX4_hasRoom_20 : decode cX4_hasRoom 20 = .ok (.iconst 1, 1) := by decide +kernel
theorem dX4_hasRoom_21 : decode cX4_hasRoom 21 = .ok (.goto 4, 3) := by decide +kernel
theorem dX4_hasRoom_24 : decode cX4_hasRoom 24 = .ok (.iconst 0, 1) := by decide +kernel
theorem dX4_hasRoom_25 : decode cX4_hasRoom 25 = .ok (.istore_n 3, 1) := by decide +kernel
theorem dX4_hasRoom_26 : decode cX4_hasRoom 26 = .ok (.aload_n 0, 1) := by decide +kernel
theorem dX4_hasRoom_27 : decode cX4_hasRoom 27 = .ok (.iload_n 3, 1) := by decide +kernel
theorem dX4_hasRoom_28 : decode cX4_hasRoom 28 = .ok (.iload_n 1, 1) := by decide +kernel
theorem dX4_hasRoom_29 : decode cX4_hasRoom 29 = .ok (.bipush 100, 2) := by decide +kernel
theorem dX4_hasRoom_31 : decode cX4_hasRoom 31 = .ok (.if_icmp .eq 15, 3) := by decide +kernel
theorem dX4_hasRoom_34 : decode cX4_hasRoom 34 = .ok (.iload_n 3, 1) := by decide +kernel
theorem dX4_hasRoom_35 : decode cX4_hasRoom 35 = .ok (.ifCond .eq 15, 3) := by decide +kernel
theorem dX4_hasRoom_38 : decode cX4_hasRoom 38 = .ok (.aload_n 0, 1) := by decide +kernel
theorem dX4_hasRoom_39 : decode cX4_hasRoom 39 = .ok (.iload_n 1, 1) := by decide +kernel
theorem dX4_hasRoom_40 : decode cX4_hasRoom 40 = .ok (.invokevirtual 31, 3) := by decide +kernel
theorem dX4_hasRoom_43 : decode cX4_hasRoom 43 = .ok (.ifCond .eq 7, 3) := by decide +kernel
theorem dX4_hasRoom_46 : decode cX4_hasRoom 46 = .ok (.iconst 1, 1) := by decide +kernel
theorem dX4_hasRoom_47 : decode cX4_hasRoom 47 = .ok (.goto 4, 3) := by decide +kernel
theorem dX4_hasRoom_50 : decode cX4_hasRoom 50 = .ok (.iconst 0, 1) := by decide +kernel
theorem dX4_hasRoom_51 : decode cX4_hasRoom 51 = .ok (.invokestatic 121, 3) := by decide +kernel
theorem dX4_hasRoom_54 : decode cX4_hasRoom 54 = .ok (.putfield 16, 3) := by decide +kernel
theorem dX4_hasRoom_57 : decode cX4_hasRoom 57 = .ok (.aload_n 0, 1) := by decide +kernel
theorem dX4_hasRoom_58 : decode cX4_hasRoom 58 = .ok (.getfield 16, 3) := by decide +kernel
theorem dX4_hasRoom_61 : decode cX4_hasRoom 61 = .ok (.ifCond .ne 16, 3) := by decide +kernel
theorem dX4_hasRoom_64 : decode cX4_hasRoom 64 = .ok (.aload_n 0, 1) := by decide +kernel
theorem dX4_hasRoom_65 : decode cX4_hasRoom 65 = .ok (.iload_n 1, 1) := by decide +kernel
theorem dX4_hasRoom_66 : decode cX4_hasRoom 66 = .ok (.iload_n 2, 1) := by decide +kernel
theorem dX4_hasRoom_67 : decode cX4_hasRoom 67 = .ok (.invokevirtual 58, 3) := by decide +kernel
theorem dX4_hasRoom_70 : decode cX4_hasRoom 70 = .ok (.ifCond .eq 7, 3) := by decide +kernel
theorem dX4_hasRoom_73 : decode cX4_hasRoom 73 = .ok (.iconst 1, 1) := by decide +kernel
theorem dX4_hasRoom_74 : decode cX4_hasRoom 74 = .ok (.goto 4, 3) := by decide +kernel
theorem dX4_hasRoom_77 : decode cX4_hasRoom 77 = .ok (.iconst 0, 1) := by decide +kernel
theorem dX4_hasRoom_78 : decode cX4_hasRoom 78 = .ok (.ireturn, 1) := by decide +kernel
theorem dX4_ranksBefore_0 : decode cX4_ranksBefore 0 = .ok (.iload_n 1, 1) := by decide +kernel
theorem dX4_ranksBefore_1 : decode cX4_ranksBefore 1 = .ok (.invokestatic 81, 3) := by decide +kernel
theorem dX4_ranksBefore_4 : decode cX4_ranksBefore 4 = .ok (.ifCond .eq 21, 3) := by decide +kernel
theorem dX4_ranksBefore_7 : decode cX4_ranksBefore 7 = .ok (.iload_n 2, 1) := by decide +kernel
theorem dX4_ranksBefore_8 : decode cX4_ranksBefore 8 = .ok (.invokestatic 81, 3) := by decide +kernel
theorem dX4_ranksBefore_11 : decode cX4_ranksBefore 11 = .ok (.ifCond .eq 14, 3) := by decide +kernel
theorem dX4_ranksBefore_14 : decode cX4_ranksBefore 14 = .ok (.iload_n 3, 1) := by decide +kernel
theorem dX4_ranksBefore_15 : decode cX4_ranksBefore 15 = .ok (.invokestatic 84, 3) := by decide +kernel
theorem dX4_ranksBefore_18 : decode cX4_ranksBefore 18 = .ok (.ifCond .eq 7, 3) := by decide +kernel
theorem dX4_ranksBefore_21 : decode cX4_ranksBefore 21 = .ok (.iconst 1, 1) := by decide +kernel
theorem dX4_ranksBefore_22 : decode cX4_ranksBefore 22 = .ok (.goto 4, 3) := by decide +kernel
theorem dX4_ranksBefore_25 : decode cX4_ranksBefore 25 = .ok (.iconst 0, 1) := by decide +kernel
theorem dX4_ranksBefore_26 : decode cX4_ranksBefore 26 = .ok (.istore 4, 2) := by decide +kernel
theorem dX4_ranksBefore_28 : decode cX4_ranksBefore 28 = .ok (.aload_n 0, 1) := by decide +kernel
theorem dX4_ranksBefore_29 : decode cX4_ranksBefore 29 = .ok (.iload 4, 2) := by decide +kernel
theorem dX4_ranksBefore_31 : decode cX4_ranksBefore 31 = .ok (.ifCond .ne 7, 3) := by decide +kernel
theorem dX4_ranksBefore_34 : decode cX4_ranksBefore 34 = .ok (.iconst 1, 1) := by decide +kernel
theorem dX4_ranksBefore_35 : decode cX4_ranksBefore 35 = .ok (.goto 33, 3) := by decide +kernel
theorem dX4_ranksBefore_38 : decode cX4_ranksBefore 38 = .ok (.iload_n 1, 1) := by decide +kernel
theorem dX4_ranksBefore_39 : decode cX4_ranksBefore 39 = .ok (.iload_n 2, 1) := by decide +kernel
theorem dX4_ranksBefore_40 : decode cX4_ranksBefore 40 = .ok (.if_icmp .ne 7, 3) := by decide +kernel
theorem dX4_ranksBefore_43 : decode cX4_ranksBefore 43 = .ok (.iconst 2, 1) := by decide +kernel
theorem dX4_ranksBefore_44 : decode cX4_ranksBefore 44 = .ok (.goto 24, 3) := by decide +kernel
theorem dX4_ranksBefore_47 : decode cX4_ranksBefore 47 = .ok (.aload_n 0, 1) := by decide +kernel
theorem dX4_ranksBefore_48 : decode cX4_ranksBefore 48 = .ok (.iload_n 1, 1) := by decide +kernel
theorem dX4_ranksBefore_49 : decode cX4_ranksBefore 49 = .ok (.invokevirtual 31, 3) := by decide +kernel
theorem dX4_ranksBefore_52 : decode cX4_ranksBefore 52 = .ok (.ifCond .eq 15, 3) := by decide +kernel
theorem dX4_ranksBefore_55 : decode cX4_ranksBefore 55 = .ok (.aload_n 0, 1) := by decide +kernel
theorem dX4_ranksBefore_56 : decode cX4_ranksBefore 56 = .ok (.iload_n 2, 1) := by decide +kernel
theorem dX4_ranksBefore_57 : decode cX4_ranksBefore 57 = .ok (.invokevirtual 31, 3) := by decide +kernel
theorem dX4_ranksBefore_60 : decode cX4_ranksBefore 60 = .ok (.ifCond .eq 7, 3) := by decide +kernel
theorem dX4_ranksBefore_63 : decode cX4_ranksBefore 63 = .ok (.iconst 0, 1) := by decide +kernel
theorem dX4_ranksBefore_64 : decode cX4_ranksBefore 64 = .ok (.goto 4, 3) := by decide +kernel
theorem dX4_ranksBefore_67 : decode cX4_ranksBefore 67 = .ok (.iconst 3, 1) := by decide +kernel
theorem dX4_ranksBefore_68 : decode cX4_ranksBefore 68 = .ok (.putfield 16, 3) := by decide +kernel
theorem dX4_ranksBefore_71 : decode cX4_ranksBefore 71 = .ok (.aload_n 0, 1) := by decide +kernel
theorem dX4_ranksBefore_72 : decode cX4_ranksBefore 72 = .ok (.getfield 16, 3) := by decide +kernel
theorem dX4_ranksBefore_75 : decode cX4_ranksBefore 75 = .ok (.ifCond .ne 17, 3) := by decide +kernel
theorem dX4_ranksBefore_78 : decode cX4_ranksBefore 78 = .ok (.aload_n 0, 1) := by decide +kernel
theorem dX4_ranksBefore_79 : decode cX4_ranksBefore 79 = .ok (.iload_n 1, 1) := by decide +kernel
theorem dX4_ranksBefore_80 : decode cX4_ranksBefore 80 = .ok (.iload_n 2, 1) := by decide +kernel
theorem dX4_ranksBefore_81 : decode cX4_ranksBefore 81 = .ok (.iload_n 3, 1) := by decide +kernel
theorem dX4_ranksBefore_82 : decode cX4_ranksBefore 82 = .ok (.invokevirtual 52, 3) := by decide +kernel
theorem dX4_ranksBefore_85 : decode cX4_ranksBefore 85 = .ok (.ifCond .eq 7, 3) := by decide +kernel
theorem dX4_ranksBefore_88 : decode cX4_ranksBefore 88 = .ok (.iconst 1, 1) := by decide +kernel
theorem dX4_ranksBefore_89 : decode cX4_ranksBefore 89 = .ok (.goto 4, 3) := by decide +kernel
theorem dX4_ranksBefore_92 : decode cX4_ranksBefore 92 = .ok (.iconst 0, 1) := by decide +kernel
theorem dX4_ranksBefore_93 : decode cX4_ranksBefore 93 = .ok (.ireturn, 1) := by decide +kernel
theorem dX4_harmOf_0 : decode cX4_harmOf 0 = .ok (.aload_n 0, 1) := by decide +kernel
theorem dX4_harmOf_1 : decode cX4_harmOf 1 = .ok (.iload_n 1, 1) := by decide +kernel
theorem dX4_harmOf_2 : decode cX4_harmOf 2 = .ok (.iconst 3, 1) := by decide +kernel
theorem dX4_harmOf_3 : decode cX4_harmOf 3 = .ok (.invokevirtual 27, 3) := by decide +kernel
theorem dX4_harmOf_6 : decode cX4_harmOf 6 = .ok (.iconst 1, 1) := by decide +kernel
theorem dX4_harmOf_7 : decode cX4_harmOf 7 = .ok (.if_icmp .ne 5, 3) := by decide +kernel
theorem dX4_harmOf_10 : decode cX4_harmOf 10 = .ok (.iconst 0, 1) := by decide +kernel
theorem dX4_harmOf_11 : decode cX4_harmOf 11 = .ok (.ireturn, 1) := by decide +kernel
theorem dX4_harmOf_12 : decode cX4_harmOf 12 = .ok (.iconst 0, 1) := by decide +kernel
theorem dX4_harmOf_13 : decode cX4_harmOf 13 = .ok (.istore_n 2, 1) := by decide +kernel
theorem dX4_harmOf_14 : decode cX4_harmOf 14 = .ok (.iconst 0, 1) := by decide +kernel
theorem dX4_harmOf_15 : decode cX4_harmOf 15 = .ok (.istore_n 3, 1) := by decide +kernel
theorem dX4_harmOf_16 : decode cX4_harmOf 16 = .ok (.iload_n 3, 1) := by decide +kernel
theorem dX4_harmOf_17 : decode cX4_harmOf 17 = .ok (.bipush 32, 2) := by decide +kernel
theorem dX4_harmOf_19 : decode cX4_harmOf 19 = .ok (.if_icmp .ge 66, 3) := by decide +kernel
theorem dX4_harmOf_22 : decode cX4_harmOf 22 = .ok (.iload_n 3, 1) := by decide +kernel
theorem dX4_harmOf_23 : decode cX4_harmOf 23 = .ok (.iload_n 1, 1) := by decide +kernel
theorem dX4_harmOf_24 : decode cX4_harmOf 24 = .ok (.if_icmp .eq 24, 3) := by decide +kernel
theorem dX4_harmOf_27 : decode cX4_harmOf 27 = .ok (.aload_n 0, 1) := by decide +kernel
theorem dX4_harmOf_28 : decode cX4_harmOf 28 = .ok (.iload_n 3, 1) := by decide +kernel
theorem dX4_harmOf_29 : decode cX4_harmOf 29 = .ok (.invokevirtual 31, 3) := by decide +kernel
theorem dX4_harmOf_32 : decode cX4_harmOf 32 = .ok (.ifCond .eq 16, 3) := by decide +kernel
theorem dX4_harmOf_35 : decode cX4_harmOf 35 = .ok (.aload_n 0, 1) := by decide +kernel
theorem dX4_harmOf_36 : decode cX4_harmOf 36 = .ok (.iload_n 3, 1) := by decide +kernel
theorem dX4_harmOf_37 : decode cX4_harmOf 37 = .ok (.iconst 3, 1) := by decide +kernel
theorem dX4_harmOf_38 : decode cX4_harmOf 38 = .ok (.invokevirtual 27, 3) := by decide +kernel
theorem dX4_harmOf_41 : decode cX4_harmOf 41 = .ok (.ifCond .ne 7, 3) := by decide +kernel
theorem dX4_harmOf_44 : decode cX4_harmOf 44 = .ok (.iconst 1, 1) := by decide +kernel
theorem dX4_harmOf_45 : decode cX4_harmOf 45 = .ok (.goto 4, 3) := by decide +kernel
theorem dX4_harmOf_48 : decode cX4_harmOf 48 = .ok (.iconst 0, 1) := by decide +kernel
theorem dX4_harmOf_49 : decode cX4_harmOf 49 = .ok (.istore 4, 2) := by decide +kernel
theorem dX4_harmOf_51 : decode cX4_harmOf 51 = .ok (.iload_n 2, 1) := by decide +kernel
theorem dX4_harmOf_52 : decode cX4_harmOf 52 = .ok (.iload 4, 2) := by decide +kernel
theorem dX4_harmOf_54 : decode cX4_harmOf 54 = .ok (.ifCond .eq 22, 3) := by decide +kernel
theorem dX4_harmOf_57 : decode cX4_harmOf 57 = .ok (.aload_n 0, 1) := by decide +kernel
theorem dX4_harmOf_58 : decode cX4_harmOf 58 = .ok (.iload_n 3, 1) := by decide +kernel
theorem dX4_harmOf_59 : decode cX4_harmOf 59 = .ok (.iload_n 1, 1) := by decide +kernel
theorem dX4_harmOf_60 : decode cX4_harmOf 60 = .ok (.invokevirtual 106, 3) := by decide +kernel
theorem dX4_harmOf_63 : decode cX4_harmOf 63 = .ok (.aload_n 0, 1) := by decide +kernel
theorem dX4_harmOf_64 : decode cX4_harmOf 64 = .ok (.iload_n 3, 1) := by decide +kernel
theorem dX4_harmOf_65 : decode cX4_harmOf 65 = .ok (.iconst (-1), 1) := by decide +kernel
theorem dX4_harmOf_66 : decode cX4_harmOf 66 = .ok (.invokevirtual 106, 3) := by decide +kernel
theorem dX4_harmOf_69 : decode cX4_harmOf 69 = .ok (.if_icmp .ge 7, 3) := by decide +kernel
theorem dX4_harmOf_72 : decode cX4_harmOf 72 = .ok (.iconst 1, 1) := by decide +kernel
theorem dX4_harmOf_73 : decode cX4_harmOf 73 = .ok (.goto 4, 3) := by decide +kernel
theorem dX4_harmOf_76 : decode cX4_harmOf 76 = .ok (.iconst 0, 1) := by decide +kernel
theorem dX4_harmOf_77 : decode cX4_harmOf 77 = .ok (.iadd, 1) := by decide +kernel
theorem dX4_harmOf_78 : decode cX4_harmOf 78 = .ok (.istore_n 2, 1) := by decide +kernel
theorem dX4_harmOf_79 : decode cX4_harmOf 79 = .ok (.iinc 3 1, 3) := by decide +kernel
theorem dX4_harmOf_82 : decode cX4_harmOf 82 = .ok (.goto (-66), 3) := by decide +kernel
theorem dX4_harmOf_85 : decode cX4_harmOf 85 = .ok (.iload_n 2, 1) := by decide +kernel
theorem dX4_harmOf_86 : decode cX4_harmOf 86 = .ok (.ireturn, 1) := by decide +kernel
theorem dX4_harm_0 : decode cX4_harm 0 = .ok (.aload_n 0, 1) := by decide +kernel
theorem dX4_harm_1 : decode cX4_harm 1 = .ok (.iload_n 1, 1) := by decide +kernel
theorem dX4_harm_2 : decode cX4_harm 2 = .ok (.invokestatic 81, 3) := by decide +kernel
theorem dX4_harm_5 : decode cX4_harm 5 = .ok (.ifCond .ne 7, 3) := by decide +kernel
theorem dX4_harm_8 : decode cX4_harm 8 = .ok (.iconst 1, 1) := by decide +kernel
theorem dX4_harm_9 : decode cX4_harm 9 = .ok (.goto 16, 3) := by decide +kernel
theorem dX4_harm_12 : decode cX4_harm 12 = .ok (.aload_n 0, 1) := by decide +kernel
theorem dX4_harm_13 : decode cX4_harm 13 = .ok (.iload_n 1, 1) := by decide +kernel
theorem dX4_harm_14 : decode cX4_harm 14 = .ok (.invokevirtual 31, 3) := by decide +kernel
theorem dX4_harm_17 : decode cX4_harm 17 = .ok (.ifCond .eq 7, 3) := by decide +kernel
theorem dX4_harm_20 : decode cX4_harm 20 = .ok (.iconst 0, 1) := by decide +kernel
theorem dX4_harm_21 : decode cX4_harm 21 = .ok (.goto 4, 3) := by decide +kernel
theorem dX4_harm_24 : decode cX4_harm 24 = .ok (.iconst 2, 1) := by decide +kernel
theorem dX4_harm_25 : decode cX4_harm 25 = .ok (.putfield 16, 3) := by decide +kernel
theorem dX4_harm_28 : decode cX4_harm 28 = .ok (.aload_n 0, 1) := by decide +kernel
theorem dX4_harm_29 : decode cX4_harm 29 = .ok (.getfield 16, 3) := by decide +kernel
theorem dX4_harm_32 : decode cX4_harm 32 = .ok (.ifCond .eq 7, 3) := by decide +kernel
theorem dX4_harm_35 : decode cX4_harm 35 = .ok (.iconst 0, 1) := by decide +kernel
theorem dX4_harm_36 : decode cX4_harm 36 = .ok (.goto 8, 3) := by decide +kernel
theorem dX4_harm_39 : decode cX4_harm 39 = .ok (.aload_n 0, 1) := by decide +kernel
theorem dX4_harm_40 : decode cX4_harm 40 = .ok (.iload_n 1, 1) := by decide +kernel
theorem dX4_harm_41 : decode cX4_harm 41 = .ok (.invokevirtual 128, 3) := by decide +kernel
theorem dX4_harm_44 : decode cX4_harm 44 = .ok (.ireturn, 1) := by decide +kernel
theorem dX4_pieces_0 : decode cX4_pieces 0 = .ok (.aload_n 0, 1) := by decide +kernel
theorem dX4_pieces_1 : decode cX4_pieces 1 = .ok (.iload_n 1, 1) := by decide +kernel
theorem dX4_pieces_2 : decode cX4_pieces 2 = .ok (.invokestatic 81, 3) := by decide +kernel
theorem dX4_pieces_5 : decode cX4_pieces 5 = .ok (.ifCond .ne 7, 3) := by decide +kernel
theorem dX4_pieces_8 : decode cX4_pieces 8 = .ok (.iconst 1, 1) := by decide +kernel
theorem dX4_pieces_9 : decode cX4_pieces 9 = .ok (.goto 16, 3) := by decide +kernel
theorem dX4_pieces_12 : decode cX4_pieces 12 = .ok (.aload_n 0, 1) := by decide +kernel
theorem dX4_pieces_13 : decode cX4_pieces 13 = .ok (.iload_n 1, 1) := by decide +kernel
theorem dX4_pieces_14 : decode cX4_pieces 14 = .ok (.invokevirtual 31, 3) := by decide +kernel
theorem dX4_pieces_17 : decode cX4_pieces 17 = .ok (.ifCond .eq 7, 3) := by decide +kernel
theorem dX4_pieces_20 : decode cX4_pieces 20 = .ok (.iconst 0, 1) := by decide +kernel
theorem dX4_pieces_21 : decode cX4_pieces 21 = .ok (.goto 4, 3) := by decide +kernel
theorem dX4_pieces_24 : decode cX4_pieces 24 = .ok (.iconst 2, 1) := by decide +kernel
theorem dX4_pieces_25 : decode cX4_pieces 25 = .ok (.putfield 16, 3) := by decide +kernel
theorem dX4_pieces_28 : decode cX4_pieces 28 = .ok (.aload_n 0, 1) := by decide +kernel
theorem dX4_pieces_29 : decode cX4_pieces 29 = .ok (.getfield 16, 3) := by decide +kernel
theorem dX4_pieces_32 : decode cX4_pieces 32 = .ok (.ifCond .eq 7, 3) := by decide +kernel
theorem dX4_pieces_35 : decode cX4_pieces 35 = .ok (.iconst 0, 1) := by decide +kernel
theorem dX4_pieces_36 : decode cX4_pieces 36 = .ok (.goto 9, 3) := by decide +kernel
theorem dX4_pieces_39 : decode cX4_pieces 39 = .ok (.aload_n 0, 1) := by decide +kernel
theorem dX4_pieces_40 : decode cX4_pieces 40 = .ok (.iload_n 1, 1) := by decide +kernel
theorem dX4_pieces_41 : decode cX4_pieces 41 = .ok (.iconst (-1), 1) := by decide +kernel
theorem dX4_pieces_42 : decode cX4_pieces 42 = .ok (.invokevirtual 106, 3) := by decide +kernel
theorem dX4_pieces_45 : decode cX4_pieces 45 = .ok (.ireturn, 1) := by decide +kernel
theorem dX4_stripeOf_0 : decode cX4_stripeOf 0 = .ok (.iconst 0, 1) := by decide +kernel
theorem dX4_stripeOf_1 : decode cX4_stripeOf 1 = .ok (.istore_n 3, 1) := by decide +kernel
theorem dX4_stripeOf_2 : decode cX4_stripeOf 2 = .ok (.iconst 0, 1) := by decide +kernel
theorem dX4_stripeOf_3 : decode cX4_stripeOf 3 = .ok (.istore 4, 2) := by decide +kernel
theorem dX4_stripeOf_5 : decode cX4_stripeOf 5 = .ok (.iconst 0, 1) := by decide +kernel
theorem dX4_stripeOf_6 : decode cX4_stripeOf 6 = .ok (.istore 5, 2) := by decide +kernel
theorem dX4_stripeOf_8 : decode cX4_stripeOf 8 = .ok (.iconst 0, 1) := by decide +kernel
theorem dX4_stripeOf_9 : decode cX4_stripeOf 9 = .ok (.istore 6, 2) := by decide +kernel
theorem dX4_stripeOf_11 : decode cX4_stripeOf 11 = .ok (.iconst 0, 1) := by decide +kernel
theorem dX4_stripeOf_12 : decode cX4_stripeOf 12 = .ok (.istore 7, 2) := by decide +kernel
theorem dX4_stripeOf_14 : decode cX4_stripeOf 14 = .ok (.iload 7, 2) := by decide +kernel
theorem dX4_stripeOf_16 : decode cX4_stripeOf 16 = .ok (.bipush 32, 2) := by decide +kernel
theorem dX4_stripeOf_18 : decode cX4_stripeOf 18 = .ok (.if_icmp .ge 97, 3) := by decide +kernel
theorem dX4_stripeOf_21 : decode cX4_stripeOf 21 = .ok (.aload_n 0, 1) := by decide +kernel
theorem dX4_stripeOf_22 : decode cX4_stripeOf 22 = .ok (.iload 7, 2) := by decide +kernel
theorem dX4_stripeOf_24 : decode cX4_stripeOf 24 = .ok (.invokevirtual 31, 3) := by decide +kernel
theorem dX4_stripeOf_27 : decode cX4_stripeOf 27 = .ok (.ifCond .eq 82, 3) := by decide +kernel
theorem dX4_stripeOf_30 : decode cX4_stripeOf 30 = .ok (.aload_n 0, 1) := by decide +kernel
theorem dX4_stripeOf_31 : decode cX4_stripeOf 31 = .ok (.iload 7, 2) := by decide +kernel
theorem dX4_stripeOf_33 : decode cX4_stripeOf 33 = .ok (.iload_n 1, 1) := by decide +kernel
theorem dX4_stripeOf_34 : decode cX4_stripeOf 34 = .ok (.invokevirtual 49, 3) := by decide +kernel
theorem dX4_stripeOf_37 : decode cX4_stripeOf 37 = .ok (.istore 8, 2) := by decide +kernel
theorem dX4_stripeOf_39 : decode cX4_stripeOf 39 = .ok (.iload_n 3, 1) := by decide +kernel
theorem dX4_stripeOf_40 : decode cX4_stripeOf 40 = .ok (.iload 8, 2) := by decide +kernel
theorem dX4_stripeOf_42 : decode cX4_stripeOf 42 = .ok (.iconst (-1), 1) := by decide +kernel
theorem dX4_stripeOf_43 : decode cX4_stripeOf 43 = .ok (.if_icmp .ne 7, 3) := by decide +kernel
theorem dX4_stripeOf_46 : decode cX4_stripeOf 46 = .ok (.iconst 0, 1) := by decide +kernel
theorem dX4_stripeOf_47 : decode cX4_stripeOf 47 = .ok (.goto 4, 3) := by decide +kernel
theorem dX4_stripeOf_50 : decode cX4_stripeOf 50 = .ok (.iconst 1, 1) := by decide +kernel
theorem dX4_stripeOf_51 : decode cX4_stripeOf 51 = .ok (.iadd, 1) := by decide +kernel
theorem dX4_stripeOf_52 : decode cX4_stripeOf 52 = .ok (.istore_n 3, 1) := by decide +kernel
theorem dX4_stripeOf_53 : decode cX4_stripeOf 53 = .ok (.iload 8, 2) := by decide +kernel
theorem dX4_stripeOf_55 : decode cX4_stripeOf 55 = .ok (.iload 4, 2) := by decide +kernel
theorem dX4_stripeOf_57 : decode cX4_stripeOf 57 = .ok (.if_icmp .le 8, 3) := by decide +kernel
theorem dX4_stripeOf_60 : decode cX4_stripeOf 60 = .ok (.iload 8, 2) := by decide +kernel
theorem dX4_stripeOf_62 : decode cX4_stripeOf 62 = .ok (.goto 5, 3) := by decide +kernel
theorem dX4_stripeOf_65 : decode cX4_stripeOf 65 = .ok (.iload 4, 2) := by decide +kernel
theorem dX4_stripeOf_67 : decode cX4_stripeOf 67 = .ok (.istore 4, 2) := by decide +kernel
theorem dX4_stripeOf_69 : decode cX4_stripeOf 69 = .ok (.iload 5, 2) := by decide +kernel
theorem dX4_stripeOf_71 : decode cX4_stripeOf 71 = .ok (.aload_n 0, 1) := by decide +kernel
theorem dX4_stripeOf_72 : decode cX4_stripeOf 72 = .ok (.iload 7, 2) := by decide +kernel
theorem dX4_stripeOf_74 : decode cX4_stripeOf 74 = .ok (.iload_n 1, 1) := by decide +kernel
theorem dX4_stripeOf_75 : decode cX4_stripeOf 75 = .ok (.invokevirtual 58, 3) := by decide +kernel
theorem dX4_stripeOf_78 : decode cX4_stripeOf 78 = .ok (.ifCond .eq 7, 3) := by decide +kernel
theorem dX4_stripeOf_81 : decode cX4_stripeOf 81 = .ok (.iconst 1, 1) := by decide +kernel
theorem dX4_stripeOf_82 : decode cX4_stripeOf 82 = .ok (.goto 4, 3) := by decide +kernel
theorem dX4_stripeOf_85 : decode cX4_stripeOf 85 = .ok (.iconst 0, 1) := by decide +kernel
theorem dX4_stripeOf_86 : decode cX4_stripeOf 86 = .ok (.iadd, 1) := by decide +kernel
theorem dX4_stripeOf_87 : decode cX4_stripeOf 87 = .ok (.istore 5, 2) := by decide +kernel
theorem dX4_stripeOf_89 : decode cX4_stripeOf 89 = .ok (.iload 6, 2) := by decide +kernel
theorem dX4_stripeOf_91 : decode cX4_stripeOf 91 = .ok (.aload_n 0, 1) := by decide +kernel
theorem dX4_stripeOf_92 : decode cX4_stripeOf 92 = .ok (.iload 7, 2) := by decide +kernel
theorem dX4_stripeOf_94 : decode cX4_stripeOf 94 = .ok (.iload_n 1, 1) := by decide +kernel
theorem dX4_stripeOf_95 : decode cX4_stripeOf 95 = .ok (.invokevirtual 38, 3) := by decide +kernel
theorem dX4_stripeOf_98 : decode cX4_stripeOf 98 = .ok (.ifCond .le 7, 3) := by decide +kernel
theorem dX4_stripeOf_101 : decode cX4_stripeOf 101 = .ok (.iconst 1, 1) := by decide +kernel
theorem dX4_stripeOf_102 : decode cX4_stripeOf 102 = .ok (.goto 4, 3) := by decide +kernel
theorem dX4_stripeOf_105 : decode cX4_stripeOf 105 = .ok (.iconst 0, 1) := by decide +kernel
theorem dX4_stripeOf_106 : decode cX4_stripeOf 106 = .ok (.iadd, 1) := by decide +kernel
theorem dX4_stripeOf_107 : decode cX4_stripeOf 107 = .ok (.istore 6, 2) := by decide +kernel
theorem dX4_stripeOf_109 : decode cX4_stripeOf 109 = .ok (.iinc 7 1, 3) := by decide +kernel
theorem dX4_stripeOf_112 : decode cX4_stripeOf 112 = .ok (.goto (-98), 3) := by decide +kernel
theorem dX4_stripeOf_115 : decode cX4_stripeOf 115 = .ok (.iload_n 2, 1) := by decide +kernel
theorem dX4_stripeOf_116 : decode cX4_stripeOf 116 = .ok (.tableswitch 58 0 4 #[36, 38, 44, 47, 55], 36) := by decide +kernel
theorem dX4_stripeOf_152 : decode cX4_stripeOf 152 = .ok (.iload_n 3, 1) := by decide +kernel
theorem dX4_stripeOf_153 : decode cX4_stripeOf 153 = .ok (.ireturn, 1) := by decide +kernel
theorem dX4_stripeOf_154 : decode cX4_stripeOf 154 = .ok (.aload_n 0, 1) := by decide +kernel
theorem dX4_stripeOf_155 : decode cX4_stripeOf 155 = .ok (.iload_n 1, 1) := by decide +kernel
theorem dX4_stripeOf_156 : decode cX4_stripeOf 156 = .ok (.invokevirtual 100, 3) := by decide +kernel
theorem dX4_stripeOf_159 : decode cX4_stripeOf 159 = .ok (.ireturn, 1) := by decide +kernel
theorem dX4_stripeOf_160 : decode cX4_stripeOf 160 = .ok (.iload 4, 2) := by decide +kernel
theorem dX4_stripeOf_162 : decode cX4_stripeOf 162 = .ok (.ireturn, 1) := by decide +kernel
theorem dX4_stripeOf_163 : decode cX4_stripeOf 163 = .ok (.aload_n 0, 1) := by decide +kernel
theorem dX4_stripeOf_164 : decode cX4_stripeOf 164 = .ok (.bipush 100, 2) := by decide +kernel
theorem dX4_stripeOf_166 : decode cX4_stripeOf 166 = .ok (.iload_n 1, 1) := by decide +kernel
theorem dX4_stripeOf_167 : decode cX4_stripeOf 167 = .ok (.invokevirtual 38, 3) := by decide +kernel
theorem dX4_stripeOf_170 : decode cX4_stripeOf 170 = .ok (.ireturn, 1) := by decide +kernel
theorem dX4_stripeOf_171 : decode cX4_stripeOf 171 = .ok (.iload 5, 2) := by decide +kernel
theorem dX4_stripeOf_173 : decode cX4_stripeOf 173 = .ok (.ireturn, 1) := by decide +kernel
theorem dX4_stripeOf_174 : decode cX4_stripeOf 174 = .ok (.iload 6, 2) := by decide +kernel
theorem dX4_stripeOf_176 : decode cX4_stripeOf 176 = .ok (.ireturn, 1) := by decide +kernel
theorem dX4_stripe_0 : decode cX4_stripe 0 = .ok (.aload_n 0, 1) := by decide +kernel
theorem dX4_stripe_1 : decode cX4_stripe 1 = .ok (.iload_n 1, 1) := by decide +kernel
theorem dX4_stripe_2 : decode cX4_stripe 2 = .ok (.invokestatic 84, 3) := by decide +kernel
theorem dX4_stripe_5 : decode cX4_stripe 5 = .ok (.ifCond .ne 7, 3) := by decide +kernel
theorem dX4_stripe_8 : decode cX4_stripe 8 = .ok (.iconst 1, 1) := by decide +kernel
theorem dX4_stripe_9 : decode cX4_stripe 9 = .ok (.goto 17, 3) := by decide +kernel
theorem dX4_stripe_12 : decode cX4_stripe 12 = .ok (.iload_n 2, 1) := by decide +kernel
theorem dX4_stripe_13 : decode cX4_stripe 13 = .ok (.iconst 0, 1) := by decide +kernel
theorem dX4_stripe_14 : decode cX4_stripe 14 = .ok (.iconst 5, 1) := by decide +kernel
theorem dX4_stripe_15 : decode cX4_stripe 15 = .ok (.invokestatic 23, 3) := by decide +kernel
theorem dX4_stripe_18 : decode cX4_stripe 18 = .ok (.ifCond .ne 7, 3) := by decide +kernel
theorem dX4_stripe_21 : decode cX4_stripe 21 = .ok (.iconst 2, 1) := by decide +kernel
theorem dX4_stripe_22 : decode cX4_stripe 22 = .ok (.goto 4, 3) := by decide +kernel
theorem dX4_stripe_25 : decode cX4_stripe 25 = .ok (.iconst 0, 1) := by decide +kernel
theorem dX4_stripe_26 : decode cX4_stripe 26 = .ok (.putfield 16, 3) := by decide +kernel
theorem dX4_stripe_29 : decode cX4_stripe 29 = .ok (.aload_n 0, 1) := by decide +kernel
theorem dX4_stripe_30 : decode cX4_stripe 30 = .ok (.getfield 16, 3) := by decide +kernel
theorem dX4_stripe_33 : decode cX4_stripe 33 = .ok (.ifCond .eq 7, 3) := by decide +kernel
theorem dX4_stripe_36 : decode cX4_stripe 36 = .ok (.iconst 0, 1) := by decide +kernel
theorem dX4_stripe_37 : decode cX4_stripe 37 = .ok (.goto 9, 3) := by decide +kernel
theorem dX4_stripe_40 : decode cX4_stripe 40 = .ok (.aload_n 0, 1) := by decide +kernel
theorem dX4_stripe_41 : decode cX4_stripe 41 = .ok (.iload_n 1, 1) := by decide +kernel
theorem dX4_stripe_42 : decode cX4_stripe 42 = .ok (.iload_n 2, 1) := by decide +kernel
theorem dX4_stripe_43 : decode cX4_stripe 43 = .ok (.invokevirtual 131, 3) := by decide +kernel
theorem dX4_stripe_46 : decode cX4_stripe 46 = .ok (.ireturn, 1) := by decide +kernel
theorem dX4_countOf_0 : decode cX4_countOf 0 = .ok (.iload_n 1, 1) := by decide +kernel
theorem dX4_countOf_1 : decode cX4_countOf 1 = .ok (.ifCond .le 12, 3) := by decide +kernel
theorem dX4_countOf_4 : decode cX4_countOf 4 = .ok (.aload_n 0, 1) := by decide +kernel
theorem dX4_countOf_5 : decode cX4_countOf 5 = .ok (.getfield 7, 3) := by decide +kernel
theorem dX4_countOf_8 : decode cX4_countOf 8 = .ok (.iconst 3, 1) := by decide +kernel
theorem dX4_countOf_9 : decode cX4_countOf 9 = .ok (.iload_n 1, 1) := by decide +kernel
theorem dX4_countOf_10 : decode cX4_countOf 10 = .ok (.iadd, 1) := by decide +kernel
theorem dX4_countOf_11 : decode cX4_countOf 11 = .ok (.iaload, 1) := by decide +kernel
theorem dX4_countOf_12 : decode cX4_countOf 12 = .ok (.ireturn, 1) := by decide +kernel
theorem dX4_countOf_13 : decode cX4_countOf 13 = .ok (.iconst 0, 1) := by decide +kernel
theorem dX4_countOf_14 : decode cX4_countOf 14 = .ok (.istore_n 2, 1) := by decide +kernel
theorem dX4_countOf_15 : decode cX4_countOf 15 = .ok (.iconst 0, 1) := by decide +kernel
theorem dX4_countOf_16 : decode cX4_countOf 16 = .ok (.istore_n 3, 1) := by decide +kernel
theorem dX4_countOf_17 : decode cX4_countOf 17 = .ok (.iload_n 3, 1) := by decide +kernel
theorem dX4_countOf_18 : decode cX4_countOf 18 = .ok (.bipush 32, 2) := by decide +kernel
theorem dX4_countOf_20 : decode cX4_countOf 20 = .ok (.if_icmp .ge 18, 3) := by decide +kernel
theorem dX4_countOf_23 : decode cX4_countOf 23 = .ok (.iload_n 2, 1) := by decide +kernel
theorem dX4_countOf_24 : decode cX4_countOf 24 = .ok (.aload_n 0, 1) := by decide +kernel
theorem dX4_countOf_25 : decode cX4_countOf 25 = .ok (.iload_n 3, 1) := by decide +kernel
theorem dX4_countOf_26 : decode cX4_countOf 26 = .ok (.iconst 0, 1) := by decide +kernel
theorem dX4_countOf_27 : decode cX4_countOf 27 = .ok (.invokevirtual 27, 3) := by decide +kernel
theorem dX4_countOf_30 : decode cX4_countOf 30 = .ok (.iadd, 1) := by decide +kernel
theorem dX4_countOf_31 : decode cX4_countOf 31 = .ok (.istore_n 2, 1) := by decide +kernel
theorem dX4_countOf_32 : decode cX4_countOf 32 = .ok (.iinc 3 1, 3) := by decide +kernel
theorem dX4_countOf_35 : decode cX4_countOf 35 = .ok (.goto (-18), 3) := by decide +kernel
theorem dX4_countOf_38 : decode cX4_countOf 38 = .ok (.iload_n 2, 1) := by decide +kernel
theorem dX4_countOf_39 : decode cX4_countOf 39 = .ok (.ireturn, 1) := by decide +kernel
theorem dX4_count_0 : decode cX4_count 0 = .ok (.aload_n 0, 1) := by decide +kernel
theorem dX4_count_1 : decode cX4_count 1 = .ok (.iload_n 1, 1) := by decide +kernel
theorem dX4_count_2 : decode cX4_count 2 = .ok (.iconst 0, 1) := by decide +kernel
theorem dX4_count_3 : decode cX4_count 3 = .ok (.bipush 7, 2) := by decide +kernel
theorem dX4_count_5 : decode cX4_count 5 = .ok (.invokestatic 23, 3) := by decide +kernel
theorem dX4_count_8 : decode cX4_count 8 = .ok (.ifCond .eq 7, 3) := by decide +kernel
theorem dX4_count_11 : decode cX4_count 11 = .ok (.iconst 0, 1) := by decide +kernel
theorem dX4_count_12 : decode cX4_count 12 = .ok (.goto 4, 3) := by decide +kernel
theorem dX4_count_15 : decode cX4_count 15 = .ok (.iconst 1, 1) := by decide +kernel
theorem dX4_count_16 : decode cX4_count 16 = .ok (.putfield 16, 3) := by decide +kernel
theorem dX4_count_19 : decode cX4_count 19 = .ok (.aload_n 0, 1) := by decide +kernel
theorem dX4_count_20 : decode cX4_count 20 = .ok (.getfield 16, 3) := by decide +kernel
theorem dX4_count_23 : decode cX4_count 23 = .ok (.ifCond .eq 7, 3) := by decide +kernel
theorem dX4_count_26 : decode cX4_count 26 = .ok (.iconst 0, 1) := by decide +kernel
theorem dX4_count_27 : decode cX4_count 27 = .ok (.goto 8, 3) := by decide +kernel
theorem dX4_count_30 : decode cX4_count 30 = .ok (.aload_n 0, 1) := by decide +kernel
theorem dX4_count_31 : decode cX4_count 31 = .ok (.iload_n 1, 1) := by decide +kernel
theorem dX4_count_32 : decode cX4_count 32 = .ok (.invokevirtual 134, 3) := by decide +kernel
theorem dX4_count_35 : decode cX4_count 35 = .ok (.ireturn, 1) := by decide +kernel
theorem dX4_undo_0 : decode cX4_undo 0 = .ok (.aload_n 0, 1) := by decide +kernel
theorem dX4_undo_1 : decode cX4_undo 1 = .ok (.aload_n 0, 1) := by decide +kernel
theorem dX4_undo_2 : decode cX4_undo 2 = .ok (.getfield 20, 3) := by decide +kernel
theorem dX4_undo_5 : decode cX4_undo 5 = .ok (.ifCond .ne 7, 3) := by decide +kernel
theorem dX4_undo_8 : decode cX4_undo 8 = .ok (.iconst 1, 1) := by decide +kernel
theorem dX4_undo_9 : decode cX4_undo 9 = .ok (.goto 4, 3) := by decide +kernel
theorem dX4_undo_12 : decode cX4_undo 12 = .ok (.iconst 0, 1) := by decide +kernel
theorem dX4_undo_13 : decode cX4_undo 13 = .ok (.putfield 16, 3) := by decide +kernel
theorem dX4_undo_16 : decode cX4_undo 16 = .ok (.aload_n 0, 1) := by decide +kernel
theorem dX4_undo_17 : decode cX4_undo 17 = .ok (.getfield 16, 3) := by decide +kernel
theorem dX4_undo_20 : decode cX4_undo 20 = .ok (.ifCond .eq 5, 3) := by decide +kernel
theorem dX4_undo_23 : decode cX4_undo 23 = .ok (.iconst 0, 1) := by decide +kernel
theorem dX4_undo_24 : decode cX4_undo 24 = .ok (.ireturn, 1) := by decide +kernel
theorem dX4_undo_25 : decode cX4_undo 25 = .ok (.aload_n 0, 1) := by decide +kernel
theorem dX4_undo_26 : decode cX4_undo 26 = .ok (.dup, 1) := by decide +kernel
theorem dX4_undo_27 : decode cX4_undo 27 = .ok (.getfield 20, 3) := by decide +kernel
theorem dX4_undo_30 : decode cX4_undo 30 = .ok (.iconst 1, 1) := by decide +kernel
theorem dX4_undo_31 : decode cX4_undo 31 = .ok (.isub, 1) := by decide +kernel
theorem dX4_undo_32 : decode cX4_undo 32 = .ok (.putfield 20, 3) := by decide +kernel
theorem dX4_undo_35 : decode cX4_undo 35 = .ok (.iconst 0, 1) := by decide +kernel
theorem dX4_undo_36 : decode cX4_undo 36 = .ok (.istore_n 1, 1) := by decide +kernel
theorem dX4_undo_37 : decode cX4_undo 37 = .ok (.iload_n 1, 1) := by decide +kernel
theorem dX4_undo_38 : decode cX4_undo 38 = .ok (.sipush 395, 3) := by decide +kernel
theorem dX4_undo_41 : decode cX4_undo 41 = .ok (.if_icmp .ge 30, 3) := by decide +kernel
theorem dX4_undo_44 : decode cX4_undo 44 = .ok (.aload_n 0, 1) := by decide +kernel
theorem dX4_undo_45 : decode cX4_undo 45 = .ok (.getfield 7, 3) := by decide +kernel
theorem dX4_undo_48 : decode cX4_undo 48 = .ok (.iload_n 1, 1) := by decide +kernel
theorem dX4_undo_49 : decode cX4_undo 49 = .ok (.aload_n 0, 1) := by decide +kernel
theorem dX4_undo_50 : decode cX4_undo 50 = .ok (.getfield 13, 3) := by decide +kernel
theorem dX4_undo_53 : decode cX4_undo 53 = .ok (.sipush 395, 3) := by decide +kernel
theorem dX4_undo_56 : decode cX4_undo 56 = .ok (.aload_n 0, 1) := by decide +kernel
theorem dX4_undo_57 : decode cX4_undo 57 = .ok (.getfield 20, 3) := by decide +kernel
theorem dX4_undo_60 : decode cX4_undo 60 = .ok (.imul, 1) := by decide +kernel
theorem dX4_undo_61 : decode cX4_undo 61 = .ok (.iload_n 1, 1) := by decide +kernel
theorem dX4_undo_62 : decode cX4_undo 62 = .ok (.iadd, 1) := by decide +kernel
theorem dX4_undo_63 : decode cX4_undo 63 = .ok (.iaload, 1) := by decide +kernel
theorem dX4_undo_64 : decode cX4_undo 64 = .ok (.iastore, 1) := by decide +kernel
theorem dX4_undo_65 : decode cX4_undo 65 = .ok (.iinc 1 1, 3) := by decide +kernel
theorem dX4_undo_68 : decode cX4_undo 68 = .ok (.goto (-31), 3) := by decide +kernel
theorem dX4_undo_71 : decode cX4_undo 71 = .ok (.aload_n 0, 1) := by decide +kernel
theorem dX4_undo_72 : decode cX4_undo 72 = .ok (.getfield 20, 3) := by decide +kernel
theorem dX4_undo_75 : decode cX4_undo 75 = .ok (.ireturn, 1) := by decide +kernel
theorem dX4_mix_0 : decode cX4_mix 0 = .ok (.aload_n 0, 1) := by decide +kernel
theorem dX4_mix_1 : decode cX4_mix 1 = .ok (.ldc2_w 137, 3) := by decide +kernel
theorem dX4_mix_4 : decode cX4_mix 4 = .ok (.aload_n 0, 1) := by decide +kernel
theorem dX4_mix_5 : decode cX4_mix 5 = .ok (.getfield 139, 3) := by decide +kernel
theorem dX4_mix_8 : decode cX4_mix 8 = .ok (.lmul, 1) := by decide +kernel
theorem dX4_mix_9 : decode cX4_mix 9 = .ok (.lload_n 1, 1) := by decide +kernel
theorem dX4_mix_10 : decode cX4_mix 10 = .ok (.ladd, 1) := by decide +kernel
theorem dX4_mix_11 : decode cX4_mix 11 = .ok (.putfield 139, 3) := by decide +kernel
theorem dX4_mix_14 : decode cX4_mix 14 = .ok (.return_, 1) := by decide +kernel
theorem dX4_mixMember_0 : decode cX4_mixMember 0 = .ok (.iconst 0, 1) := by decide +kernel
theorem dX4_mixMember_1 : decode cX4_mixMember 1 = .ok (.istore_n 2, 1) := by decide +kernel
theorem dX4_mixMember_2 : decode cX4_mixMember 2 = .ok (.iload_n 2, 1) := by decide +kernel
theorem dX4_mixMember_3 : decode cX4_mixMember 3 = .ok (.bipush 10, 2) := by decide +kernel
theorem dX4_mixMember_5 : decode cX4_mixMember 5 = .ok (.if_icmp .ge 20, 3) := by decide +kernel
theorem dX4_mixMember_8 : decode cX4_mixMember 8 = .ok (.aload_n 0, 1) := by decide +kernel
theorem dX4_mixMember_9 : decode cX4_mixMember 9 = .ok (.aload_n 0, 1) := by decide +kernel
theorem dX4_mixMember_10 : decode cX4_mixMember 10 = .ok (.iload_n 1, 1) := by decide +kernel
theorem dX4_mixMember_11 : decode cX4_mixMember 11 = .ok (.iload_n 2, 1) := by decide +kernel
theorem dX4_mixMember_12 : decode cX4_mixMember 12 = .ok (.invokevirtual 118, 3) := by decide +kernel
theorem dX4_mixMember_15 : decode cX4_mixMember 15 = .ok (.i2l, 1) := by decide +kernel
theorem dX4_mixMember_16 : decode cX4_mixMember 16 = .ok (.invokevirtual 143, 3) := by decide +kernel
theorem dX4_mixMember_19 : decode cX4_mixMember 19 = .ok (.iinc 2 1, 3) := by decide +kernel
theorem dX4_mixMember_22 : decode cX4_mixMember 22 = .ok (.goto (-20), 3) := by decide +kernel
theorem dX4_mixMember_25 : decode cX4_mixMember 25 = .ok (.aload_n 0, 1) := by decide +kernel
theorem dX4_mixMember_26 : decode cX4_mixMember 26 = .ok (.iload_n 1, 1) := by decide +kernel
theorem dX4_mixMember_27 : decode cX4_mixMember 27 = .ok (.invokevirtual 31, 3) := by decide +kernel
theorem dX4_mixMember_30 : decode cX4_mixMember 30 = .ok (.ifCond .eq 91, 3) := by decide +kernel
theorem dX4_mixMember_33 : decode cX4_mixMember 33 = .ok (.aload_n 0, 1) := by decide +kernel
theorem dX4_mixMember_34 : decode cX4_mixMember 34 = .ok (.aload_n 0, 1) := by decide +kernel
theorem dX4_mixMember_35 : decode cX4_mixMember 35 = .ok (.iload_n 1, 1) := by decide +kernel
theorem dX4_mixMember_36 : decode cX4_mixMember 36 = .ok (.invokevirtual 128, 3) := by decide +kernel
theorem dX4_mixMember_39 : decode cX4_mixMember 39 = .ok (.i2l, 1) := by decide +kernel
theorem dX4_mixMember_40 : decode cX4_mixMember 40 = .ok (.invokevirtual 143, 3) := by decide +kernel
theorem dX4_mixMember_43 : decode cX4_mixMember 43 = .ok (.aload_n 0, 1) := by decide +kernel
theorem dX4_mixMember_44 : decode cX4_mixMember 44 = .ok (.aload_n 0, 1) := by decide +kernel
theorem dX4_mixMember_45 : decode cX4_mixMember 45 = .ok (.iload_n 1, 1) := by decide +kernel
theorem dX4_mixMember_46 : decode cX4_mixMember 46 = .ok (.iconst (-1), 1) := by decide +kernel
theorem dX4_mixMember_47 : decode cX4_mixMember 47 = .ok (.invokevirtual 106, 3) := by decide +kernel
theorem dX4_mixMember_50 : decode cX4_mixMember 50 = .ok (.i2l, 1) := by decide +kernel
theorem dX4_mixMember_51 : decode cX4_mixMember 51 = .ok (.invokevirtual 143, 3) := by decide +kernel
theorem dX4_mixMember_54 : decode cX4_mixMember 54 = .ok (.iconst 0, 1) := by decide +kernel
theorem dX4_mixMember_55 : decode cX4_mixMember 55 = .ok (.istore_n 2, 1) := by decide +kernel
theorem dX4_mixMember_56 : decode cX4_mixMember 56 = .ok (.iload_n 2, 1) := by decide +kernel
theorem dX4_mixMember_57 : decode cX4_mixMember 57 = .ok (.iconst 4, 1) := by decide +kernel
theorem dX4_mixMember_58 : decode cX4_mixMember 58 = .ok (.if_icmp .ge 63, 3) := by decide +kernel
theorem dX4_mixMember_61 : decode cX4_mixMember 61 = .ok (.aload_n 0, 1) := by decide +kernel
theorem dX4_mixMember_62 : decode cX4_mixMember 62 = .ok (.aload_n 0, 1) := by decide +kernel
theorem dX4_mixMember_63 : decode cX4_mixMember 63 = .ok (.iload_n 1, 1) := by decide +kernel
theorem dX4_mixMember_64 : decode cX4_mixMember 64 = .ok (.bipush 8, 2) := by decide +kernel
theorem dX4_mixMember_66 : decode cX4_mixMember 66 = .ok (.iload_n 2, 1) := by decide +kernel
theorem dX4_mixMember_67 : decode cX4_mixMember 67 = .ok (.iadd, 1) := by decide +kernel
theorem dX4_mixMember_68 : decode cX4_mixMember 68 = .ok (.invokevirtual 27, 3) := by decide +kernel
theorem dX4_mixMember_71 : decode cX4_mixMember 71 = .ok (.i2l, 1) := by decide +kernel
theorem dX4_mixMember_72 : decode cX4_mixMember 72 = .ok (.invokevirtual 143, 3) := by decide +kernel
theorem dX4_mixMember_75 : decode cX4_mixMember 75 = .ok (.aload_n 0, 1) := by decide +kernel
theorem dX4_mixMember_76 : decode cX4_mixMember 76 = .ok (.aload_n 0, 1) := by decide +kernel
theorem dX4_mixMember_77 : decode cX4_mixMember 77 = .ok (.iload_n 1, 1) := by decide +kernel
theorem dX4_mixMember_78 : decode cX4_mixMember 78 = .ok (.iload_n 2, 1) := by decide +kernel
theorem dX4_mixMember_79 : decode cX4_mixMember 79 = .ok (.invokevirtual 49, 3) := by decide +kernel
theorem dX4_mixMember_82 : decode cX4_mixMember 82 = .ok (.i2l, 1) := by decide +kernel
theorem dX4_mixMember_83 : decode cX4_mixMember 83 = .ok (.invokevirtual 143, 3) := by decide +kernel
theorem dX4_mixMember_86 : decode cX4_mixMember 86 = .ok (.aload_n 0, 1) := by decide +kernel
theorem dX4_mixMember_87 : decode cX4_mixMember 87 = .ok (.aload_n 0, 1) := by decide +kernel
theorem dX4_mixMember_88 : decode cX4_mixMember 88 = .ok (.iload_n 1, 1) := by decide +kernel
theorem dX4_mixMember_89 : decode cX4_mixMember 89 = .ok (.iload_n 2, 1) := by decide +kernel
theorem dX4_mixMember_90 : decode cX4_mixMember 90 = .ok (.invokevirtual 125, 3) := by decide +kernel
theorem dX4_mixMember_93 : decode cX4_mixMember 93 = .ok (.i2l, 1) := by decide +kernel
theorem dX4_mixMember_94 : decode cX4_mixMember 94 = .ok (.invokevirtual 143, 3) := by decide +kernel
theorem dX4_mixMember_97 : decode cX4_mixMember 97 = .ok (.aload_n 0, 1) := by decide +kernel
theorem dX4_mixMember_98 : decode cX4_mixMember 98 = .ok (.aload_n 0, 1) := by decide +kernel
theorem dX4_mixMember_99 : decode cX4_mixMember 99 = .ok (.iload_n 1, 1) := by decide +kernel
theorem dX4_mixMember_100 : decode cX4_mixMember 100 = .ok (.iload_n 2, 1) := by decide +kernel
theorem dX4_mixMember_101 : decode cX4_mixMember 101 = .ok (.invokevirtual 58, 3) := by decide +kernel
theorem dX4_mixMember_104 : decode cX4_mixMember 104 = .ok (.ifCond .eq 7, 3) := by decide +kernel
theorem dX4_mixMember_107 : decode cX4_mixMember 107 = .ok (.lconst 1, 1) := by decide +kernel
theorem dX4_mixMember_108 : decode cX4_mixMember 108 = .ok (.goto 4, 3) := by decide +kernel
theorem dX4_mixMember_111 : decode cX4_mixMember 111 = .ok (.lconst 0, 1) := by decide +kernel
theorem dX4_mixMember_112 : decode cX4_mixMember 112 = .ok (.invokevirtual 143, 3) := by decide +kernel
theorem dX4_mixMember_115 : decode cX4_mixMember 115 = .ok (.iinc 2 1, 3) := by decide +kernel
theorem dX4_mixMember_118 : decode cX4_mixMember 118 = .ok (.goto (-62), 3) := by decide +kernel
theorem dX4_mixMember_121 : decode cX4_mixMember 121 = .ok (.return_, 1) := by decide +kernel
theorem dX4_digest_0 : decode cX4_digest 0 = .ok (.aload_n 0, 1) := by decide +kernel
theorem dX4_digest_1 : decode cX4_digest 1 = .ok (.iconst 0, 1) := by decide +kernel
theorem dX4_digest_2 : decode cX4_digest 2 = .ok (.putfield 16, 3) := by decide +kernel
theorem dX4_digest_5 : decode cX4_digest 5 = .ok (.aload_n 0, 1) := by decide +kernel
theorem dX4_digest_6 : decode cX4_digest 6 = .ok (.ldc2_w 147, 3) := by decide +kernel
theorem dX4_digest_9 : decode cX4_digest 9 = .ok (.putfield 139, 3) := by decide +kernel
theorem dX4_digest_12 : decode cX4_digest 12 = .ok (.aload_n 0, 1) := by decide +kernel
theorem dX4_digest_13 : decode cX4_digest 13 = .ok (.aload_n 0, 1) := by decide +kernel
theorem dX4_digest_14 : decode cX4_digest 14 = .ok (.getfield 20, 3) := by decide +kernel
theorem dX4_digest_17 : decode cX4_digest 17 = .ok (.i2l, 1) := by decide +kernel
theorem dX4_digest_18 : decode cX4_digest 18 = .ok (.invokevirtual 143, 3) := by decide +kernel
theorem dX4_digest_21 : decode cX4_digest 21 = .ok (.aload_n 0, 1) := by decide +kernel
theorem dX4_digest_22 : decode cX4_digest 22 = .ok (.aload_n 0, 1) := by decide +kernel
theorem dX4_digest_23 : decode cX4_digest 23 = .ok (.getfield 7, 3) := by decide +kernel
theorem dX4_digest_26 : decode cX4_digest 26 = .ok (.iconst 2, 1) := by decide +kernel
theorem dX4_digest_27 : decode cX4_digest 27 = .ok (.iaload, 1) := by decide +kernel
theorem dX4_digest_28 : decode cX4_digest 28 = .ok (.i2l, 1) := by decide +kernel
theorem dX4_digest_29 : decode cX4_digest 29 = .ok (.invokevirtual 143, 3) := by decide +kernel
theorem dX4_digest_32 : decode cX4_digest 32 = .ok (.aload_n 0, 1) := by decide +kernel
theorem dX4_digest_33 : decode cX4_digest 33 = .ok (.aload_n 0, 1) := by decide +kernel
theorem dX4_digest_34 : decode cX4_digest 34 = .ok (.getfield 7, 3) := by decide +kernel
theorem dX4_digest_37 : decode cX4_digest 37 = .ok (.iconst 0, 1) := by decide +kernel
theorem dX4_digest_38 : decode cX4_digest 38 = .ok (.iaload, 1) := by decide +kernel
theorem dX4_digest_39 : decode cX4_digest 39 = .ok (.i2l, 1) := by decide +kernel
theorem dX4_digest_40 : decode cX4_digest 40 = .ok (.invokevirtual 143, 3) := by decide +kernel
theorem dX4_digest_43 : decode cX4_digest 43 = .ok (.aload_n 0, 1) := by decide +kernel
theorem dX4_digest_44 : decode cX4_digest 44 = .ok (.aload_n 0, 1) := by decide +kernel
theorem dX4_digest_45 : decode cX4_digest 45 = .ok (.getfield 7, 3) := by decide +kernel
theorem dX4_digest_48 : decode cX4_digest 48 = .ok (.iconst 1, 1) := by decide +kernel
theorem dX4_digest_49 : decode cX4_digest 49 = .ok (.iaload, 1) := by decide +kernel
theorem dX4_digest_50 : decode cX4_digest 50 = .ok (.i2l, 1) := by decide +kernel
theorem dX4_digest_51 : decode cX4_digest 51 = .ok (.invokevirtual 143, 3) := by decide +kernel
theorem dX4_digest_54 : decode cX4_digest 54 = .ok (.iconst 0, 1) := by decide +kernel
theorem dX4_digest_55 : decode cX4_digest 55 = .ok (.istore_n 1, 1) := by decide +kernel
theorem dX4_digest_56 : decode cX4_digest 56 = .ok (.iload_n 1, 1) := by decide +kernel
theorem dX4_digest_57 : decode cX4_digest 57 = .ok (.bipush 32, 2) := by decide +kernel
theorem dX4_digest_59 : decode cX4_digest 59 = .ok (.if_icmp .ge 14, 3) := by decide +kernel
theorem dX4_digest_62 : decode cX4_digest 62 = .ok (.aload_n 0, 1) := by decide +kernel
theorem dX4_digest_63 : decode cX4_digest 63 = .ok (.iload_n 1, 1) := by decide +kernel
theorem dX4_digest_64 : decode cX4_digest 64 = .ok (.invokevirtual 149, 3) := by decide +kernel
theorem dX4_digest_67 : decode cX4_digest 67 = .ok (.iinc 1 1, 3) := by decide +kernel
theorem dX4_digest_70 : decode cX4_digest 70 = .ok (.goto (-14), 3) := by decide +kernel
theorem dX4_digest_73 : decode cX4_digest 73 = .ok (.iconst 0, 1) := by decide +kernel
theorem dX4_digest_74 : decode cX4_digest 74 = .ok (.istore_n 1, 1) := by decide +kernel
theorem dX4_digest_75 : decode cX4_digest 75 = .ok (.iload_n 1, 1) := by decide +kernel
theorem dX4_digest_76 : decode cX4_digest 76 = .ok (.iconst 4, 1) := by decide +kernel
theorem dX4_digest_77 : decode cX4_digest 77 = .ok (.if_icmp .ge 34, 3) := by decide +kernel
theorem dX4_digest_80 : decode cX4_digest 80 = .ok (.iconst 0, 1) := by decide +kernel
theorem dX4_digest_81 : decode cX4_digest 81 = .ok (.istore_n 2, 1) := by decide +kernel
theorem dX4_digest_82 : decode cX4_digest 82 = .ok (.iload_n 2, 1) := by decide +kernel
theorem dX4_digest_83 : decode cX4_digest 83 = .ok (.bipush 6, 2) := by decide +kernel
theorem dX4_digest_85 : decode cX4_digest 85 = .ok (.if_icmp .ge 20, 3) := by decide +kernel
theorem dX4_digest_88 : decode cX4_digest 88 = .ok (.aload_n 0, 1) := by decide +kernel
theorem dX4_digest_89 : decode cX4_digest 89 = .ok (.aload_n 0, 1) := by decide +kernel
theorem dX4_digest_90 : decode cX4_digest 90 = .ok (.iload_n 1, 1) := by decide +kernel
theorem dX4_digest_91 : decode cX4_digest 91 = .ok (.iload_n 2, 1) := by decide +kernel
theorem dX4_digest_92 : decode cX4_digest 92 = .ok (.invokevirtual 131, 3) := by decide +kernel
theorem dX4_digest_95 : decode cX4_digest 95 = .ok (.i2l, 1) := by decide +kernel
theorem dX4_digest_96 : decode cX4_digest 96 = .ok (.invokevirtual 143, 3) := by decide +kernel
theorem dX4_digest_99 : decode cX4_digest 99 = .ok (.iinc 2 1, 3) := by decide +kernel
theorem dX4_digest_102 : decode cX4_digest 102 = .ok (.goto (-20), 3) := by decide +kernel
theorem dX4_digest_105 : decode cX4_digest 105 = .ok (.iinc 1 1, 3) := by decide +kernel
theorem dX4_digest_108 : decode cX4_digest 108 = .ok (.goto (-33), 3) := by decide +kernel
theorem dX4_digest_111 : decode cX4_digest 111 = .ok (.iconst 0, 1) := by decide +kernel
theorem dX4_digest_112 : decode cX4_digest 112 = .ok (.istore_n 1, 1) := by decide +kernel
theorem dX4_digest_113 : decode cX4_digest 113 = .ok (.iload_n 1, 1) := by decide +kernel
theorem dX4_digest_114 : decode cX4_digest 114 = .ok (.bipush 8, 2) := by decide +kernel
theorem dX4_digest_116 : decode cX4_digest 116 = .ok (.if_icmp .ge 19, 3) := by decide +kernel
theorem dX4_digest_119 : decode cX4_digest 119 = .ok (.aload_n 0, 1) := by decide +kernel
theorem dX4_digest_120 : decode cX4_digest 120 = .ok (.aload_n 0, 1) := by decide +kernel
theorem dX4_digest_121 : decode cX4_digest 121 = .ok (.iload_n 1, 1) := by decide +kernel
theorem dX4_digest_122 : decode cX4_digest 122 = .ok (.invokevirtual 134, 3) := by decide +kernel
theorem dX4_digest_125 : decode cX4_digest 125 = .ok (.i2l, 1) := by decide +kernel
theorem dX4_digest_126 : decode cX4_digest 126 = .ok (.invokevirtual 143, 3) := by decide +kernel
theorem dX4_digest_129 : decode cX4_digest 129 = .ok (.iinc 1 1, 3) := by decide +kernel
theorem dX4_digest_132 : decode cX4_digest 132 = .ok (.goto (-19), 3) := by decide +kernel
theorem dX4_digest_135 : decode cX4_digest 135 = .ok (.aload_n 0, 1) := by decide +kernel
theorem dX4_digest_136 : decode cX4_digest 136 = .ok (.getfield 139, 3) := by decide +kernel
theorem dX4_digest_139 : decode cX4_digest 139 = .ok (.lreturn, 1) := by decide +kernel
theorem dJ9_floorMod_7cf53_0 : decode cJ9_floorMod_7cf53 0 = .ok (.iload_n 0, 1) := by decide +kernel
theorem dJ9_floorMod_7cf53_1 : decode cJ9_floorMod_7cf53 1 = .ok (.iload_n 1, 1) := by decide +kernel
theorem dJ9_floorMod_7cf53_2 : decode cJ9_floorMod_7cf53 2 = .ok (.irem, 1) := by decide +kernel
theorem dJ9_floorMod_7cf53_3 : decode cJ9_floorMod_7cf53 3 = .ok (.istore_n 2, 1) := by decide +kernel
theorem dJ9_floorMod_7cf53_4 : decode cJ9_floorMod_7cf53 4 = .ok (.iload_n 0, 1) := by decide +kernel
theorem dJ9_floorMod_7cf53_5 : decode cJ9_floorMod_7cf53 5 = .ok (.iload_n 1, 1) := by decide +kernel
theorem dJ9_floorMod_7cf53_6 : decode cJ9_floorMod_7cf53 6 = .ok (.ixor, 1) := by decide +kernel
theorem dJ9_floorMod_7cf53_7 : decode cJ9_floorMod_7cf53 7 = .ok (.ifCond .ge 11, 3) := by decide +kernel
theorem dJ9_floorMod_7cf53_10 : decode cJ9_floorMod_7cf53 10 = .ok (.iload_n 2, 1) := by decide +kernel
theorem dJ9_floorMod_7cf53_11 : decode cJ9_floorMod_7cf53 11 = .ok (.ifCond .eq 7, 3) := by decide +kernel
theorem dJ9_floorMod_7cf53_14 : decode cJ9_floorMod_7cf53 14 = .ok (.iload_n 2, 1) := by decide +kernel
theorem dJ9_floorMod_7cf53_15 : decode cJ9_floorMod_7cf53 15 = .ok (.iload_n 1, 1) := by decide +kernel
theorem dJ9_floorMod_7cf53_16 : decode cJ9_floorMod_7cf53 16 = .ok (.iadd, 1) := by decide +kernel
theorem dJ9_floorMod_7cf53_17 : decode cJ9_floorMod_7cf53 17 = .ok (.ireturn, 1) := by decide +kernel
theorem dJ9_floorMod_7cf53_18 : decode cJ9_floorMod_7cf53 18 = .ok (.iload_n 2, 1) := by decide +kernel
theorem dJ9_floorMod_7cf53_19 : decode cJ9_floorMod_7cf53 19 = .ok (.ireturn, 1) := by decide +kernel
theorem dJ9_max_7cf53_0 : decode cJ9_max_7cf53 0 = .ok (.iload_n 0, 1) := by decide +kernel
theorem dJ9_max_7cf53_1 : decode cJ9_max_7cf53 1 = .ok (.iload_n 1, 1) := by decide +kernel
theorem dJ9_max_7cf53_2 : decode cJ9_max_7cf53 2 = .ok (.if_icmp .lt 7, 3) := by decide +kernel
theorem dJ9_max_7cf53_5 : decode cJ9_max_7cf53 5 = .ok (.iload_n 0, 1) := by decide +kernel
theorem dJ9_max_7cf53_6 : decode cJ9_max_7cf53 6 = .ok (.goto 4, 3) := by decide +kernel
theorem dJ9_max_7cf53_9 : decode cJ9_max_7cf53 9 = .ok (.iload_n 1, 1) := by decide +kernel
theorem dJ9_max_7cf53_10 : decode cJ9_max_7cf53 10 = .ok (.ireturn, 1) := by decide +kernel
theorem dJ9_min_7cf53_0 : decode cJ9_min_7cf53 0 = .ok (.iload_n 0, 1) := by decide +kernel
theorem dJ9_min_7cf53_1 : decode cJ9_min_7cf53 1 = .ok (.iload_n 1, 1) := by decide +kernel
theorem dJ9_min_7cf53_2 : decode cJ9_min_7cf53 2 = .ok (.if_icmp .gt 7, 3) := by decide +kernel
theorem dJ9_min_7cf53_5 : decode cJ9_min_7cf53 5 = .ok (.iload_n 0, 1) := by decide +kernel
theorem dJ9_min_7cf53_6 : decode cJ9_min_7cf53 6 = .ok (.goto 4, 3) := by decide +kernel
theorem dJ9_min_7cf53_9 : decode cJ9_min_7cf53 9 = .ok (.iload_n 1, 1) := by decide +kernel
theorem dJ9_min_7cf53_10 : decode cJ9_min_7cf53 10 = .ok (.ireturn, 1) := by decide +kernel
theorem dL_join_0 : decode cL_join 0 = .ok (.aload 4, 2) := by decide +kernel
theorem dL_join_2 : decode cL_join 2 = .ok (.iconst 0, 1) := by decide +kernel
theorem dL_join_3 : decode cL_join 3 = .ok (.aload_n 0, 1) := by decide +kernel
theorem dL_join_4 : decode cL_join 4 = .ok (.iload_n 1, 1) := by decide +kernel
theorem dL_join_5 : decode cL_join 5 = .ok (.iload_n 2, 1) := by decide +kernel
theorem dL_join_6 : decode cL_join 6 = .ok (.iload_n 3, 1) := by decide +kernel
theorem dL_join_7 : decode cL_join 7 = .ok (.invokevirtual 7, 3) := by decide +kernel
theorem dL_join_10 : decode cL_join 10 = .ok (.i2l, 1) := by decide +kernel
theorem dL_join_11 : decode cL_join 11 = .ok (.lastore, 1) := by decide +kernel
theorem dL_join_12 : decode cL_join 12 = .ok (.goto 15, 3) := by decide +kernel
theorem dL_join_15 : decode cL_join 15 = .ok (.astore 5, 2) := by decide +kernel
theorem dL_join_17 : decode cL_join 17 = .ok (.iconst 1, 1) := by decide +kernel
theorem dL_join_18 : decode cL_join 18 = .ok (.ireturn, 1) := by decide +kernel
theorem dL_join_19 : decode cL_join 19 = .ok (.astore 5, 2) := by decide +kernel
theorem dL_join_21 : decode cL_join 21 = .ok (.iconst 2, 1) := by decide +kernel
theorem dL_join_22 : decode cL_join 22 = .ok (.ireturn, 1) := by decide +kernel
theorem dL_join_23 : decode cL_join 23 = .ok (.astore 5, 2) := by decide +kernel
theorem dL_join_25 : decode cL_join 25 = .ok (.iconst 3, 1) := by decide +kernel
theorem dL_join_26 : decode cL_join 26 = .ok (.ireturn, 1) := by decide +kernel
theorem dL_join_27 : decode cL_join 27 = .ok (.iconst 0, 1) := by decide +kernel
theorem dL_join_28 : decode cL_join 28 = .ok (.ireturn, 1) := by decide +kernel
theorem dL_leave_0 : decode cL_leave 0 = .ok (.aload_n 2, 1) := by decide +kernel
theorem dL_leave_1 : decode cL_leave 1 = .ok (.iconst 0, 1) := by decide +kernel
theorem dL_leave_2 : decode cL_leave 2 = .ok (.aload_n 0, 1) := by decide +kernel
theorem dL_leave_3 : decode cL_leave 3 = .ok (.iload_n 1, 1) := by decide +kernel
theorem dL_leave_4 : decode cL_leave 4 = .ok (.invokevirtual 19, 3) := by decide +kernel
theorem dL_leave_7 : decode cL_leave 7 = .ok (.i2l, 1) := by decide +kernel
theorem dL_leave_8 : decode cL_leave 8 = .ok (.lastore, 1) := by decide +kernel
theorem dL_leave_9 : decode cL_leave 9 = .ok (.goto 9, 3) := by decide +kernel
theorem dL_leave_12 : decode cL_leave 12 = .ok (.astore_n 3, 1) := by decide +kernel
theorem dL_leave_13 : decode cL_leave 13 = .ok (.iconst 1, 1) := by decide +kernel
theorem dL_leave_14 : decode cL_leave 14 = .ok (.ireturn, 1) := by decide +kernel
theorem dL_leave_15 : decode cL_leave 15 = .ok (.astore_n 3, 1) := by decide +kernel
theorem dL_leave_16 : decode cL_leave 16 = .ok (.iconst 2, 1) := by decide +kernel
theorem dL_leave_17 : decode cL_leave 17 = .ok (.ireturn, 1) := by decide +kernel
theorem dL_leave_18 : decode cL_leave 18 = .ok (.iconst 0, 1) := by decide +kernel
theorem dL_leave_19 : decode cL_leave 19 = .ok (.ireturn, 1) := by decide +kernel
theorem dL_fail_0 : decode cL_fail 0 = .ok (.aload_n 2, 1) := by decide +kernel
theorem dL_fail_1 : decode cL_fail 1 = .ok (.iconst 0, 1) := by decide +kernel
theorem dL_fail_2 : decode cL_fail 2 = .ok (.aload_n 0, 1) := by decide +kernel
theorem dL_fail_3 : decode cL_fail 3 = .ok (.iload_n 1, 1) := by decide +kernel
theorem dL_fail_4 : decode cL_fail 4 = .ok (.invokevirtual 23, 3) := by decide +kernel
theorem dL_fail_7 : decode cL_fail 7 = .ok (.i2l, 1) := by decide +kernel
theorem dL_fail_8 : decode cL_fail 8 = .ok (.lastore, 1) := by decide +kernel
theorem dL_fail_9 : decode cL_fail 9 = .ok (.goto 9, 3) := by decide +kernel
theorem dL_fail_12 : decode cL_fail 12 = .ok (.astore_n 3, 1) := by decide +kernel
theorem dL_fail_13 : decode cL_fail 13 = .ok (.iconst 1, 1) := by decide +kernel
theorem dL_fail_14 : decode cL_fail 14 = .ok (.ireturn, 1) := by decide +kernel
theorem dL_fail_15 : decode cL_fail 15 = .ok (.astore_n 3, 1) := by decide +kernel
theorem dL_fail_16 : decode cL_fail 16 = .ok (.iconst 2, 1) := by decide +kernel
theorem dL_fail_17 : decode cL_fail 17 = .ok (.ireturn, 1) := by decide +kernel
theorem dL_fail_18 : decode cL_fail 18 = .ok (.iconst 0, 1) := by decide +kernel
theorem dL_fail_19 : decode cL_fail 19 = .ok (.ireturn, 1) := by decide +kernel
theorem dL_setBound_0 : decode cL_setBound 0 = .ok (.aload_n 3, 1) := by decide +kernel
theorem dL_setBound_1 : decode cL_setBound 1 = .ok (.iconst 0, 1) := by decide +kernel
theorem dL_setBound_2 : decode cL_setBound 2 = .ok (.aload_n 0, 1) := by decide +kernel
theorem dL_setBound_3 : decode cL_setBound 3 = .ok (.iload_n 1, 1) := by decide +kernel
theorem dL_setBound_4 : decode cL_setBound 4 = .ok (.iload_n 2, 1) := by decide +kernel
theorem dL_setBound_5 : decode cL_setBound 5 = .ok (.invokevirtual 26, 3) := by decide +kernel
theorem dL_setBound_8 : decode cL_setBound 8 = .ok (.i2l, 1) := by decide +kernel
theorem dL_setBound_9 : decode cL_setBound 9 = .ok (.lastore, 1) := by decide +kernel
theorem dL_setBound_10 : decode cL_setBound 10 = .ok (.goto 15, 3) := by decide +kernel
theorem dL_setBound_13 : decode cL_setBound 13 = .ok (.astore 4, 2) := by decide +kernel
theorem dL_setBound_15 : decode cL_setBound 15 = .ok (.iconst 1, 1) := by decide +kernel
theorem dL_setBound_16 : decode cL_setBound 16 = .ok (.ireturn, 1) := by decide +kernel
theorem dL_setBound_17 : decode cL_setBound 17 = .ok (.astore 4, 2) := by decide +kernel
theorem dL_setBound_19 : decode cL_setBound 19 = .ok (.iconst 2, 1) := by decide +kernel
theorem dL_setBound_20 : decode cL_setBound 20 = .ok (.ireturn, 1) := by decide +kernel
theorem dL_setBound_21 : decode cL_setBound 21 = .ok (.astore 4, 2) := by decide +kernel
theorem dL_setBound_23 : decode cL_setBound 23 = .ok (.iconst 3, 1) := by decide +kernel
theorem dL_setBound_24 : decode cL_setBound 24 = .ok (.ireturn, 1) := by decide +kernel
theorem dL_setBound_25 : decode cL_setBound 25 = .ok (.iconst 0, 1) := by decide +kernel
theorem dL_setBound_26 : decode cL_setBound 26 = .ok (.ireturn, 1) := by decide +kernel
theorem dL_setSource_0 : decode cL_setSource 0 = .ok (.aload_n 2, 1) := by decide +kernel
theorem dL_setSource_1 : decode cL_setSource 1 = .ok (.iconst 0, 1) := by decide +kernel
theorem dL_setSource_2 : decode cL_setSource 2 = .ok (.aload_n 0, 1) := by decide +kernel
theorem dL_setSource_3 : decode cL_setSource 3 = .ok (.iload_n 1, 1) := by decide +kernel
theorem dL_setSource_4 : decode cL_setSource 4 = .ok (.invokevirtual 30, 3) := by decide +kernel
theorem dL_setSource_7 : decode cL_setSource 7 = .ok (.i2l, 1) := by decide +kernel
theorem dL_setSource_8 : decode cL_setSource 8 = .ok (.lastore, 1) := by decide +kernel
theorem dL_setSource_9 : decode cL_setSource 9 = .ok (.goto 6, 3) := by decide +kernel
theorem dL_setSource_12 : decode cL_setSource 12 = .ok (.astore_n 3, 1) := by decide +kernel
theorem dL_setSource_13 : decode cL_setSource 13 = .ok (.iconst 1, 1) := by decide +kernel
theorem dL_setSource_14 : decode cL_setSource 14 = .ok (.ireturn, 1) := by decide +kernel
theorem dL_setSource_15 : decode cL_setSource 15 = .ok (.iconst 0, 1) := by decide +kernel
theorem dL_setSource_16 : decode cL_setSource 16 = .ok (.ireturn, 1) := by decide +kernel
theorem dL_setDelay_0 : decode cL_setDelay 0 = .ok (.aload_n 2, 1) := by decide +kernel
theorem dL_setDelay_1 : decode cL_setDelay 1 = .ok (.iconst 0, 1) := by decide +kernel
theorem dL_setDelay_2 : decode cL_setDelay 2 = .ok (.aload_n 0, 1) := by decide +kernel
theorem dL_setDelay_3 : decode cL_setDelay 3 = .ok (.iload_n 1, 1) := by decide +kernel
theorem dL_setDelay_4 : decode cL_setDelay 4 = .ok (.invokevirtual 33, 3) := by decide +kernel
theorem dL_setDelay_7 : decode cL_setDelay 7 = .ok (.i2l, 1) := by decide +kernel
theorem dL_setDelay_8 : decode cL_setDelay 8 = .ok (.lastore, 1) := by decide +kernel
theorem dL_setDelay_9 : decode cL_setDelay 9 = .ok (.goto 6, 3) := by decide +kernel
theorem dL_setDelay_12 : decode cL_setDelay 12 = .ok (.astore_n 3, 1) := by decide +kernel
theorem dL_setDelay_13 : decode cL_setDelay 13 = .ok (.iconst 1, 1) := by decide +kernel
theorem dL_setDelay_14 : decode cL_setDelay 14 = .ok (.ireturn, 1) := by decide +kernel
theorem dL_setDelay_15 : decode cL_setDelay 15 = .ok (.iconst 0, 1) := by decide +kernel
theorem dL_setDelay_16 : decode cL_setDelay 16 = .ok (.ireturn, 1) := by decide +kernel
theorem dL_rejoin_0 : decode cL_rejoin 0 = .ok (.aload_n 3, 1) := by decide +kernel
theorem dL_rejoin_1 : decode cL_rejoin 1 = .ok (.iconst 0, 1) := by decide +kernel
theorem dL_rejoin_2 : decode cL_rejoin 2 = .ok (.aload_n 0, 1) := by decide +kernel
theorem dL_rejoin_3 : decode cL_rejoin 3 = .ok (.iload_n 1, 1) := by decide +kernel
theorem dL_rejoin_4 : decode cL_rejoin 4 = .ok (.iload_n 2, 1) := by decide +kernel
theorem dL_rejoin_5 : decode cL_rejoin 5 = .ok (.invokevirtual 36, 3) := by decide +kernel
theorem dL_rejoin_8 : decode cL_rejoin 8 = .ok (.i2l, 1) := by decide +kernel
theorem dL_rejoin_9 : decode cL_rejoin 9 = .ok (.lastore, 1) := by decide +kernel
theorem dL_rejoin_10 : decode cL_rejoin 10 = .ok (.goto 11, 3) := by decide +kernel
theorem dL_rejoin_13 : decode cL_rejoin 13 = .ok (.astore 4, 2) := by decide +kernel
theorem dL_rejoin_15 : decode cL_rejoin 15 = .ok (.iconst 1, 1) := by decide +kernel
theorem dL_rejoin_16 : decode cL_rejoin 16 = .ok (.ireturn, 1) := by decide +kernel
theorem dL_rejoin_17 : decode cL_rejoin 17 = .ok (.astore 4, 2) := by decide +kernel
theorem dL_rejoin_19 : decode cL_rejoin 19 = .ok (.iconst 2, 1) := by decide +kernel
theorem dL_rejoin_20 : decode cL_rejoin 20 = .ok (.ireturn, 1) := by decide +kernel
theorem dL_rejoin_21 : decode cL_rejoin 21 = .ok (.iconst 0, 1) := by decide +kernel
theorem dL_rejoin_22 : decode cL_rejoin 22 = .ok (.ireturn, 1) := by decide +kernel
theorem dL_tick_0 : decode cL_tick 0 = .ok (.aload_n 2, 1) := by decide +kernel
theorem dL_tick_1 : decode cL_tick 1 = .ok (.iconst 0, 1) := by decide +kernel
theorem dL_tick_2 : decode cL_tick 2 = .ok (.aload_n 0, 1) := by decide +kernel
theorem dL_tick_3 : decode cL_tick 3 = .ok (.iload_n 1, 1) := by decide +kernel
theorem dL_tick_4 : decode cL_tick 4 = .ok (.invokevirtual 39, 3) := by decide +kernel
theorem dL_tick_7 : decode cL_tick 7 = .ok (.i2l, 1) := by decide +kernel
theorem dL_tick_8 : decode cL_tick 8 = .ok (.lastore, 1) := by decide +kernel
theorem dL_tick_9 : decode cL_tick 9 = .ok (.goto 6, 3) := by decide +kernel
theorem dL_tick_12 : decode cL_tick 12 = .ok (.astore_n 3, 1) := by decide +kernel
theorem dL_tick_13 : decode cL_tick 13 = .ok (.iconst 1, 1) := by decide +kernel
theorem dL_tick_14 : decode cL_tick 14 = .ok (.ireturn, 1) := by decide +kernel
theorem dL_tick_15 : decode cL_tick 15 = .ok (.iconst 0, 1) := by decide +kernel
theorem dL_tick_16 : decode cL_tick 16 = .ok (.ireturn, 1) := by decide +kernel
theorem dL_member_0 : decode cL_member 0 = .ok (.aload_n 3, 1) := by decide +kernel
theorem dL_member_1 : decode cL_member 1 = .ok (.iconst 0, 1) := by decide +kernel
theorem dL_member_2 : decode cL_member 2 = .ok (.aload_n 0, 1) := by decide +kernel
theorem dL_member_3 : decode cL_member 3 = .ok (.iload_n 1, 1) := by decide +kernel
theorem dL_member_4 : decode cL_member 4 = .ok (.iload_n 2, 1) := by decide +kernel
theorem dL_member_5 : decode cL_member 5 = .ok (.invokevirtual 42, 3) := by decide +kernel
theorem dL_member_8 : decode cL_member 8 = .ok (.i2l, 1) := by decide +kernel
theorem dL_member_9 : decode cL_member 9 = .ok (.lastore, 1) := by decide +kernel
theorem dL_member_10 : decode cL_member 10 = .ok (.goto 11, 3) := by decide +kernel
theorem dL_member_13 : decode cL_member 13 = .ok (.astore 4, 2) := by decide +kernel
theorem dL_member_15 : decode cL_member 15 = .ok (.iconst 1, 1) := by decide +kernel
theorem dL_member_16 : decode cL_member 16 = .ok (.ireturn, 1) := by decide +kernel
theorem dL_member_17 : decode cL_member 17 = .ok (.astore 4, 2) := by decide +kernel
theorem dL_member_19 : decode cL_member 19 = .ok (.iconst 2, 1) := by decide +kernel
theorem dL_member_20 : decode cL_member 20 = .ok (.ireturn, 1) := by decide +kernel
theorem dL_member_21 : decode cL_member 21 = .ok (.iconst 0, 1) := by decide +kernel
theorem dL_member_22 : decode cL_member 22 = .ok (.ireturn, 1) := by decide +kernel
theorem dL_parent_0 : decode cL_parent 0 = .ok (.aload_n 3, 1) := by decide +kernel
theorem dL_parent_1 : decode cL_parent 1 = .ok (.iconst 0, 1) := by decide +kernel
theorem dL_parent_2 : decode cL_parent 2 = .ok (.aload_n 0, 1) := by decide +kernel
theorem dL_parent_3 : decode cL_parent 3 = .ok (.iload_n 1, 1) := by decide +kernel
theorem dL_parent_4 : decode cL_parent 4 = .ok (.iload_n 2, 1) := by decide +kernel
theorem dL_parent_5 : decode cL_parent 5 = .ok (.invokevirtual 45, 3) := by decide +kernel
theorem dL_parent_8 : decode cL_parent 8 = .ok (.i2l, 1) := by decide +kernel
theorem dL_parent_9 : decode cL_parent 9 = .ok (.lastore, 1) := by decide +kernel
theorem dL_parent_10 : decode cL_parent 10 = .ok (.goto 11, 3) := by decide +kernel
theorem dL_parent_13 : decode cL_parent 13 = .ok (.astore 4, 2) := by decide +kernel
theorem dL_parent_15 : decode cL_parent 15 = .ok (.iconst 1, 1) := by decide +kernel
theorem dL_parent_16 : decode cL_parent 16 = .ok (.ireturn, 1) := by decide +kernel
theorem dL_parent_17 : decode cL_parent 17 = .ok (.astore 4, 2) := by decide +kernel
theorem dL_parent_19 : decode cL_parent 19 = .ok (.iconst 2, 1) := by decide +kernel
theorem dL_parent_20 : decode cL_parent 20 = .ok (.ireturn, 1) := by decide +kernel
theorem dL_parent_21 : decode cL_parent 21 = .ok (.iconst 0, 1) := by decide +kernel
theorem dL_parent_22 : decode cL_parent 22 = .ok (.ireturn, 1) := by decide +kernel
theorem dL_depth_0 : decode cL_depth 0 = .ok (.aload_n 3, 1) := by decide +kernel
theorem dL_depth_1 : decode cL_depth 1 = .ok (.iconst 0, 1) := by decide +kernel
theorem dL_depth_2 : decode cL_depth 2 = .ok (.aload_n 0, 1) := by decide +kernel
theorem dL_depth_3 : decode cL_depth 3 = .ok (.iload_n 1, 1) := by decide +kernel
theorem dL_depth_4 : decode cL_depth 4 = .ok (.iload_n 2, 1) := by decide +kernel
theorem dL_depth_5 : decode cL_depth 5 = .ok (.invokevirtual 48, 3) := by decide +kernel
theorem dL_depth_8 : decode cL_depth 8 = .ok (.i2l, 1) := by decide +kernel
theorem dL_depth_9 : decode cL_depth 9 = .ok (.lastore, 1) := by decide +kernel
theorem dL_depth_10 : decode cL_depth 10 = .ok (.goto 11, 3) := by decide +kernel
theorem dL_depth_13 : decode cL_depth 13 = .ok (.astore 4, 2) := by decide +kernel
theorem dL_depth_15 : decode cL_depth 15 = .ok (.iconst 1, 1) := by decide +kernel
theorem dL_depth_16 : decode cL_depth 16 = .ok (.ireturn, 1) := by decide +kernel
theorem dL_depth_17 : decode cL_depth 17 = .ok (.astore 4, 2) := by decide +kernel
theorem dL_depth_19 : decode cL_depth 19 = .ok (.iconst 2, 1) := by decide +kernel
theorem dL_depth_20 : decode cL_depth 20 = .ok (.ireturn, 1) := by decide +kernel
theorem dL_depth_21 : decode cL_depth 21 = .ok (.iconst 0, 1) := by decide +kernel
theorem dL_depth_22 : decode cL_depth 22 = .ok (.ireturn, 1) := by decide +kernel
theorem dL_child_0 : decode cL_child 0 = .ok (.aload 4, 2) := by decide +kernel
theorem dL_child_2 : decode cL_child 2 = .ok (.iconst 0, 1) := by decide +kernel
theorem dL_child_3 : decode cL_child 3 = .ok (.aload_n 0, 1) := by decide +kernel
theorem dL_child_4 : decode cL_child 4 = .ok (.iload_n 1, 1) := by decide +kernel
theorem dL_child_5 : decode cL_child 5 = .ok (.iload_n 2, 1) := by decide +kernel
theorem dL_child_6 : decode cL_child 6 = .ok (.iload_n 3, 1) := by decide +kernel
theorem dL_child_7 : decode cL_child 7 = .ok (.invokevirtual 51, 3) := by decide +kernel
theorem dL_child_10 : decode cL_child 10 = .ok (.i2l, 1) := by decide +kernel
theorem dL_child_11 : decode cL_child 11 = .ok (.lastore, 1) := by decide +kernel
theorem dL_child_12 : decode cL_child 12 = .ok (.goto 15, 3) := by decide +kernel
theorem dL_child_15 : decode cL_child 15 = .ok (.astore 5, 2) := by decide +kernel
theorem dL_child_17 : decode cL_child 17 = .ok (.iconst 1, 1) := by decide +kernel
theorem dL_child_18 : decode cL_child 18 = .ok (.ireturn, 1) := by decide +kernel
theorem dL_child_19 : decode cL_child 19 = .ok (.astore 5, 2) := by decide +kernel
theorem dL_child_21 : decode cL_child 21 = .ok (.iconst 2, 1) := by decide +kernel
theorem dL_child_22 : decode cL_child 22 = .ok (.ireturn, 1) := by decide +kernel
theorem dL_child_23 : decode cL_child 23 = .ok (.astore 5, 2) := by decide +kernel
theorem dL_child_25 : decode cL_child 25 = .ok (.iconst 3, 1) := by decide +kernel
theorem dL_child_26 : decode cL_child 26 = .ok (.ireturn, 1) := by decide +kernel
theorem dL_child_27 : decode cL_child 27 = .ok (.iconst 0, 1) := by decide +kernel
theorem dL_child_28 : decode cL_child 28 = .ok (.ireturn, 1) := by decide +kernel
theorem dL_subtree_0 : decode cL_subtree 0 = .ok (.aload_n 3, 1) := by decide +kernel
theorem dL_subtree_1 : decode cL_subtree 1 = .ok (.iconst 0, 1) := by decide +kernel
theorem dL_subtree_2 : decode cL_subtree 2 = .ok (.aload_n 0, 1) := by decide +kernel
theorem dL_subtree_3 : decode cL_subtree 3 = .ok (.iload_n 1, 1) := by decide +kernel
theorem dL_subtree_4 : decode cL_subtree 4 = .ok (.iload_n 2, 1) := by decide +kernel
theorem dL_subtree_5 : decode cL_subtree 5 = .ok (.invokevirtual 54, 3) := by decide +kernel
theorem dL_subtree_8 : decode cL_subtree 8 = .ok (.i2l, 1) := by decide +kernel
theorem dL_subtree_9 : decode cL_subtree 9 = .ok (.lastore, 1) := by decide +kernel
theorem dL_subtree_10 : decode cL_subtree 10 = .ok (.goto 11, 3) := by decide +kernel
theorem dL_subtree_13 : decode cL_subtree 13 = .ok (.astore 4, 2) := by decide +kernel
theorem dL_subtree_15 : decode cL_subtree 15 = .ok (.iconst 1, 1) := by decide +kernel
theorem dL_subtree_16 : decode cL_subtree 16 = .ok (.ireturn, 1) := by decide +kernel
theorem dL_subtree_17 : decode cL_subtree 17 = .ok (.astore 4, 2) := by decide +kernel
theorem dL_subtree_19 : decode cL_subtree 19 = .ok (.iconst 2, 1) := by decide +kernel
theorem dL_subtree_20 : decode cL_subtree 20 = .ok (.ireturn, 1) := by decide +kernel
theorem dL_subtree_21 : decode cL_subtree 21 = .ok (.iconst 0, 1) := by decide +kernel
theorem dL_subtree_22 : decode cL_subtree 22 = .ok (.ireturn, 1) := by decide +kernel
theorem dL_hasRoom_0 : decode cL_hasRoom 0 = .ok (.aload_n 3, 1) := by decide +kernel
theorem dL_hasRoom_1 : decode cL_hasRoom 1 = .ok (.iconst 0, 1) := by decide +kernel
theorem dL_hasRoom_2 : decode cL_hasRoom 2 = .ok (.aload_n 0, 1) := by decide +kernel
theorem dL_hasRoom_3 : decode cL_hasRoom 3 = .ok (.iload_n 1, 1) := by decide +kernel
theorem dL_hasRoom_4 : decode cL_hasRoom 4 = .ok (.iload_n 2, 1) := by decide +kernel
theorem dL_hasRoom_5 : decode cL_hasRoom 5 = .ok (.invokevirtual 57, 3) := by decide +kernel
theorem dL_hasRoom_8 : decode cL_hasRoom 8 = .ok (.ifCond .eq 7, 3) := by decide +kernel
theorem dL_hasRoom_11 : decode cL_hasRoom 11 = .ok (.lconst 1, 1) := by decide +kernel
theorem dL_hasRoom_12 : decode cL_hasRoom 12 = .ok (.goto 4, 3) := by decide +kernel
theorem dL_hasRoom_15 : decode cL_hasRoom 15 = .ok (.lconst 0, 1) := by decide +kernel
theorem dL_hasRoom_16 : decode cL_hasRoom 16 = .ok (.lastore, 1) := by decide +kernel
theorem dL_hasRoom_17 : decode cL_hasRoom 17 = .ok (.goto 11, 3) := by decide +kernel
theorem dL_hasRoom_20 : decode cL_hasRoom 20 = .ok (.astore 4, 2) := by decide +kernel
theorem dL_hasRoom_22 : decode cL_hasRoom 22 = .ok (.iconst 1, 1) := by decide +kernel
theorem dL_hasRoom_23 : decode cL_hasRoom 23 = .ok (.ireturn, 1) := by decide +kernel
theorem dL_hasRoom_24 : decode cL_hasRoom 24 = .ok (.astore 4, 2) := by decide +kernel
theorem dL_hasRoom_26 : decode cL_hasRoom 26 = .ok (.iconst 2, 1) := by decide +kernel
theorem dL_hasRoom_27 : decode cL_hasRoom 27 = .ok (.ireturn, 1) := by decide +kernel
theorem dL_hasRoom_28 : decode cL_hasRoom 28 = .ok (.iconst 0, 1) := by decide +kernel
theorem dL_hasRoom_29 : decode cL_hasRoom 29 = .ok (.ireturn, 1) := by decide +kernel
theorem dL_ranksBefore_0 : decode cL_ranksBefore 0 = .ok (.aload 4, 2) := by decide +kernel
theorem dL_ranksBefore_2 : decode cL_ranksBefore 2 = .ok (.iconst 0, 1) := by decide +kernel
theorem dL_ranksBefore_3 : decode cL_ranksBefore 3 = .ok (.aload_n 0, 1) := by decide +kernel
theorem dL_ranksBefore_4 : decode cL_ranksBefore 4 = .ok (.iload_n 1, 1) := by decide +kernel
theorem dL_ranksBefore_5 : decode cL_ranksBefore 5 = .ok (.iload_n 2, 1) := by decide +kernel
theorem dL_ranksBefore_6 : decode cL_ranksBefore 6 = .ok (.iload_n 3, 1) := by decide +kernel
theorem dL_ranksBefore_7 : decode cL_ranksBefore 7 = .ok (.invokevirtual 61, 3) := by decide +kernel
theorem dL_ranksBefore_10 : decode cL_ranksBefore 10 = .ok (.ifCond .eq 7, 3) := by decide +kernel
theorem dL_ranksBefore_13 : decode cL_ranksBefore 13 = .ok (.lconst 1, 1) := by decide +kernel
theorem dL_ranksBefore_14 : decode cL_ranksBefore 14 = .ok (.goto 4, 3) := by decide +kernel
theorem dL_ranksBefore_17 : decode cL_ranksBefore 17 = .ok (.lconst 0, 1) := by decide +kernel
theorem dL_ranksBefore_18 : decode cL_ranksBefore 18 = .ok (.lastore, 1) := by decide +kernel
theorem dL_ranksBefore_19 : decode cL_ranksBefore 19 = .ok (.goto 15, 3) := by decide +kernel
theorem dL_ranksBefore_22 : decode cL_ranksBefore 22 = .ok (.astore 5, 2) := by decide +kernel
theorem dL_ranksBefore_24 : decode cL_ranksBefore 24 = .ok (.iconst 1, 1) := by decide +kernel
theorem dL_ranksBefore_25 : decode cL_ranksBefore 25 = .ok (.ireturn, 1) := by decide +kernel
theorem dL_ranksBefore_26 : decode cL_ranksBefore 26 = .ok (.astore 5, 2) := by decide +kernel
theorem dL_ranksBefore_28 : decode cL_ranksBefore 28 = .ok (.iconst 2, 1) := by decide +kernel
theorem dL_ranksBefore_29 : decode cL_ranksBefore 29 = .ok (.ireturn, 1) := by decide +kernel
theorem dL_ranksBefore_30 : decode cL_ranksBefore 30 = .ok (.astore 5, 2) := by decide +kernel
theorem dL_ranksBefore_32 : decode cL_ranksBefore 32 = .ok (.iconst 3, 1) := by decide +kernel
theorem dL_ranksBefore_33 : decode cL_ranksBefore 33 = .ok (.ireturn, 1) := by decide +kernel
theorem dL_ranksBefore_34 : decode cL_ranksBefore 34 = .ok (.iconst 0, 1) := by decide +kernel
theorem dL_ranksBefore_35 : decode cL_ranksBefore 35 = .ok (.ireturn, 1) := by decide +kernel
theorem dL_harm_0 : decode cL_harm 0 = .ok (.aload_n 2, 1) := by decide +kernel
theorem dL_harm_1 : decode cL_harm 1 = .ok (.iconst 0, 1) := by decide +kernel
theorem dL_harm_2 : decode cL_harm 2 = .ok (.aload_n 0, 1) := by decide +kernel
theorem dL_harm_3 : decode cL_harm 3 = .ok (.iload_n 1, 1) := by decide +kernel
theorem dL_harm_4 : decode cL_harm 4 = .ok (.invokevirtual 65, 3) := by decide +kernel
theorem dL_harm_7 : decode cL_harm 7 = .ok (.i2l, 1) := by decide +kernel
theorem dL_harm_8 : decode cL_harm 8 = .ok (.lastore, 1) := by decide +kernel
theorem dL_harm_9 : decode cL_harm 9 = .ok (.goto 9, 3) := by decide +kernel
theorem dL_harm_12 : decode cL_harm 12 = .ok (.astore_n 3, 1) := by decide +kernel
theorem dL_harm_13 : decode cL_harm 13 = .ok (.iconst 1, 1) := by decide +kernel
theorem dL_harm_14 : decode cL_harm 14 = .ok (.ireturn, 1) := by decide +kernel
theorem dL_harm_15 : decode cL_harm 15 = .ok (.astore_n 3, 1) := by decide +kernel
theorem dL_harm_16 : decode cL_harm 16 = .ok (.iconst 2, 1) := by decide +kernel
theorem dL_harm_17 : decode cL_harm 17 = .ok (.ireturn, 1) := by decide +kernel
theorem dL_harm_18 : decode cL_harm 18 = .ok (.iconst 0, 1) := by decide +kernel
theorem dL_harm_19 : decode cL_harm 19 = .ok (.ireturn, 1) := by decide +kernel
theorem dL_pieces_0 : decode cL_pieces 0 = .ok (.aload_n 2, 1) := by decide +kernel
theorem dL_pieces_1 : decode cL_pieces 1 = .ok (.iconst 0, 1) := by decide +kernel
theorem dL_pieces_2 : decode cL_pieces 2 = .ok (.aload_n 0, 1) := by decide +kernel
theorem dL_pieces_3 : decode cL_pieces 3 = .ok (.iload_n 1, 1) := by decide +kernel
theorem dL_pieces_4 : decode cL_pieces 4 = .ok (.invokevirtual 68, 3) := by decide +kernel
theorem dL_pieces_7 : decode cL_pieces 7 = .ok (.i2l, 1) := by decide +kernel
theorem dL_pieces_8 : decode cL_pieces 8 = .ok (.lastore, 1) := by decide +kernel
theorem dL_pieces_9 : decode cL_pieces 9 = .ok (.goto 9, 3) := by decide +kernel
theorem dL_pieces_12 : decode cL_pieces 12 = .ok (.astore_n 3, 1) := by decide +kernel
theorem dL_pieces_13 : decode cL_pieces 13 = .ok (.iconst 1, 1) := by decide +kernel
theorem dL_pieces_14 : decode cL_pieces 14 = .ok (.ireturn, 1) := by decide +kernel
theorem dL_pieces_15 : decode cL_pieces 15 = .ok (.astore_n 3, 1) := by decide +kernel
theorem dL_pieces_16 : decode cL_pieces 16 = .ok (.iconst 2, 1) := by decide +kernel
theorem dL_pieces_17 : decode cL_pieces 17 = .ok (.ireturn, 1) := by decide +kernel
theorem dL_pieces_18 : decode cL_pieces 18 = .ok (.iconst 0, 1) := by decide +kernel
theorem dL_pieces_19 : decode cL_pieces 19 = .ok (.ireturn, 1) := by decide +kernel
theorem dL_stripe_0 : decode cL_stripe 0 = .ok (.aload_n 3, 1) := by decide +kernel
theorem dL_stripe_1 : decode cL_stripe 1 = .ok (.iconst 0, 1) := by decide +kernel
theorem dL_stripe_2 : decode cL_stripe 2 = .ok (.aload_n 0, 1) := by decide +kernel
theorem dL_stripe_3 : decode cL_stripe 3 = .ok (.iload_n 1, 1) := by decide +kernel
theorem dL_stripe_4 : decode cL_stripe 4 = .ok (.iload_n 2, 1) := by decide +kernel
theorem dL_stripe_5 : decode cL_stripe 5 = .ok (.invokevirtual 71, 3) := by decide +kernel
theorem dL_stripe_8 : decode cL_stripe 8 = .ok (.i2l, 1) := by decide +kernel
theorem dL_stripe_9 : decode cL_stripe 9 = .ok (.lastore, 1) := by decide +kernel
theorem dL_stripe_10 : decode cL_stripe 10 = .ok (.goto 11, 3) := by decide +kernel
theorem dL_stripe_13 : decode cL_stripe 13 = .ok (.astore 4, 2) := by decide +kernel
theorem dL_stripe_15 : decode cL_stripe 15 = .ok (.iconst 1, 1) := by decide +kernel
theorem dL_stripe_16 : decode cL_stripe 16 = .ok (.ireturn, 1) := by decide +kernel
theorem dL_stripe_17 : decode cL_stripe 17 = .ok (.astore 4, 2) := by decide +kernel
theorem dL_stripe_19 : decode cL_stripe 19 = .ok (.iconst 2, 1) := by decide +kernel
theorem dL_stripe_20 : decode cL_stripe 20 = .ok (.ireturn, 1) := by decide +kernel
theorem dL_stripe_21 : decode cL_stripe 21 = .ok (.iconst 0, 1) := by decide +kernel
theorem dL_stripe_22 : decode cL_stripe 22 = .ok (.ireturn, 1) := by decide +kernel
theorem dL_count_0 : decode cL_count 0 = .ok (.aload_n 2, 1) := by decide +kernel
theorem dL_count_1 : decode cL_count 1 = .ok (.iconst 0, 1) := by decide +kernel
theorem dL_count_2 : decode cL_count 2 = .ok (.aload_n 0, 1) := by decide +kernel
theorem dL_count_3 : decode cL_count 3 = .ok (.iload_n 1, 1) := by decide +kernel
theorem dL_count_4 : decode cL_count 4 = .ok (.invokevirtual 74, 3) := by decide +kernel
theorem dL_count_7 : decode cL_count 7 = .ok (.i2l, 1) := by decide +kernel
theorem dL_count_8 : decode cL_count 8 = .ok (.lastore, 1) := by decide +kernel
theorem dL_count_9 : decode cL_count 9 = .ok (.goto 6, 3) := by decide +kernel
theorem dL_count_12 : decode cL_count 12 = .ok (.astore_n 3, 1) := by decide +kernel
theorem dL_count_13 : decode cL_count 13 = .ok (.iconst 1, 1) := by decide +kernel
theorem dL_count_14 : decode cL_count 14 = .ok (.ireturn, 1) := by decide +kernel
theorem dL_count_15 : decode cL_count 15 = .ok (.iconst 0, 1) := by decide +kernel
theorem dL_count_16 : decode cL_count 16 = .ok (.ireturn, 1) := by decide +kernel
theorem dL_undo_0 : decode cL_undo 0 = .ok (.aload_n 1, 1) := by decide +kernel
theorem dL_undo_1 : decode cL_undo 1 = .ok (.iconst 0, 1) := by decide +kernel
theorem dL_undo_2 : decode cL_undo 2 = .ok (.aload_n 0, 1) := by decide +kernel
theorem dL_undo_3 : decode cL_undo 3 = .ok (.invokevirtual 77, 3) := by decide +kernel
theorem dL_undo_6 : decode cL_undo 6 = .ok (.i2l, 1) := by decide +kernel
theorem dL_undo_7 : decode cL_undo 7 = .ok (.lastore, 1) := by decide +kernel
theorem dL_undo_8 : decode cL_undo 8 = .ok (.goto 6, 3) := by decide +kernel
theorem dL_undo_11 : decode cL_undo 11 = .ok (.astore_n 2, 1) := by decide +kernel
theorem dL_undo_12 : decode cL_undo 12 = .ok (.iconst 1, 1) := by decide +kernel
theorem dL_undo_13 : decode cL_undo 13 = .ok (.ireturn, 1) := by decide +kernel
theorem dL_undo_14 : decode cL_undo 14 = .ok (.iconst 0, 1) := by decide +kernel
theorem dL_undo_15 : decode cL_undo 15 = .ok (.ireturn, 1) := by decide +kernel
theorem dL_law_0 : decode cL_law 0 = .ok (.new 8, 3) := by decide +kernel
theorem dL_law_3 : decode cL_law 3 = .ok (.dup, 1) := by decide +kernel
theorem dL_law_4 : decode cL_law 4 = .ok (.invokespecial 81, 3) := by decide +kernel
theorem dL_law_7 : decode cL_law 7 = .ok (.astore_n 1, 1) := by decide +kernel
theorem dL_law_8 : decode cL_law 8 = .ok (.new 82, 3) := by decide +kernel
theorem dL_law_11 : decode cL_law 11 = .ok (.dup, 1) := by decide +kernel
theorem dL_law_12 : decode cL_law 12 = .ok (.invokespecial 84, 3) := by decide +kernel
theorem dL_law_15 : decode cL_law 15 = .ok (.astore_n 2, 1) := by decide +kernel
theorem dL_law_16 : decode cL_law 16 = .ok (.iconst 1, 1) := by decide +kernel
theorem dL_law_17 : decode cL_law 17 = .ok (.newarray .long, 2) := by decide +kernel
theorem dL_law_19 : decode cL_law 19 = .ok (.astore_n 3, 1) := by decide +kernel
theorem dL_law_20 : decode cL_law 20 = .ok (.iconst 0, 1) := by decide +kernel
theorem dL_law_21 : decode cL_law 21 = .ok (.istore 4, 2) := by decide +kernel
theorem dL_law_23 : decode cL_law 23 = .ok (.iload 4, 2) := by decide +kernel
theorem dL_law_25 : decode cL_law 25 = .ok (.aload_n 0, 1) := by decide +kernel
theorem dL_law_26 : decode cL_law 26 = .ok (.arraylength, 1) := by decide +kernel
theorem dL_law_27 : decode cL_law 27 = .ok (.iconst 4, 1) := by decide +kernel
theorem dL_law_28 : decode cL_law 28 = .ok (.isub, 1) := by decide +kernel
theorem dL_law_29 : decode cL_law 29 = .ok (.if_icmp .gt 1451, 3) := by decide +kernel
theorem dL_law_32 : decode cL_law 32 = .ok (.aload_n 0, 1) := by decide +kernel
theorem dL_law_33 : decode cL_law 33 = .ok (.iload 4, 2) := by decide +kernel
theorem dL_law_35 : decode cL_law 35 = .ok (.iaload, 1) := by decide +kernel
theorem dL_law_36 : decode cL_law 36 = .ok (.bipush 31, 2) := by decide +kernel
theorem dL_law_38 : decode cL_law 38 = .ok (.iand, 1) := by decide +kernel
theorem dL_law_39 : decode cL_law 39 = .ok (.tableswitch 1435 0 22 #[105, 185, 241, 297, 365, 421, 477, 490, 558, 614, 627, 695, 763, 831, 911, 979, 1054, 1141, 1197, 1253, 1321, 1377, 1421], 105) := by decide +kernel
theorem dL_law_144 : decode cL_law 144 = .ok (.aload_n 1, 1) := by decide +kernel
theorem dL_law_145 : decode cL_law 145 = .ok (.aload_n 0, 1) := by decide +kernel
theorem dL_law_146 : decode cL_law 146 = .ok (.iload 4, 2) := by decide +kernel
theorem dL_law_148 : decode cL_law 148 = .ok (.iconst 1, 1) := by decide +kernel
theorem dL_law_149 : decode cL_law 149 = .ok (.iadd, 1) := by decide +kernel
theorem dL_law_150 : decode cL_law 150 = .ok (.iaload, 1) := by decide +kernel
theorem dL_law_151 : decode cL_law 151 = .ok (.aload_n 0, 1) := by decide +kernel
theorem dL_law_152 : decode cL_law 152 = .ok (.iload 4, 2) := by decide +kernel
theorem dL_law_154 : decode cL_law 154 = .ok (.iconst 2, 1) := by decide +kernel
theorem dL_law_155 : decode cL_law 155 = .ok (.iadd, 1) := by decide +kernel
theorem dL_law_156 : decode cL_law 156 = .ok (.iaload, 1) := by decide +kernel
theorem dL_law_157 : decode cL_law 157 = .ok (.aload_n 0, 1) := by decide +kernel
theorem dL_law_158 : decode cL_law 158 = .ok (.iload 4, 2) := by decide +kernel
theorem dL_law_160 : decode cL_law 160 = .ok (.iconst 3, 1) := by decide +kernel
theorem dL_law_161 : decode cL_law 161 = .ok (.iadd, 1) := by decide +kernel
theorem dL_law_162 : decode cL_law 162 = .ok (.iaload, 1) := by decide +kernel
theorem dL_law_163 : decode cL_law 163 = .ok (.aload_n 3, 1) := by decide +kernel
theorem dL_law_164 : decode cL_law 164 = .ok (.invokestatic 85, 3) := by decide +kernel
theorem dL_law_167 : decode cL_law 167 = .ok (.istore 5, 2) := by decide +kernel
theorem dL_law_169 : decode cL_law 169 = .ok (.aload_n 2, 1) := by decide +kernel
theorem dL_law_170 : decode cL_law 170 = .ok (.aload_n 0, 1) := by decide +kernel
theorem dL_law_171 : decode cL_law 171 = .ok (.iload 4, 2) := by decide +kernel
theorem dL_law_173 : decode cL_law 173 = .ok (.iconst 1, 1) := by decide +kernel
theorem dL_law_174 : decode cL_law 174 = .ok (.iadd, 1) := by decide +kernel
theorem dL_law_175 : decode cL_law 175 = .ok (.iaload, 1) := by decide +kernel
theorem dL_law_176 : decode cL_law 176 = .ok (.aload_n 0, 1) := by decide +kernel
theorem dL_law_177 : decode cL_law 177 = .ok (.iload 4, 2) := by decide +kernel
theorem dL_law_179 : decode cL_law 179 = .ok (.iconst 2, 1) := by decide +kernel
theorem dL_law_180 : decode cL_law 180 = .ok (.iadd, 1) := by decide +kernel
theorem dL_law_181 : decode cL_law 181 = .ok (.iaload, 1) := by decide +kernel
theorem dL_law_182 : decode cL_law 182 = .ok (.aload_n 0, 1) := by decide +kernel
theorem dL_law_183 : decode cL_law 183 = .ok (.iload 4, 2) := by decide +kernel
theorem dL_law_185 : decode cL_law 185 = .ok (.iconst 3, 1) := by decide +kernel
theorem dL_law_186 : decode cL_law 186 = .ok (.iadd, 1) := by decide +kernel
theorem dL_law_187 : decode cL_law 187 = .ok (.iaload, 1) := by decide +kernel
theorem dL_law_188 : decode cL_law 188 = .ok (.invokevirtual 90, 3) := by decide +kernel
theorem dL_law_191 : decode cL_law 191 = .ok (.istore 6, 2) := by decide +kernel
theorem dL_law_193 : decode cL_law 193 = .ok (.aload_n 2, 1) := by decide +kernel
theorem dL_law_194 : decode cL_law 194 = .ok (.invokevirtual 91, 3) := by decide +kernel
theorem dL_law_197 : decode cL_law 197 = .ok (.iload 5, 2) := by decide +kernel
theorem dL_law_199 : decode cL_law 199 = .ok (.if_icmp .eq 5, 3) := by decide +kernel
theorem dL_law_202 : decode cL_law 202 = .ok (.iconst 0, 1) := by decide +kernel
theorem dL_law_203 : decode cL_law 203 = .ok (.ireturn, 1) := by decide +kernel
theorem dL_law_204 : decode cL_law 204 = .ok (.iload 5, 2) := by decide +kernel
theorem dL_law_206 : decode cL_law 206 = .ok (.ifCond .ne 15, 3) := by decide +kernel
theorem dL_law_209 : decode cL_law 209 = .ok (.aload_n 3, 1) := by decide +kernel
theorem dL_law_210 : decode cL_law 210 = .ok (.iconst 0, 1) := by decide +kernel
theorem dL_law_211 : decode cL_law 211 = .ok (.laload, 1) := by decide +kernel
theorem dL_law_212 : decode cL_law 212 = .ok (.iload 6, 2) := by decide +kernel
theorem dL_law_214 : decode cL_law 214 = .ok (.i2l, 1) := by decide +kernel
theorem dL_law_215 : decode cL_law 215 = .ok (.lcmp, 1) := by decide +kernel
theorem dL_law_216 : decode cL_law 216 = .ok (.ifCond .eq 5, 3) := by decide +kernel
theorem dL_law_219 : decode cL_law 219 = .ok (.iconst 0, 1) := by decide +kernel
theorem dL_law_220 : decode cL_law 220 = .ok (.ireturn, 1) := by decide +kernel
theorem dL_law_221 : decode cL_law 221 = .ok (.goto 1253, 3) := by decide +kernel
theorem dL_law_224 : decode cL_law 224 = .ok (.aload_n 1, 1) := by decide +kernel
theorem dL_law_225 : decode cL_law 225 = .ok (.aload_n 0, 1) := by decide +kernel
theorem dL_law_226 : decode cL_law 226 = .ok (.iload 4, 2) := by decide +kernel
theorem dL_law_228 : decode cL_law 228 = .ok (.iconst 1, 1) := by decide +kernel
theorem dL_law_229 : decode cL_law 229 = .ok (.iadd, 1) := by decide +kernel
theorem dL_law_230 : decode cL_law 230 = .ok (.iaload, 1) := by decide +kernel
theorem dL_law_231 : decode cL_law 231 = .ok (.aload_n 3, 1) := by decide +kernel
theorem dL_law_232 : decode cL_law 232 = .ok (.invokestatic 94, 3) := by decide +kernel
theorem dL_law_235 : decode cL_law 235 = .ok (.istore 5, 2) := by decide +kernel
theorem dL_law_237 : decode cL_law 237 = .ok (.aload_n 2, 1) := by decide +kernel
theorem dL_law_238 : decode cL_law 238 = .ok (.aload_n 0, 1) := by decide +kernel
theorem dL_law_239 : decode cL_law 239 = .ok (.iload 4, 2) := by decide +kernel
theorem dL_law_241 : decode cL_law 241 = .ok (.iconst 1, 1) := by decide +kernel
theorem dL_law_242 : decode cL_law 242 = .ok (.iadd, 1) := by decide +kernel
theorem dL_law_243 : decode cL_law 243 = .ok (.iaload, 1) := by decide +kernel
theorem dL_law_244 : decode cL_law 244 = .ok (.invokevirtual 97, 3) := by decide +kernel
theorem dL_law_247 : decode cL_law 247 = .ok (.istore 6, 2) := by decide +kernel
theorem dL_law_249 : decode cL_law 249 = .ok (.aload_n 2, 1) := by decide +kernel
theorem dL_law_250 : decode cL_law 250 = .ok (.invokevirtual 91, 3) := by decide +kernel
theorem dL_law_253 : decode cL_law 253 = .ok (.iload 5, 2) := by decide +kernel
theorem dL_law_255 : decode cL_law 255 = .ok (.if_icmp .eq 5, 3) := by decide +kernel
theorem dL_law_258 : decode cL_law 258 = .ok (.iconst 0, 1) := by decide +kernel
theorem dL_law_259 : decode cL_law 259 = .ok (.ireturn, 1) := by decide +kernel
theorem dL_law_260 : decode cL_law 260 = .ok (.iload 5, 2) := by decide +kernel
theorem dL_law_262 : decode cL_law 262 = .ok (.ifCond .ne 15, 3) := by decide +kernel
theorem dL_law_265 : decode cL_law 265 = .ok (.aload_n 3, 1) := by decide +kernel
theorem dL_law_266 : decode cL_law 266 = .ok (.iconst 0, 1) := by decide +kernel
theorem dL_law_267 : decode cL_law 267 = .ok (.laload, 1) := by decide +kernel
theorem dL_law_268 : decode cL_law 268 = .ok (.iload 6, 2) := by decide +kernel
theorem dL_law_270 : decode cL_law 270 = .ok (.i2l, 1) := by decide +kernel
theorem dL_law_271 : decode cL_law 271 = .ok (.lcmp, 1) := by decide +kernel
theorem dL_law_272 : decode cL_law 272 = .ok (.ifCond .eq 5, 3) := by decide +kernel
theorem dL_law_275 : decode cL_law 275 = .ok (.iconst 0, 1) := by decide +kernel
theorem dL_law_276 : decode cL_law 276 = .ok (.ireturn, 1) := by decide +kernel
theorem dL_law_277 : decode cL_law 277 = .ok (.goto 1197, 3) := by decide +kernel
theorem dL_law_280 : decode cL_law 280 = .ok (.aload_n 1, 1) := by decide +kernel
theorem dL_law_281 : decode cL_law 281 = .ok (.aload_n 0, 1) := by decide +kernel
theorem dL_law_282 : decode cL_law 282 = .ok (.iload 4, 2) := by decide +kernel
theorem dL_law_284 : decode cL_law 284 = .ok (.iconst 1, 1) := by decide +kernel
theorem dL_law_285 : decode cL_law 285 = .ok (.iadd, 1) := by decide +kernel
theorem dL_law_286 : decode cL_law 286 = .ok (.iaload, 1) := by decide +kernel
theorem dL_law_287 : decode cL_law 287 = .ok (.aload_n 3, 1) := by decide +kernel
theorem dL_law_288 : decode cL_law 288 = .ok (.invokestatic 98, 3) := by decide +kernel
theorem dL_law_291 : decode cL_law 291 = .ok (.istore 5, 2) := by decide +kernel
theorem dL_law_293 : decode cL_law 293 = .ok (.aload_n 2, 1) := by decide +kernel
theorem dL_law_294 : decode cL_law 294 = .ok (.aload_n 0, 1) := by decide +kernel
theorem dL_law_295 : decode cL_law 295 = .ok (.iload 4, 2) := by decide +kernel
theorem dL_law_297 : decode cL_law 297 = .ok (.iconst 1, 1) := by decide +kernel
theorem dL_law_298 : decode cL_law 298 = .ok (.iadd, 1) := by decide +kernel
theorem dL_law_299 : decode cL_law 299 = .ok (.iaload, 1) := by decide +kernel
theorem dL_law_300 : decode cL_law 300 = .ok (.invokevirtual 100, 3) := by decide +kernel
theorem dL_law_303 : decode cL_law 303 = .ok (.istore 6, 2) := by decide +kernel
theorem dL_law_305 : decode cL_law 305 = .ok (.aload_n 2, 1) := by decide +kernel
theorem dL_law_306 : decode cL_law 306 = .ok (.invokevirtual 91, 3) := by decide +kernel
theorem dL_law_309 : decode cL_law 309 = .ok (.iload 5, 2) := by decide +kernel
theorem dL_law_311 : decode cL_law 311 = .ok (.if_icmp .eq 5, 3) := by decide +kernel
theorem dL_law_314 : decode cL_law 314 = .ok (.iconst 0, 1) := by decide +kernel
theorem dL_law_315 : decode cL_law 315 = .ok (.ireturn, 1) := by decide +kernel
theorem dL_law_316 : decode cL_law 316 = .ok (.iload 5, 2) := by decide +kernel
theorem dL_law_318 : decode cL_law 318 = .ok (.ifCond .ne 15, 3) := by decide +kernel
theorem dL_law_321 : decode cL_law 321 = .ok (.aload_n 3, 1) := by decide +kernel
theorem dL_law_322 : decode cL_law 322 = .ok (.iconst 0, 1) := by decide +kernel
theorem dL_law_323 : decode cL_law 323 = .ok (.laload, 1) := by decide +kernel
theorem dL_law_324 : decode cL_law 324 = .ok (.iload 6, 2) := by decide +kernel
theorem dL_law_326 : decode cL_law 326 = .ok (.i2l, 1) := by decide +kernel
theorem dL_law_327 : decode cL_law 327 = .ok (.lcmp, 1) := by decide +kernel
theorem dL_law_328 : decode cL_law 328 = .ok (.ifCond .eq 5, 3) := by decide +kernel
theorem dL_law_331 : decode cL_law 331 = .ok (.iconst 0, 1) := by decide +kernel
theorem dL_law_332 : decode cL_law 332 = .ok (.ireturn, 1) := by decide +kernel
theorem dL_law_333 : decode cL_law 333 = .ok (.goto 1141, 3) := by decide +kernel
theorem dL_law_336 : decode cL_law 336 = .ok (.aload_n 1, 1) := by decide +kernel
theorem dL_law_337 : decode cL_law 337 = .ok (.aload_n 0, 1) := by decide +kernel
theorem dL_law_338 : decode cL_law 338 = .ok (.iload 4, 2) := by decide +kernel
theorem dL_law_340 : decode cL_law 340 = .ok (.iconst 1, 1) := by decide +kernel
theorem dL_law_341 : decode cL_law 341 = .ok (.iadd, 1) := by decide +kernel
theorem dL_law_342 : decode cL_law 342 = .ok (.iaload, 1) := by decide +kernel
theorem dL_law_343 : decode cL_law 343 = .ok (.aload_n 0, 1) := by decide +kernel
theorem dL_law_344 : decode cL_law 344 = .ok (.iload 4, 2) := by decide +kernel
theorem dL_law_346 : decode cL_law 346 = .ok (.iconst 2, 1) := by decide +kernel
theorem dL_law_347 : decode cL_law 347 = .ok (.iadd, 1) := by decide +kernel
theorem dL_law_348 : decode cL_law 348 = .ok (.iaload, 1) := by decide +kernel
theorem dL_law_349 : decode cL_law 349 = .ok (.aload_n 3, 1) := by decide +kernel
theorem dL_law_350 : decode cL_law 350 = .ok (.invokestatic 101, 3) := by decide +kernel
theorem dL_law_353 : decode cL_law 353 = .ok (.istore 5, 2) := by decide +kernel
theorem dL_law_355 : decode cL_law 355 = .ok (.aload_n 2, 1) := by decide +kernel
theorem dL_law_356 : decode cL_law 356 = .ok (.aload_n 0, 1) := by decide +kernel
theorem dL_law_357 : decode cL_law 357 = .ok (.iload 4, 2) := by decide +kernel
theorem dL_law_359 : decode cL_law 359 = .ok (.iconst 1, 1) := by decide +kernel
theorem dL_law_360 : decode cL_law 360 = .ok (.iadd, 1) := by decide +kernel
theorem dL_law_361 : decode cL_law 361 = .ok (.iaload, 1) := by decide +kernel
theorem dL_law_362 : decode cL_law 362 = .ok (.aload_n 0, 1) := by decide +kernel
theorem dL_law_363 : decode cL_law 363 = .ok (.iload 4, 2) := by decide +kernel
theorem dL_law_365 : decode cL_law 365 = .ok (.iconst 2, 1) := by decide +kernel
theorem dL_law_366 : decode cL_law 366 = .ok (.iadd, 1) := by decide +kernel
theorem dL_law_367 : decode cL_law 367 = .ok (.iaload, 1) := by decide +kernel
theorem dL_law_368 : decode cL_law 368 = .ok (.invokevirtual 104, 3) := by decide +kernel
theorem dL_law_371 : decode cL_law 371 = .ok (.istore 6, 2) := by decide +kernel
theorem dL_law_373 : decode cL_law 373 = .ok (.aload_n 2, 1) := by decide +kernel
theorem dL_law_374 : decode cL_law 374 = .ok (.invokevirtual 91, 3) := by decide +kernel
theorem dL_law_377 : decode cL_law 377 = .ok (.iload 5, 2) := by decide +kernel
theorem dL_law_379 : decode cL_law 379 = .ok (.if_icmp .eq 5, 3) := by decide +kernel
theorem dL_law_382 : decode cL_law 382 = .ok (.iconst 0, 1) := by decide +kernel
theorem dL_law_383 : decode cL_law 383 = .ok (.ireturn, 1) := by decide +kernel
theorem dL_law_384 : decode cL_law 384 = .ok (.iload 5, 2) := by decide +kernel
theorem dL_law_386 : decode cL_law 386 = .ok (.ifCond .ne 15, 3) := by decide +kernel
theorem dL_law_389 : decode cL_law 389 = .ok (.aload_n 3, 1) := by decide +kernel
theorem dL_law_390 : decode cL_law 390 = .ok (.iconst 0, 1) := by decide +kernel
theorem dL_law_391 : decode cL_law 391 = .ok (.laload, 1) := by decide +kernel
theorem dL_law_392 : decode cL_law 392 = .ok (.iload 6, 2) := by decide +kernel
theorem dL_law_394 : decode cL_law 394 = .ok (.i2l, 1) := by decide +kernel
theorem dL_law_395 : decode cL_law 395 = .ok (.lcmp, 1) := by decide +kernel
theorem dL_law_396 : decode cL_law 396 = .ok (.ifCond .eq 5, 3) := by decide +kernel
theorem dL_law_399 : decode cL_law 399 = .ok (.iconst 0, 1) := by decide +kernel
theorem dL_law_400 : decode cL_law 400 = .ok (.ireturn, 1) := by decide +kernel
theorem dL_law_401 : decode cL_law 401 = .ok (.goto 1073, 3) := by decide +kernel
theorem dL_law_404 : decode cL_law 404 = .ok (.aload_n 1, 1) := by decide +kernel
theorem dL_law_405 : decode cL_law 405 = .ok (.aload_n 0, 1) := by decide +kernel
theorem dL_law_406 : decode cL_law 406 = .ok (.iload 4, 2) := by decide +kernel
theorem dL_law_408 : decode cL_law 408 = .ok (.iconst 1, 1) := by decide +kernel
theorem dL_law_409 : decode cL_law 409 = .ok (.iadd, 1) := by decide +kernel
theorem dL_law_410 : decode cL_law 410 = .ok (.iaload, 1) := by decide +kernel
theorem dL_law_411 : decode cL_law 411 = .ok (.aload_n 3, 1) := by decide +kernel
theorem dL_law_412 : decode cL_law 412 = .ok (.invokestatic 105, 3) := by decide +kernel
theorem dL_law_415 : decode cL_law 415 = .ok (.istore 5, 2) := by decide +kernel
theorem dL_law_417 : decode cL_law 417 = .ok (.aload_n 2, 1) := by decide +kernel
theorem dL_law_418 : decode cL_law 418 = .ok (.aload_n 0, 1) := by decide +kernel
theorem dL_law_419 : decode cL_law 419 = .ok (.iload 4, 2) := by decide +kernel
theorem dL_law_421 : decode cL_law 421 = .ok (.iconst 1, 1) := by decide +kernel
theorem dL_law_422 : decode cL_law 422 = .ok (.iadd, 1) := by decide +kernel
theorem dL_law_423 : decode cL_law 423 = .ok (.iaload, 1) := by decide +kernel
theorem dL_law_424 : decode cL_law 424 = .ok (.invokevirtual 107, 3) := by decide +kernel
theorem dL_law_427 : decode cL_law 427 = .ok (.istore 6, 2) := by decide +kernel
theorem dL_law_429 : decode cL_law 429 = .ok (.aload_n 2, 1) := by decide +kernel
theorem dL_law_430 : decode cL_law 430 = .ok (.invokevirtual 91, 3) := by decide +kernel
theorem dL_law_433 : decode cL_law 433 = .ok (.iload 5, 2) := by decide +kernel
theorem dL_law_435 : decode cL_law 435 = .ok (.if_icmp .eq 5, 3) := by decide +kernel
theorem dL_law_438 : decode cL_law 438 = .ok (.iconst 0, 1) := by decide +kernel
theorem dL_law_439 : decode cL_law 439 = .ok (.ireturn, 1) := by decide +kernel
theorem dL_law_440 : decode cL_law 440 = .ok (.iload 5, 2) := by decide +kernel
theorem dL_law_442 : decode cL_law 442 = .ok (.ifCond .ne 15, 3) := by decide +kernel
theorem dL_law_445 : decode cL_law 445 = .ok (.aload_n 3, 1) := by decide +kernel
theorem dL_law_446 : decode cL_law 446 = .ok (.iconst 0, 1) := by decide +kernel
theorem dL_law_447 : decode cL_law 447 = .ok (.laload, 1) := by decide +kernel
theorem dL_law_448 : decode cL_law 448 = .ok (.iload 6, 2) := by decide +kernel
theorem dL_law_450 : decode cL_law 450 = .ok (.i2l, 1) := by decide +kernel
theorem dL_law_451 : decode cL_law 451 = .ok (.lcmp, 1) := by decide +kernel
theorem dL_law_452 : decode cL_law 452 = .ok (.ifCond .eq 5, 3) := by decide +kernel
theorem dL_law_455 : decode cL_law 455 = .ok (.iconst 0, 1) := by decide +kernel
theorem dL_law_456 : decode cL_law 456 = .ok (.ireturn, 1) := by decide +kernel
theorem dL_law_457 : decode cL_law 457 = .ok (.goto 1017, 3) := by decide +kernel
theorem dL_law_460 : decode cL_law 460 = .ok (.aload_n 1, 1) := by decide +kernel
theorem dL_law_461 : decode cL_law 461 = .ok (.aload_n 0, 1) := by decide +kernel
theorem dL_law_462 : decode cL_law 462 = .ok (.iload 4, 2) := by decide +kernel
theorem dL_law_464 : decode cL_law 464 = .ok (.iconst 1, 1) := by decide +kernel
theorem dL_law_465 : decode cL_law 465 = .ok (.iadd, 1) := by decide +kernel
theorem dL_law_466 : decode cL_law 466 = .ok (.iaload, 1) := by decide +kernel
theorem dL_law_467 : decode cL_law 467 = .ok (.aload_n 3, 1) := by decide +kernel
theorem dL_law_468 : decode cL_law 468 = .ok (.invokestatic 108, 3) := by decide +kernel
theorem dL_law_471 : decode cL_law 471 = .ok (.istore 5, 2) := by decide +kernel
theorem dL_law_473 : decode cL_law 473 = .ok (.aload_n 2, 1) := by decide +kernel
theorem dL_law_474 : decode cL_law 474 = .ok (.aload_n 0, 1) := by decide +kernel
theorem dL_law_475 : decode cL_law 475 = .ok (.iload 4, 2) := by decide +kernel
theorem dL_law_477 : decode cL_law 477 = .ok (.iconst 1, 1) := by decide +kernel
theorem dL_law_478 : decode cL_law 478 = .ok (.iadd, 1) := by decide +kernel
theorem dL_law_479 : decode cL_law 479 = .ok (.iaload, 1) := by decide +kernel
theorem dL_law_480 : decode cL_law 480 = .ok (.invokevirtual 110, 3) := by decide +kernel
theorem dL_law_483 : decode cL_law 483 = .ok (.istore 6, 2) := by decide +kernel
theorem dL_law_485 : decode cL_law 485 = .ok (.aload_n 2, 1) := by decide +kernel
theorem dL_law_486 : decode cL_law 486 = .ok (.invokevirtual 91, 3) := by decide +kernel
theorem dL_law_489 : decode cL_law 489 = .ok (.iload 5, 2) := by decide +kernel
theorem dL_law_491 : decode cL_law 491 = .ok (.if_icmp .eq 5, 3) := by decide +kernel
theorem dL_law_494 : decode cL_law 494 = .ok (.iconst 0, 1) := by decide +kernel
theorem dL_law_495 : decode cL_law 495 = .ok (.ireturn, 1) := by decide +kernel
theorem dL_law_496 : decode cL_law 496 = .ok (.iload 5, 2) := by decide +kernel
theorem dL_law_498 : decode cL_law 498 = .ok (.ifCond .ne 15, 3) := by decide +kernel
theorem dL_law_501 : decode cL_law 501 = .ok (.aload_n 3, 1) := by decide +kernel
theorem dL_law_502 : decode cL_law 502 = .ok (.iconst 0, 1) := by decide +kernel
theorem dL_law_503 : decode cL_law 503 = .ok (.laload, 1) := by decide +kernel
theorem dL_law_504 : decode cL_law 504 = .ok (.iload 6, 2) := by decide +kernel
theorem dL_law_506 : decode cL_law 506 = .ok (.i2l, 1) := by decide +kernel
theorem dL_law_507 : decode cL_law 507 = .ok (.lcmp, 1) := by decide +kernel
theorem dL_law_508 : decode cL_law 508 = .ok (.ifCond .eq 5, 3) := by decide +kernel
theorem dL_law_511 : decode cL_law 511 = .ok (.iconst 0, 1) := by decide +kernel
theorem dL_law_512 : decode cL_law 512 = .ok (.ireturn, 1) := by decide +kernel
theorem dL_law_513 : decode cL_law 513 = .ok (.goto 961, 3) := by decide +kernel
theorem dL_law_516 : decode cL_law 516 = .ok (.aload_n 1, 1) := by decide +kernel
theorem dL_law_517 : decode cL_law 517 = .ok (.invokevirtual 111, 3) := by decide +kernel
theorem dL_law_520 : decode cL_law 520 = .ok (.aload_n 2, 1) := by decide +kernel
theorem dL_law_521 : decode cL_law 521 = .ok (.invokevirtual 114, 3) := by decide +kernel
theorem dL_law_524 : decode cL_law 524 = .ok (.if_icmp .eq 950, 3) := by decide +kernel
theorem dL_law_527 : decode cL_law 527 = .ok (.iconst 0, 1) := by decide +kernel
theorem dL_law_528 : decode cL_law 528 = .ok (.ireturn, 1) := by decide +kernel
theorem dL_law_529 : decode cL_law 529 = .ok (.aload_n 1, 1) := by decide +kernel
theorem dL_law_530 : decode cL_law 530 = .ok (.aload_n 0, 1) := by decide +kernel
theorem dL_law_531 : decode cL_law 531 = .ok (.iload 4, 2) := by decide +kernel
theorem dL_law_533 : decode cL_law 533 = .ok (.iconst 1, 1) := by decide +kernel
theorem dL_law_534 : decode cL_law 534 = .ok (.iadd, 1) := by decide +kernel
theorem dL_law_535 : decode cL_law 535 = .ok (.iaload, 1) := by decide +kernel
theorem dL_law_536 : decode cL_law 536 = .ok (.aload_n 0, 1) := by decide +kernel
theorem dL_law_537 : decode cL_law 537 = .ok (.iload 4, 2) := by decide +kernel
theorem dL_law_539 : decode cL_law 539 = .ok (.iconst 2, 1) := by decide +kernel
theorem dL_law_540 : decode cL_law 540 = .ok (.iadd, 1) := by decide +kernel
theorem dL_law_541 : decode cL_law 541 = .ok (.iaload, 1) := by decide +kernel
theorem dL_law_542 : decode cL_law 542 = .ok (.aload_n 3, 1) := by decide +kernel
theorem dL_law_543 : decode cL_law 543 = .ok (.invokestatic 115, 3) := by decide +kernel
theorem dL_law_546 : decode cL_law 546 = .ok (.istore 5, 2) := by decide +kernel
theorem dL_law_548 : decode cL_law 548 = .ok (.aload_n 2, 1) := by decide +kernel
theorem dL_law_549 : decode cL_law 549 = .ok (.aload_n 0, 1) := by decide +kernel
theorem dL_law_550 : decode cL_law 550 = .ok (.iload 4, 2) := by decide +kernel
theorem dL_law_552 : decode cL_law 552 = .ok (.iconst 1, 1) := by decide +kernel
theorem dL_law_553 : decode cL_law 553 = .ok (.iadd, 1) := by decide +kernel
theorem dL_law_554 : decode cL_law 554 = .ok (.iaload, 1) := by decide +kernel
theorem dL_law_555 : decode cL_law 555 = .ok (.aload_n 0, 1) := by decide +kernel
theorem dL_law_556 : decode cL_law 556 = .ok (.iload 4, 2) := by decide +kernel
theorem dL_law_558 : decode cL_law 558 = .ok (.iconst 2, 1) := by decide +kernel
theorem dL_law_559 : decode cL_law 559 = .ok (.iadd, 1) := by decide +kernel
theorem dL_law_560 : decode cL_law 560 = .ok (.iaload, 1) := by decide +kernel
theorem dL_law_561 : decode cL_law 561 = .ok (.invokevirtual 117, 3) := by decide +kernel
theorem dL_law_564 : decode cL_law 564 = .ok (.istore 6, 2) := by decide +kernel
theorem dL_law_566 : decode cL_law 566 = .ok (.aload_n 2, 1) := by decide +kernel
theorem dL_law_567 : decode cL_law 567 = .ok (.invokevirtual 91, 3) := by decide +kernel
theorem dL_law_570 : decode cL_law 570 = .ok (.iload 5, 2) := by decide +kernel
theorem dL_law_572 : decode cL_law 572 = .ok (.if_icmp .eq 5, 3) := by decide +kernel
theorem dL_law_575 : decode cL_law 575 = .ok (.iconst 0, 1) := by decide +kernel
theorem dL_law_576 : decode cL_law 576 = .ok (.ireturn, 1) := by decide +kernel
theorem dL_law_577 : decode cL_law 577 = .ok (.iload 5, 2) := by decide +kernel
theorem dL_law_579 : decode cL_law 579 = .ok (.ifCond .ne 15, 3) := by decide +kernel
theorem dL_law_582 : decode cL_law 582 = .ok (.aload_n 3, 1) := by decide +kernel
theorem dL_law_583 : decode cL_law 583 = .ok (.iconst 0, 1) := by decide +kernel
theorem dL_law_584 : decode cL_law 584 = .ok (.laload, 1) := by decide +kernel
theorem dL_law_585 : decode cL_law 585 = .ok (.iload 6, 2) := by decide +kernel
theorem dL_law_587 : decode cL_law 587 = .ok (.i2l, 1) := by decide +kernel
theorem dL_law_588 : decode cL_law 588 = .ok (.lcmp, 1) := by decide +kernel
theorem dL_law_589 : decode cL_law 589 = .ok (.ifCond .eq 5, 3) := by decide +kernel
theorem dL_law_592 : decode cL_law 592 = .ok (.iconst 0, 1) := by decide +kernel
theorem dL_law_593 : decode cL_law 593 = .ok (.ireturn, 1) := by decide +kernel
theorem dL_law_594 : decode cL_law 594 = .ok (.goto 880, 3) := by decide +kernel
theorem dL_law_597 : decode cL_law 597 = .ok (.aload_n 1, 1) := by decide +kernel
theorem dL_law_598 : decode cL_law 598 = .ok (.aload_n 0, 1) := by decide +kernel
theorem dL_law_599 : decode cL_law 599 = .ok (.iload 4, 2) := by decide +kernel
theorem dL_law_601 : decode cL_law 601 = .ok (.iconst 1, 1) := by decide +kernel
theorem dL_law_602 : decode cL_law 602 = .ok (.iadd, 1) := by decide +kernel
theorem dL_law_603 : decode cL_law 603 = .ok (.iaload, 1) := by decide +kernel
theorem dL_law_604 : decode cL_law 604 = .ok (.aload_n 3, 1) := by decide +kernel
theorem dL_law_605 : decode cL_law 605 = .ok (.invokestatic 118, 3) := by decide +kernel
theorem dL_law_608 : decode cL_law 608 = .ok (.istore 5, 2) := by decide +kernel
theorem dL_law_610 : decode cL_law 610 = .ok (.aload_n 2, 1) := by decide +kernel
theorem dL_law_611 : decode cL_law 611 = .ok (.aload_n 0, 1) := by decide +kernel
theorem dL_law_612 : decode cL_law 612 = .ok (.iload 4, 2) := by decide +kernel
theorem dL_law_614 : decode cL_law 614 = .ok (.iconst 1, 1) := by decide +kernel
theorem dL_law_615 : decode cL_law 615 = .ok (.iadd, 1) := by decide +kernel
theorem dL_law_616 : decode cL_law 616 = .ok (.iaload, 1) := by decide +kernel
theorem dL_law_617 : decode cL_law 617 = .ok (.invokevirtual 120, 3) := by decide +kernel
theorem dL_law_620 : decode cL_law 620 = .ok (.istore 6, 2) := by decide +kernel
theorem dL_law_622 : decode cL_law 622 = .ok (.aload_n 2, 1) := by decide +kernel
theorem dL_law_623 : decode cL_law 623 = .ok (.invokevirtual 91, 3) := by decide +kernel
theorem dL_law_626 : decode cL_law 626 = .ok (.iload 5, 2) := by decide +kernel
theorem dL_law_628 : decode cL_law 628 = .ok (.if_icmp .eq 5, 3) := by decide +kernel
theorem dL_law_631 : decode cL_law 631 = .ok (.iconst 0, 1) := by decide +kernel
theorem dL_law_632 : decode cL_law 632 = .ok (.ireturn, 1) := by decide +kernel
theorem dL_law_633 : decode cL_law 633 = .ok (.iload 5, 2) := by decide +kernel
theorem dL_law_635 : decode cL_law 635 = .ok (.ifCond .ne 15, 3) := by decide +kernel
theorem dL_law_638 : decode cL_law 638 = .ok (.aload_n 3, 1) := by decide +kernel
theorem dL_law_639 : decode cL_law 639 = .ok (.iconst 0, 1) := by decide +kernel
theorem dL_law_640 : decode cL_law 640 = .ok (.laload, 1) := by decide +kernel
theorem dL_law_641 : decode cL_law 641 = .ok (.iload 6, 2) := by decide +kernel
theorem dL_law_643 : decode cL_law 643 = .ok (.i2l, 1) := by decide +kernel
theorem dL_law_644 : decode cL_law 644 = .ok (.lcmp, 1) := by decide +kernel
theorem dL_law_645 : decode cL_law 645 = .ok (.ifCond .eq 5, 3) := by decide +kernel
theorem dL_law_648 : decode cL_law 648 = .ok (.iconst 0, 1) := by decide +kernel
theorem dL_law_649 : decode cL_law 649 = .ok (.ireturn, 1) := by decide +kernel
theorem dL_law_650 : decode cL_law 650 = .ok (.goto 824, 3) := by decide +kernel
theorem dL_law_653 : decode cL_law 653 = .ok (.aload_n 1, 1) := by decide +kernel
theorem dL_law_654 : decode cL_law 654 = .ok (.invokevirtual 121, 3) := by decide +kernel
theorem dL_law_657 : decode cL_law 657 = .ok (.aload_n 2, 1) := by decide +kernel
theorem dL_law_658 : decode cL_law 658 = .ok (.invokevirtual 124, 3) := by decide +kernel
theorem dL_law_661 : decode cL_law 661 = .ok (.if_icmp .eq 813, 3) := by decide +kernel
theorem dL_law_664 : decode cL_law 664 = .ok (.iconst 0, 1) := by decide +kernel
theorem dL_law_665 : decode cL_law 665 = .ok (.ireturn, 1) := by decide +kernel
theorem dL_law_666 : decode cL_law 666 = .ok (.aload_n 1, 1) := by decide +kernel
theorem dL_law_667 : decode cL_law 667 = .ok (.aload_n 0, 1) := by decide +kernel
theorem dL_law_668 : decode cL_law 668 = .ok (.iload 4, 2) := by decide +kernel
theorem dL_law_670 : decode cL_law 670 = .ok (.iconst 1, 1) := by decide +kernel
theorem dL_law_671 : decode cL_law 671 = .ok (.iadd, 1) := by decide +kernel
theorem dL_law_672 : decode cL_law 672 = .ok (.iaload, 1) := by decide +kernel
theorem dL_law_673 : decode cL_law 673 = .ok (.aload_n 0, 1) := by decide +kernel
theorem dL_law_674 : decode cL_law 674 = .ok (.iload 4, 2) := by decide +kernel
theorem dL_law_676 : decode cL_law 676 = .ok (.iconst 2, 1) := by decide +kernel
theorem dL_law_677 : decode cL_law 677 = .ok (.iadd, 1) := by decide +kernel
theorem dL_law_678 : decode cL_law 678 = .ok (.iaload, 1) := by decide +kernel
theorem dL_law_679 : decode cL_law 679 = .ok (.aload_n 3, 1) := by decide +kernel
theorem dL_law_680 : decode cL_law 680 = .ok (.invokestatic 125, 3) := by decide +kernel
theorem dL_law_683 : decode cL_law 683 = .ok (.istore 5, 2) := by decide +kernel
theorem dL_law_685 : decode cL_law 685 = .ok (.aload_n 2, 1) := by decide +kernel
theorem dL_law_686 : decode cL_law 686 = .ok (.aload_n 0, 1) := by decide +kernel
theorem dL_law_687 : decode cL_law 687 = .ok (.iload 4, 2) := by decide +kernel
theorem dL_law_689 : decode cL_law 689 = .ok (.iconst 1, 1) := by decide +kernel
theorem dL_law_690 : decode cL_law 690 = .ok (.iadd, 1) := by decide +kernel
theorem dL_law_691 : decode cL_law 691 = .ok (.iaload, 1) := by decide +kernel
theorem dL_law_692 : decode cL_law 692 = .ok (.aload_n 0, 1) := by decide +kernel
theorem dL_law_693 : decode cL_law 693 = .ok (.iload 4, 2) := by decide +kernel
theorem dL_law_695 : decode cL_law 695 = .ok (.iconst 2, 1) := by decide +kernel
theorem dL_law_696 : decode cL_law 696 = .ok (.iadd, 1) := by decide +kernel
theorem dL_law_697 : decode cL_law 697 = .ok (.iaload, 1) := by decide +kernel
theorem dL_law_698 : decode cL_law 698 = .ok (.invokevirtual 127, 3) := by decide +kernel
theorem dL_law_701 : decode cL_law 701 = .ok (.istore 6, 2) := by decide +kernel
theorem dL_law_703 : decode cL_law 703 = .ok (.aload_n 2, 1) := by decide +kernel
theorem dL_law_704 : decode cL_law 704 = .ok (.invokevirtual 91, 3) := by decide +kernel
theorem dL_law_707 : decode cL_law 707 = .ok (.iload 5, 2) := by decide +kernel
theorem dL_law_709 : decode cL_law 709 = .ok (.if_icmp .eq 5, 3) := by decide +kernel
theorem dL_law_712 : decode cL_law 712 = .ok (.iconst 0, 1) := by decide +kernel
theorem dL_law_713 : decode cL_law 713 = .ok (.ireturn, 1) := by decide +kernel
theorem dL_law_714 : decode cL_law 714 = .ok (.iload 5, 2) := by decide +kernel
theorem dL_law_716 : decode cL_law 716 = .ok (.ifCond .ne 15, 3) := by decide +kernel
theorem dL_law_719 : decode cL_law 719 = .ok (.aload_n 3, 1) := by decide +kernel
theorem dL_law_720 : decode cL_law 720 = .ok (.iconst 0, 1) := by decide +kernel
theorem dL_law_721 : decode cL_law 721 = .ok (.laload, 1) := by decide +kernel
theorem dL_law_722 : decode cL_law 722 = .ok (.iload 6, 2) := by decide +kernel
theorem dL_law_724 : decode cL_law 724 = .ok (.i2l, 1) := by decide +kernel
theorem dL_law_725 : decode cL_law 725 = .ok (.lcmp, 1) := by decide +kernel
theorem dL_law_726 : decode cL_law 726 = .ok (.ifCond .eq 5, 3) := by decide +kernel
theorem dL_law_729 : decode cL_law 729 = .ok (.iconst 0, 1) := by decide +kernel
theorem dL_law_730 : decode cL_law 730 = .ok (.ireturn, 1) := by decide +kernel
theorem dL_law_731 : decode cL_law 731 = .ok (.goto 743, 3) := by decide +kernel
theorem dL_law_734 : decode cL_law 734 = .ok (.aload_n 1, 1) := by decide +kernel
theorem dL_law_735 : decode cL_law 735 = .ok (.aload_n 0, 1) := by decide +kernel
theorem dL_law_736 : decode cL_law 736 = .ok (.iload 4, 2) := by decide +kernel
theorem dL_law_738 : decode cL_law 738 = .ok (.iconst 1, 1) := by decide +kernel
theorem dL_law_739 : decode cL_law 739 = .ok (.iadd, 1) := by decide +kernel
theorem dL_law_740 : decode cL_law 740 = .ok (.iaload, 1) := by decide +kernel
theorem dL_law_741 : decode cL_law 741 = .ok (.aload_n 0, 1) := by decide +kernel
theorem dL_law_742 : decode cL_law 742 = .ok (.iload 4, 2) := by decide +kernel
theorem dL_law_744 : decode cL_law 744 = .ok (.iconst 2, 1) := by decide +kernel
theorem dL_law_745 : decode cL_law 745 = .ok (.iadd, 1) := by decide +kernel
theorem dL_law_746 : decode cL_law 746 = .ok (.iaload, 1) := by decide +kernel
theorem dL_law_747 : decode cL_law 747 = .ok (.aload_n 3, 1) := by decide +kernel
theorem dL_law_748 : decode cL_law 748 = .ok (.invokestatic 128, 3) := by decide +kernel
theorem dL_law_751 : decode cL_law 751 = .ok (.istore 5, 2) := by decide +kernel
theorem dL_law_753 : decode cL_law 753 = .ok (.aload_n 2, 1) := by decide +kernel
theorem dL_law_754 : decode cL_law 754 = .ok (.aload_n 0, 1) := by decide +kernel
theorem dL_law_755 : decode cL_law 755 = .ok (.iload 4, 2) := by decide +kernel
theorem dL_law_757 : decode cL_law 757 = .ok (.iconst 1, 1) := by decide +kernel
theorem dL_law_758 : decode cL_law 758 = .ok (.iadd, 1) := by decide +kernel
theorem dL_law_759 : decode cL_law 759 = .ok (.iaload, 1) := by decide +kernel
theorem dL_law_760 : decode cL_law 760 = .ok (.aload_n 0, 1) := by decide +kernel
theorem dL_law_761 : decode cL_law 761 = .ok (.iload 4, 2) := by decide +kernel
theorem dL_law_763 : decode cL_law 763 = .ok (.iconst 2, 1) := by decide +kernel
theorem dL_law_764 : decode cL_law 764 = .ok (.iadd, 1) := by decide +kernel
theorem dL_law_765 : decode cL_law 765 = .ok (.iaload, 1) := by decide +kernel
theorem dL_law_766 : decode cL_law 766 = .ok (.invokevirtual 130, 3) := by decide +kernel
theorem dL_law_769 : decode cL_law 769 = .ok (.istore 6, 2) := by decide +kernel
theorem dL_law_771 : decode cL_law 771 = .ok (.aload_n 2, 1) := by decide +kernel
theorem dL_law_772 : decode cL_law 772 = .ok (.invokevirtual 91, 3) := by decide +kernel
theorem dL_law_775 : decode cL_law 775 = .ok (.iload 5, 2) := by decide +kernel
theorem dL_law_777 : decode cL_law 777 = .ok (.if_icmp .eq 5, 3) := by decide +kernel
theorem dL_law_780 : decode cL_law 780 = .ok (.iconst 0, 1) := by decide +kernel
theorem dL_law_781 : decode cL_law 781 = .ok (.ireturn, 1) := by decide +kernel
theorem dL_law_782 : decode cL_law 782 = .ok (.iload 5, 2) := by decide +kernel
theorem dL_law_784 : decode cL_law 784 = .ok (.ifCond .ne 15, 3) := by decide +kernel
theorem dL_law_787 : decode cL_law 787 = .ok (.aload_n 3, 1) := by decide +kernel
theorem dL_law_788 : decode cL_law 788 = .ok (.iconst 0, 1) := by decide +kernel
theorem dL_law_789 : decode cL_law 789 = .ok (.laload, 1) := by decide +kernel
theorem dL_law_790 : decode cL_law 790 = .ok (.iload 6, 2) := by decide +kernel
theorem dL_law_792 : decode cL_law 792 = .ok (.i2l, 1) := by decide +kernel
theorem dL_law_793 : decode cL_law 793 = .ok (.lcmp, 1) := by decide +kernel
theorem dL_law_794 : decode cL_law 794 = .ok (.ifCond .eq 5, 3) := by decide +kernel
theorem dL_law_797 : decode cL_law 797 = .ok (.iconst 0, 1) := by decide +kernel
theorem dL_law_798 : decode cL_law 798 = .ok (.ireturn, 1) := by decide +kernel
theorem dL_law_799 : decode cL_law 799 = .ok (.goto 675, 3) := by decide +kernel
theorem dL_law_802 : decode cL_law 802 = .ok (.aload_n 1, 1) := by decide +kernel
theorem dL_law_803 : decode cL_law 803 = .ok (.aload_n 0, 1) := by decide +kernel
theorem dL_law_804 : decode cL_law 804 = .ok (.iload 4, 2) := by decide +kernel
theorem dL_law_806 : decode cL_law 806 = .ok (.iconst 1, 1) := by decide +kernel
theorem dL_law_807 : decode cL_law 807 = .ok (.iadd, 1) := by decide +kernel
theorem dL_law_808 : decode cL_law 808 = .ok (.iaload, 1) := by decide +kernel
theorem dL_law_809 : decode cL_law 809 = .ok (.aload_n 0, 1) := by decide +kernel
theorem dL_law_810 : decode cL_law 810 = .ok (.iload 4, 2) := by decide +kernel
theorem dL_law_812 : decode cL_law 812 = .ok (.iconst 2, 1) := by decide +kernel
theorem dL_law_813 : decode cL_law 813 = .ok (.iadd, 1) := by decide +kernel
theorem dL_law_814 : decode cL_law 814 = .ok (.iaload, 1) := by decide +kernel
theorem dL_law_815 : decode cL_law 815 = .ok (.aload_n 3, 1) := by decide +kernel
theorem dL_law_816 : decode cL_law 816 = .ok (.invokestatic 131, 3) := by decide +kernel
theorem dL_law_819 : decode cL_law 819 = .ok (.istore 5, 2) := by decide +kernel
theorem dL_law_821 : decode cL_law 821 = .ok (.aload_n 2, 1) := by decide +kernel
theorem dL_law_822 : decode cL_law 822 = .ok (.aload_n 0, 1) := by decide +kernel
theorem dL_law_823 : decode cL_law 823 = .ok (.iload 4, 2) := by decide +kernel
theorem dL_law_825 : decode cL_law 825 = .ok (.iconst 1, 1) := by decide +kernel
theorem dL_law_826 : decode cL_law 826 = .ok (.iadd, 1) := by decide +kernel
theorem dL_law_827 : decode cL_law 827 = .ok (.iaload, 1) := by decide +kernel
theorem dL_law_828 : decode cL_law 828 = .ok (.aload_n 0, 1) := by decide +kernel
theorem dL_law_829 : decode cL_law 829 = .ok (.iload 4, 2) := by decide +kernel
theorem dL_law_831 : decode cL_law 831 = .ok (.iconst 2, 1) := by decide +kernel
theorem dL_law_832 : decode cL_law 832 = .ok (.iadd, 1) := by decide +kernel
theorem dL_law_833 : decode cL_law 833 = .ok (.iaload, 1) := by decide +kernel
theorem dL_law_834 : decode cL_law 834 = .ok (.invokevirtual 133, 3) := by decide +kernel
theorem dL_law_837 : decode cL_law 837 = .ok (.istore 6, 2) := by decide +kernel
theorem dL_law_839 : decode cL_law 839 = .ok (.aload_n 2, 1) := by decide +kernel
theorem dL_law_840 : decode cL_law 840 = .ok (.invokevirtual 91, 3) := by decide +kernel
theorem dL_law_843 : decode cL_law 843 = .ok (.iload 5, 2) := by decide +kernel
theorem dL_law_845 : decode cL_law 845 = .ok (.if_icmp .eq 5, 3) := by decide +kernel
theorem dL_law_848 : decode cL_law 848 = .ok (.iconst 0, 1) := by decide +kernel
theorem dL_law_849 : decode cL_law 849 = .ok (.ireturn, 1) := by decide +kernel
theorem dL_law_850 : decode cL_law 850 = .ok (.iload 5, 2) := by decide +kernel
theorem dL_law_852 : decode cL_law 852 = .ok (.ifCond .ne 15, 3) := by decide +kernel
theorem dL_law_855 : decode cL_law 855 = .ok (.aload_n 3, 1) := by decide +kernel
theorem dL_law_856 : decode cL_law 856 = .ok (.iconst 0, 1) := by decide +kernel
theorem dL_law_857 : decode cL_law 857 = .ok (.laload, 1) := by decide +kernel
theorem dL_law_858 : decode cL_law 858 = .ok (.iload 6, 2) := by decide +kernel
theorem dL_law_860 : decode cL_law 860 = .ok (.i2l, 1) := by decide +kernel
theorem dL_law_861 : decode cL_law 861 = .ok (.lcmp, 1) := by decide +kernel
theorem dL_law_862 : decode cL_law 862 = .ok (.ifCond .eq 5, 3) := by decide +kernel
theorem dL_law_865 : decode cL_law 865 = .ok (.iconst 0, 1) := by decide +kernel
theorem dL_law_866 : decode cL_law 866 = .ok (.ireturn, 1) := by decide +kernel
theorem dL_law_867 : decode cL_law 867 = .ok (.goto 607, 3) := by decide +kernel
theorem dL_law_870 : decode cL_law 870 = .ok (.aload_n 1, 1) := by decide +kernel
theorem dL_law_871 : decode cL_law 871 = .ok (.aload_n 0, 1) := by decide +kernel
theorem dL_law_872 : decode cL_law 872 = .ok (.iload 4, 2) := by decide +kernel
theorem dL_law_874 : decode cL_law 874 = .ok (.iconst 1, 1) := by decide +kernel
theorem dL_law_875 : decode cL_law 875 = .ok (.iadd, 1) := by decide +kernel
theorem dL_law_876 : decode cL_law 876 = .ok (.iaload, 1) := by decide +kernel
theorem dL_law_877 : decode cL_law 877 = .ok (.aload_n 0, 1) := by decide +kernel
theorem dL_law_878 : decode cL_law 878 = .ok (.iload 4, 2) := by decide +kernel
theorem dL_law_880 : decode cL_law 880 = .ok (.iconst 2, 1) := by decide +kernel
theorem dL_law_881 : decode cL_law 881 = .ok (.iadd, 1) := by decide +kernel
theorem dL_law_882 : decode cL_law 882 = .ok (.iaload, 1) := by decide +kernel
theorem dL_law_883 : decode cL_law 883 = .ok (.aload_n 0, 1) := by decide +kernel
theorem dL_law_884 : decode cL_law 884 = .ok (.iload 4, 2) := by decide +kernel
theorem dL_law_886 : decode cL_law 886 = .ok (.iconst 3, 1) := by decide +kernel
theorem dL_law_887 : decode cL_law 887 = .ok (.iadd, 1) := by decide +kernel
theorem dL_law_888 : decode cL_law 888 = .ok (.iaload, 1) := by decide +kernel
theorem dL_law_889 : decode cL_law 889 = .ok (.aload_n 3, 1) := by decide +kernel
theorem dL_law_890 : decode cL_law 890 = .ok (.invokestatic 134, 3) := by decide +kernel
theorem dL_law_893 : decode cL_law 893 = .ok (.istore 5, 2) := by decide +kernel
theorem dL_law_895 : decode cL_law 895 = .ok (.aload_n 2, 1) := by decide +kernel
theorem dL_law_896 : decode cL_law 896 = .ok (.aload_n 0, 1) := by decide +kernel
theorem dL_law_897 : decode cL_law 897 = .ok (.iload 4, 2) := by decide +kernel
theorem dL_law_899 : decode cL_law 899 = .ok (.iconst 1, 1) := by decide +kernel
theorem dL_law_900 : decode cL_law 900 = .ok (.iadd, 1) := by decide +kernel
theorem dL_law_901 : decode cL_law 901 = .ok (.iaload, 1) := by decide +kernel
theorem dL_law_902 : decode cL_law 902 = .ok (.aload_n 0, 1) := by decide +kernel
theorem dL_law_903 : decode cL_law 903 = .ok (.iload 4, 2) := by decide +kernel
theorem dL_law_905 : decode cL_law 905 = .ok (.iconst 2, 1) := by decide +kernel
theorem dL_law_906 : decode cL_law 906 = .ok (.iadd, 1) := by decide +kernel
theorem dL_law_907 : decode cL_law 907 = .ok (.iaload, 1) := by decide +kernel
theorem dL_law_908 : decode cL_law 908 = .ok (.aload_n 0, 1) := by decide +kernel
theorem dL_law_909 : decode cL_law 909 = .ok (.iload 4, 2) := by decide +kernel
theorem dL_law_911 : decode cL_law 911 = .ok (.iconst 3, 1) := by decide +kernel
theorem dL_law_912 : decode cL_law 912 = .ok (.iadd, 1) := by decide +kernel
theorem dL_law_913 : decode cL_law 913 = .ok (.iaload, 1) := by decide +kernel
theorem dL_law_914 : decode cL_law 914 = .ok (.invokevirtual 136, 3) := by decide +kernel
theorem dL_law_917 : decode cL_law 917 = .ok (.istore 6, 2) := by decide +kernel
theorem dL_law_919 : decode cL_law 919 = .ok (.aload_n 2, 1) := by decide +kernel
theorem dL_law_920 : decode cL_law 920 = .ok (.invokevirtual 91, 3) := by decide +kernel
theorem dL_law_923 : decode cL_law 923 = .ok (.iload 5, 2) := by decide +kernel
theorem dL_law_925 : decode cL_law 925 = .ok (.if_icmp .eq 5, 3) := by decide +kernel
theorem dL_law_928 : decode cL_law 928 = .ok (.iconst 0, 1) := by decide +kernel
theorem dL_law_929 : decode cL_law 929 = .ok (.ireturn, 1) := by decide +kernel
theorem dL_law_930 : decode cL_law 930 = .ok (.iload 5, 2) := by decide +kernel
theorem dL_law_932 : decode cL_law 932 = .ok (.ifCond .ne 15, 3) := by decide +kernel
theorem dL_law_935 : decode cL_law 935 = .ok (.aload_n 3, 1) := by decide +kernel
theorem dL_law_936 : decode cL_law 936 = .ok (.iconst 0, 1) := by decide +kernel
theorem dL_law_937 : decode cL_law 937 = .ok (.laload, 1) := by decide +kernel
theorem dL_law_938 : decode cL_law 938 = .ok (.iload 6, 2) := by decide +kernel
theorem dL_law_940 : decode cL_law 940 = .ok (.i2l, 1) := by decide +kernel
theorem dL_law_941 : decode cL_law 941 = .ok (.lcmp, 1) := by decide +kernel
theorem dL_law_942 : decode cL_law 942 = .ok (.ifCond .eq 5, 3) := by decide +kernel
theorem dL_law_945 : decode cL_law 945 = .ok (.iconst 0, 1) := by decide +kernel
theorem dL_law_946 : decode cL_law 946 = .ok (.ireturn, 1) := by decide +kernel
theorem dL_law_947 : decode cL_law 947 = .ok (.goto 527, 3) := by decide +kernel
theorem dL_law_950 : decode cL_law 950 = .ok (.aload_n 1, 1) := by decide +kernel
theorem dL_law_951 : decode cL_law 951 = .ok (.aload_n 0, 1) := by decide +kernel
theorem dL_law_952 : decode cL_law 952 = .ok (.iload 4, 2) := by decide +kernel
theorem dL_law_954 : decode cL_law 954 = .ok (.iconst 1, 1) := by decide +kernel
theorem dL_law_955 : decode cL_law 955 = .ok (.iadd, 1) := by decide +kernel
theorem dL_law_956 : decode cL_law 956 = .ok (.iaload, 1) := by decide +kernel
theorem dL_law_957 : decode cL_law 957 = .ok (.aload_n 0, 1) := by decide +kernel
theorem dL_law_958 : decode cL_law 958 = .ok (.iload 4, 2) := by decide +kernel
theorem dL_law_960 : decode cL_law 960 = .ok (.iconst 2, 1) := by decide +kernel
theorem dL_law_961 : decode cL_law 961 = .ok (.iadd, 1) := by decide +kernel
theorem dL_law_962 : decode cL_law 962 = .ok (.iaload, 1) := by decide +kernel
theorem dL_law_963 : decode cL_law 963 = .ok (.aload_n 3, 1) := by decide +kernel
theorem dL_law_964 : decode cL_law 964 = .ok (.invokestatic 137, 3) := by decide +kernel
theorem dL_law_967 : decode cL_law 967 = .ok (.istore 5, 2) := by decide +kernel
theorem dL_law_969 : decode cL_law 969 = .ok (.aload_n 2, 1) := by decide +kernel
theorem dL_law_970 : decode cL_law 970 = .ok (.aload_n 0, 1) := by decide +kernel
theorem dL_law_971 : decode cL_law 971 = .ok (.iload 4, 2) := by decide +kernel
theorem dL_law_973 : decode cL_law 973 = .ok (.iconst 1, 1) := by decide +kernel
theorem dL_law_974 : decode cL_law 974 = .ok (.iadd, 1) := by decide +kernel
theorem dL_law_975 : decode cL_law 975 = .ok (.iaload, 1) := by decide +kernel
theorem dL_law_976 : decode cL_law 976 = .ok (.aload_n 0, 1) := by decide +kernel
theorem dL_law_977 : decode cL_law 977 = .ok (.iload 4, 2) := by decide +kernel
theorem dL_law_979 : decode cL_law 979 = .ok (.iconst 2, 1) := by decide +kernel
theorem dL_law_980 : decode cL_law 980 = .ok (.iadd, 1) := by decide +kernel
theorem dL_law_981 : decode cL_law 981 = .ok (.iaload, 1) := by decide +kernel
theorem dL_law_982 : decode cL_law 982 = .ok (.invokevirtual 139, 3) := by decide +kernel
theorem dL_law_985 : decode cL_law 985 = .ok (.istore 6, 2) := by decide +kernel
theorem dL_law_987 : decode cL_law 987 = .ok (.aload_n 2, 1) := by decide +kernel
theorem dL_law_988 : decode cL_law 988 = .ok (.invokevirtual 91, 3) := by decide +kernel
theorem dL_law_991 : decode cL_law 991 = .ok (.iload 5, 2) := by decide +kernel
theorem dL_law_993 : decode cL_law 993 = .ok (.if_icmp .eq 5, 3) := by decide +kernel
theorem dL_law_996 : decode cL_law 996 = .ok (.iconst 0, 1) := by decide +kernel
theorem dL_law_997 : decode cL_law 997 = .ok (.ireturn, 1) := by decide +kernel
theorem dL_law_998 : decode cL_law 998 = .ok (.iload 5, 2) := by decide +kernel
theorem dL_law_1000 : decode cL_law 1000 = .ok (.ifCond .ne 15, 3) := by decide +kernel
theorem dL_law_1003 : decode cL_law 1003 = .ok (.aload_n 3, 1) := by decide +kernel
theorem dL_law_1004 : decode cL_law 1004 = .ok (.iconst 0, 1) := by decide +kernel
theorem dL_law_1005 : decode cL_law 1005 = .ok (.laload, 1) := by decide +kernel
theorem dL_law_1006 : decode cL_law 1006 = .ok (.iload 6, 2) := by decide +kernel
theorem dL_law_1008 : decode cL_law 1008 = .ok (.i2l, 1) := by decide +kernel
theorem dL_law_1009 : decode cL_law 1009 = .ok (.lcmp, 1) := by decide +kernel
theorem dL_law_1010 : decode cL_law 1010 = .ok (.ifCond .eq 5, 3) := by decide +kernel
theorem dL_law_1013 : decode cL_law 1013 = .ok (.iconst 0, 1) := by decide +kernel
theorem dL_law_1014 : decode cL_law 1014 = .ok (.ireturn, 1) := by decide +kernel
theorem dL_law_1015 : decode cL_law 1015 = .ok (.goto 459, 3) := by decide +kernel
theorem dL_law_1018 : decode cL_law 1018 = .ok (.aload_n 1, 1) := by decide +kernel
theorem dL_law_1019 : decode cL_law 1019 = .ok (.aload_n 0, 1) := by decide +kernel
theorem dL_law_1020 : decode cL_law 1020 = .ok (.iload 4, 2) := by decide +kernel
theorem dL_law_1022 : decode cL_law 1022 = .ok (.iconst 1, 1) := by decide +kernel
theorem dL_law_1023 : decode cL_law 1023 = .ok (.iadd, 1) := by decide +kernel
theorem dL_law_1024 : decode cL_law 1024 = .ok (.iaload, 1) := by decide +kernel
theorem dL_law_1025 : decode cL_law 1025 = .ok (.aload_n 0, 1) := by decide +kernel
theorem dL_law_1026 : decode cL_law 1026 = .ok (.iload 4, 2) := by decide +kernel
theorem dL_law_1028 : decode cL_law 1028 = .ok (.iconst 2, 1) := by decide +kernel
theorem dL_law_1029 : decode cL_law 1029 = .ok (.iadd, 1) := by decide +kernel
theorem dL_law_1030 : decode cL_law 1030 = .ok (.iaload, 1) := by decide +kernel
theorem dL_law_1031 : decode cL_law 1031 = .ok (.aload_n 3, 1) := by decide +kernel
theorem dL_law_1032 : decode cL_law 1032 = .ok (.invokestatic 140, 3) := by decide +kernel
theorem dL_law_1035 : decode cL_law 1035 = .ok (.istore 5, 2) := by decide +kernel
theorem dL_law_1037 : decode cL_law 1037 = .ok (.aload_n 2, 1) := by decide +kernel
theorem dL_law_1038 : decode cL_law 1038 = .ok (.aload_n 0, 1) := by decide +kernel
theorem dL_law_1039 : decode cL_law 1039 = .ok (.iload 4, 2) := by decide +kernel
theorem dL_law_1041 : decode cL_law 1041 = .ok (.iconst 1, 1) := by decide +kernel
theorem dL_law_1042 : decode cL_law 1042 = .ok (.iadd, 1) := by decide +kernel
theorem dL_law_1043 : decode cL_law 1043 = .ok (.iaload, 1) := by decide +kernel
theorem dL_law_1044 : decode cL_law 1044 = .ok (.aload_n 0, 1) := by decide +kernel
theorem dL_law_1045 : decode cL_law 1045 = .ok (.iload 4, 2) := by decide +kernel
theorem dL_law_1047 : decode cL_law 1047 = .ok (.iconst 2, 1) := by decide +kernel
theorem dL_law_1048 : decode cL_law 1048 = .ok (.iadd, 1) := by decide +kernel
theorem dL_law_1049 : decode cL_law 1049 = .ok (.iaload, 1) := by decide +kernel
theorem dL_law_1050 : decode cL_law 1050 = .ok (.invokevirtual 142, 3) := by decide +kernel
theorem dL_law_1053 : decode cL_law 1053 = .ok (.istore 6, 2) := by decide +kernel
theorem dL_law_1055 : decode cL_law 1055 = .ok (.aload_n 2, 1) := by decide +kernel
theorem dL_law_1056 : decode cL_law 1056 = .ok (.invokevirtual 91, 3) := by decide +kernel
theorem dL_law_1059 : decode cL_law 1059 = .ok (.iload 5, 2) := by decide +kernel
theorem dL_law_1061 : decode cL_law 1061 = .ok (.if_icmp .eq 5, 3) := by decide +kernel
theorem dL_law_1064 : decode cL_law 1064 = .ok (.iconst 0, 1) := by decide +kernel
theorem dL_law_1065 : decode cL_law 1065 = .ok (.ireturn, 1) := by decide +kernel
theorem dL_law_1066 : decode cL_law 1066 = .ok (.iload 5, 2) := by decide +kernel
theorem dL_law_1068 : decode cL_law 1068 = .ok (.ifCond .ne 22, 3) := by decide +kernel
theorem dL_law_1071 : decode cL_law 1071 = .ok (.aload_n 3, 1) := by decide +kernel
theorem dL_law_1072 : decode cL_law 1072 = .ok (.iconst 0, 1) := by decide +kernel
theorem dL_law_1073 : decode cL_law 1073 = .ok (.laload, 1) := by decide +kernel
theorem dL_law_1074 : decode cL_law 1074 = .ok (.iload 6, 2) := by decide +kernel
theorem dL_law_1076 : decode cL_law 1076 = .ok (.ifCond .eq 7, 3) := by decide +kernel
theorem dL_law_1079 : decode cL_law 1079 = .ok (.lconst 1, 1) := by decide +kernel
theorem dL_law_1080 : decode cL_law 1080 = .ok (.goto 4, 3) := by decide +kernel
theorem dL_law_1083 : decode cL_law 1083 = .ok (.lconst 0, 1) := by decide +kernel
theorem dL_law_1084 : decode cL_law 1084 = .ok (.lcmp, 1) := by decide +kernel
theorem dL_law_1085 : decode cL_law 1085 = .ok (.ifCond .eq 5, 3) := by decide +kernel
theorem dL_law_1088 : decode cL_law 1088 = .ok (.iconst 0, 1) := by decide +kernel
theorem dL_law_1089 : decode cL_law 1089 = .ok (.ireturn, 1) := by decide +kernel
theorem dL_law_1090 : decode cL_law 1090 = .ok (.goto 384, 3) := by decide +kernel
theorem dL_law_1093 : decode cL_law 1093 = .ok (.aload_n 1, 1) := by decide +kernel
theorem dL_law_1094 : decode cL_law 1094 = .ok (.aload_n 0, 1) := by decide +kernel
theorem dL_law_1095 : decode cL_law 1095 = .ok (.iload 4, 2) := by decide +kernel
theorem dL_law_1097 : decode cL_law 1097 = .ok (.iconst 1, 1) := by decide +kernel
theorem dL_law_1098 : decode cL_law 1098 = .ok (.iadd, 1) := by decide +kernel
theorem dL_law_1099 : decode cL_law 1099 = .ok (.iaload, 1) := by decide +kernel
theorem dL_law_1100 : decode cL_law 1100 = .ok (.aload_n 0, 1) := by decide +kernel
theorem dL_law_1101 : decode cL_law 1101 = .ok (.iload 4, 2) := by decide +kernel
theorem dL_law_1103 : decode cL_law 1103 = .ok (.iconst 2, 1) := by decide +kernel
theorem dL_law_1104 : decode cL_law 1104 = .ok (.iadd, 1) := by decide +kernel
theorem dL_law_1105 : decode cL_law 1105 = .ok (.iaload, 1) := by decide +kernel
theorem dL_law_1106 : decode cL_law 1106 = .ok (.aload_n 0, 1) := by decide +kernel
theorem dL_law_1107 : decode cL_law 1107 = .ok (.iload 4, 2) := by decide +kernel
theorem dL_law_1109 : decode cL_law 1109 = .ok (.iconst 3, 1) := by decide +kernel
theorem dL_law_1110 : decode cL_law 1110 = .ok (.iadd, 1) := by decide +kernel
theorem dL_law_1111 : decode cL_law 1111 = .ok (.iaload, 1) := by decide +kernel
theorem dL_law_1112 : decode cL_law 1112 = .ok (.aload_n 3, 1) := by decide +kernel
theorem dL_law_1113 : decode cL_law 1113 = .ok (.invokestatic 143, 3) := by decide +kernel
theorem dL_law_1116 : decode cL_law 1116 = .ok (.istore 5, 2) := by decide +kernel
theorem dL_law_1118 : decode cL_law 1118 = .ok (.aload_n 2, 1) := by decide +kernel
theorem dL_law_1119 : decode cL_law 1119 = .ok (.aload_n 0, 1) := by decide +kernel
theorem dL_law_1120 : decode cL_law 1120 = .ok (.iload 4, 2) := by decide +kernel
theorem dL_law_1122 : decode cL_law 1122 = .ok (.iconst 1, 1) := by decide +kernel
theorem dL_law_1123 : decode cL_law 1123 = .ok (.iadd, 1) := by decide +kernel
theorem dL_law_1124 : decode cL_law 1124 = .ok (.iaload, 1) := by decide +kernel
theorem dL_law_1125 : decode cL_law 1125 = .ok (.aload_n 0, 1) := by decide +kernel
theorem dL_law_1126 : decode cL_law 1126 = .ok (.iload 4, 2) := by decide +kernel
theorem dL_law_1128 : decode cL_law 1128 = .ok (.iconst 2, 1) := by decide +kernel
theorem dL_law_1129 : decode cL_law 1129 = .ok (.iadd, 1) := by decide +kernel
theorem dL_law_1130 : decode cL_law 1130 = .ok (.iaload, 1) := by decide +kernel
theorem dL_law_1131 : decode cL_law 1131 = .ok (.aload_n 0, 1) := by decide +kernel
theorem dL_law_1132 : decode cL_law 1132 = .ok (.iload 4, 2) := by decide +kernel
theorem dL_law_1134 : decode cL_law 1134 = .ok (.iconst 3, 1) := by decide +kernel
theorem dL_law_1135 : decode cL_law 1135 = .ok (.iadd, 1) := by decide +kernel
theorem dL_law_1136 : decode cL_law 1136 = .ok (.iaload, 1) := by decide +kernel
theorem dL_law_1137 : decode cL_law 1137 = .ok (.invokevirtual 145, 3) := by decide +kernel
theorem dL_law_1140 : decode cL_law 1140 = .ok (.istore 6, 2) := by decide +kernel
theorem dL_law_1142 : decode cL_law 1142 = .ok (.aload_n 2, 1) := by decide +kernel
theorem dL_law_1143 : decode cL_law 1143 = .ok (.invokevirtual 91, 3) := by decide +kernel
theorem dL_law_1146 : decode cL_law 1146 = .ok (.iload 5, 2) := by decide +kernel
theorem dL_law_1148 : decode cL_law 1148 = .ok (.if_icmp .eq 5, 3) := by decide +kernel
theorem dL_law_1151 : decode cL_law 1151 = .ok (.iconst 0, 1) := by decide +kernel
theorem dL_law_1152 : decode cL_law 1152 = .ok (.ireturn, 1) := by decide +kernel
theorem dL_law_1153 : decode cL_law 1153 = .ok (.iload 5, 2) := by decide +kernel
theorem dL_law_1155 : decode cL_law 1155 = .ok (.ifCond .ne 22, 3) := by decide +kernel
theorem dL_law_1158 : decode cL_law 1158 = .ok (.aload_n 3, 1) := by decide +kernel
theorem dL_law_1159 : decode cL_law 1159 = .ok (.iconst 0, 1) := by decide +kernel
theorem dL_law_1160 : decode cL_law 1160 = .ok (.laload, 1) := by decide +kernel
theorem dL_law_1161 : decode cL_law 1161 = .ok (.iload 6, 2) := by decide +kernel
theorem dL_law_1163 : decode cL_law 1163 = .ok (.ifCond .eq 7, 3) := by decide +kernel
theorem dL_law_1166 : decode cL_law 1166 = .ok (.lconst 1, 1) := by decide +kernel
theorem dL_law_1167 : decode cL_law 1167 = .ok (.goto 4, 3) := by decide +kernel
theorem dL_law_1170 : decode cL_law 1170 = .ok (.lconst 0, 1) := by decide +kernel
theorem dL_law_1171 : decode cL_law 1171 = .ok (.lcmp, 1) := by decide +kernel
theorem dL_law_1172 : decode cL_law 1172 = .ok (.ifCond .eq 5, 3) := by decide +kernel
theorem dL_law_1175 : decode cL_law 1175 = .ok (.iconst 0, 1) := by decide +kernel
theorem dL_law_1176 : decode cL_law 1176 = .ok (.ireturn, 1) := by decide +kernel
theorem dL_law_1177 : decode cL_law 1177 = .ok (.goto 297, 3) := by decide +kernel
theorem dL_law_1180 : decode cL_law 1180 = .ok (.aload_n 1, 1) := by decide +kernel
theorem dL_law_1181 : decode cL_law 1181 = .ok (.aload_n 0, 1) := by decide +kernel
theorem dL_law_1182 : decode cL_law 1182 = .ok (.iload 4, 2) := by decide +kernel
theorem dL_law_1184 : decode cL_law 1184 = .ok (.iconst 1, 1) := by decide +kernel
theorem dL_law_1185 : decode cL_law 1185 = .ok (.iadd, 1) := by decide +kernel
theorem dL_law_1186 : decode cL_law 1186 = .ok (.iaload, 1) := by decide +kernel
theorem dL_law_1187 : decode cL_law 1187 = .ok (.aload_n 3, 1) := by decide +kernel
theorem dL_law_1188 : decode cL_law 1188 = .ok (.invokestatic 146, 3) := by decide +kernel
theorem dL_law_1191 : decode cL_law 1191 = .ok (.istore 5, 2) := by decide +kernel
theorem dL_law_1193 : decode cL_law 1193 = .ok (.aload_n 2, 1) := by decide +kernel
theorem dL_law_1194 : decode cL_law 1194 = .ok (.aload_n 0, 1) := by decide +kernel
theorem dL_law_1195 : decode cL_law 1195 = .ok (.iload 4, 2) := by decide +kernel
theorem dL_law_1197 : decode cL_law 1197 = .ok (.iconst 1, 1) := by decide +kernel
theorem dL_law_1198 : decode cL_law 1198 = .ok (.iadd, 1) := by decide +kernel
theorem dL_law_1199 : decode cL_law 1199 = .ok (.iaload, 1) := by decide +kernel
theorem dL_law_1200 : decode cL_law 1200 = .ok (.invokevirtual 148, 3) := by decide +kernel
theorem dL_law_1203 : decode cL_law 1203 = .ok (.istore 6, 2) := by decide +kernel
theorem dL_law_1205 : decode cL_law 1205 = .ok (.aload_n 2, 1) := by decide +kernel
theorem dL_law_1206 : decode cL_law 1206 = .ok (.invokevirtual 91, 3) := by decide +kernel
theorem dL_law_1209 : decode cL_law 1209 = .ok (.iload 5, 2) := by decide +kernel
theorem dL_law_1211 : decode cL_law 1211 = .ok (.if_icmp .eq 5, 3) := by decide +kernel
theorem dL_law_1214 : decode cL_law 1214 = .ok (.iconst 0, 1) := by decide +kernel
theorem dL_law_1215 : decode cL_law 1215 = .ok (.ireturn, 1) := by decide +kernel
theorem dL_law_1216 : decode cL_law 1216 = .ok (.iload 5, 2) := by decide +kernel
theorem dL_law_1218 : decode cL_law 1218 = .ok (.ifCond .ne 15, 3) := by decide +kernel
theorem dL_law_1221 : decode cL_law 1221 = .ok (.aload_n 3, 1) := by decide +kernel
theorem dL_law_1222 : decode cL_law 1222 = .ok (.iconst 0, 1) := by decide +kernel
theorem dL_law_1223 : decode cL_law 1223 = .ok (.laload, 1) := by decide +kernel
theorem dL_law_1224 : decode cL_law 1224 = .ok (.iload 6, 2) := by decide +kernel
theorem dL_law_1226 : decode cL_law 1226 = .ok (.i2l, 1) := by decide +kernel
theorem dL_law_1227 : decode cL_law 1227 = .ok (.lcmp, 1) := by decide +kernel
theorem dL_law_1228 : decode cL_law 1228 = .ok (.ifCond .eq 5, 3) := by decide +kernel
theorem dL_law_1231 : decode cL_law 1231 = .ok (.iconst 0, 1) := by decide +kernel
theorem dL_law_1232 : decode cL_law 1232 = .ok (.ireturn, 1) := by decide +kernel
theorem dL_law_1233 : decode cL_law 1233 = .ok (.goto 241, 3) := by decide +kernel
theorem dL_law_1236 : decode cL_law 1236 = .ok (.aload_n 1, 1) := by decide +kernel
theorem dL_law_1237 : decode cL_law 1237 = .ok (.aload_n 0, 1) := by decide +kernel
theorem dL_law_1238 : decode cL_law 1238 = .ok (.iload 4, 2) := by decide +kernel
theorem dL_law_1240 : decode cL_law 1240 = .ok (.iconst 1, 1) := by decide +kernel
theorem dL_law_1241 : decode cL_law 1241 = .ok (.iadd, 1) := by decide +kernel
theorem dL_law_1242 : decode cL_law 1242 = .ok (.iaload, 1) := by decide +kernel
theorem dL_law_1243 : decode cL_law 1243 = .ok (.aload_n 3, 1) := by decide +kernel
theorem dL_law_1244 : decode cL_law 1244 = .ok (.invokestatic 149, 3) := by decide +kernel
theorem dL_law_1247 : decode cL_law 1247 = .ok (.istore 5, 2) := by decide +kernel
theorem dL_law_1249 : decode cL_law 1249 = .ok (.aload_n 2, 1) := by decide +kernel
theorem dL_law_1250 : decode cL_law 1250 = .ok (.aload_n 0, 1) := by decide +kernel
theorem dL_law_1251 : decode cL_law 1251 = .ok (.iload 4, 2) := by decide +kernel
theorem dL_law_1253 : decode cL_law 1253 = .ok (.iconst 1, 1) := by decide +kernel
theorem dL_law_1254 : decode cL_law 1254 = .ok (.iadd, 1) := by decide +kernel
theorem dL_law_1255 : decode cL_law 1255 = .ok (.iaload, 1) := by decide +kernel
theorem dL_law_1256 : decode cL_law 1256 = .ok (.invokevirtual 151, 3) := by decide +kernel
theorem dL_law_1259 : decode cL_law 1259 = .ok (.istore 6, 2) := by decide +kernel
theorem dL_law_1261 : decode cL_law 1261 = .ok (.aload_n 2, 1) := by decide +kernel
theorem dL_law_1262 : decode cL_law 1262 = .ok (.invokevirtual 91, 3) := by decide +kernel
theorem dL_law_1265 : decode cL_law 1265 = .ok (.iload 5, 2) := by decide +kernel
theorem dL_law_1267 : decode cL_law 1267 = .ok (.if_icmp .eq 5, 3) := by decide +kernel
theorem dL_law_1270 : decode cL_law 1270 = .ok (.iconst 0, 1) := by decide +kernel
theorem dL_law_1271 : decode cL_law 1271 = .ok (.ireturn, 1) := by decide +kernel
theorem dL_law_1272 : decode cL_law 1272 = .ok (.iload 5, 2) := by decide +kernel
theorem dL_law_1274 : decode cL_law 1274 = .ok (.ifCond .ne 15, 3) := by decide +kernel
theorem dL_law_1277 : decode cL_law 1277 = .ok (.aload_n 3, 1) := by decide +kernel
theorem dL_law_1278 : decode cL_law 1278 = .ok (.iconst 0, 1) := by decide +kernel
theorem dL_law_1279 : decode cL_law 1279 = .ok (.laload, 1) := by decide +kernel
theorem dL_law_1280 : decode cL_law 1280 = .ok (.iload 6, 2) := by decide +kernel
theorem dL_law_1282 : decode cL_law 1282 = .ok (.i2l, 1) := by decide +kernel
theorem dL_law_1283 : decode cL_law 1283 = .ok (.lcmp, 1) := by decide +kernel
theorem dL_law_1284 : decode cL_law 1284 = .ok (.ifCond .eq 5, 3) := by decide +kernel
theorem dL_law_1287 : decode cL_law 1287 = .ok (.iconst 0, 1) := by decide +kernel
theorem dL_law_1288 : decode cL_law 1288 = .ok (.ireturn, 1) := by decide +kernel
theorem dL_law_1289 : decode cL_law 1289 = .ok (.goto 185, 3) := by decide +kernel
theorem dL_law_1292 : decode cL_law 1292 = .ok (.aload_n 1, 1) := by decide +kernel
theorem dL_law_1293 : decode cL_law 1293 = .ok (.aload_n 0, 1) := by decide +kernel
theorem dL_law_1294 : decode cL_law 1294 = .ok (.iload 4, 2) := by decide +kernel
theorem dL_law_1296 : decode cL_law 1296 = .ok (.iconst 1, 1) := by decide +kernel
theorem dL_law_1297 : decode cL_law 1297 = .ok (.iadd, 1) := by decide +kernel
theorem dL_law_1298 : decode cL_law 1298 = .ok (.iaload, 1) := by decide +kernel
theorem dL_law_1299 : decode cL_law 1299 = .ok (.aload_n 0, 1) := by decide +kernel
theorem dL_law_1300 : decode cL_law 1300 = .ok (.iload 4, 2) := by decide +kernel
theorem dL_law_1302 : decode cL_law 1302 = .ok (.iconst 2, 1) := by decide +kernel
theorem dL_law_1303 : decode cL_law 1303 = .ok (.iadd, 1) := by decide +kernel
theorem dL_law_1304 : decode cL_law 1304 = .ok (.iaload, 1) := by decide +kernel
theorem dL_law_1305 : decode cL_law 1305 = .ok (.aload_n 3, 1) := by decide +kernel
theorem dL_law_1306 : decode cL_law 1306 = .ok (.invokestatic 152, 3) := by decide +kernel
theorem dL_law_1309 : decode cL_law 1309 = .ok (.istore 5, 2) := by decide +kernel
theorem dL_law_1311 : decode cL_law 1311 = .ok (.aload_n 2, 1) := by decide +kernel
theorem dL_law_1312 : decode cL_law 1312 = .ok (.aload_n 0, 1) := by decide +kernel
theorem dL_law_1313 : decode cL_law 1313 = .ok (.iload 4, 2) := by decide +kernel
theorem dL_law_1315 : decode cL_law 1315 = .ok (.iconst 1, 1) := by decide +kernel
theorem dL_law_1316 : decode cL_law 1316 = .ok (.iadd, 1) := by decide +kernel
theorem dL_law_1317 : decode cL_law 1317 = .ok (.iaload, 1) := by decide +kernel
theorem dL_law_1318 : decode cL_law 1318 = .ok (.aload_n 0, 1) := by decide +kernel
theorem dL_law_1319 : decode cL_law 1319 = .ok (.iload 4, 2) := by decide +kernel
theorem dL_law_1321 : decode cL_law 1321 = .ok (.iconst 2, 1) := by decide +kernel
theorem dL_law_1322 : decode cL_law 1322 = .ok (.iadd, 1) := by decide +kernel
theorem dL_law_1323 : decode cL_law 1323 = .ok (.iaload, 1) := by decide +kernel
theorem dL_law_1324 : decode cL_law 1324 = .ok (.invokevirtual 154, 3) := by decide +kernel
theorem dL_law_1327 : decode cL_law 1327 = .ok (.istore 6, 2) := by decide +kernel
theorem dL_law_1329 : decode cL_law 1329 = .ok (.aload_n 2, 1) := by decide +kernel
theorem dL_law_1330 : decode cL_law 1330 = .ok (.invokevirtual 91, 3) := by decide +kernel
theorem dL_law_1333 : decode cL_law 1333 = .ok (.iload 5, 2) := by decide +kernel
theorem dL_law_1335 : decode cL_law 1335 = .ok (.if_icmp .eq 5, 3) := by decide +kernel
theorem dL_law_1338 : decode cL_law 1338 = .ok (.iconst 0, 1) := by decide +kernel
theorem dL_law_1339 : decode cL_law 1339 = .ok (.ireturn, 1) := by decide +kernel
theorem dL_law_1340 : decode cL_law 1340 = .ok (.iload 5, 2) := by decide +kernel
theorem dL_law_1342 : decode cL_law 1342 = .ok (.ifCond .ne 15, 3) := by decide +kernel
theorem dL_law_1345 : decode cL_law 1345 = .ok (.aload_n 3, 1) := by decide +kernel
theorem dL_law_1346 : decode cL_law 1346 = .ok (.iconst 0, 1) := by decide +kernel
theorem dL_law_1347 : decode cL_law 1347 = .ok (.laload, 1) := by decide +kernel
theorem dL_law_1348 : decode cL_law 1348 = .ok (.iload 6, 2) := by decide +kernel
theorem dL_law_1350 : decode cL_law 1350 = .ok (.i2l, 1) := by decide +kernel
theorem dL_law_1351 : decode cL_law 1351 = .ok (.lcmp, 1) := by decide +kernel
theorem dL_law_1352 : decode cL_law 1352 = .ok (.ifCond .eq 5, 3) := by decide +kernel
theorem dL_law_1355 : decode cL_law 1355 = .ok (.iconst 0, 1) := by decide +kernel
theorem dL_law_1356 : decode cL_law 1356 = .ok (.ireturn, 1) := by decide +kernel
theorem dL_law_1357 : decode cL_law 1357 = .ok (.goto 117, 3) := by decide +kernel
theorem dL_law_1360 : decode cL_law 1360 = .ok (.aload_n 1, 1) := by decide +kernel
theorem dL_law_1361 : decode cL_law 1361 = .ok (.aload_n 0, 1) := by decide +kernel
theorem dL_law_1362 : decode cL_law 1362 = .ok (.iload 4, 2) := by decide +kernel
theorem dL_law_1364 : decode cL_law 1364 = .ok (.iconst 1, 1) := by decide +kernel
theorem dL_law_1365 : decode cL_law 1365 = .ok (.iadd, 1) := by decide +kernel
theorem dL_law_1366 : decode cL_law 1366 = .ok (.iaload, 1) := by decide +kernel
theorem dL_law_1367 : decode cL_law 1367 = .ok (.aload_n 3, 1) := by decide +kernel
theorem dL_law_1368 : decode cL_law 1368 = .ok (.invokestatic 155, 3) := by decide +kernel
theorem dL_law_1371 : decode cL_law 1371 = .ok (.istore 5, 2) := by decide +kernel
theorem dL_law_1373 : decode cL_law 1373 = .ok (.aload_n 2, 1) := by decide +kernel
theorem dL_law_1374 : decode cL_law 1374 = .ok (.aload_n 0, 1) := by decide +kernel
theorem dL_law_1375 : decode cL_law 1375 = .ok (.iload 4, 2) := by decide +kernel
theorem dL_law_1377 : decode cL_law 1377 = .ok (.iconst 1, 1) := by decide +kernel
theorem dL_law_1378 : decode cL_law 1378 = .ok (.iadd, 1) := by decide +kernel
theorem dL_law_1379 : decode cL_law 1379 = .ok (.iaload, 1) := by decide +kernel
theorem dL_law_1380 : decode cL_law 1380 = .ok (.invokevirtual 157, 3) := by decide +kernel
theorem dL_law_1383 : decode cL_law 1383 = .ok (.istore 6, 2) := by decide +kernel
theorem dL_law_1385 : decode cL_law 1385 = .ok (.aload_n 2, 1) := by decide +kernel
theorem dL_law_1386 : decode cL_law 1386 = .ok (.invokevirtual 91, 3) := by decide +kernel
theorem dL_law_1389 : decode cL_law 1389 = .ok (.iload 5, 2) := by decide +kernel
theorem dL_law_1391 : decode cL_law 1391 = .ok (.if_icmp .eq 5, 3) := by decide +kernel
theorem dL_law_1394 : decode cL_law 1394 = .ok (.iconst 0, 1) := by decide +kernel
theorem dL_law_1395 : decode cL_law 1395 = .ok (.ireturn, 1) := by decide +kernel
theorem dL_law_1396 : decode cL_law 1396 = .ok (.iload 5, 2) := by decide +kernel
theorem dL_law_1398 : decode cL_law 1398 = .ok (.ifCond .ne 15, 3) := by decide +kernel
theorem dL_law_1401 : decode cL_law 1401 = .ok (.aload_n 3, 1) := by decide +kernel
theorem dL_law_1402 : decode cL_law 1402 = .ok (.iconst 0, 1) := by decide +kernel
theorem dL_law_1403 : decode cL_law 1403 = .ok (.laload, 1) := by decide +kernel
theorem dL_law_1404 : decode cL_law 1404 = .ok (.iload 6, 2) := by decide +kernel
theorem dL_law_1406 : decode cL_law 1406 = .ok (.i2l, 1) := by decide +kernel
theorem dL_law_1407 : decode cL_law 1407 = .ok (.lcmp, 1) := by decide +kernel
theorem dL_law_1408 : decode cL_law 1408 = .ok (.ifCond .eq 5, 3) := by decide +kernel
theorem dL_law_1411 : decode cL_law 1411 = .ok (.iconst 0, 1) := by decide +kernel
theorem dL_law_1412 : decode cL_law 1412 = .ok (.ireturn, 1) := by decide +kernel
theorem dL_law_1413 : decode cL_law 1413 = .ok (.goto 61, 3) := by decide +kernel
theorem dL_law_1416 : decode cL_law 1416 = .ok (.aload_n 1, 1) := by decide +kernel
theorem dL_law_1417 : decode cL_law 1417 = .ok (.aload_n 3, 1) := by decide +kernel
theorem dL_law_1418 : decode cL_law 1418 = .ok (.invokestatic 158, 3) := by decide +kernel
theorem dL_law_1421 : decode cL_law 1421 = .ok (.istore 5, 2) := by decide +kernel
theorem dL_law_1423 : decode cL_law 1423 = .ok (.aload_n 2, 1) := by decide +kernel
theorem dL_law_1424 : decode cL_law 1424 = .ok (.invokevirtual 161, 3) := by decide +kernel
theorem dL_law_1427 : decode cL_law 1427 = .ok (.istore 6, 2) := by decide +kernel
theorem dL_law_1429 : decode cL_law 1429 = .ok (.aload_n 2, 1) := by decide +kernel
theorem dL_law_1430 : decode cL_law 1430 = .ok (.invokevirtual 91, 3) := by decide +kernel
theorem dL_law_1433 : decode cL_law 1433 = .ok (.iload 5, 2) := by decide +kernel
theorem dL_law_1435 : decode cL_law 1435 = .ok (.if_icmp .eq 5, 3) := by decide +kernel
theorem dL_law_1438 : decode cL_law 1438 = .ok (.iconst 0, 1) := by decide +kernel
theorem dL_law_1439 : decode cL_law 1439 = .ok (.ireturn, 1) := by decide +kernel
theorem dL_law_1440 : decode cL_law 1440 = .ok (.iload 5, 2) := by decide +kernel
theorem dL_law_1442 : decode cL_law 1442 = .ok (.ifCond .ne 15, 3) := by decide +kernel
theorem dL_law_1445 : decode cL_law 1445 = .ok (.aload_n 3, 1) := by decide +kernel
theorem dL_law_1446 : decode cL_law 1446 = .ok (.iconst 0, 1) := by decide +kernel
theorem dL_law_1447 : decode cL_law 1447 = .ok (.laload, 1) := by decide +kernel
theorem dL_law_1448 : decode cL_law 1448 = .ok (.iload 6, 2) := by decide +kernel
theorem dL_law_1450 : decode cL_law 1450 = .ok (.i2l, 1) := by decide +kernel
theorem dL_law_1451 : decode cL_law 1451 = .ok (.lcmp, 1) := by decide +kernel
theorem dL_law_1452 : decode cL_law 1452 = .ok (.ifCond .eq 5, 3) := by decide +kernel
theorem dL_law_1455 : decode cL_law 1455 = .ok (.iconst 0, 1) := by decide +kernel
theorem dL_law_1456 : decode cL_law 1456 = .ok (.ireturn, 1) := by decide +kernel
theorem dL_law_1457 : decode cL_law 1457 = .ok (.goto 17, 3) := by decide +kernel
theorem dL_law_1460 : decode cL_law 1460 = .ok (.aload_n 1, 1) := by decide +kernel
theorem dL_law_1461 : decode cL_law 1461 = .ok (.invokevirtual 162, 3) := by decide +kernel
theorem dL_law_1464 : decode cL_law 1464 = .ok (.aload_n 2, 1) := by decide +kernel
theorem dL_law_1465 : decode cL_law 1465 = .ok (.invokevirtual 166, 3) := by decide +kernel
theorem dL_law_1468 : decode cL_law 1468 = .ok (.lcmp, 1) := by decide +kernel
theorem dL_law_1469 : decode cL_law 1469 = .ok (.ifCond .eq 5, 3) := by decide +kernel
theorem dL_law_1472 : decode cL_law 1472 = .ok (.iconst 0, 1) := by decide +kernel
theorem dL_law_1473 : decode cL_law 1473 = .ok (.ireturn, 1) := by decide +kernel
theorem dL_law_1474 : decode cL_law 1474 = .ok (.iinc 4 4, 3) := by decide +kernel
theorem dL_law_1477 : decode cL_law 1477 = .ok (.goto (-1454), 3) := by decide +kernel
theorem dL_law_1480 : decode cL_law 1480 = .ok (.iconst 1, 1) := by decide +kernel
theorem dL_law_1481 : decode cL_law 1481 = .ok (.ireturn, 1) := by decide +kernel
