theorem dX3_stripe_66 : decode cX3_stripe 66 = .ok (.iload_n 1, 1) := by decide +kernel
theorem dX3_stripe_67 : decode cX3_stripe 67 = .ok (.invokevirtual 170, 3) := by decide +kernel
theorem dX3_stripe_70 : decode cX3_stripe 70 = .ok (.ireturn, 1) := by decide +kernel
theorem dX3_stripe_71 : decode cX3_stripe 71 = .ok (.aload_n 0, 1) := by decide +kernel
theorem dX3_stripe_72 : decode cX3_stripe 72 = .ok (.getfield 10, 3) := by decide +kernel
theorem dX3_stripe_75 : decode cX3_stripe 75 = .ok (.bipush 100, 2) := by decide +kernel
theorem dX3_stripe_77 : decode cX3_stripe 77 = .ok (.iload_n 1, 1) := by decide +kernel
theorem dX3_stripe_78 : decode cX3_stripe 78 = .ok (.invokevirtual 173, 3) := by decide +kernel
theorem dX3_stripe_81 : decode cX3_stripe 81 = .ok (.ireturn, 1) := by decide +kernel
theorem dX3_stripe_82 : decode cX3_stripe 82 = .ok (.aload_n 0, 1) := by decide +kernel
theorem dX3_stripe_83 : decode cX3_stripe 83 = .ok (.getfield 10, 3) := by decide +kernel
theorem dX3_stripe_86 : decode cX3_stripe 86 = .ok (.iload_n 1, 1) := by decide +kernel
theorem dX3_stripe_87 : decode cX3_stripe 87 = .ok (.invokevirtual 176, 3) := by decide +kernel
theorem dX3_stripe_90 : decode cX3_stripe 90 = .ok (.ireturn, 1) := by decide +kernel
theorem dX3_stripe_91 : decode cX3_stripe 91 = .ok (.aload_n 0, 1) := by decide +kernel
theorem dX3_stripe_92 : decode cX3_stripe 92 = .ok (.getfield 10, 3) := by decide +kernel
theorem dX3_stripe_95 : decode cX3_stripe 95 = .ok (.iload_n 1, 1) := by decide +kernel
theorem dX3_stripe_96 : decode cX3_stripe 96 = .ok (.invokevirtual 179, 3) := by decide +kernel
theorem dX3_stripe_99 : decode cX3_stripe 99 = .ok (.ireturn, 1) := by decide +kernel
theorem dX3_count_0 : decode cX3_count 0 = .ok (.iload_n 1, 1) := by decide +kernel
theorem dX3_count_1 : decode cX3_count 1 = .ok (.iconst 0, 1) := by decide +kernel
theorem dX3_count_2 : decode cX3_count 2 = .ok (.bipush 7, 2) := by decide +kernel
theorem dX3_count_4 : decode cX3_count 4 = .ok (.invokestatic 32, 3) := by decide +kernel
theorem dX3_count_7 : decode cX3_count 7 = .ok (.aload_n 0, 1) := by decide +kernel
theorem dX3_count_8 : decode cX3_count 8 = .ok (.getfield 20, 3) := by decide +kernel
theorem dX3_count_11 : decode cX3_count 11 = .ok (.iload_n 1, 1) := by decide +kernel
theorem dX3_count_12 : decode cX3_count 12 = .ok (.invokevirtual 78, 3) := by decide +kernel
theorem dX3_count_15 : decode cX3_count 15 = .ok (.ireturn, 1) := by decide +kernel
theorem dX3_undo_0 : decode cX3_undo 0 = .ok (.aload_n 0, 1) := by decide +kernel
theorem dX3_undo_1 : decode cX3_undo 1 = .ok (.getfield 24, 3) := by decide +kernel
theorem dX3_undo_4 : decode cX3_undo 4 = .ok (.invokevirtual 182, 3) := by decide +kernel
theorem dX3_undo_7 : decode cX3_undo 7 = .ok (.ifCond .ne 13, 3) := by decide +kernel
theorem dX3_undo_10 : decode cX3_undo 10 = .ok (.new 40, 3) := by decide +kernel
theorem dX3_undo_13 : decode cX3_undo 13 = .ok (.dup, 1) := by decide +kernel
theorem dX3_undo_14 : decode cX3_undo 14 = .ok (.ldc 185, 2) := by decide +kernel
theorem dX3_undo_16 : decode cX3_undo 16 = .ok (.invokespecial 44, 3) := by decide +kernel
theorem dX3_undo_19 : decode cX3_undo 19 = .ok (.athrow, 1) := by decide +kernel
theorem dX3_undo_20 : decode cX3_undo 20 = .ok (.aload_n 0, 1) := by decide +kernel
theorem dX3_undo_21 : decode cX3_undo 21 = .ok (.getfield 24, 3) := by decide +kernel
theorem dX3_undo_24 : decode cX3_undo 24 = .ok (.aload_n 0, 1) := by decide +kernel
theorem dX3_undo_25 : decode cX3_undo 25 = .ok (.getfield 20, 3) := by decide +kernel
theorem dX3_undo_28 : decode cX3_undo 28 = .ok (.invokevirtual 187, 3) := by decide +kernel
theorem dX3_undo_31 : decode cX3_undo 31 = .ok (.aload_n 0, 1) := by decide +kernel
theorem dX3_undo_32 : decode cX3_undo 32 = .ok (.getfield 24, 3) := by decide +kernel
theorem dX3_undo_35 : decode cX3_undo 35 = .ok (.invokevirtual 182, 3) := by decide +kernel
theorem dX3_undo_38 : decode cX3_undo 38 = .ok (.ireturn, 1) := by decide +kernel
theorem dX3_digest_0 : decode cX3_digest 0 = .ok (.ldc2_w 190, 3) := by decide +kernel
theorem dX3_digest_3 : decode cX3_digest 3 = .ok (.aload_n 0, 1) := by decide +kernel
theorem dX3_digest_4 : decode cX3_digest 4 = .ok (.getfield 24, 3) := by decide +kernel
theorem dX3_digest_7 : decode cX3_digest 7 = .ok (.invokevirtual 182, 3) := by decide +kernel
theorem dX3_digest_10 : decode cX3_digest 10 = .ok (.i2l, 1) := by decide +kernel
theorem dX3_digest_11 : decode cX3_digest 11 = .ok (.invokestatic 192, 3) := by decide +kernel
theorem dX3_digest_14 : decode cX3_digest 14 = .ok (.lstore_n 1, 1) := by decide +kernel
theorem dX3_digest_15 : decode cX3_digest 15 = .ok (.lload_n 1, 1) := by decide +kernel
theorem dX3_digest_16 : decode cX3_digest 16 = .ok (.aload_n 0, 1) := by decide +kernel
theorem dX3_digest_17 : decode cX3_digest 17 = .ok (.getfield 20, 3) := by decide +kernel
theorem dX3_digest_20 : decode cX3_digest 20 = .ok (.bipush 8, 2) := by decide +kernel
theorem dX3_digest_22 : decode cX3_digest 22 = .ok (.invokevirtual 78, 3) := by decide +kernel
theorem dX3_digest_25 : decode cX3_digest 25 = .ok (.i2l, 1) := by decide +kernel
theorem dX3_digest_26 : decode cX3_digest 26 = .ok (.invokestatic 192, 3) := by decide +kernel
theorem dX3_digest_29 : decode cX3_digest 29 = .ok (.lstore_n 1, 1) := by decide +kernel
theorem dX3_digest_30 : decode cX3_digest 30 = .ok (.lload_n 1, 1) := by decide +kernel
theorem dX3_digest_31 : decode cX3_digest 31 = .ok (.aload_n 0, 1) := by decide +kernel
theorem dX3_digest_32 : decode cX3_digest 32 = .ok (.getfield 20, 3) := by decide +kernel
theorem dX3_digest_35 : decode cX3_digest 35 = .ok (.bipush 9, 2) := by decide +kernel
theorem dX3_digest_37 : decode cX3_digest 37 = .ok (.invokevirtual 78, 3) := by decide +kernel
theorem dX3_digest_40 : decode cX3_digest 40 = .ok (.i2l, 1) := by decide +kernel
theorem dX3_digest_41 : decode cX3_digest 41 = .ok (.invokestatic 192, 3) := by decide +kernel
theorem dX3_digest_44 : decode cX3_digest 44 = .ok (.lstore_n 1, 1) := by decide +kernel
theorem dX3_digest_45 : decode cX3_digest 45 = .ok (.lload_n 1, 1) := by decide +kernel
theorem dX3_digest_46 : decode cX3_digest 46 = .ok (.aload_n 0, 1) := by decide +kernel
theorem dX3_digest_47 : decode cX3_digest 47 = .ok (.getfield 20, 3) := by decide +kernel
theorem dX3_digest_50 : decode cX3_digest 50 = .ok (.bipush 10, 2) := by decide +kernel
theorem dX3_digest_52 : decode cX3_digest 52 = .ok (.invokevirtual 78, 3) := by decide +kernel
theorem dX3_digest_55 : decode cX3_digest 55 = .ok (.i2l, 1) := by decide +kernel
theorem dX3_digest_56 : decode cX3_digest 56 = .ok (.invokestatic 192, 3) := by decide +kernel
theorem dX3_digest_59 : decode cX3_digest 59 = .ok (.lstore_n 1, 1) := by decide +kernel
theorem dX3_digest_60 : decode cX3_digest 60 = .ok (.iconst 0, 1) := by decide +kernel
theorem dX3_digest_61 : decode cX3_digest 61 = .ok (.istore_n 3, 1) := by decide +kernel
theorem dX3_digest_62 : decode cX3_digest 62 = .ok (.iload_n 3, 1) := by decide +kernel
theorem dX3_digest_63 : decode cX3_digest 63 = .ok (.bipush 32, 2) := by decide +kernel
theorem dX3_digest_65 : decode cX3_digest 65 = .ok (.if_icmp .ge 16, 3) := by decide +kernel
theorem dX3_digest_68 : decode cX3_digest 68 = .ok (.aload_n 0, 1) := by decide +kernel
theorem dX3_digest_69 : decode cX3_digest 69 = .ok (.lload_n 1, 1) := by decide +kernel
theorem dX3_digest_70 : decode cX3_digest 70 = .ok (.iload_n 3, 1) := by decide +kernel
theorem dX3_digest_71 : decode cX3_digest 71 = .ok (.invokevirtual 196, 3) := by decide +kernel
theorem dX3_digest_74 : decode cX3_digest 74 = .ok (.lstore_n 1, 1) := by decide +kernel
theorem dX3_digest_75 : decode cX3_digest 75 = .ok (.iinc 3 1, 3) := by decide +kernel
theorem dX3_digest_78 : decode cX3_digest 78 = .ok (.goto (-16), 3) := by decide +kernel
theorem dX3_digest_81 : decode cX3_digest 81 = .ok (.iconst 0, 1) := by decide +kernel
theorem dX3_digest_82 : decode cX3_digest 82 = .ok (.istore_n 3, 1) := by decide +kernel
theorem dX3_digest_83 : decode cX3_digest 83 = .ok (.iload_n 3, 1) := by decide +kernel
theorem dX3_digest_84 : decode cX3_digest 84 = .ok (.iconst 4, 1) := by decide +kernel
theorem dX3_digest_85 : decode cX3_digest 85 = .ok (.if_icmp .ge 38, 3) := by decide +kernel
theorem dX3_digest_88 : decode cX3_digest 88 = .ok (.iconst 0, 1) := by decide +kernel
theorem dX3_digest_89 : decode cX3_digest 89 = .ok (.istore 4, 2) := by decide +kernel
theorem dX3_digest_91 : decode cX3_digest 91 = .ok (.iload 4, 2) := by decide +kernel
theorem dX3_digest_93 : decode cX3_digest 93 = .ok (.bipush 6, 2) := by decide +kernel
theorem dX3_digest_95 : decode cX3_digest 95 = .ok (.if_icmp .ge 22, 3) := by decide +kernel
theorem dX3_digest_98 : decode cX3_digest 98 = .ok (.lload_n 1, 1) := by decide +kernel
theorem dX3_digest_99 : decode cX3_digest 99 = .ok (.aload_n 0, 1) := by decide +kernel
theorem dX3_digest_100 : decode cX3_digest 100 = .ok (.iload_n 3, 1) := by decide +kernel
theorem dX3_digest_101 : decode cX3_digest 101 = .ok (.iload 4, 2) := by decide +kernel
theorem dX3_digest_103 : decode cX3_digest 103 = .ok (.invokevirtual 200, 3) := by decide +kernel
theorem dX3_digest_106 : decode cX3_digest 106 = .ok (.i2l, 1) := by decide +kernel
theorem dX3_digest_107 : decode cX3_digest 107 = .ok (.invokestatic 192, 3) := by decide +kernel
theorem dX3_digest_110 : decode cX3_digest 110 = .ok (.lstore_n 1, 1) := by decide +kernel
theorem dX3_digest_111 : decode cX3_digest 111 = .ok (.iinc 4 1, 3) := by decide +kernel
theorem dX3_digest_114 : decode cX3_digest 114 = .ok (.goto (-23), 3) := by decide +kernel
theorem dX3_digest_117 : decode cX3_digest 117 = .ok (.iinc 3 1, 3) := by decide +kernel
theorem dX3_digest_120 : decode cX3_digest 120 = .ok (.goto (-37), 3) := by decide +kernel
theorem dX3_digest_123 : decode cX3_digest 123 = .ok (.iconst 0, 1) := by decide +kernel
theorem dX3_digest_124 : decode cX3_digest 124 = .ok (.istore_n 3, 1) := by decide +kernel
theorem dX3_digest_125 : decode cX3_digest 125 = .ok (.iload_n 3, 1) := by decide +kernel
theorem dX3_digest_126 : decode cX3_digest 126 = .ok (.bipush 8, 2) := by decide +kernel
theorem dX3_digest_128 : decode cX3_digest 128 = .ok (.if_icmp .ge 23, 3) := by decide +kernel
theorem dX3_digest_131 : decode cX3_digest 131 = .ok (.lload_n 1, 1) := by decide +kernel
theorem dX3_digest_132 : decode cX3_digest 132 = .ok (.aload_n 0, 1) := by decide +kernel
theorem dX3_digest_133 : decode cX3_digest 133 = .ok (.getfield 20, 3) := by decide +kernel
theorem dX3_digest_136 : decode cX3_digest 136 = .ok (.iload_n 3, 1) := by decide +kernel
theorem dX3_digest_137 : decode cX3_digest 137 = .ok (.invokevirtual 78, 3) := by decide +kernel
theorem dX3_digest_140 : decode cX3_digest 140 = .ok (.i2l, 1) := by decide +kernel
theorem dX3_digest_141 : decode cX3_digest 141 = .ok (.invokestatic 192, 3) := by decide +kernel
theorem dX3_digest_144 : decode cX3_digest 144 = .ok (.lstore_n 1, 1) := by decide +kernel
theorem dX3_digest_145 : decode cX3_digest 145 = .ok (.iinc 3 1, 3) := by decide +kernel
theorem dX3_digest_148 : decode cX3_digest 148 = .ok (.goto (-23), 3) := by decide +kernel
theorem dX3_digest_151 : decode cX3_digest 151 = .ok (.lload_n 1, 1) := by decide +kernel
theorem dX3_digest_152 : decode cX3_digest 152 = .ok (.lreturn, 1) := by decide +kernel
theorem dX3_mixedWithMember_0 : decode cX3_mixedWithMember 0 = .ok (.lload_n 1, 1) := by decide +kernel
theorem dX3_mixedWithMember_1 : decode cX3_mixedWithMember 1 = .ok (.lstore 4, 2) := by decide +kernel
theorem dX3_mixedWithMember_3 : decode cX3_mixedWithMember 3 = .ok (.iconst 0, 1) := by decide +kernel
theorem dX3_mixedWithMember_4 : decode cX3_mixedWithMember 4 = .ok (.istore 6, 2) := by decide +kernel
theorem dX3_mixedWithMember_6 : decode cX3_mixedWithMember 6 = .ok (.iload 6, 2) := by decide +kernel
theorem dX3_mixedWithMember_8 : decode cX3_mixedWithMember 8 = .ok (.bipush 10, 2) := by decide +kernel
theorem dX3_mixedWithMember_10 : decode cX3_mixedWithMember 10 = .ok (.if_icmp .ge 27, 3) := by decide +kernel
theorem dX3_mixedWithMember_13 : decode cX3_mixedWithMember 13 = .ok (.lload 4, 2) := by decide +kernel
theorem dX3_mixedWithMember_15 : decode cX3_mixedWithMember 15 = .ok (.aload_n 0, 1) := by decide +kernel
theorem dX3_mixedWithMember_16 : decode cX3_mixedWithMember 16 = .ok (.getfield 20, 3) := by decide +kernel
theorem dX3_mixedWithMember_19 : decode cX3_mixedWithMember 19 = .ok (.iload_n 3, 1) := by decide +kernel
theorem dX3_mixedWithMember_20 : decode cX3_mixedWithMember 20 = .ok (.iload 6, 2) := by decide +kernel
theorem dX3_mixedWithMember_22 : decode cX3_mixedWithMember 22 = .ok (.invokevirtual 64, 3) := by decide +kernel
theorem dX3_mixedWithMember_25 : decode cX3_mixedWithMember 25 = .ok (.i2l, 1) := by decide +kernel
theorem dX3_mixedWithMember_26 : decode cX3_mixedWithMember 26 = .ok (.invokestatic 192, 3) := by decide +kernel
theorem dX3_mixedWithMember_29 : decode cX3_mixedWithMember 29 = .ok (.lstore 4, 2) := by decide +kernel
theorem dX3_mixedWithMember_31 : decode cX3_mixedWithMember 31 = .ok (.iinc 6 1, 3) := by decide +kernel
theorem dX3_mixedWithMember_34 : decode cX3_mixedWithMember 34 = .ok (.goto (-28), 3) := by decide +kernel
theorem dX3_mixedWithMember_37 : decode cX3_mixedWithMember 37 = .ok (.aload_n 0, 1) := by decide +kernel
theorem dX3_mixedWithMember_38 : decode cX3_mixedWithMember 38 = .ok (.iload_n 3, 1) := by decide +kernel
theorem dX3_mixedWithMember_39 : decode cX3_mixedWithMember 39 = .ok (.invokevirtual 36, 3) := by decide +kernel
theorem dX3_mixedWithMember_42 : decode cX3_mixedWithMember 42 = .ok (.ifCond .ne 6, 3) := by decide +kernel
theorem dX3_mixedWithMember_45 : decode cX3_mixedWithMember 45 = .ok (.lload 4, 2) := by decide +kernel
theorem dX3_mixedWithMember_47 : decode cX3_mixedWithMember 47 = .ok (.lreturn, 1) := by decide +kernel
theorem dX3_mixedWithMember_48 : decode cX3_mixedWithMember 48 = .ok (.lload 4, 2) := by decide +kernel
theorem dX3_mixedWithMember_50 : decode cX3_mixedWithMember 50 = .ok (.aload_n 0, 1) := by decide +kernel
theorem dX3_mixedWithMember_51 : decode cX3_mixedWithMember 51 = .ok (.iload_n 3, 1) := by decide +kernel
theorem dX3_mixedWithMember_52 : decode cX3_mixedWithMember 52 = .ok (.invokevirtual 203, 3) := by decide +kernel
theorem dX3_mixedWithMember_55 : decode cX3_mixedWithMember 55 = .ok (.i2l, 1) := by decide +kernel
theorem dX3_mixedWithMember_56 : decode cX3_mixedWithMember 56 = .ok (.invokestatic 192, 3) := by decide +kernel
theorem dX3_mixedWithMember_59 : decode cX3_mixedWithMember 59 = .ok (.lstore 4, 2) := by decide +kernel
theorem dX3_mixedWithMember_61 : decode cX3_mixedWithMember 61 = .ok (.lload 4, 2) := by decide +kernel
theorem dX3_mixedWithMember_63 : decode cX3_mixedWithMember 63 = .ok (.aload_n 0, 1) := by decide +kernel
theorem dX3_mixedWithMember_64 : decode cX3_mixedWithMember 64 = .ok (.getfield 10, 3) := by decide +kernel
theorem dX3_mixedWithMember_67 : decode cX3_mixedWithMember 67 = .ok (.iload_n 3, 1) := by decide +kernel
theorem dX3_mixedWithMember_68 : decode cX3_mixedWithMember 68 = .ok (.invokevirtual 164, 3) := by decide +kernel
theorem dX3_mixedWithMember_71 : decode cX3_mixedWithMember 71 = .ok (.i2l, 1) := by decide +kernel
theorem dX3_mixedWithMember_72 : decode cX3_mixedWithMember 72 = .ok (.invokestatic 192, 3) := by decide +kernel
theorem dX3_mixedWithMember_75 : decode cX3_mixedWithMember 75 = .ok (.lstore 4, 2) := by decide +kernel
theorem dX3_mixedWithMember_77 : decode cX3_mixedWithMember 77 = .ok (.iconst 0, 1) := by decide +kernel
theorem dX3_mixedWithMember_78 : decode cX3_mixedWithMember 78 = .ok (.istore 6, 2) := by decide +kernel
theorem dX3_mixedWithMember_80 : decode cX3_mixedWithMember 80 = .ok (.iload 6, 2) := by decide +kernel
theorem dX3_mixedWithMember_82 : decode cX3_mixedWithMember 82 = .ok (.iconst 4, 1) := by decide +kernel
theorem dX3_mixedWithMember_83 : decode cX3_mixedWithMember 83 = .ok (.if_icmp .ge 88, 3) := by decide +kernel
theorem dX3_mixedWithMember_86 : decode cX3_mixedWithMember 86 = .ok (.lload 4, 2) := by decide +kernel
theorem dX3_mixedWithMember_88 : decode cX3_mixedWithMember 88 = .ok (.aload_n 0, 1) := by decide +kernel
theorem dX3_mixedWithMember_89 : decode cX3_mixedWithMember 89 = .ok (.getfield 20, 3) := by decide +kernel
theorem dX3_mixedWithMember_92 : decode cX3_mixedWithMember 92 = .ok (.iload_n 3, 1) := by decide +kernel
theorem dX3_mixedWithMember_93 : decode cX3_mixedWithMember 93 = .ok (.iload 6, 2) := by decide +kernel
theorem dX3_mixedWithMember_95 : decode cX3_mixedWithMember 95 = .ok (.invokevirtual 103, 3) := by decide +kernel
theorem dX3_mixedWithMember_98 : decode cX3_mixedWithMember 98 = .ok (.i2l, 1) := by decide +kernel
theorem dX3_mixedWithMember_99 : decode cX3_mixedWithMember 99 = .ok (.invokestatic 192, 3) := by decide +kernel
theorem dX3_mixedWithMember_102 : decode cX3_mixedWithMember 102 = .ok (.lstore 4, 2) := by decide +kernel
theorem dX3_mixedWithMember_104 : decode cX3_mixedWithMember 104 = .ok (.lload 4, 2) := by decide +kernel
theorem dX3_mixedWithMember_106 : decode cX3_mixedWithMember 106 = .ok (.aload_n 0, 1) := by decide +kernel
theorem dX3_mixedWithMember_107 : decode cX3_mixedWithMember 107 = .ok (.getfield 10, 3) := by decide +kernel
theorem dX3_mixedWithMember_110 : decode cX3_mixedWithMember 110 = .ok (.iload_n 3, 1) := by decide +kernel
theorem dX3_mixedWithMember_111 : decode cX3_mixedWithMember 111 = .ok (.iload 6, 2) := by decide +kernel
theorem dX3_mixedWithMember_113 : decode cX3_mixedWithMember 113 = .ok (.invokevirtual 127, 3) := by decide +kernel
theorem dX3_mixedWithMember_116 : decode cX3_mixedWithMember 116 = .ok (.i2l, 1) := by decide +kernel
theorem dX3_mixedWithMember_117 : decode cX3_mixedWithMember 117 = .ok (.invokestatic 192, 3) := by decide +kernel
theorem dX3_mixedWithMember_120 : decode cX3_mixedWithMember 120 = .ok (.lstore 4, 2) := by decide +kernel
theorem dX3_mixedWithMember_122 : decode cX3_mixedWithMember 122 = .ok (.lload 4, 2) := by decide +kernel
theorem dX3_mixedWithMember_124 : decode cX3_mixedWithMember 124 = .ok (.aload_n 0, 1) := by decide +kernel
theorem dX3_mixedWithMember_125 : decode cX3_mixedWithMember 125 = .ok (.getfield 10, 3) := by decide +kernel
theorem dX3_mixedWithMember_128 : decode cX3_mixedWithMember 128 = .ok (.iload_n 3, 1) := by decide +kernel
theorem dX3_mixedWithMember_129 : decode cX3_mixedWithMember 129 = .ok (.iload 6, 2) := by decide +kernel
theorem dX3_mixedWithMember_131 : decode cX3_mixedWithMember 131 = .ok (.invokevirtual 145, 3) := by decide +kernel
theorem dX3_mixedWithMember_134 : decode cX3_mixedWithMember 134 = .ok (.i2l, 1) := by decide +kernel
theorem dX3_mixedWithMember_135 : decode cX3_mixedWithMember 135 = .ok (.invokestatic 192, 3) := by decide +kernel
theorem dX3_mixedWithMember_138 : decode cX3_mixedWithMember 138 = .ok (.lstore 4, 2) := by decide +kernel
theorem dX3_mixedWithMember_140 : decode cX3_mixedWithMember 140 = .ok (.lload 4, 2) := by decide +kernel
theorem dX3_mixedWithMember_142 : decode cX3_mixedWithMember 142 = .ok (.aload_n 0, 1) := by decide +kernel
theorem dX3_mixedWithMember_143 : decode cX3_mixedWithMember 143 = .ok (.getfield 10, 3) := by decide +kernel
theorem dX3_mixedWithMember_146 : decode cX3_mixedWithMember 146 = .ok (.iload_n 3, 1) := by decide +kernel
theorem dX3_mixedWithMember_147 : decode cX3_mixedWithMember 147 = .ok (.iload 6, 2) := by decide +kernel
theorem dX3_mixedWithMember_149 : decode cX3_mixedWithMember 149 = .ok (.invokevirtual 148, 3) := by decide +kernel
theorem dX3_mixedWithMember_152 : decode cX3_mixedWithMember 152 = .ok (.ifCond .eq 7, 3) := by decide +kernel
theorem dX3_mixedWithMember_155 : decode cX3_mixedWithMember 155 = .ok (.lconst 1, 1) := by decide +kernel
theorem dX3_mixedWithMember_156 : decode cX3_mixedWithMember 156 = .ok (.goto 4, 3) := by decide +kernel
theorem dX3_mixedWithMember_159 : decode cX3_mixedWithMember 159 = .ok (.lconst 0, 1) := by decide +kernel
theorem dX3_mixedWithMember_160 : decode cX3_mixedWithMember 160 = .ok (.invokestatic 192, 3) := by decide +kernel
theorem dX3_mixedWithMember_163 : decode cX3_mixedWithMember 163 = .ok (.lstore 4, 2) := by decide +kernel
theorem dX3_mixedWithMember_165 : decode cX3_mixedWithMember 165 = .ok (.iinc 6 1, 3) := by decide +kernel
theorem dX3_mixedWithMember_168 : decode cX3_mixedWithMember 168 = .ok (.goto (-88), 3) := by decide +kernel
theorem dX3_mixedWithMember_171 : decode cX3_mixedWithMember 171 = .ok (.lload 4, 2) := by decide +kernel
theorem dX3_mixedWithMember_173 : decode cX3_mixedWithMember 173 = .ok (.lreturn, 1) := by decide +kernel
theorem dX3_mixed_0 : decode cX3_mixed 0 = .ok (.ldc2_w 206, 3) := by decide +kernel
theorem dX3_mixed_3 : decode cX3_mixed 3 = .ok (.lload_n 0, 1) := by decide +kernel
theorem dX3_mixed_4 : decode cX3_mixed 4 = .ok (.lmul, 1) := by decide +kernel
theorem dX3_mixed_5 : decode cX3_mixed 5 = .ok (.lload_n 2, 1) := by decide +kernel
theorem dX3_mixed_6 : decode cX3_mixed 6 = .ok (.ladd, 1) := by decide +kernel
theorem dX3_mixed_7 : decode cX3_mixed 7 = .ok (.lreturn, 1) := by decide +kernel
theorem dX3_isJoined_0 : decode cX3_isJoined 0 = .ok (.aload_n 0, 1) := by decide +kernel
theorem dX3_isJoined_1 : decode cX3_isJoined 1 = .ok (.getfield 20, 3) := by decide +kernel
theorem dX3_isJoined_4 : decode cX3_isJoined 4 = .ok (.iload_n 1, 1) := by decide +kernel
theorem dX3_isJoined_5 : decode cX3_isJoined 5 = .ok (.iconst 0, 1) := by decide +kernel
theorem dX3_isJoined_6 : decode cX3_isJoined 6 = .ok (.invokevirtual 64, 3) := by decide +kernel
theorem dX3_isJoined_9 : decode cX3_isJoined 9 = .ok (.iconst 1, 1) := by decide +kernel
theorem dX3_isJoined_10 : decode cX3_isJoined 10 = .ok (.if_icmp .ne 7, 3) := by decide +kernel
theorem dX3_isJoined_13 : decode cX3_isJoined 13 = .ok (.iconst 1, 1) := by decide +kernel
theorem dX3_isJoined_14 : decode cX3_isJoined 14 = .ok (.goto 4, 3) := by decide +kernel
theorem dX3_isJoined_17 : decode cX3_isJoined 17 = .ok (.iconst 0, 1) := by decide +kernel
theorem dX3_isJoined_18 : decode cX3_isJoined 18 = .ok (.ireturn, 1) := by decide +kernel
theorem dX3_hasFailed_0 : decode cX3_hasFailed 0 = .ok (.aload_n 0, 1) := by decide +kernel
theorem dX3_hasFailed_1 : decode cX3_hasFailed 1 = .ok (.getfield 20, 3) := by decide +kernel
theorem dX3_hasFailed_4 : decode cX3_hasFailed 4 = .ok (.iload_n 1, 1) := by decide +kernel
theorem dX3_hasFailed_5 : decode cX3_hasFailed 5 = .ok (.iconst 3, 1) := by decide +kernel
theorem dX3_hasFailed_6 : decode cX3_hasFailed 6 = .ok (.invokevirtual 64, 3) := by decide +kernel
theorem dX3_hasFailed_9 : decode cX3_hasFailed 9 = .ok (.iconst 1, 1) := by decide +kernel
theorem dX3_hasFailed_10 : decode cX3_hasFailed 10 = .ok (.if_icmp .ne 7, 3) := by decide +kernel
theorem dX3_hasFailed_13 : decode cX3_hasFailed 13 = .ok (.iconst 1, 1) := by decide +kernel
theorem dX3_hasFailed_14 : decode cX3_hasFailed 14 = .ok (.goto 4, 3) := by decide +kernel
theorem dX3_hasFailed_17 : decode cX3_hasFailed 17 = .ok (.iconst 0, 1) := by decide +kernel
theorem dX3_hasFailed_18 : decode cX3_hasFailed 18 = .ok (.ireturn, 1) := by decide +kernel
theorem dX3_connectedStripes_0 : decode cX3_connectedStripes 0 = .ok (.iconst 0, 1) := by decide +kernel
theorem dX3_connectedStripes_1 : decode cX3_connectedStripes 1 = .ok (.istore_n 2, 1) := by decide +kernel
theorem dX3_connectedStripes_2 : decode cX3_connectedStripes 2 = .ok (.iconst 0, 1) := by decide +kernel
theorem dX3_connectedStripes_3 : decode cX3_connectedStripes 3 = .ok (.istore_n 3, 1) := by decide +kernel
theorem dX3_connectedStripes_4 : decode cX3_connectedStripes 4 = .ok (.iload_n 3, 1) := by decide +kernel
theorem dX3_connectedStripes_5 : decode cX3_connectedStripes 5 = .ok (.iconst 4, 1) := by decide +kernel
theorem dX3_connectedStripes_6 : decode cX3_connectedStripes 6 = .ok (.if_icmp .ge 25, 3) := by decide +kernel
theorem dX3_connectedStripes_9 : decode cX3_connectedStripes 9 = .ok (.aload_n 0, 1) := by decide +kernel
theorem dX3_connectedStripes_10 : decode cX3_connectedStripes 10 = .ok (.getfield 10, 3) := by decide +kernel
theorem dX3_connectedStripes_13 : decode cX3_connectedStripes 13 = .ok (.iload_n 1, 1) := by decide +kernel
theorem dX3_connectedStripes_14 : decode cX3_connectedStripes 14 = .ok (.iload_n 3, 1) := by decide +kernel
theorem dX3_connectedStripes_15 : decode cX3_connectedStripes 15 = .ok (.invokevirtual 127, 3) := by decide +kernel
theorem dX3_connectedStripes_18 : decode cX3_connectedStripes 18 = .ok (.iconst (-1), 1) := by decide +kernel
theorem dX3_connectedStripes_19 : decode cX3_connectedStripes 19 = .ok (.if_icmp .eq 6, 3) := by decide +kernel
theorem dX3_connectedStripes_22 : decode cX3_connectedStripes 22 = .ok (.iinc 2 1, 3) := by decide +kernel
theorem dX3_connectedStripes_25 : decode cX3_connectedStripes 25 = .ok (.iinc 3 1, 3) := by decide +kernel
theorem dX3_connectedStripes_28 : decode cX3_connectedStripes 28 = .ok (.goto (-24), 3) := by decide +kernel
theorem dX3_connectedStripes_31 : decode cX3_connectedStripes 31 = .ok (.iload_n 2, 1) := by decide +kernel
theorem dX3_connectedStripes_32 : decode cX3_connectedStripes 32 = .ok (.ireturn, 1) := by decide +kernel
theorem dX3_noticeFailures_0 : decode cX3_noticeFailures 0 = .ok (.iconst 0, 1) := by decide +kernel
theorem dX3_noticeFailures_1 : decode cX3_noticeFailures 1 = .ok (.istore_n 1, 1) := by decide +kernel
theorem dX3_noticeFailures_2 : decode cX3_noticeFailures 2 = .ok (.iload_n 1, 1) := by decide +kernel
theorem dX3_noticeFailures_3 : decode cX3_noticeFailures 3 = .ok (.bipush 32, 2) := by decide +kernel
theorem dX3_noticeFailures_5 : decode cX3_noticeFailures 5 = .ok (.if_icmp .ge 62, 3) := by decide +kernel
theorem dX3_noticeFailures_8 : decode cX3_noticeFailures 8 = .ok (.aload_n 0, 1) := by decide +kernel
theorem dX3_noticeFailures_9 : decode cX3_noticeFailures 9 = .ok (.iload_n 1, 1) := by decide +kernel
theorem dX3_noticeFailures_10 : decode cX3_noticeFailures 10 = .ok (.invokevirtual 73, 3) := by decide +kernel
theorem dX3_noticeFailures_13 : decode cX3_noticeFailures 13 = .ok (.ifCond .eq 48, 3) := by decide +kernel
theorem dX3_noticeFailures_16 : decode cX3_noticeFailures 16 = .ok (.aload_n 0, 1) := by decide +kernel
theorem dX3_noticeFailures_17 : decode cX3_noticeFailures 17 = .ok (.getfield 20, 3) := by decide +kernel
theorem dX3_noticeFailures_20 : decode cX3_noticeFailures 20 = .ok (.iload_n 1, 1) := by decide +kernel
theorem dX3_noticeFailures_21 : decode cX3_noticeFailures 21 = .ok (.iconst 4, 1) := by decide +kernel
theorem dX3_noticeFailures_22 : decode cX3_noticeFailures 22 = .ok (.invokevirtual 64, 3) := by decide +kernel
theorem dX3_noticeFailures_25 : decode cX3_noticeFailures 25 = .ok (.aload_n 0, 1) := by decide +kernel
theorem dX3_noticeFailures_26 : decode cX3_noticeFailures 26 = .ok (.getfield 20, 3) := by decide +kernel
theorem dX3_noticeFailures_29 : decode cX3_noticeFailures 29 = .ok (.bipush 8, 2) := by decide +kernel
theorem dX3_noticeFailures_31 : decode cX3_noticeFailures 31 = .ok (.invokevirtual 78, 3) := by decide +kernel
theorem dX3_noticeFailures_34 : decode cX3_noticeFailures 34 = .ok (.if_icmp .ne 27, 3) := by decide +kernel
theorem dX3_noticeFailures_37 : decode cX3_noticeFailures 37 = .ok (.aload_n 0, 1) := by decide +kernel
theorem dX3_noticeFailures_38 : decode cX3_noticeFailures 38 = .ok (.getfield 10, 3) := by decide +kernel
theorem dX3_noticeFailures_41 : decode cX3_noticeFailures 41 = .ok (.iload_n 1, 1) := by decide +kernel
theorem dX3_noticeFailures_42 : decode cX3_noticeFailures 42 = .ok (.invokevirtual 70, 3) := by decide +kernel
theorem dX3_noticeFailures_45 : decode cX3_noticeFailures 45 = .ok (.aload_n 0, 1) := by decide +kernel
theorem dX3_noticeFailures_46 : decode cX3_noticeFailures 46 = .ok (.getfield 10, 3) := by decide +kernel
theorem dX3_noticeFailures_49 : decode cX3_noticeFailures 49 = .ok (.invokevirtual 54, 3) := by decide +kernel
theorem dX3_noticeFailures_52 : decode cX3_noticeFailures 52 = .ok (.aload_n 0, 1) := by decide +kernel
theorem dX3_noticeFailures_53 : decode cX3_noticeFailures 53 = .ok (.getfield 20, 3) := by decide +kernel
theorem dX3_noticeFailures_56 : decode cX3_noticeFailures 56 = .ok (.iconst 5, 1) := by decide +kernel
theorem dX3_noticeFailures_57 : decode cX3_noticeFailures 57 = .ok (.iconst 1, 1) := by decide +kernel
theorem dX3_noticeFailures_58 : decode cX3_noticeFailures 58 = .ok (.invokevirtual 106, 3) := by decide +kernel
theorem dX3_noticeFailures_61 : decode cX3_noticeFailures 61 = .ok (.iinc 1 1, 3) := by decide +kernel
theorem dX3_noticeFailures_64 : decode cX3_noticeFailures 64 = .ok (.goto (-62), 3) := by decide +kernel
theorem dX3_noticeFailures_67 : decode cX3_noticeFailures 67 = .ok (.return_, 1) := by decide +kernel
theorem dX3_quietTicks_0 : decode cX3_quietTicks 0 = .ok (.sipush 200, 3) := by decide +kernel
theorem dX3_quietTicks_3 : decode cX3_quietTicks 3 = .ok (.istore_n 1, 1) := by decide +kernel
theorem dX3_quietTicks_4 : decode cX3_quietTicks 4 = .ok (.iconst 0, 1) := by decide +kernel
theorem dX3_quietTicks_5 : decode cX3_quietTicks 5 = .ok (.istore_n 2, 1) := by decide +kernel
theorem dX3_quietTicks_6 : decode cX3_quietTicks 6 = .ok (.iload_n 2, 1) := by decide +kernel
theorem dX3_quietTicks_7 : decode cX3_quietTicks 7 = .ok (.bipush 32, 2) := by decide +kernel
theorem dX3_quietTicks_9 : decode cX3_quietTicks 9 = .ok (.if_icmp .ge 43, 3) := by decide +kernel
theorem dX3_quietTicks_12 : decode cX3_quietTicks 12 = .ok (.aload_n 0, 1) := by decide +kernel
theorem dX3_quietTicks_13 : decode cX3_quietTicks 13 = .ok (.iload_n 2, 1) := by decide +kernel
theorem dX3_quietTicks_14 : decode cX3_quietTicks 14 = .ok (.invokevirtual 73, 3) := by decide +kernel
theorem dX3_quietTicks_17 : decode cX3_quietTicks 17 = .ok (.ifCond .eq 29, 3) := by decide +kernel
theorem dX3_quietTicks_20 : decode cX3_quietTicks 20 = .ok (.iload_n 1, 1) := by decide +kernel
theorem dX3_quietTicks_21 : decode cX3_quietTicks 21 = .ok (.aload_n 0, 1) := by decide +kernel
theorem dX3_quietTicks_22 : decode cX3_quietTicks 22 = .ok (.getfield 20, 3) := by decide +kernel
theorem dX3_quietTicks_25 : decode cX3_quietTicks 25 = .ok (.iload_n 2, 1) := by decide +kernel
theorem dX3_quietTicks_26 : decode cX3_quietTicks 26 = .ok (.iconst 4, 1) := by decide +kernel
theorem dX3_quietTicks_27 : decode cX3_quietTicks 27 = .ok (.invokevirtual 64, 3) := by decide +kernel
theorem dX3_quietTicks_30 : decode cX3_quietTicks 30 = .ok (.aload_n 0, 1) := by decide +kernel
theorem dX3_quietTicks_31 : decode cX3_quietTicks 31 = .ok (.getfield 20, 3) := by decide +kernel
theorem dX3_quietTicks_34 : decode cX3_quietTicks 34 = .ok (.bipush 8, 2) := by decide +kernel
theorem dX3_quietTicks_36 : decode cX3_quietTicks 36 = .ok (.invokevirtual 78, 3) := by decide +kernel
theorem dX3_quietTicks_39 : decode cX3_quietTicks 39 = .ok (.isub, 1) := by decide +kernel
theorem dX3_quietTicks_40 : decode cX3_quietTicks 40 = .ok (.iconst 1, 1) := by decide +kernel
theorem dX3_quietTicks_41 : decode cX3_quietTicks 41 = .ok (.isub, 1) := by decide +kernel
theorem dX3_quietTicks_42 : decode cX3_quietTicks 42 = .ok (.invokestatic 116, 3) := by decide +kernel
theorem dX3_quietTicks_45 : decode cX3_quietTicks 45 = .ok (.istore_n 1, 1) := by decide +kernel
theorem dX3_quietTicks_46 : decode cX3_quietTicks 46 = .ok (.iinc 2 1, 3) := by decide +kernel
theorem dX3_quietTicks_49 : decode cX3_quietTicks 49 = .ok (.goto (-43), 3) := by decide +kernel
theorem dX3_quietTicks_52 : decode cX3_quietTicks 52 = .ok (.iload_n 1, 1) := by decide +kernel
theorem dX3_quietTicks_53 : decode cX3_quietTicks 53 = .ok (.ireturn, 1) := by decide +kernel
theorem dX3_sendBlocks_0 : decode cX3_sendBlocks 0 = .ok (.iconst 0, 1) := by decide +kernel
theorem dX3_sendBlocks_1 : decode cX3_sendBlocks 1 = .ok (.istore_n 2, 1) := by decide +kernel
theorem dX3_sendBlocks_2 : decode cX3_sendBlocks 2 = .ok (.aload_n 0, 1) := by decide +kernel
theorem dX3_sendBlocks_3 : decode cX3_sendBlocks 3 = .ok (.getfield 20, 3) := by decide +kernel
theorem dX3_sendBlocks_6 : decode cX3_sendBlocks 6 = .ok (.iconst 1, 1) := by decide +kernel
theorem dX3_sendBlocks_7 : decode cX3_sendBlocks 7 = .ok (.iload_n 1, 1) := by decide +kernel
theorem dX3_sendBlocks_8 : decode cX3_sendBlocks 8 = .ok (.invokevirtual 106, 3) := by decide +kernel
theorem dX3_sendBlocks_11 : decode cX3_sendBlocks 11 = .ok (.iconst 0, 1) := by decide +kernel
theorem dX3_sendBlocks_12 : decode cX3_sendBlocks 12 = .ok (.istore_n 3, 1) := by decide +kernel
theorem dX3_sendBlocks_13 : decode cX3_sendBlocks 13 = .ok (.iload_n 3, 1) := by decide +kernel
theorem dX3_sendBlocks_14 : decode cX3_sendBlocks 14 = .ok (.bipush 32, 2) := by decide +kernel
theorem dX3_sendBlocks_16 : decode cX3_sendBlocks 16 = .ok (.if_icmp .ge 26, 3) := by decide +kernel
theorem dX3_sendBlocks_19 : decode cX3_sendBlocks 19 = .ok (.aload_n 0, 1) := by decide +kernel
theorem dX3_sendBlocks_20 : decode cX3_sendBlocks 20 = .ok (.iload_n 3, 1) := by decide +kernel
theorem dX3_sendBlocks_21 : decode cX3_sendBlocks 21 = .ok (.invokevirtual 36, 3) := by decide +kernel
theorem dX3_sendBlocks_24 : decode cX3_sendBlocks 24 = .ok (.ifCond .eq 12, 3) := by decide +kernel
theorem dX3_sendBlocks_27 : decode cX3_sendBlocks 27 = .ok (.iload_n 2, 1) := by decide +kernel
theorem dX3_sendBlocks_28 : decode cX3_sendBlocks 28 = .ok (.aload_n 0, 1) := by decide +kernel
theorem dX3_sendBlocks_29 : decode cX3_sendBlocks 29 = .ok (.iload_n 3, 1) := by decide +kernel
theorem dX3_sendBlocks_30 : decode cX3_sendBlocks 30 = .ok (.iload_n 1, 1) := by decide +kernel
theorem dX3_sendBlocks_31 : decode cX3_sendBlocks 31 = .ok (.invokevirtual 208, 3) := by decide +kernel
theorem dX3_sendBlocks_34 : decode cX3_sendBlocks 34 = .ok (.iadd, 1) := by decide +kernel
theorem dX3_sendBlocks_35 : decode cX3_sendBlocks 35 = .ok (.istore_n 2, 1) := by decide +kernel
theorem dX3_sendBlocks_36 : decode cX3_sendBlocks 36 = .ok (.iinc 3 1, 3) := by decide +kernel
theorem dX3_sendBlocks_39 : decode cX3_sendBlocks 39 = .ok (.goto (-26), 3) := by decide +kernel
theorem dX3_sendBlocks_42 : decode cX3_sendBlocks 42 = .ok (.iload_n 2, 1) := by decide +kernel
theorem dX3_sendBlocks_43 : decode cX3_sendBlocks 43 = .ok (.ireturn, 1) := by decide +kernel
theorem dX3_receiveBlocks_0 : decode cX3_receiveBlocks 0 = .ok (.aload_n 0, 1) := by decide +kernel
theorem dX3_receiveBlocks_1 : decode cX3_receiveBlocks 1 = .ok (.getfield 10, 3) := by decide +kernel
theorem dX3_receiveBlocks_4 : decode cX3_receiveBlocks 4 = .ok (.iload_n 1, 1) := by decide +kernel
theorem dX3_receiveBlocks_5 : decode cX3_receiveBlocks 5 = .ok (.invokevirtual 164, 3) := by decide +kernel
theorem dX3_receiveBlocks_8 : decode cX3_receiveBlocks 8 = .ok (.istore_n 3, 1) := by decide +kernel
theorem dX3_receiveBlocks_9 : decode cX3_receiveBlocks 9 = .ok (.aload_n 0, 1) := by decide +kernel
theorem dX3_receiveBlocks_10 : decode cX3_receiveBlocks 10 = .ok (.getfield 20, 3) := by decide +kernel
theorem dX3_receiveBlocks_13 : decode cX3_receiveBlocks 13 = .ok (.iload_n 1, 1) := by decide +kernel
theorem dX3_receiveBlocks_14 : decode cX3_receiveBlocks 14 = .ok (.bipush 7, 2) := by decide +kernel
theorem dX3_receiveBlocks_16 : decode cX3_receiveBlocks 16 = .ok (.iload_n 3, 1) := by decide +kernel
theorem dX3_receiveBlocks_17 : decode cX3_receiveBlocks 17 = .ok (.iload_n 2, 1) := by decide +kernel
theorem dX3_receiveBlocks_18 : decode cX3_receiveBlocks 18 = .ok (.imul, 1) := by decide +kernel
theorem dX3_receiveBlocks_19 : decode cX3_receiveBlocks 19 = .ok (.invokevirtual 211, 3) := by decide +kernel
theorem dX3_receiveBlocks_22 : decode cX3_receiveBlocks 22 = .ok (.aload_n 0, 1) := by decide +kernel
theorem dX3_receiveBlocks_23 : decode cX3_receiveBlocks 23 = .ok (.getfield 20, 3) := by decide +kernel
theorem dX3_receiveBlocks_26 : decode cX3_receiveBlocks 26 = .ok (.iconst 2, 1) := by decide +kernel
theorem dX3_receiveBlocks_27 : decode cX3_receiveBlocks 27 = .ok (.iload_n 3, 1) := by decide +kernel
theorem dX3_receiveBlocks_28 : decode cX3_receiveBlocks 28 = .ok (.iload_n 2, 1) := by decide +kernel
theorem dX3_receiveBlocks_29 : decode cX3_receiveBlocks 29 = .ok (.imul, 1) := by decide +kernel
theorem dX3_receiveBlocks_30 : decode cX3_receiveBlocks 30 = .ok (.invokevirtual 106, 3) := by decide +kernel
theorem dX3_receiveBlocks_33 : decode cX3_receiveBlocks 33 = .ok (.iload_n 3, 1) := by decide +kernel
theorem dX3_receiveBlocks_34 : decode cX3_receiveBlocks 34 = .ok (.iconst 3, 1) := by decide +kernel
theorem dX3_receiveBlocks_35 : decode cX3_receiveBlocks 35 = .ok (.if_icmp .lt 25, 3) := by decide +kernel
theorem dX3_receiveBlocks_38 : decode cX3_receiveBlocks 38 = .ok (.aload_n 0, 1) := by decide +kernel
theorem dX3_receiveBlocks_39 : decode cX3_receiveBlocks 39 = .ok (.getfield 20, 3) := by decide +kernel
theorem dX3_receiveBlocks_42 : decode cX3_receiveBlocks 42 = .ok (.iload_n 1, 1) := by decide +kernel
theorem dX3_receiveBlocks_43 : decode cX3_receiveBlocks 43 = .ok (.bipush 8, 2) := by decide +kernel
theorem dX3_receiveBlocks_45 : decode cX3_receiveBlocks 45 = .ok (.iload_n 2, 1) := by decide +kernel
theorem dX3_receiveBlocks_46 : decode cX3_receiveBlocks 46 = .ok (.invokevirtual 211, 3) := by decide +kernel
theorem dX3_receiveBlocks_49 : decode cX3_receiveBlocks 49 = .ok (.aload_n 0, 1) := by decide +kernel
theorem dX3_receiveBlocks_50 : decode cX3_receiveBlocks 50 = .ok (.getfield 20, 3) := by decide +kernel
theorem dX3_receiveBlocks_53 : decode cX3_receiveBlocks 53 = .ok (.iconst 3, 1) := by decide +kernel
theorem dX3_receiveBlocks_54 : decode cX3_receiveBlocks 54 = .ok (.iload_n 2, 1) := by decide +kernel
theorem dX3_receiveBlocks_55 : decode cX3_receiveBlocks 55 = .ok (.invokevirtual 106, 3) := by decide +kernel
theorem dX3_receiveBlocks_58 : decode cX3_receiveBlocks 58 = .ok (.iconst 0, 1) := by decide +kernel
theorem dX3_receiveBlocks_59 : decode cX3_receiveBlocks 59 = .ok (.ireturn, 1) := by decide +kernel
theorem dX3_receiveBlocks_60 : decode cX3_receiveBlocks 60 = .ok (.aload_n 0, 1) := by decide +kernel
theorem dX3_receiveBlocks_61 : decode cX3_receiveBlocks 61 = .ok (.iload_n 1, 1) := by decide +kernel
theorem dX3_receiveBlocks_62 : decode cX3_receiveBlocks 62 = .ok (.invokevirtual 73, 3) := by decide +kernel
theorem dX3_receiveBlocks_65 : decode cX3_receiveBlocks 65 = .ok (.ifCond .eq 5, 3) := by decide +kernel
theorem dX3_receiveBlocks_68 : decode cX3_receiveBlocks 68 = .ok (.iconst 0, 1) := by decide +kernel
theorem dX3_receiveBlocks_69 : decode cX3_receiveBlocks 69 = .ok (.ireturn, 1) := by decide +kernel
theorem dX3_receiveBlocks_70 : decode cX3_receiveBlocks 70 = .ok (.aload_n 0, 1) := by decide +kernel
theorem dX3_receiveBlocks_71 : decode cX3_receiveBlocks 71 = .ok (.getfield 20, 3) := by decide +kernel
theorem dX3_receiveBlocks_74 : decode cX3_receiveBlocks 74 = .ok (.iload_n 1, 1) := by decide +kernel
theorem dX3_receiveBlocks_75 : decode cX3_receiveBlocks 75 = .ok (.bipush 9, 2) := by decide +kernel
theorem dX3_receiveBlocks_77 : decode cX3_receiveBlocks 77 = .ok (.iload_n 2, 1) := by decide +kernel
theorem dX3_receiveBlocks_78 : decode cX3_receiveBlocks 78 = .ok (.invokevirtual 211, 3) := by decide +kernel
theorem dX3_receiveBlocks_81 : decode cX3_receiveBlocks 81 = .ok (.aload_n 0, 1) := by decide +kernel
theorem dX3_receiveBlocks_82 : decode cX3_receiveBlocks 82 = .ok (.getfield 20, 3) := by decide +kernel
theorem dX3_receiveBlocks_85 : decode cX3_receiveBlocks 85 = .ok (.iconst 4, 1) := by decide +kernel
theorem dX3_receiveBlocks_86 : decode cX3_receiveBlocks 86 = .ok (.iload_n 2, 1) := by decide +kernel
theorem dX3_receiveBlocks_87 : decode cX3_receiveBlocks 87 = .ok (.invokevirtual 106, 3) := by decide +kernel
theorem dX3_receiveBlocks_90 : decode cX3_receiveBlocks 90 = .ok (.iload_n 2, 1) := by decide +kernel
theorem dX3_receiveBlocks_91 : decode cX3_receiveBlocks 91 = .ok (.ireturn, 1) := by decide +kernel
theorem dX3_requireMember_0 : decode cX3_requireMember 0 = .ok (.iload_n 0, 1) := by decide +kernel
theorem dX3_requireMember_1 : decode cX3_requireMember 1 = .ok (.ifCond .lt 9, 3) := by decide +kernel
theorem dX3_requireMember_4 : decode cX3_requireMember 4 = .ok (.iload_n 0, 1) := by decide +kernel
theorem dX3_requireMember_5 : decode cX3_requireMember 5 = .ok (.bipush 32, 2) := by decide +kernel
theorem dX3_requireMember_7 : decode cX3_requireMember 7 = .ok (.if_icmp .lt 13, 3) := by decide +kernel
theorem dX3_requireMember_10 : decode cX3_requireMember 10 = .ok (.new 214, 3) := by decide +kernel
theorem dX3_requireMember_13 : decode cX3_requireMember 13 = .ok (.dup, 1) := by decide +kernel
theorem dX3_requireMember_14 : decode cX3_requireMember 14 = .ok (.ldc 216, 2) := by decide +kernel
theorem dX3_requireMember_16 : decode cX3_requireMember 16 = .ok (.invokespecial 218, 3) := by decide +kernel
theorem dX3_requireMember_19 : decode cX3_requireMember 19 = .ok (.athrow, 1) := by decide +kernel
theorem dX3_requireMember_20 : decode cX3_requireMember 20 = .ok (.return_, 1) := by decide +kernel
theorem dX3_requirePlace_0 : decode cX3_requirePlace 0 = .ok (.iload_n 0, 1) := by decide +kernel
theorem dX3_requirePlace_1 : decode cX3_requirePlace 1 = .ok (.bipush 100, 2) := by decide +kernel
theorem dX3_requirePlace_3 : decode cX3_requirePlace 3 = .ok (.if_icmp .eq 7, 3) := by decide +kernel
theorem dX3_requirePlace_6 : decode cX3_requirePlace 6 = .ok (.iload_n 0, 1) := by decide +kernel
theorem dX3_requirePlace_7 : decode cX3_requirePlace 7 = .ok (.invokestatic 28, 3) := by decide +kernel
theorem dX3_requirePlace_10 : decode cX3_requirePlace 10 = .ok (.return_, 1) := by decide +kernel
theorem dX3_requireStripe_0 : decode cX3_requireStripe 0 = .ok (.iload_n 0, 1) := by decide +kernel
theorem dX3_requireStripe_1 : decode cX3_requireStripe 1 = .ok (.ifCond .lt 8, 3) := by decide +kernel
theorem dX3_requireStripe_4 : decode cX3_requireStripe 4 = .ok (.iload_n 0, 1) := by decide +kernel
theorem dX3_requireStripe_5 : decode cX3_requireStripe 5 = .ok (.iconst 4, 1) := by decide +kernel
theorem dX3_requireStripe_6 : decode cX3_requireStripe 6 = .ok (.if_icmp .lt 13, 3) := by decide +kernel
theorem dX3_requireStripe_9 : decode cX3_requireStripe 9 = .ok (.new 214, 3) := by decide +kernel
theorem dX3_requireStripe_12 : decode cX3_requireStripe 12 = .ok (.dup, 1) := by decide +kernel
theorem dX3_requireStripe_13 : decode cX3_requireStripe 13 = .ok (.ldc 219, 2) := by decide +kernel
theorem dX3_requireStripe_15 : decode cX3_requireStripe 15 = .ok (.invokespecial 218, 3) := by decide +kernel
theorem dX3_requireStripe_18 : decode cX3_requireStripe 18 = .ok (.athrow, 1) := by decide +kernel
theorem dX3_requireStripe_19 : decode cX3_requireStripe 19 = .ok (.return_, 1) := by decide +kernel
theorem dX3_requireRange_0 : decode cX3_requireRange 0 = .ok (.iload_n 0, 1) := by decide +kernel
theorem dX3_requireRange_1 : decode cX3_requireRange 1 = .ok (.iload_n 1, 1) := by decide +kernel
theorem dX3_requireRange_2 : decode cX3_requireRange 2 = .ok (.if_icmp .lt 8, 3) := by decide +kernel
theorem dX3_requireRange_5 : decode cX3_requireRange 5 = .ok (.iload_n 0, 1) := by decide +kernel
theorem dX3_requireRange_6 : decode cX3_requireRange 6 = .ok (.iload_n 2, 1) := by decide +kernel
theorem dX3_requireRange_7 : decode cX3_requireRange 7 = .ok (.if_icmp .le 13, 3) := by decide +kernel
theorem dX3_requireRange_10 : decode cX3_requireRange 10 = .ok (.new 133, 3) := by decide +kernel
theorem dX3_requireRange_13 : decode cX3_requireRange 13 = .ok (.dup, 1) := by decide +kernel
theorem dX3_requireRange_14 : decode cX3_requireRange 14 = .ok (.ldc 221, 2) := by decide +kernel
theorem dX3_requireRange_16 : decode cX3_requireRange 16 = .ok (.invokespecial 137, 3) := by decide +kernel
theorem dX3_requireRange_19 : decode cX3_requireRange 19 = .ok (.athrow, 1) := by decide +kernel
theorem dX3_requireRange_20 : decode cX3_requireRange 20 = .ok (.return_, 1) := by decide +kernel
theorem dX3_requireJoined_0 : decode cX3_requireJoined 0 = .ok (.aload_n 0, 1) := by decide +kernel
theorem dX3_requireJoined_1 : decode cX3_requireJoined 1 = .ok (.iload_n 1, 1) := by decide +kernel
theorem dX3_requireJoined_2 : decode cX3_requireJoined 2 = .ok (.invokevirtual 36, 3) := by decide +kernel
theorem dX3_requireJoined_5 : decode cX3_requireJoined 5 = .ok (.ifCond .ne 13, 3) := by decide +kernel
theorem dX3_requireJoined_8 : decode cX3_requireJoined 8 = .ok (.new 40, 3) := by decide +kernel
theorem dX3_requireJoined_11 : decode cX3_requireJoined 11 = .ok (.dup, 1) := by decide +kernel
theorem dX3_requireJoined_12 : decode cX3_requireJoined 12 = .ok (.ldc 223, 2) := by decide +kernel
theorem dX3_requireJoined_14 : decode cX3_requireJoined 14 = .ok (.invokespecial 44, 3) := by decide +kernel
theorem dX3_requireJoined_17 : decode cX3_requireJoined 17 = .ok (.athrow, 1) := by decide +kernel
theorem dX3_requireJoined_18 : decode cX3_requireJoined 18 = .ok (.return_, 1) := by decide +kernel
theorem dX3_requireJoinedPlace_0 : decode cX3_requireJoinedPlace 0 = .ok (.iload_n 1, 1) := by decide +kernel
theorem dX3_requireJoinedPlace_1 : decode cX3_requireJoinedPlace 1 = .ok (.bipush 100, 2) := by decide +kernel
theorem dX3_requireJoinedPlace_3 : decode cX3_requireJoinedPlace 3 = .ok (.if_icmp .eq 8, 3) := by decide +kernel
theorem dX3_requireJoinedPlace_6 : decode cX3_requireJoinedPlace 6 = .ok (.aload_n 0, 1) := by decide +kernel
theorem dX3_requireJoinedPlace_7 : decode cX3_requireJoinedPlace 7 = .ok (.iload_n 1, 1) := by decide +kernel
theorem dX3_requireJoinedPlace_8 : decode cX3_requireJoinedPlace 8 = .ok (.invokevirtual 61, 3) := by decide +kernel
theorem dX3_requireJoinedPlace_11 : decode cX3_requireJoinedPlace 11 = .ok (.return_, 1) := by decide +kernel
theorem dJ9_floorMod_7cf53_0 : decode cJ9_floorMod_7cf53 0 = .ok (.iload_n 0, 1) := by decide +kernel
theorem dJ9_floorMod_7cf53_1 : decode cJ9_floorMod_7cf53 1 = .ok (.iload_n 1, 1) := by decide +kernel
theorem dJ9_floorMod_7cf53_2 : decode cJ9_floorMod_7cf53 2 = .ok (.irem, 1) := by decide +kernel
theorem dJ9_floorMod_7cf53_3 : decode cJ9_floorMod_7cf53 3 = .ok (.istore_n 2, 1) := by decide +kernel
theorem dJ9_floorMod_7cf53_4 : decode cJ9_floorMod_7cf53 4 = .ok (.iload_n 0, 1) := by decide +kernel
theorem dJ9_floorMod_7cf53_5 : decode cJ9_floorMod_7cf53 5 = .ok (.iload_n 1, 1) := by decide +kernel
theorem dJ9_floorMod_7cf53_6 : decode cJ9_floorMod_7cf53 6 = .ok (.ixor, 1) := by decide +kernel
theorem dJ9_floorMod_7cf53_7 : decode cJ9_floorMod_7cf53 7 = .ok (.ifCond .ge 11, 3) := by decide +kernel
theorem dJ9_floorMod_7cf53_10 : decode cJ9_floorMod_7cf53 10 = .ok (.iload_n 2, 1) := by decide +kernel
theorem dJ9_floorMod_7cf53_11 : decode cJ9_floorMod_7cf53 11 = .ok (.ifCond .eq 7, 3) := by decide +kernel
theorem dJ9_floorMod_7cf53_14 : decode cJ9_floorMod_7cf53 14 = .ok (.iload_n 2, 1) := by decide +kernel
theorem dJ9_floorMod_7cf53_15 : decode cJ9_floorMod_7cf53 15 = .ok (.iload_n 1, 1) := by decide +kernel
theorem dJ9_floorMod_7cf53_16 : decode cJ9_floorMod_7cf53 16 = .ok (.iadd, 1) := by decide +kernel
theorem dJ9_floorMod_7cf53_17 : decode cJ9_floorMod_7cf53 17 = .ok (.ireturn, 1) := by decide +kernel
theorem dJ9_floorMod_7cf53_18 : decode cJ9_floorMod_7cf53 18 = .ok (.iload_n 2, 1) := by decide +kernel
theorem dJ9_floorMod_7cf53_19 : decode cJ9_floorMod_7cf53 19 = .ok (.ireturn, 1) := by decide +kernel
theorem dJ9_max_7cf53_0 : decode cJ9_max_7cf53 0 = .ok (.iload_n 0, 1) := by decide +kernel
theorem dJ9_max_7cf53_1 : decode cJ9_max_7cf53 1 = .ok (.iload_n 1, 1) := by decide +kernel
theorem dJ9_max_7cf53_2 : decode cJ9_max_7cf53 2 = .ok (.if_icmp .lt 7, 3) := by decide +kernel
theorem dJ9_max_7cf53_5 : decode cJ9_max_7cf53 5 = .ok (.iload_n 0, 1) := by decide +kernel
theorem dJ9_max_7cf53_6 : decode cJ9_max_7cf53 6 = .ok (.goto 4, 3) := by decide +kernel
theorem dJ9_max_7cf53_9 : decode cJ9_max_7cf53 9 = .ok (.iload_n 1, 1) := by decide +kernel
theorem dJ9_max_7cf53_10 : decode cJ9_max_7cf53 10 = .ok (.ireturn, 1) := by decide +kernel
theorem dJ9_min_7cf53_0 : decode cJ9_min_7cf53 0 = .ok (.iload_n 0, 1) := by decide +kernel
theorem dJ9_min_7cf53_1 : decode cJ9_min_7cf53 1 = .ok (.iload_n 1, 1) := by decide +kernel
theorem dJ9_min_7cf53_2 : decode cJ9_min_7cf53 2 = .ok (.if_icmp .gt 7, 3) := by decide +kernel
theorem dJ9_min_7cf53_5 : decode cJ9_min_7cf53 5 = .ok (.iload_n 0, 1) := by decide +kernel
theorem dJ9_min_7cf53_6 : decode cJ9_min_7cf53 6 = .ok (.goto 4, 3) := by decide +kernel
theorem dJ9_min_7cf53_9 : decode cJ9_min_7cf53 9 = .ok (.iload_n 1, 1) := by decide +kernel
theorem dJ9_min_7cf53_10 : decode cJ9_min_7cf53 10 = .ok (.ireturn, 1) := by decide +kernel
theorem dL_cell_0 : decode cL_cell 0 = .ok (.iload_n 1, 1) := by decide +kernel
theorem dL_cell_1 : decode cL_cell 1 = .ok (.aload_n 0, 1) := by decide +kernel
theorem dL_cell_2 : decode cL_cell 2 = .ok (.arraylength, 1) := by decide +kernel
theorem dL_cell_3 : decode cL_cell 3 = .ok (.if_icmp .ge 9, 3) := by decide +kernel
theorem dL_cell_6 : decode cL_cell 6 = .ok (.aload_n 0, 1) := by decide +kernel
theorem dL_cell_7 : decode cL_cell 7 = .ok (.iload_n 1, 1) := by decide +kernel
theorem dL_cell_8 : decode cL_cell 8 = .ok (.iaload, 1) := by decide +kernel
theorem dL_cell_9 : decode cL_cell 9 = .ok (.goto 15, 3) := by decide +kernel
theorem dL_cell_12 : decode cL_cell 12 = .ok (.ldc 7, 2) := by decide +kernel
theorem dL_cell_14 : decode cL_cell 14 = .ok (.iload_n 1, 1) := by decide +kernel
theorem dL_cell_15 : decode cL_cell 15 = .ok (.sipush 1193, 3) := by decide +kernel
theorem dL_cell_18 : decode cL_cell 18 = .ok (.iadd, 1) := by decide +kernel
theorem dL_cell_19 : decode cL_cell 19 = .ok (.imul, 1) := by decide +kernel
theorem dL_cell_20 : decode cL_cell 20 = .ok (.sipush 1013, 3) := by decide +kernel
theorem dL_cell_23 : decode cL_cell 23 = .ok (.iadd, 1) := by decide +kernel
theorem dL_cell_24 : decode cL_cell 24 = .ok (.ireturn, 1) := by decide +kernel
theorem dL_low_0 : decode cL_low 0 = .ok (.iload_n 0, 1) := by decide +kernel
theorem dL_low_1 : decode cL_low 1 = .ok (.ldc 8, 2) := by decide +kernel
theorem dL_low_3 : decode cL_low 3 = .ok (.iand, 1) := by decide +kernel
theorem dL_low_4 : decode cL_low 4 = .ok (.iload_n 1, 1) := by decide +kernel
theorem dL_low_5 : decode cL_low 5 = .ok (.irem, 1) := by decide +kernel
theorem dL_low_6 : decode cL_low 6 = .ok (.ireturn, 1) := by decide +kernel
theorem dL_join_0 : decode cL_join 0 = .ok (.aload_n 0, 1) := by decide +kernel
theorem dL_join_1 : decode cL_join 1 = .ok (.iload_n 1, 1) := by decide +kernel
theorem dL_join_2 : decode cL_join 2 = .ok (.iload_n 2, 1) := by decide +kernel
theorem dL_join_3 : decode cL_join 3 = .ok (.iload_n 3, 1) := by decide +kernel
theorem dL_join_4 : decode cL_join 4 = .ok (.invokevirtual 9, 3) := by decide +kernel
theorem dL_join_7 : decode cL_join 7 = .ok (.ireturn, 1) := by decide +kernel
theorem dL_join_8 : decode cL_join 8 = .ok (.astore 4, 2) := by decide +kernel
theorem dL_join_10 : decode cL_join 10 = .ok (.sipush (-903), 3) := by decide +kernel
theorem dL_join_13 : decode cL_join 13 = .ok (.ireturn, 1) := by decide +kernel
theorem dL_join_14 : decode cL_join 14 = .ok (.astore 4, 2) := by decide +kernel
theorem dL_join_16 : decode cL_join 16 = .ok (.sipush (-901), 3) := by decide +kernel
theorem dL_join_19 : decode cL_join 19 = .ok (.ireturn, 1) := by decide +kernel
theorem dL_join_20 : decode cL_join 20 = .ok (.astore 4, 2) := by decide +kernel
theorem dL_join_22 : decode cL_join 22 = .ok (.sipush (-902), 3) := by decide +kernel
theorem dL_join_25 : decode cL_join 25 = .ok (.ireturn, 1) := by decide +kernel
theorem dL_leave_0 : decode cL_leave 0 = .ok (.aload_n 0, 1) := by decide +kernel
theorem dL_leave_1 : decode cL_leave 1 = .ok (.iload_n 1, 1) := by decide +kernel
theorem dL_leave_2 : decode cL_leave 2 = .ok (.invokevirtual 21, 3) := by decide +kernel
theorem dL_leave_5 : decode cL_leave 5 = .ok (.ireturn, 1) := by decide +kernel
theorem dL_leave_6 : decode cL_leave 6 = .ok (.astore_n 2, 1) := by decide +kernel
theorem dL_leave_7 : decode cL_leave 7 = .ok (.sipush (-903), 3) := by decide +kernel
theorem dL_leave_10 : decode cL_leave 10 = .ok (.ireturn, 1) := by decide +kernel
theorem dL_leave_11 : decode cL_leave 11 = .ok (.astore_n 2, 1) := by decide +kernel
theorem dL_leave_12 : decode cL_leave 12 = .ok (.sipush (-902), 3) := by decide +kernel
theorem dL_leave_15 : decode cL_leave 15 = .ok (.ireturn, 1) := by decide +kernel
theorem dL_fail_0 : decode cL_fail 0 = .ok (.aload_n 0, 1) := by decide +kernel
theorem dL_fail_1 : decode cL_fail 1 = .ok (.iload_n 1, 1) := by decide +kernel
theorem dL_fail_2 : decode cL_fail 2 = .ok (.invokevirtual 25, 3) := by decide +kernel
theorem dL_fail_5 : decode cL_fail 5 = .ok (.ireturn, 1) := by decide +kernel
theorem dL_fail_6 : decode cL_fail 6 = .ok (.astore_n 2, 1) := by decide +kernel
theorem dL_fail_7 : decode cL_fail 7 = .ok (.sipush (-903), 3) := by decide +kernel
theorem dL_fail_10 : decode cL_fail 10 = .ok (.ireturn, 1) := by decide +kernel
theorem dL_fail_11 : decode cL_fail 11 = .ok (.astore_n 2, 1) := by decide +kernel
theorem dL_fail_12 : decode cL_fail 12 = .ok (.sipush (-902), 3) := by decide +kernel
theorem dL_fail_15 : decode cL_fail 15 = .ok (.ireturn, 1) := by decide +kernel
theorem dL_setBound_0 : decode cL_setBound 0 = .ok (.aload_n 0, 1) := by decide +kernel
theorem dL_setBound_1 : decode cL_setBound 1 = .ok (.iload_n 1, 1) := by decide +kernel
theorem dL_setBound_2 : decode cL_setBound 2 = .ok (.iload_n 2, 1) := by decide +kernel
theorem dL_setBound_3 : decode cL_setBound 3 = .ok (.invokevirtual 28, 3) := by decide +kernel
theorem dL_setBound_6 : decode cL_setBound 6 = .ok (.ireturn, 1) := by decide +kernel
theorem dL_setBound_7 : decode cL_setBound 7 = .ok (.astore_n 3, 1) := by decide +kernel
theorem dL_setBound_8 : decode cL_setBound 8 = .ok (.sipush (-903), 3) := by decide +kernel
theorem dL_setBound_11 : decode cL_setBound 11 = .ok (.ireturn, 1) := by decide +kernel
theorem dL_setBound_12 : decode cL_setBound 12 = .ok (.astore_n 3, 1) := by decide +kernel
theorem dL_setBound_13 : decode cL_setBound 13 = .ok (.sipush (-901), 3) := by decide +kernel
theorem dL_setBound_16 : decode cL_setBound 16 = .ok (.ireturn, 1) := by decide +kernel
theorem dL_setBound_17 : decode cL_setBound 17 = .ok (.astore_n 3, 1) := by decide +kernel
theorem dL_setBound_18 : decode cL_setBound 18 = .ok (.sipush (-902), 3) := by decide +kernel
theorem dL_setBound_21 : decode cL_setBound 21 = .ok (.ireturn, 1) := by decide +kernel
theorem dL_setSource_0 : decode cL_setSource 0 = .ok (.aload_n 0, 1) := by decide +kernel
theorem dL_setSource_1 : decode cL_setSource 1 = .ok (.iload_n 1, 1) := by decide +kernel
theorem dL_setSource_2 : decode cL_setSource 2 = .ok (.invokevirtual 32, 3) := by decide +kernel
theorem dL_setSource_5 : decode cL_setSource 5 = .ok (.ireturn, 1) := by decide +kernel
theorem dL_setSource_6 : decode cL_setSource 6 = .ok (.astore_n 2, 1) := by decide +kernel
theorem dL_setSource_7 : decode cL_setSource 7 = .ok (.sipush (-901), 3) := by decide +kernel
theorem dL_setSource_10 : decode cL_setSource 10 = .ok (.ireturn, 1) := by decide +kernel
theorem dL_setDelay_0 : decode cL_setDelay 0 = .ok (.aload_n 0, 1) := by decide +kernel
theorem dL_setDelay_1 : decode cL_setDelay 1 = .ok (.iload_n 1, 1) := by decide +kernel
theorem dL_setDelay_2 : decode cL_setDelay 2 = .ok (.invokevirtual 35, 3) := by decide +kernel
theorem dL_setDelay_5 : decode cL_setDelay 5 = .ok (.ireturn, 1) := by decide +kernel
theorem dL_setDelay_6 : decode cL_setDelay 6 = .ok (.astore_n 2, 1) := by decide +kernel
theorem dL_setDelay_7 : decode cL_setDelay 7 = .ok (.sipush (-901), 3) := by decide +kernel
theorem dL_setDelay_10 : decode cL_setDelay 10 = .ok (.ireturn, 1) := by decide +kernel
theorem dL_rejoin_0 : decode cL_rejoin 0 = .ok (.aload_n 0, 1) := by decide +kernel
theorem dL_rejoin_1 : decode cL_rejoin 1 = .ok (.iload_n 1, 1) := by decide +kernel
theorem dL_rejoin_2 : decode cL_rejoin 2 = .ok (.iload_n 2, 1) := by decide +kernel
theorem dL_rejoin_3 : decode cL_rejoin 3 = .ok (.invokevirtual 38, 3) := by decide +kernel
theorem dL_rejoin_6 : decode cL_rejoin 6 = .ok (.ireturn, 1) := by decide +kernel
theorem dL_rejoin_7 : decode cL_rejoin 7 = .ok (.astore_n 3, 1) := by decide +kernel
theorem dL_rejoin_8 : decode cL_rejoin 8 = .ok (.sipush (-903), 3) := by decide +kernel
theorem dL_rejoin_11 : decode cL_rejoin 11 = .ok (.ireturn, 1) := by decide +kernel
theorem dL_rejoin_12 : decode cL_rejoin 12 = .ok (.astore_n 3, 1) := by decide +kernel
theorem dL_rejoin_13 : decode cL_rejoin 13 = .ok (.sipush (-902), 3) := by decide +kernel
theorem dL_rejoin_16 : decode cL_rejoin 16 = .ok (.ireturn, 1) := by decide +kernel
theorem dL_tick_0 : decode cL_tick 0 = .ok (.aload_n 0, 1) := by decide +kernel
theorem dL_tick_1 : decode cL_tick 1 = .ok (.iload_n 1, 1) := by decide +kernel
theorem dL_tick_2 : decode cL_tick 2 = .ok (.invokevirtual 41, 3) := by decide +kernel
theorem dL_tick_5 : decode cL_tick 5 = .ok (.ireturn, 1) := by decide +kernel
theorem dL_tick_6 : decode cL_tick 6 = .ok (.astore_n 2, 1) := by decide +kernel
theorem dL_tick_7 : decode cL_tick 7 = .ok (.sipush (-901), 3) := by decide +kernel
theorem dL_tick_10 : decode cL_tick 10 = .ok (.ireturn, 1) := by decide +kernel
theorem dL_member_0 : decode cL_member 0 = .ok (.aload_n 0, 1) := by decide +kernel
theorem dL_member_1 : decode cL_member 1 = .ok (.iload_n 1, 1) := by decide +kernel
theorem dL_member_2 : decode cL_member 2 = .ok (.iload_n 2, 1) := by decide +kernel
theorem dL_member_3 : decode cL_member 3 = .ok (.invokevirtual 44, 3) := by decide +kernel
theorem dL_member_6 : decode cL_member 6 = .ok (.ireturn, 1) := by decide +kernel
theorem dL_member_7 : decode cL_member 7 = .ok (.astore_n 3, 1) := by decide +kernel
theorem dL_member_8 : decode cL_member 8 = .ok (.sipush (-903), 3) := by decide +kernel
theorem dL_member_11 : decode cL_member 11 = .ok (.ireturn, 1) := by decide +kernel
theorem dL_member_12 : decode cL_member 12 = .ok (.astore_n 3, 1) := by decide +kernel
theorem dL_member_13 : decode cL_member 13 = .ok (.sipush (-901), 3) := by decide +kernel
theorem dL_member_16 : decode cL_member 16 = .ok (.ireturn, 1) := by decide +kernel
theorem dL_parent_0 : decode cL_parent 0 = .ok (.aload_n 0, 1) := by decide +kernel
theorem dL_parent_1 : decode cL_parent 1 = .ok (.iload_n 1, 1) := by decide +kernel
theorem dL_parent_2 : decode cL_parent 2 = .ok (.iload_n 2, 1) := by decide +kernel
theorem dL_parent_3 : decode cL_parent 3 = .ok (.invokevirtual 47, 3) := by decide +kernel
theorem dL_parent_6 : decode cL_parent 6 = .ok (.ireturn, 1) := by decide +kernel
theorem dL_parent_7 : decode cL_parent 7 = .ok (.astore_n 3, 1) := by decide +kernel
theorem dL_parent_8 : decode cL_parent 8 = .ok (.sipush (-903), 3) := by decide +kernel
theorem dL_parent_11 : decode cL_parent 11 = .ok (.ireturn, 1) := by decide +kernel
theorem dL_parent_12 : decode cL_parent 12 = .ok (.astore_n 3, 1) := by decide +kernel
theorem dL_parent_13 : decode cL_parent 13 = .ok (.sipush (-902), 3) := by decide +kernel
theorem dL_parent_16 : decode cL_parent 16 = .ok (.ireturn, 1) := by decide +kernel
theorem dL_depth_0 : decode cL_depth 0 = .ok (.aload_n 0, 1) := by decide +kernel
theorem dL_depth_1 : decode cL_depth 1 = .ok (.iload_n 1, 1) := by decide +kernel
theorem dL_depth_2 : decode cL_depth 2 = .ok (.iload_n 2, 1) := by decide +kernel
theorem dL_depth_3 : decode cL_depth 3 = .ok (.invokevirtual 50, 3) := by decide +kernel
theorem dL_depth_6 : decode cL_depth 6 = .ok (.ireturn, 1) := by decide +kernel
theorem dL_depth_7 : decode cL_depth 7 = .ok (.astore_n 3, 1) := by decide +kernel
theorem dL_depth_8 : decode cL_depth 8 = .ok (.sipush (-903), 3) := by decide +kernel
theorem dL_depth_11 : decode cL_depth 11 = .ok (.ireturn, 1) := by decide +kernel
theorem dL_depth_12 : decode cL_depth 12 = .ok (.astore_n 3, 1) := by decide +kernel
theorem dL_depth_13 : decode cL_depth 13 = .ok (.sipush (-902), 3) := by decide +kernel
theorem dL_depth_16 : decode cL_depth 16 = .ok (.ireturn, 1) := by decide +kernel
theorem dL_child_0 : decode cL_child 0 = .ok (.aload_n 0, 1) := by decide +kernel
theorem dL_child_1 : decode cL_child 1 = .ok (.iload_n 1, 1) := by decide +kernel
theorem dL_child_2 : decode cL_child 2 = .ok (.iload_n 2, 1) := by decide +kernel
theorem dL_child_3 : decode cL_child 3 = .ok (.iload_n 3, 1) := by decide +kernel
theorem dL_child_4 : decode cL_child 4 = .ok (.invokevirtual 53, 3) := by decide +kernel
theorem dL_child_7 : decode cL_child 7 = .ok (.ireturn, 1) := by decide +kernel
theorem dL_child_8 : decode cL_child 8 = .ok (.astore 4, 2) := by decide +kernel
theorem dL_child_10 : decode cL_child 10 = .ok (.sipush (-903), 3) := by decide +kernel
theorem dL_child_13 : decode cL_child 13 = .ok (.ireturn, 1) := by decide +kernel
theorem dL_child_14 : decode cL_child 14 = .ok (.astore 4, 2) := by decide +kernel
theorem dL_child_16 : decode cL_child 16 = .ok (.sipush (-901), 3) := by decide +kernel
theorem dL_child_19 : decode cL_child 19 = .ok (.ireturn, 1) := by decide +kernel
theorem dL_child_20 : decode cL_child 20 = .ok (.astore 4, 2) := by decide +kernel
theorem dL_child_22 : decode cL_child 22 = .ok (.sipush (-902), 3) := by decide +kernel
theorem dL_child_25 : decode cL_child 25 = .ok (.ireturn, 1) := by decide +kernel
theorem dL_subtree_0 : decode cL_subtree 0 = .ok (.aload_n 0, 1) := by decide +kernel
theorem dL_subtree_1 : decode cL_subtree 1 = .ok (.iload_n 1, 1) := by decide +kernel
theorem dL_subtree_2 : decode cL_subtree 2 = .ok (.iload_n 2, 1) := by decide +kernel
theorem dL_subtree_3 : decode cL_subtree 3 = .ok (.invokevirtual 56, 3) := by decide +kernel
theorem dL_subtree_6 : decode cL_subtree 6 = .ok (.ireturn, 1) := by decide +kernel
theorem dL_subtree_7 : decode cL_subtree 7 = .ok (.astore_n 3, 1) := by decide +kernel
theorem dL_subtree_8 : decode cL_subtree 8 = .ok (.sipush (-903), 3) := by decide +kernel
theorem dL_subtree_11 : decode cL_subtree 11 = .ok (.ireturn, 1) := by decide +kernel
theorem dL_subtree_12 : decode cL_subtree 12 = .ok (.astore_n 3, 1) := by decide +kernel
theorem dL_subtree_13 : decode cL_subtree 13 = .ok (.sipush (-902), 3) := by decide +kernel
theorem dL_subtree_16 : decode cL_subtree 16 = .ok (.ireturn, 1) := by decide +kernel
theorem dL_hasRoom_0 : decode cL_hasRoom 0 = .ok (.aload_n 0, 1) := by decide +kernel
theorem dL_hasRoom_1 : decode cL_hasRoom 1 = .ok (.iload_n 1, 1) := by decide +kernel
theorem dL_hasRoom_2 : decode cL_hasRoom 2 = .ok (.iload_n 2, 1) := by decide +kernel
theorem dL_hasRoom_3 : decode cL_hasRoom 3 = .ok (.invokevirtual 59, 3) := by decide +kernel
theorem dL_hasRoom_6 : decode cL_hasRoom 6 = .ok (.ifCond .eq 7, 3) := by decide +kernel
theorem dL_hasRoom_9 : decode cL_hasRoom 9 = .ok (.iconst 1, 1) := by decide +kernel
theorem dL_hasRoom_10 : decode cL_hasRoom 10 = .ok (.goto 4, 3) := by decide +kernel
theorem dL_hasRoom_13 : decode cL_hasRoom 13 = .ok (.iconst 0, 1) := by decide +kernel
theorem dL_hasRoom_14 : decode cL_hasRoom 14 = .ok (.ireturn, 1) := by decide +kernel
theorem dL_hasRoom_15 : decode cL_hasRoom 15 = .ok (.astore_n 3, 1) := by decide +kernel
theorem dL_hasRoom_16 : decode cL_hasRoom 16 = .ok (.sipush (-903), 3) := by decide +kernel
theorem dL_hasRoom_19 : decode cL_hasRoom 19 = .ok (.ireturn, 1) := by decide +kernel
theorem dL_hasRoom_20 : decode cL_hasRoom 20 = .ok (.astore_n 3, 1) := by decide +kernel
theorem dL_hasRoom_21 : decode cL_hasRoom 21 = .ok (.sipush (-902), 3) := by decide +kernel
theorem dL_hasRoom_24 : decode cL_hasRoom 24 = .ok (.ireturn, 1) := by decide +kernel
theorem dL_ranksBefore_0 : decode cL_ranksBefore 0 = .ok (.aload_n 0, 1) := by decide +kernel
theorem dL_ranksBefore_1 : decode cL_ranksBefore 1 = .ok (.iload_n 1, 1) := by decide +kernel
theorem dL_ranksBefore_2 : decode cL_ranksBefore 2 = .ok (.iload_n 2, 1) := by decide +kernel
theorem dL_ranksBefore_3 : decode cL_ranksBefore 3 = .ok (.iload_n 3, 1) := by decide +kernel
theorem dL_ranksBefore_4 : decode cL_ranksBefore 4 = .ok (.invokevirtual 63, 3) := by decide +kernel
theorem dL_ranksBefore_7 : decode cL_ranksBefore 7 = .ok (.ifCond .eq 7, 3) := by decide +kernel
theorem dL_ranksBefore_10 : decode cL_ranksBefore 10 = .ok (.iconst 1, 1) := by decide +kernel
theorem dL_ranksBefore_11 : decode cL_ranksBefore 11 = .ok (.goto 4, 3) := by decide +kernel
theorem dL_ranksBefore_14 : decode cL_ranksBefore 14 = .ok (.iconst 0, 1) := by decide +kernel
theorem dL_ranksBefore_15 : decode cL_ranksBefore 15 = .ok (.ireturn, 1) := by decide +kernel
theorem dL_ranksBefore_16 : decode cL_ranksBefore 16 = .ok (.astore 4, 2) := by decide +kernel
theorem dL_ranksBefore_18 : decode cL_ranksBefore 18 = .ok (.sipush (-903), 3) := by decide +kernel
theorem dL_ranksBefore_21 : decode cL_ranksBefore 21 = .ok (.ireturn, 1) := by decide +kernel
theorem dL_ranksBefore_22 : decode cL_ranksBefore 22 = .ok (.astore 4, 2) := by decide +kernel
theorem dL_ranksBefore_24 : decode cL_ranksBefore 24 = .ok (.sipush (-901), 3) := by decide +kernel
theorem dL_ranksBefore_27 : decode cL_ranksBefore 27 = .ok (.ireturn, 1) := by decide +kernel
theorem dL_ranksBefore_28 : decode cL_ranksBefore 28 = .ok (.astore 4, 2) := by decide +kernel
theorem dL_ranksBefore_30 : decode cL_ranksBefore 30 = .ok (.sipush (-902), 3) := by decide +kernel
theorem dL_ranksBefore_33 : decode cL_ranksBefore 33 = .ok (.ireturn, 1) := by decide +kernel
theorem dL_harm_0 : decode cL_harm 0 = .ok (.aload_n 0, 1) := by decide +kernel
theorem dL_harm_1 : decode cL_harm 1 = .ok (.iload_n 1, 1) := by decide +kernel
theorem dL_harm_2 : decode cL_harm 2 = .ok (.invokevirtual 67, 3) := by decide +kernel
theorem dL_harm_5 : decode cL_harm 5 = .ok (.ireturn, 1) := by decide +kernel
theorem dL_harm_6 : decode cL_harm 6 = .ok (.astore_n 2, 1) := by decide +kernel
theorem dL_harm_7 : decode cL_harm 7 = .ok (.sipush (-903), 3) := by decide +kernel
theorem dL_harm_10 : decode cL_harm 10 = .ok (.ireturn, 1) := by decide +kernel
theorem dL_harm_11 : decode cL_harm 11 = .ok (.astore_n 2, 1) := by decide +kernel
theorem dL_harm_12 : decode cL_harm 12 = .ok (.sipush (-902), 3) := by decide +kernel
theorem dL_harm_15 : decode cL_harm 15 = .ok (.ireturn, 1) := by decide +kernel
theorem dL_pieces_0 : decode cL_pieces 0 = .ok (.aload_n 0, 1) := by decide +kernel
theorem dL_pieces_1 : decode cL_pieces 1 = .ok (.iload_n 1, 1) := by decide +kernel
theorem dL_pieces_2 : decode cL_pieces 2 = .ok (.invokevirtual 70, 3) := by decide +kernel
theorem dL_pieces_5 : decode cL_pieces 5 = .ok (.ireturn, 1) := by decide +kernel
theorem dL_pieces_6 : decode cL_pieces 6 = .ok (.astore_n 2, 1) := by decide +kernel
theorem dL_pieces_7 : decode cL_pieces 7 = .ok (.sipush (-903), 3) := by decide +kernel
theorem dL_pieces_10 : decode cL_pieces 10 = .ok (.ireturn, 1) := by decide +kernel
theorem dL_pieces_11 : decode cL_pieces 11 = .ok (.astore_n 2, 1) := by decide +kernel
theorem dL_pieces_12 : decode cL_pieces 12 = .ok (.sipush (-902), 3) := by decide +kernel
theorem dL_pieces_15 : decode cL_pieces 15 = .ok (.ireturn, 1) := by decide +kernel
theorem dL_stripe_0 : decode cL_stripe 0 = .ok (.aload_n 0, 1) := by decide +kernel
theorem dL_stripe_1 : decode cL_stripe 1 = .ok (.iload_n 1, 1) := by decide +kernel
theorem dL_stripe_2 : decode cL_stripe 2 = .ok (.iload_n 2, 1) := by decide +kernel
theorem dL_stripe_3 : decode cL_stripe 3 = .ok (.invokevirtual 73, 3) := by decide +kernel
theorem dL_stripe_6 : decode cL_stripe 6 = .ok (.ireturn, 1) := by decide +kernel
theorem dL_stripe_7 : decode cL_stripe 7 = .ok (.astore_n 3, 1) := by decide +kernel
theorem dL_stripe_8 : decode cL_stripe 8 = .ok (.sipush (-903), 3) := by decide +kernel
theorem dL_stripe_11 : decode cL_stripe 11 = .ok (.ireturn, 1) := by decide +kernel
theorem dL_stripe_12 : decode cL_stripe 12 = .ok (.astore_n 3, 1) := by decide +kernel
theorem dL_stripe_13 : decode cL_stripe 13 = .ok (.sipush (-901), 3) := by decide +kernel
theorem dL_stripe_16 : decode cL_stripe 16 = .ok (.ireturn, 1) := by decide +kernel
theorem dL_count_0 : decode cL_count 0 = .ok (.aload_n 0, 1) := by decide +kernel
theorem dL_count_1 : decode cL_count 1 = .ok (.iload_n 1, 1) := by decide +kernel
theorem dL_count_2 : decode cL_count 2 = .ok (.invokevirtual 76, 3) := by decide +kernel
theorem dL_count_5 : decode cL_count 5 = .ok (.ireturn, 1) := by decide +kernel
theorem dL_count_6 : decode cL_count 6 = .ok (.astore_n 2, 1) := by decide +kernel
theorem dL_count_7 : decode cL_count 7 = .ok (.sipush (-901), 3) := by decide +kernel
theorem dL_count_10 : decode cL_count 10 = .ok (.ireturn, 1) := by decide +kernel
theorem dL_undo_0 : decode cL_undo 0 = .ok (.aload_n 0, 1) := by decide +kernel
theorem dL_undo_1 : decode cL_undo 1 = .ok (.invokevirtual 79, 3) := by decide +kernel
theorem dL_undo_4 : decode cL_undo 4 = .ok (.ireturn, 1) := by decide +kernel
theorem dL_undo_5 : decode cL_undo 5 = .ok (.astore_n 1, 1) := by decide +kernel
theorem dL_undo_6 : decode cL_undo 6 = .ok (.sipush (-902), 3) := by decide +kernel
theorem dL_undo_9 : decode cL_undo 9 = .ok (.ireturn, 1) := by decide +kernel
theorem dL_sound_0 : decode cL_sound 0 = .ok (.iconst 0, 1) := by decide +kernel
theorem dL_sound_1 : decode cL_sound 1 = .ok (.istore_n 2, 1) := by decide +kernel
theorem dL_sound_2 : decode cL_sound 2 = .ok (.iconst 0, 1) := by decide +kernel
theorem dL_sound_3 : decode cL_sound 3 = .ok (.istore_n 3, 1) := by decide +kernel
theorem dL_sound_4 : decode cL_sound 4 = .ok (.iload_n 3, 1) := by decide +kernel
theorem dL_sound_5 : decode cL_sound 5 = .ok (.bipush 32, 2) := by decide +kernel
theorem dL_sound_7 : decode cL_sound 7 = .ok (.if_icmp .ge 476, 3) := by decide +kernel
theorem dL_sound_10 : decode cL_sound 10 = .ok (.aload_n 0, 1) := by decide +kernel
theorem dL_sound_11 : decode cL_sound 11 = .ok (.iload_n 3, 1) := by decide +kernel
theorem dL_sound_12 : decode cL_sound 12 = .ok (.iconst 0, 1) := by decide +kernel
theorem dL_sound_13 : decode cL_sound 13 = .ok (.invokestatic 83, 3) := by decide +kernel
theorem dL_sound_16 : decode cL_sound 16 = .ok (.ifCond .ne 6, 3) := by decide +kernel
theorem dL_sound_19 : decode cL_sound 19 = .ok (.goto 458, 3) := by decide +kernel
theorem dL_sound_22 : decode cL_sound 22 = .ok (.iinc 2 1, 3) := by decide +kernel
theorem dL_sound_25 : decode cL_sound 25 = .ok (.aload_n 0, 1) := by decide +kernel
theorem dL_sound_26 : decode cL_sound 26 = .ok (.iload_n 3, 1) := by decide +kernel
theorem dL_sound_27 : decode cL_sound 27 = .ok (.iconst 1, 1) := by decide +kernel
theorem dL_sound_28 : decode cL_sound 28 = .ok (.invokestatic 83, 3) := by decide +kernel
theorem dL_sound_31 : decode cL_sound 31 = .ok (.istore 4, 2) := by decide +kernel
theorem dL_sound_33 : decode cL_sound 33 = .ok (.iconst 0, 1) := by decide +kernel
theorem dL_sound_34 : decode cL_sound 34 = .ok (.istore 5, 2) := by decide +kernel
theorem dL_sound_36 : decode cL_sound 36 = .ok (.iconst 0, 1) := by decide +kernel
theorem dL_sound_37 : decode cL_sound 37 = .ok (.istore 6, 2) := by decide +kernel
theorem dL_sound_39 : decode cL_sound 39 = .ok (.iconst 0, 1) := by decide +kernel
theorem dL_sound_40 : decode cL_sound 40 = .ok (.istore 7, 2) := by decide +kernel
theorem dL_sound_42 : decode cL_sound 42 = .ok (.iconst 0, 1) := by decide +kernel
theorem dL_sound_43 : decode cL_sound 43 = .ok (.istore 8, 2) := by decide +kernel
theorem dL_sound_45 : decode cL_sound 45 = .ok (.iconst 0, 1) := by decide +kernel
theorem dL_sound_46 : decode cL_sound 46 = .ok (.istore 9, 2) := by decide +kernel
theorem dL_sound_48 : decode cL_sound 48 = .ok (.iload 9, 2) := by decide +kernel
theorem dL_sound_50 : decode cL_sound 50 = .ok (.iconst 4, 1) := by decide +kernel
theorem dL_sound_51 : decode cL_sound 51 = .ok (.if_icmp .ge 228, 3) := by decide +kernel
theorem dL_sound_54 : decode cL_sound 54 = .ok (.iconst 0, 1) := by decide +kernel
theorem dL_sound_55 : decode cL_sound 55 = .ok (.istore 10, 2) := by decide +kernel
theorem dL_sound_57 : decode cL_sound 57 = .ok (.aload_n 0, 1) := by decide +kernel
theorem dL_sound_58 : decode cL_sound 58 = .ok (.iload_n 3, 1) := by decide +kernel
theorem dL_sound_59 : decode cL_sound 59 = .ok (.iload 9, 2) := by decide +kernel
theorem dL_sound_61 : decode cL_sound 61 = .ok (.iload 10, 2) := by decide +kernel
theorem dL_sound_63 : decode cL_sound 63 = .ok (.invokestatic 88, 3) := by decide +kernel
theorem dL_sound_66 : decode cL_sound 66 = .ok (.ifCond .lt 30, 3) := by decide +kernel
theorem dL_sound_69 : decode cL_sound 69 = .ok (.aload_n 0, 1) := by decide +kernel
theorem dL_sound_70 : decode cL_sound 70 = .ok (.aload_n 0, 1) := by decide +kernel
theorem dL_sound_71 : decode cL_sound 71 = .ok (.iload_n 3, 1) := by decide +kernel
theorem dL_sound_72 : decode cL_sound 72 = .ok (.iload 9, 2) := by decide +kernel
theorem dL_sound_74 : decode cL_sound 74 = .ok (.iload 10, 2) := by decide +kernel
theorem dL_sound_76 : decode cL_sound 76 = .ok (.invokestatic 88, 3) := by decide +kernel
theorem dL_sound_79 : decode cL_sound 79 = .ok (.iload 9, 2) := by decide +kernel
theorem dL_sound_81 : decode cL_sound 81 = .ok (.invokestatic 91, 3) := by decide +kernel
theorem dL_sound_84 : decode cL_sound 84 = .ok (.iload_n 3, 1) := by decide +kernel
theorem dL_sound_85 : decode cL_sound 85 = .ok (.if_icmp .eq 5, 3) := by decide +kernel
theorem dL_sound_88 : decode cL_sound 88 = .ok (.iconst 0, 1) := by decide +kernel
theorem dL_sound_89 : decode cL_sound 89 = .ok (.ireturn, 1) := by decide +kernel
theorem dL_sound_90 : decode cL_sound 90 = .ok (.iinc 10 1, 3) := by decide +kernel
theorem dL_sound_93 : decode cL_sound 93 = .ok (.goto (-36), 3) := by decide +kernel
theorem dL_sound_96 : decode cL_sound 96 = .ok (.iload 5, 2) := by decide +kernel
theorem dL_sound_98 : decode cL_sound 98 = .ok (.iload 10, 2) := by decide +kernel
theorem dL_sound_100 : decode cL_sound 100 = .ok (.iadd, 1) := by decide +kernel
theorem dL_sound_101 : decode cL_sound 101 = .ok (.istore 5, 2) := by decide +kernel
theorem dL_sound_103 : decode cL_sound 103 = .ok (.iload 6, 2) := by decide +kernel
theorem dL_sound_105 : decode cL_sound 105 = .ok (.iload 10, 2) := by decide +kernel
theorem dL_sound_107 : decode cL_sound 107 = .ok (.ifCond .le 7, 3) := by decide +kernel
theorem dL_sound_110 : decode cL_sound 110 = .ok (.iconst 1, 1) := by decide +kernel
theorem dL_sound_111 : decode cL_sound 111 = .ok (.goto 4, 3) := by decide +kernel
theorem dL_sound_114 : decode cL_sound 114 = .ok (.iconst 0, 1) := by decide +kernel
theorem dL_sound_115 : decode cL_sound 115 = .ok (.iadd, 1) := by decide +kernel
theorem dL_sound_116 : decode cL_sound 116 = .ok (.istore 6, 2) := by decide +kernel
theorem dL_sound_118 : decode cL_sound 118 = .ok (.iload 7, 2) := by decide +kernel
theorem dL_sound_120 : decode cL_sound 120 = .ok (.iload 10, 2) := by decide +kernel
theorem dL_sound_122 : decode cL_sound 122 = .ok (.ifCond .le 15, 3) := by decide +kernel
theorem dL_sound_125 : decode cL_sound 125 = .ok (.aload_n 0, 1) := by decide +kernel
theorem dL_sound_126 : decode cL_sound 126 = .ok (.iload_n 3, 1) := by decide +kernel
theorem dL_sound_127 : decode cL_sound 127 = .ok (.iload 9, 2) := by decide +kernel
theorem dL_sound_129 : decode cL_sound 129 = .ok (.invokestatic 93, 3) := by decide +kernel
theorem dL_sound_132 : decode cL_sound 132 = .ok (.iconst 1, 1) := by decide +kernel
theorem dL_sound_133 : decode cL_sound 133 = .ok (.isub, 1) := by decide +kernel
theorem dL_sound_134 : decode cL_sound 134 = .ok (.goto 4, 3) := by decide +kernel
theorem dL_sound_137 : decode cL_sound 137 = .ok (.iconst 0, 1) := by decide +kernel
theorem dL_sound_138 : decode cL_sound 138 = .ok (.iadd, 1) := by decide +kernel
theorem dL_sound_139 : decode cL_sound 139 = .ok (.istore 7, 2) := by decide +kernel
theorem dL_sound_141 : decode cL_sound 141 = .ok (.iload_n 3, 1) := by decide +kernel
theorem dL_sound_142 : decode cL_sound 142 = .ok (.istore 11, 2) := by decide +kernel
theorem dL_sound_144 : decode cL_sound 144 = .ok (.iconst 0, 1) := by decide +kernel
theorem dL_sound_145 : decode cL_sound 145 = .ok (.istore 12, 2) := by decide +kernel
theorem dL_sound_147 : decode cL_sound 147 = .ok (.iload 11, 2) := by decide +kernel
theorem dL_sound_149 : decode cL_sound 149 = .ok (.ifCond .lt 33, 3) := by decide +kernel
theorem dL_sound_152 : decode cL_sound 152 = .ok (.iload 11, 2) := by decide +kernel
theorem dL_sound_154 : decode cL_sound 154 = .ok (.bipush 32, 2) := by decide +kernel
theorem dL_sound_156 : decode cL_sound 156 = .ok (.if_icmp .ge 26, 3) := by decide +kernel
theorem dL_sound_159 : decode cL_sound 159 = .ok (.iload 12, 2) := by decide +kernel
theorem dL_sound_161 : decode cL_sound 161 = .ok (.bipush 40, 2) := by decide +kernel
theorem dL_sound_163 : decode cL_sound 163 = .ok (.if_icmp .ge 19, 3) := by decide +kernel
theorem dL_sound_166 : decode cL_sound 166 = .ok (.aload_n 0, 1) := by decide +kernel
theorem dL_sound_167 : decode cL_sound 167 = .ok (.iload 11, 2) := by decide +kernel
theorem dL_sound_169 : decode cL_sound 169 = .ok (.iload 9, 2) := by decide +kernel
theorem dL_sound_171 : decode cL_sound 171 = .ok (.invokestatic 91, 3) := by decide +kernel
theorem dL_sound_174 : decode cL_sound 174 = .ok (.istore 11, 2) := by decide +kernel
theorem dL_sound_176 : decode cL_sound 176 = .ok (.iinc 12 1, 3) := by decide +kernel
theorem dL_sound_179 : decode cL_sound 179 = .ok (.goto (-32), 3) := by decide +kernel
theorem dL_sound_182 : decode cL_sound 182 = .ok (.aload_n 0, 1) := by decide +kernel
theorem dL_sound_183 : decode cL_sound 183 = .ok (.iload_n 3, 1) := by decide +kernel
theorem dL_sound_184 : decode cL_sound 184 = .ok (.iload 9, 2) := by decide +kernel
theorem dL_sound_186 : decode cL_sound 186 = .ok (.invokestatic 95, 3) := by decide +kernel
theorem dL_sound_189 : decode cL_sound 189 = .ok (.istore 13, 2) := by decide +kernel
theorem dL_sound_191 : decode cL_sound 191 = .ok (.iload 8, 2) := by decide +kernel
theorem dL_sound_193 : decode cL_sound 193 = .ok (.iload 13, 2) := by decide +kernel
theorem dL_sound_195 : decode cL_sound 195 = .ok (.ifCond .le 7, 3) := by decide +kernel
theorem dL_sound_198 : decode cL_sound 198 = .ok (.iconst 1, 1) := by decide +kernel
theorem dL_sound_199 : decode cL_sound 199 = .ok (.goto 4, 3) := by decide +kernel
theorem dL_sound_202 : decode cL_sound 202 = .ok (.iconst 0, 1) := by decide +kernel
theorem dL_sound_203 : decode cL_sound 203 = .ok (.iadd, 1) := by decide +kernel
theorem dL_sound_204 : decode cL_sound 204 = .ok (.istore 8, 2) := by decide +kernel
theorem dL_sound_206 : decode cL_sound 206 = .ok (.iload 12, 2) := by decide +kernel
theorem dL_sound_208 : decode cL_sound 208 = .ok (.bipush 40, 2) := by decide +kernel
theorem dL_sound_210 : decode cL_sound 210 = .ok (.if_icmp .eq 61, 3) := by decide +kernel
theorem dL_sound_213 : decode cL_sound 213 = .ok (.iload 13, 2) := by decide +kernel
theorem dL_sound_215 : decode cL_sound 215 = .ok (.iload 11, 2) := by decide +kernel
theorem dL_sound_217 : decode cL_sound 217 = .ok (.bipush 100, 2) := by decide +kernel
theorem dL_sound_219 : decode cL_sound 219 = .ok (.if_icmp .ne 8, 3) := by decide +kernel
theorem dL_sound_222 : decode cL_sound 222 = .ok (.iload 12, 2) := by decide +kernel
theorem dL_sound_224 : decode cL_sound 224 = .ok (.goto 4, 3) := by decide +kernel
theorem dL_sound_227 : decode cL_sound 227 = .ok (.iconst (-1), 1) := by decide +kernel
theorem dL_sound_228 : decode cL_sound 228 = .ok (.if_icmp .ne 43, 3) := by decide +kernel
theorem dL_sound_231 : decode cL_sound 231 = .ok (.aload_n 0, 1) := by decide +kernel
theorem dL_sound_232 : decode cL_sound 232 = .ok (.iload_n 3, 1) := by decide +kernel
theorem dL_sound_233 : decode cL_sound 233 = .ok (.iload 9, 2) := by decide +kernel
theorem dL_sound_235 : decode cL_sound 235 = .ok (.invokestatic 93, 3) := by decide +kernel
theorem dL_sound_238 : decode cL_sound 238 = .ok (.iload 10, 2) := by decide +kernel
theorem dL_sound_240 : decode cL_sound 240 = .ok (.if_icmp .le 31, 3) := by decide +kernel
theorem dL_sound_243 : decode cL_sound 243 = .ok (.aload_n 0, 1) := by decide +kernel
theorem dL_sound_244 : decode cL_sound 244 = .ok (.iload_n 3, 1) := by decide +kernel
theorem dL_sound_245 : decode cL_sound 245 = .ok (.iload 9, 2) := by decide +kernel
theorem dL_sound_247 : decode cL_sound 247 = .ok (.invokestatic 97, 3) := by decide +kernel
theorem dL_sound_250 : decode cL_sound 250 = .ok (.iconst 1, 1) := by decide +kernel
theorem dL_sound_251 : decode cL_sound 251 = .ok (.if_icmp .ne 22, 3) := by decide +kernel
theorem dL_sound_254 : decode cL_sound 254 = .ok (.iload 13, 2) := by decide +kernel
theorem dL_sound_256 : decode cL_sound 256 = .ok (.ifCond .lt 15, 3) := by decide +kernel
theorem dL_sound_259 : decode cL_sound 259 = .ok (.iload 5, 2) := by decide +kernel
theorem dL_sound_261 : decode cL_sound 261 = .ok (.iload 4, 2) := by decide +kernel
theorem dL_sound_263 : decode cL_sound 263 = .ok (.if_icmp .lt 10, 3) := by decide +kernel
theorem dL_sound_266 : decode cL_sound 266 = .ok (.iload 6, 2) := by decide +kernel
theorem dL_sound_268 : decode cL_sound 268 = .ok (.ifCond .le 5, 3) := by decide +kernel
theorem dL_sound_271 : decode cL_sound 271 = .ok (.iconst 0, 1) := by decide +kernel
theorem dL_sound_272 : decode cL_sound 272 = .ok (.ireturn, 1) := by decide +kernel
theorem dL_sound_273 : decode cL_sound 273 = .ok (.iinc 9 1, 3) := by decide +kernel
theorem dL_sound_276 : decode cL_sound 276 = .ok (.goto (-228), 3) := by decide +kernel
theorem dL_sound_279 : decode cL_sound 279 = .ok (.aload_n 0, 1) := by decide +kernel
theorem dL_sound_280 : decode cL_sound 280 = .ok (.iload_n 3, 1) := by decide +kernel
theorem dL_sound_281 : decode cL_sound 281 = .ok (.invokestatic 99, 3) := by decide +kernel
theorem dL_sound_284 : decode cL_sound 284 = .ok (.istore 9, 2) := by decide +kernel
theorem dL_sound_286 : decode cL_sound 286 = .ok (.iload 5, 2) := by decide +kernel
theorem dL_sound_288 : decode cL_sound 288 = .ok (.iload 4, 2) := by decide +kernel
theorem dL_sound_290 : decode cL_sound 290 = .ok (.if_icmp .gt 124, 3) := by decide +kernel
theorem dL_sound_293 : decode cL_sound 293 = .ok (.iload 6, 2) := by decide +kernel
theorem dL_sound_295 : decode cL_sound 295 = .ok (.iconst 1, 1) := by decide +kernel
theorem dL_sound_296 : decode cL_sound 296 = .ok (.if_icmp .gt 118, 3) := by decide +kernel
theorem dL_sound_299 : decode cL_sound 299 = .ok (.aload_n 0, 1) := by decide +kernel
theorem dL_sound_300 : decode cL_sound 300 = .ok (.iload_n 3, 1) := by decide +kernel
theorem dL_sound_301 : decode cL_sound 301 = .ok (.iconst 5, 1) := by decide +kernel
theorem dL_sound_302 : decode cL_sound 302 = .ok (.invokestatic 83, 3) := by decide +kernel
theorem dL_sound_305 : decode cL_sound 305 = .ok (.iload 5, 2) := by decide +kernel
theorem dL_sound_307 : decode cL_sound 307 = .ok (.if_icmp .ne 107, 3) := by decide +kernel
theorem dL_sound_310 : decode cL_sound 310 = .ok (.aload_n 0, 1) := by decide +kernel
theorem dL_sound_311 : decode cL_sound 311 = .ok (.iload_n 3, 1) := by decide +kernel
theorem dL_sound_312 : decode cL_sound 312 = .ok (.bipush 6, 2) := by decide +kernel
theorem dL_sound_314 : decode cL_sound 314 = .ok (.invokestatic 83, 3) := by decide +kernel
theorem dL_sound_317 : decode cL_sound 317 = .ok (.ifCond .ge 7, 3) := by decide +kernel
theorem dL_sound_320 : decode cL_sound 320 = .ok (.iconst 1, 1) := by decide +kernel
theorem dL_sound_321 : decode cL_sound 321 = .ok (.goto 4, 3) := by decide +kernel
theorem dL_sound_324 : decode cL_sound 324 = .ok (.iconst 0, 1) := by decide +kernel
theorem dL_sound_325 : decode cL_sound 325 = .ok (.iload 5, 2) := by decide +kernel
theorem dL_sound_327 : decode cL_sound 327 = .ok (.ifCond .ne 7, 3) := by decide +kernel
theorem dL_sound_330 : decode cL_sound 330 = .ok (.iconst 1, 1) := by decide +kernel
theorem dL_sound_331 : decode cL_sound 331 = .ok (.goto 4, 3) := by decide +kernel
theorem dL_sound_334 : decode cL_sound 334 = .ok (.iconst 0, 1) := by decide +kernel
theorem dL_sound_335 : decode cL_sound 335 = .ok (.if_icmp .ne 79, 3) := by decide +kernel
theorem dL_sound_338 : decode cL_sound 338 = .ok (.iload 9, 2) := by decide +kernel
theorem dL_sound_340 : decode cL_sound 340 = .ok (.ifCond .lt 74, 3) := by decide +kernel
theorem dL_sound_343 : decode cL_sound 343 = .ok (.iload 9, 2) := by decide +kernel
theorem dL_sound_345 : decode cL_sound 345 = .ok (.iload 8, 2) := by decide +kernel
theorem dL_sound_347 : decode cL_sound 347 = .ok (.if_icmp .gt 67, 3) := by decide +kernel
theorem dL_sound_350 : decode cL_sound 350 = .ok (.aload_n 0, 1) := by decide +kernel
theorem dL_sound_351 : decode cL_sound 351 = .ok (.iload_n 3, 1) := by decide +kernel
theorem dL_sound_352 : decode cL_sound 352 = .ok (.iconst 3, 1) := by decide +kernel
theorem dL_sound_353 : decode cL_sound 353 = .ok (.invokestatic 83, 3) := by decide +kernel
theorem dL_sound_356 : decode cL_sound 356 = .ok (.iconst 1, 1) := by decide +kernel
theorem dL_sound_357 : decode cL_sound 357 = .ok (.if_icmp .ne 8, 3) := by decide +kernel
theorem dL_sound_360 : decode cL_sound 360 = .ok (.iload 9, 2) := by decide +kernel
theorem dL_sound_362 : decode cL_sound 362 = .ok (.ifCond .ne 52, 3) := by decide +kernel
theorem dL_sound_365 : decode cL_sound 365 = .ok (.aload_n 0, 1) := by decide +kernel
theorem dL_sound_366 : decode cL_sound 366 = .ok (.iload_n 3, 1) := by decide +kernel
theorem dL_sound_367 : decode cL_sound 367 = .ok (.invokestatic 102, 3) := by decide +kernel
theorem dL_sound_370 : decode cL_sound 370 = .ok (.iload 7, 2) := by decide +kernel
theorem dL_sound_372 : decode cL_sound 372 = .ok (.if_icmp .gt 42, 3) := by decide +kernel
theorem dL_sound_375 : decode cL_sound 375 = .ok (.aload_n 0, 1) := by decide +kernel
theorem dL_sound_376 : decode cL_sound 376 = .ok (.iload_n 3, 1) := by decide +kernel
theorem dL_sound_377 : decode cL_sound 377 = .ok (.invokestatic 102, 3) := by decide +kernel
theorem dL_sound_380 : decode cL_sound 380 = .ok (.ifCond .lt 34, 3) := by decide +kernel
theorem dL_sound_383 : decode cL_sound 383 = .ok (.aload_n 0, 1) := by decide +kernel
theorem dL_sound_384 : decode cL_sound 384 = .ok (.iload_n 3, 1) := by decide +kernel
theorem dL_sound_385 : decode cL_sound 385 = .ok (.iconst 3, 1) := by decide +kernel
theorem dL_sound_386 : decode cL_sound 386 = .ok (.invokestatic 83, 3) := by decide +kernel
theorem dL_sound_389 : decode cL_sound 389 = .ok (.iconst 1, 1) := by decide +kernel
theorem dL_sound_390 : decode cL_sound 390 = .ok (.if_icmp .ne 26, 3) := by decide +kernel
theorem dL_sound_393 : decode cL_sound 393 = .ok (.aload_n 0, 1) := by decide +kernel
theorem dL_sound_394 : decode cL_sound 394 = .ok (.iload_n 3, 1) := by decide +kernel
theorem dL_sound_395 : decode cL_sound 395 = .ok (.invokestatic 102, 3) := by decide +kernel
theorem dL_sound_398 : decode cL_sound 398 = .ok (.ifCond .ne 16, 3) := by decide +kernel
theorem dL_sound_401 : decode cL_sound 401 = .ok (.aload_n 0, 1) := by decide +kernel
theorem dL_sound_402 : decode cL_sound 402 = .ok (.iload_n 3, 1) := by decide +kernel
theorem dL_sound_403 : decode cL_sound 403 = .ok (.iconst 4, 1) := by decide +kernel
theorem dL_sound_404 : decode cL_sound 404 = .ok (.invokestatic 83, 3) := by decide +kernel
theorem dL_sound_407 : decode cL_sound 407 = .ok (.aload_n 0, 1) := by decide +kernel
theorem dL_sound_408 : decode cL_sound 408 = .ok (.invokevirtual 104, 3) := by decide +kernel
theorem dL_sound_411 : decode cL_sound 411 = .ok (.if_icmp .gt 5, 3) := by decide +kernel
theorem dL_sound_414 : decode cL_sound 414 = .ok (.iconst 0, 1) := by decide +kernel
theorem dL_sound_415 : decode cL_sound 415 = .ok (.ireturn, 1) := by decide +kernel
theorem dL_sound_416 : decode cL_sound 416 = .ok (.aload_n 0, 1) := by decide +kernel
theorem dL_sound_417 : decode cL_sound 417 = .ok (.iload_n 3, 1) := by decide +kernel
theorem dL_sound_418 : decode cL_sound 418 = .ok (.bipush 8, 2) := by decide +kernel
theorem dL_sound_420 : decode cL_sound 420 = .ok (.invokestatic 83, 3) := by decide +kernel
theorem dL_sound_423 : decode cL_sound 423 = .ok (.aload_n 0, 1) := by decide +kernel
theorem dL_sound_424 : decode cL_sound 424 = .ok (.iload_n 3, 1) := by decide +kernel
theorem dL_sound_425 : decode cL_sound 425 = .ok (.bipush 9, 2) := by decide +kernel
theorem dL_sound_427 : decode cL_sound 427 = .ok (.invokestatic 83, 3) := by decide +kernel
theorem dL_sound_430 : decode cL_sound 430 = .ok (.iadd, 1) := by decide +kernel
theorem dL_sound_431 : decode cL_sound 431 = .ok (.aload_n 0, 1) := by decide +kernel
theorem dL_sound_432 : decode cL_sound 432 = .ok (.iconst 1, 1) := by decide +kernel
theorem dL_sound_433 : decode cL_sound 433 = .ok (.invokestatic 107, 3) := by decide +kernel
theorem dL_sound_436 : decode cL_sound 436 = .ok (.if_icmp .gt 39, 3) := by decide +kernel
theorem dL_sound_439 : decode cL_sound 439 = .ok (.aload_n 0, 1) := by decide +kernel
theorem dL_sound_440 : decode cL_sound 440 = .ok (.iload_n 3, 1) := by decide +kernel
theorem dL_sound_441 : decode cL_sound 441 = .ok (.bipush 7, 2) := by decide +kernel
theorem dL_sound_443 : decode cL_sound 443 = .ok (.invokestatic 83, 3) := by decide +kernel
theorem dL_sound_446 : decode cL_sound 446 = .ok (.iconst 4, 1) := by decide +kernel
theorem dL_sound_447 : decode cL_sound 447 = .ok (.aload_n 0, 1) := by decide +kernel
theorem dL_sound_448 : decode cL_sound 448 = .ok (.iconst 1, 1) := by decide +kernel
theorem dL_sound_449 : decode cL_sound 449 = .ok (.invokestatic 107, 3) := by decide +kernel
theorem dL_sound_452 : decode cL_sound 452 = .ok (.imul, 1) := by decide +kernel
theorem dL_sound_453 : decode cL_sound 453 = .ok (.if_icmp .gt 22, 3) := by decide +kernel
theorem dL_sound_456 : decode cL_sound 456 = .ok (.aload_n 0, 1) := by decide +kernel
theorem dL_sound_457 : decode cL_sound 457 = .ok (.iload_n 3, 1) := by decide +kernel
theorem dL_sound_458 : decode cL_sound 458 = .ok (.bipush 7, 2) := by decide +kernel
theorem dL_sound_460 : decode cL_sound 460 = .ok (.invokestatic 83, 3) := by decide +kernel
theorem dL_sound_463 : decode cL_sound 463 = .ok (.iconst 3, 1) := by decide +kernel
theorem dL_sound_464 : decode cL_sound 464 = .ok (.aload_n 0, 1) := by decide +kernel
theorem dL_sound_465 : decode cL_sound 465 = .ok (.iload_n 3, 1) := by decide +kernel
theorem dL_sound_466 : decode cL_sound 466 = .ok (.bipush 8, 2) := by decide +kernel
theorem dL_sound_468 : decode cL_sound 468 = .ok (.invokestatic 83, 3) := by decide +kernel
theorem dL_sound_471 : decode cL_sound 471 = .ok (.imul, 1) := by decide +kernel
theorem dL_sound_472 : decode cL_sound 472 = .ok (.if_icmp .ge 5, 3) := by decide +kernel
theorem dL_sound_475 : decode cL_sound 475 = .ok (.iconst 0, 1) := by decide +kernel
theorem dL_sound_476 : decode cL_sound 476 = .ok (.ireturn, 1) := by decide +kernel
theorem dL_sound_477 : decode cL_sound 477 = .ok (.iinc 3 1, 3) := by decide +kernel
theorem dL_sound_480 : decode cL_sound 480 = .ok (.goto (-476), 3) := by decide +kernel
theorem dL_sound_483 : decode cL_sound 483 = .ok (.iconst 0, 1) := by decide +kernel
theorem dL_sound_484 : decode cL_sound 484 = .ok (.istore_n 3, 1) := by decide +kernel
theorem dL_sound_485 : decode cL_sound 485 = .ok (.iload_n 3, 1) := by decide +kernel
theorem dL_sound_486 : decode cL_sound 486 = .ok (.iconst 4, 1) := by decide +kernel
theorem dL_sound_487 : decode cL_sound 487 = .ok (.if_icmp .ge 95, 3) := by decide +kernel
theorem dL_sound_490 : decode cL_sound 490 = .ok (.aload_n 0, 1) := by decide +kernel
theorem dL_sound_491 : decode cL_sound 491 = .ok (.iload_n 3, 1) := by decide +kernel
theorem dL_sound_492 : decode cL_sound 492 = .ok (.iconst 3, 1) := by decide +kernel
theorem dL_sound_493 : decode cL_sound 493 = .ok (.invokestatic 109, 3) := by decide +kernel
theorem dL_sound_496 : decode cL_sound 496 = .ok (.iload_n 1, 1) := by decide +kernel
theorem dL_sound_497 : decode cL_sound 497 = .ok (.if_icmp .gt 77, 3) := by decide +kernel
theorem dL_sound_500 : decode cL_sound 500 = .ok (.aload_n 0, 1) := by decide +kernel
theorem dL_sound_501 : decode cL_sound 501 = .ok (.iload_n 3, 1) := by decide +kernel
theorem dL_sound_502 : decode cL_sound 502 = .ok (.iconst 0, 1) := by decide +kernel
theorem dL_sound_503 : decode cL_sound 503 = .ok (.invokestatic 109, 3) := by decide +kernel
theorem dL_sound_506 : decode cL_sound 506 = .ok (.aload_n 0, 1) := by decide +kernel
theorem dL_sound_507 : decode cL_sound 507 = .ok (.iload_n 3, 1) := by decide +kernel
theorem dL_sound_508 : decode cL_sound 508 = .ok (.iconst 1, 1) := by decide +kernel
theorem dL_sound_509 : decode cL_sound 509 = .ok (.invokestatic 109, 3) := by decide +kernel
theorem dL_sound_512 : decode cL_sound 512 = .ok (.iadd, 1) := by decide +kernel
theorem dL_sound_513 : decode cL_sound 513 = .ok (.iload_n 2, 1) := by decide +kernel
theorem dL_sound_514 : decode cL_sound 514 = .ok (.if_icmp .gt 60, 3) := by decide +kernel
theorem dL_sound_517 : decode cL_sound 517 = .ok (.aload_n 0, 1) := by decide +kernel
theorem dL_sound_518 : decode cL_sound 518 = .ok (.iload_n 3, 1) := by decide +kernel
theorem dL_sound_519 : decode cL_sound 519 = .ok (.iconst 2, 1) := by decide +kernel
theorem dL_sound_520 : decode cL_sound 520 = .ok (.invokestatic 109, 3) := by decide +kernel
theorem dL_sound_523 : decode cL_sound 523 = .ok (.aload_n 0, 1) := by decide +kernel
theorem dL_sound_524 : decode cL_sound 524 = .ok (.iload_n 3, 1) := by decide +kernel
theorem dL_sound_525 : decode cL_sound 525 = .ok (.iconst 0, 1) := by decide +kernel
theorem dL_sound_526 : decode cL_sound 526 = .ok (.invokestatic 109, 3) := by decide +kernel
theorem dL_sound_529 : decode cL_sound 529 = .ok (.if_icmp .gt 45, 3) := by decide +kernel
theorem dL_sound_532 : decode cL_sound 532 = .ok (.aload_n 0, 1) := by decide +kernel
theorem dL_sound_533 : decode cL_sound 533 = .ok (.bipush 100, 2) := by decide +kernel
theorem dL_sound_535 : decode cL_sound 535 = .ok (.iload_n 3, 1) := by decide +kernel
theorem dL_sound_536 : decode cL_sound 536 = .ok (.invokestatic 97, 3) := by decide +kernel
theorem dL_sound_539 : decode cL_sound 539 = .ok (.aload_n 0, 1) := by decide +kernel
theorem dL_sound_540 : decode cL_sound 540 = .ok (.iload_n 3, 1) := by decide +kernel
theorem dL_sound_541 : decode cL_sound 541 = .ok (.iconst 3, 1) := by decide +kernel
theorem dL_sound_542 : decode cL_sound 542 = .ok (.invokestatic 109, 3) := by decide +kernel
theorem dL_sound_545 : decode cL_sound 545 = .ok (.iload_n 1, 1) := by decide +kernel
theorem dL_sound_546 : decode cL_sound 546 = .ok (.if_icmp .ge 7, 3) := by decide +kernel
theorem dL_sound_549 : decode cL_sound 549 = .ok (.iconst 1, 1) := by decide +kernel
theorem dL_sound_550 : decode cL_sound 550 = .ok (.goto 4, 3) := by decide +kernel
theorem dL_sound_553 : decode cL_sound 553 = .ok (.iconst 0, 1) := by decide +kernel
theorem dL_sound_554 : decode cL_sound 554 = .ok (.if_icmp .ne 20, 3) := by decide +kernel
theorem dL_sound_557 : decode cL_sound 557 = .ok (.aload_n 0, 1) := by decide +kernel
theorem dL_sound_558 : decode cL_sound 558 = .ok (.bipush 100, 2) := by decide +kernel
theorem dL_sound_560 : decode cL_sound 560 = .ok (.iload_n 3, 1) := by decide +kernel
theorem dL_sound_561 : decode cL_sound 561 = .ok (.aload_n 0, 1) := by decide +kernel
theorem dL_sound_562 : decode cL_sound 562 = .ok (.iload_n 3, 1) := by decide +kernel
theorem dL_sound_563 : decode cL_sound 563 = .ok (.iconst 3, 1) := by decide +kernel
theorem dL_sound_564 : decode cL_sound 564 = .ok (.invokestatic 109, 3) := by decide +kernel
theorem dL_sound_567 : decode cL_sound 567 = .ok (.invokestatic 88, 3) := by decide +kernel
theorem dL_sound_570 : decode cL_sound 570 = .ok (.iconst (-1), 1) := by decide +kernel
theorem dL_sound_571 : decode cL_sound 571 = .ok (.if_icmp .eq 5, 3) := by decide +kernel
theorem dL_sound_574 : decode cL_sound 574 = .ok (.iconst 0, 1) := by decide +kernel
theorem dL_sound_575 : decode cL_sound 575 = .ok (.ireturn, 1) := by decide +kernel
theorem dL_sound_576 : decode cL_sound 576 = .ok (.iinc 3 1, 3) := by decide +kernel
theorem dL_sound_579 : decode cL_sound 579 = .ok (.goto (-94), 3) := by decide +kernel
theorem dL_sound_582 : decode cL_sound 582 = .ok (.aload_n 0, 1) := by decide +kernel
theorem dL_sound_583 : decode cL_sound 583 = .ok (.iconst 0, 1) := by decide +kernel
theorem dL_sound_584 : decode cL_sound 584 = .ok (.invokestatic 107, 3) := by decide +kernel
theorem dL_sound_587 : decode cL_sound 587 = .ok (.iload_n 2, 1) := by decide +kernel
theorem dL_sound_588 : decode cL_sound 588 = .ok (.if_icmp .ne 19, 3) := by decide +kernel
theorem dL_sound_591 : decode cL_sound 591 = .ok (.aload_n 0, 1) := by decide +kernel
theorem dL_sound_592 : decode cL_sound 592 = .ok (.invokevirtual 104, 3) := by decide +kernel
theorem dL_sound_595 : decode cL_sound 595 = .ok (.aload_n 0, 1) := by decide +kernel
theorem dL_sound_596 : decode cL_sound 596 = .ok (.iconst 1, 1) := by decide +kernel
theorem dL_sound_597 : decode cL_sound 597 = .ok (.invokestatic 107, 3) := by decide +kernel
theorem dL_sound_600 : decode cL_sound 600 = .ok (.if_icmp .ne 7, 3) := by decide +kernel
theorem dL_sound_603 : decode cL_sound 603 = .ok (.iconst 1, 1) := by decide +kernel
theorem dL_sound_604 : decode cL_sound 604 = .ok (.goto 4, 3) := by decide +kernel
theorem dL_sound_607 : decode cL_sound 607 = .ok (.iconst 0, 1) := by decide +kernel
theorem dL_sound_608 : decode cL_sound 608 = .ok (.ireturn, 1) := by decide +kernel
theorem dL_ranks_0 : decode cL_ranks 0 = .ok (.iload_n 1, 1) := by decide +kernel
theorem dL_ranks_1 : decode cL_ranks 1 = .ok (.iload_n 2, 1) := by decide +kernel
theorem dL_ranks_2 : decode cL_ranks 2 = .ok (.if_icmp .eq 13, 3) := by decide +kernel
theorem dL_ranks_5 : decode cL_ranks 5 = .ok (.iload_n 2, 1) := by decide +kernel
theorem dL_ranks_6 : decode cL_ranks 6 = .ok (.iload_n 3, 1) := by decide +kernel
theorem dL_ranks_7 : decode cL_ranks 7 = .ok (.if_icmp .eq 8, 3) := by decide +kernel
theorem dL_ranks_10 : decode cL_ranks 10 = .ok (.iload_n 1, 1) := by decide +kernel
theorem dL_ranks_11 : decode cL_ranks 11 = .ok (.iload_n 3, 1) := by decide +kernel
theorem dL_ranks_12 : decode cL_ranks 12 = .ok (.if_icmp .ne 23, 3) := by decide +kernel
theorem dL_ranks_15 : decode cL_ranks 15 = .ok (.aload_n 0, 1) := by decide +kernel
theorem dL_ranks_16 : decode cL_ranks 16 = .ok (.iload_n 1, 1) := by decide +kernel
theorem dL_ranks_17 : decode cL_ranks 17 = .ok (.iload_n 1, 1) := by decide +kernel
theorem dL_ranks_18 : decode cL_ranks 18 = .ok (.iload 4, 2) := by decide +kernel
theorem dL_ranks_20 : decode cL_ranks 20 = .ok (.invokestatic 111, 3) := by decide +kernel
theorem dL_ranks_23 : decode cL_ranks 23 = .ok (.sipush (-901), 3) := by decide +kernel
theorem dL_ranks_26 : decode cL_ranks 26 = .ok (.if_icmp .ne 7, 3) := by decide +kernel
theorem dL_ranks_29 : decode cL_ranks 29 = .ok (.iconst 1, 1) := by decide +kernel
theorem dL_ranks_30 : decode cL_ranks 30 = .ok (.goto 4, 3) := by decide +kernel
theorem dL_ranks_33 : decode cL_ranks 33 = .ok (.iconst 0, 1) := by decide +kernel
theorem dL_ranks_34 : decode cL_ranks 34 = .ok (.ireturn, 1) := by decide +kernel
theorem dL_ranks_35 : decode cL_ranks 35 = .ok (.aload_n 0, 1) := by decide +kernel
theorem dL_ranks_36 : decode cL_ranks 36 = .ok (.iload_n 1, 1) := by decide +kernel
theorem dL_ranks_37 : decode cL_ranks 37 = .ok (.iconst 0, 1) := by decide +kernel
theorem dL_ranks_38 : decode cL_ranks 38 = .ok (.invokestatic 83, 3) := by decide +kernel
theorem dL_ranks_41 : decode cL_ranks 41 = .ok (.aload_n 0, 1) := by decide +kernel
theorem dL_ranks_42 : decode cL_ranks 42 = .ok (.iload_n 2, 1) := by decide +kernel
theorem dL_ranks_43 : decode cL_ranks 43 = .ok (.iconst 0, 1) := by decide +kernel
theorem dL_ranks_44 : decode cL_ranks 44 = .ok (.invokestatic 83, 3) := by decide +kernel
theorem dL_ranks_47 : decode cL_ranks 47 = .ok (.iadd, 1) := by decide +kernel
theorem dL_ranks_48 : decode cL_ranks 48 = .ok (.aload_n 0, 1) := by decide +kernel
theorem dL_ranks_49 : decode cL_ranks 49 = .ok (.iload_n 3, 1) := by decide +kernel
theorem dL_ranks_50 : decode cL_ranks 50 = .ok (.iconst 0, 1) := by decide +kernel
theorem dL_ranks_51 : decode cL_ranks 51 = .ok (.invokestatic 83, 3) := by decide +kernel
theorem dL_ranks_54 : decode cL_ranks 54 = .ok (.iadd, 1) := by decide +kernel
theorem dL_ranks_55 : decode cL_ranks 55 = .ok (.iconst 3, 1) := by decide +kernel
theorem dL_ranks_56 : decode cL_ranks 56 = .ok (.if_icmp .ge 5, 3) := by decide +kernel
theorem dL_ranks_59 : decode cL_ranks 59 = .ok (.iconst 1, 1) := by decide +kernel
theorem dL_ranks_60 : decode cL_ranks 60 = .ok (.ireturn, 1) := by decide +kernel
theorem dL_ranks_61 : decode cL_ranks 61 = .ok (.aload_n 0, 1) := by decide +kernel
theorem dL_ranks_62 : decode cL_ranks 62 = .ok (.iload_n 1, 1) := by decide +kernel
theorem dL_ranks_63 : decode cL_ranks 63 = .ok (.iload_n 2, 1) := by decide +kernel
theorem dL_ranks_64 : decode cL_ranks 64 = .ok (.iload 4, 2) := by decide +kernel
theorem dL_ranks_66 : decode cL_ranks 66 = .ok (.invokestatic 111, 3) := by decide +kernel
theorem dL_ranks_69 : decode cL_ranks 69 = .ok (.istore 5, 2) := by decide +kernel
theorem dL_ranks_71 : decode cL_ranks 71 = .ok (.aload_n 0, 1) := by decide +kernel
theorem dL_ranks_72 : decode cL_ranks 72 = .ok (.iload_n 2, 1) := by decide +kernel
theorem dL_ranks_73 : decode cL_ranks 73 = .ok (.iload_n 3, 1) := by decide +kernel
theorem dL_ranks_74 : decode cL_ranks 74 = .ok (.iload 4, 2) := by decide +kernel
theorem dL_ranks_76 : decode cL_ranks 76 = .ok (.invokestatic 111, 3) := by decide +kernel
theorem dL_ranks_79 : decode cL_ranks 79 = .ok (.istore 6, 2) := by decide +kernel
theorem dL_ranks_81 : decode cL_ranks 81 = .ok (.iload 5, 2) := by decide +kernel
theorem dL_ranks_83 : decode cL_ranks 83 = .ok (.aload_n 0, 1) := by decide +kernel
theorem dL_ranks_84 : decode cL_ranks 84 = .ok (.iload_n 2, 1) := by decide +kernel
theorem dL_ranks_85 : decode cL_ranks 85 = .ok (.iload_n 1, 1) := by decide +kernel
theorem dL_ranks_86 : decode cL_ranks 86 = .ok (.iload 4, 2) := by decide +kernel
theorem dL_ranks_88 : decode cL_ranks 88 = .ok (.invokestatic 111, 3) := by decide +kernel
theorem dL_ranks_91 : decode cL_ranks 91 = .ok (.iadd, 1) := by decide +kernel
theorem dL_ranks_92 : decode cL_ranks 92 = .ok (.iconst 1, 1) := by decide +kernel
theorem dL_ranks_93 : decode cL_ranks 93 = .ok (.if_icmp .ne 27, 3) := by decide +kernel
theorem dL_ranks_96 : decode cL_ranks 96 = .ok (.iload 5, 2) := by decide +kernel
theorem dL_ranks_98 : decode cL_ranks 98 = .ok (.iload 6, 2) := by decide +kernel
theorem dL_ranks_100 : decode cL_ranks 100 = .ok (.if_icmp .ne 16, 3) := by decide +kernel
theorem dL_ranks_103 : decode cL_ranks 103 = .ok (.aload_n 0, 1) := by decide +kernel
theorem dL_ranks_104 : decode cL_ranks 104 = .ok (.iload_n 1, 1) := by decide +kernel
theorem dL_ranks_105 : decode cL_ranks 105 = .ok (.iload_n 3, 1) := by decide +kernel
theorem dL_ranks_106 : decode cL_ranks 106 = .ok (.iload 4, 2) := by decide +kernel
theorem dL_ranks_108 : decode cL_ranks 108 = .ok (.invokestatic 111, 3) := by decide +kernel
theorem dL_ranks_111 : decode cL_ranks 111 = .ok (.iload 5, 2) := by decide +kernel
theorem dL_ranks_113 : decode cL_ranks 113 = .ok (.if_icmp .ne 7, 3) := by decide +kernel
theorem dL_ranks_116 : decode cL_ranks 116 = .ok (.iconst 1, 1) := by decide +kernel
theorem dL_ranks_117 : decode cL_ranks 117 = .ok (.goto 4, 3) := by decide +kernel
theorem dL_ranks_120 : decode cL_ranks 120 = .ok (.iconst 0, 1) := by decide +kernel
theorem dL_ranks_121 : decode cL_ranks 121 = .ok (.ireturn, 1) := by decide +kernel
theorem dL_refuses_0 : decode cL_refuses 0 = .ok (.aload_n 0, 1) := by decide +kernel
theorem dL_refuses_1 : decode cL_refuses 1 = .ok (.invokevirtual 113, 3) := by decide +kernel
theorem dL_refuses_4 : decode cL_refuses 4 = .ok (.lstore_n 1, 1) := by decide +kernel
theorem dL_refuses_5 : decode cL_refuses 5 = .ok (.aload_n 0, 1) := by decide +kernel
theorem dL_refuses_6 : decode cL_refuses 6 = .ok (.bipush 32, 2) := by decide +kernel
theorem dL_refuses_8 : decode cL_refuses 8 = .ok (.iconst 0, 1) := by decide +kernel
theorem dL_refuses_9 : decode cL_refuses 9 = .ok (.iconst 0, 1) := by decide +kernel
theorem dL_refuses_10 : decode cL_refuses 10 = .ok (.invokestatic 117, 3) := by decide +kernel
theorem dL_refuses_13 : decode cL_refuses 13 = .ok (.sipush (-903), 3) := by decide +kernel
theorem dL_refuses_16 : decode cL_refuses 16 = .ok (.if_icmp .ne 105, 3) := by decide +kernel
theorem dL_refuses_19 : decode cL_refuses 19 = .ok (.aload_n 0, 1) := by decide +kernel
theorem dL_refuses_20 : decode cL_refuses 20 = .ok (.bipush 31, 2) := by decide +kernel
theorem dL_refuses_22 : decode cL_refuses 22 = .ok (.bipush 9, 2) := by decide +kernel
theorem dL_refuses_24 : decode cL_refuses 24 = .ok (.iconst 0, 1) := by decide +kernel
theorem dL_refuses_25 : decode cL_refuses 25 = .ok (.invokestatic 117, 3) := by decide +kernel
theorem dL_refuses_28 : decode cL_refuses 28 = .ok (.sipush (-901), 3) := by decide +kernel
theorem dL_refuses_31 : decode cL_refuses 31 = .ok (.if_icmp .ne 90, 3) := by decide +kernel
theorem dL_refuses_34 : decode cL_refuses 34 = .ok (.aload_n 0, 1) := by decide +kernel
theorem dL_refuses_35 : decode cL_refuses 35 = .ok (.bipush 32, 2) := by decide +kernel
theorem dL_refuses_37 : decode cL_refuses 37 = .ok (.invokestatic 119, 3) := by decide +kernel
theorem dL_refuses_40 : decode cL_refuses 40 = .ok (.sipush (-903), 3) := by decide +kernel
theorem dL_refuses_43 : decode cL_refuses 43 = .ok (.if_icmp .ne 78, 3) := by decide +kernel
theorem dL_refuses_46 : decode cL_refuses 46 = .ok (.aload_n 0, 1) := by decide +kernel
theorem dL_refuses_47 : decode cL_refuses 47 = .ok (.iconst (-1), 1) := by decide +kernel
theorem dL_refuses_48 : decode cL_refuses 48 = .ok (.invokestatic 121, 3) := by decide +kernel
theorem dL_refuses_51 : decode cL_refuses 51 = .ok (.sipush (-903), 3) := by decide +kernel
theorem dL_refuses_54 : decode cL_refuses 54 = .ok (.if_icmp .ne 67, 3) := by decide +kernel
theorem dL_refuses_57 : decode cL_refuses 57 = .ok (.aload_n 0, 1) := by decide +kernel
theorem dL_refuses_58 : decode cL_refuses 58 = .ok (.iconst 0, 1) := by decide +kernel
theorem dL_refuses_59 : decode cL_refuses 59 = .ok (.iconst (-1), 1) := by decide +kernel
theorem dL_refuses_60 : decode cL_refuses 60 = .ok (.invokestatic 123, 3) := by decide +kernel
theorem dL_refuses_63 : decode cL_refuses 63 = .ok (.sipush (-901), 3) := by decide +kernel
theorem dL_refuses_66 : decode cL_refuses 66 = .ok (.if_icmp .ne 55, 3) := by decide +kernel
theorem dL_refuses_69 : decode cL_refuses 69 = .ok (.aload_n 0, 1) := by decide +kernel
theorem dL_refuses_70 : decode cL_refuses 70 = .ok (.bipush 9, 2) := by decide +kernel
theorem dL_refuses_72 : decode cL_refuses 72 = .ok (.invokestatic 125, 3) := by decide +kernel
theorem dL_refuses_75 : decode cL_refuses 75 = .ok (.sipush (-901), 3) := by decide +kernel
theorem dL_refuses_78 : decode cL_refuses 78 = .ok (.if_icmp .ne 43, 3) := by decide +kernel
theorem dL_refuses_81 : decode cL_refuses 81 = .ok (.aload_n 0, 1) := by decide +kernel
theorem dL_refuses_82 : decode cL_refuses 82 = .ok (.iconst 0, 1) := by decide +kernel
theorem dL_refuses_83 : decode cL_refuses 83 = .ok (.invokestatic 127, 3) := by decide +kernel
theorem dL_refuses_86 : decode cL_refuses 86 = .ok (.sipush (-901), 3) := by decide +kernel
theorem dL_refuses_89 : decode cL_refuses 89 = .ok (.if_icmp .ne 32, 3) := by decide +kernel
theorem dL_refuses_92 : decode cL_refuses 92 = .ok (.aload_n 0, 1) := by decide +kernel
theorem dL_refuses_93 : decode cL_refuses 93 = .ok (.iconst 0, 1) := by decide +kernel
theorem dL_refuses_94 : decode cL_refuses 94 = .ok (.iconst (-1), 1) := by decide +kernel
theorem dL_refuses_95 : decode cL_refuses 95 = .ok (.invokestatic 129, 3) := by decide +kernel
theorem dL_refuses_98 : decode cL_refuses 98 = .ok (.sipush (-903), 3) := by decide +kernel
theorem dL_refuses_101 : decode cL_refuses 101 = .ok (.if_icmp .ne 20, 3) := by decide +kernel
theorem dL_refuses_104 : decode cL_refuses 104 = .ok (.aload_n 0, 1) := by decide +kernel
theorem dL_refuses_105 : decode cL_refuses 105 = .ok (.sipush 201, 3) := by decide +kernel
theorem dL_refuses_108 : decode cL_refuses 108 = .ok (.invokestatic 131, 3) := by decide +kernel
theorem dL_refuses_111 : decode cL_refuses 111 = .ok (.sipush (-901), 3) := by decide +kernel
theorem dL_refuses_114 : decode cL_refuses 114 = .ok (.if_icmp .ne 7, 3) := by decide +kernel
theorem dL_refuses_117 : decode cL_refuses 117 = .ok (.iconst 1, 1) := by decide +kernel
theorem dL_refuses_118 : decode cL_refuses 118 = .ok (.goto 4, 3) := by decide +kernel
theorem dL_refuses_121 : decode cL_refuses 121 = .ok (.iconst 0, 1) := by decide +kernel
theorem dL_refuses_122 : decode cL_refuses 122 = .ok (.istore_n 3, 1) := by decide +kernel
theorem dL_refuses_123 : decode cL_refuses 123 = .ok (.iload_n 3, 1) := by decide +kernel
theorem dL_refuses_124 : decode cL_refuses 124 = .ok (.ifCond .eq 148, 3) := by decide +kernel
theorem dL_refuses_127 : decode cL_refuses 127 = .ok (.aload_n 0, 1) := by decide +kernel
theorem dL_refuses_128 : decode cL_refuses 128 = .ok (.bipush 31, 2) := by decide +kernel
theorem dL_refuses_130 : decode cL_refuses 130 = .ok (.invokestatic 119, 3) := by decide +kernel
theorem dL_refuses_133 : decode cL_refuses 133 = .ok (.sipush (-902), 3) := by decide +kernel
theorem dL_refuses_136 : decode cL_refuses 136 = .ok (.if_icmp .ne 136, 3) := by decide +kernel
theorem dL_refuses_139 : decode cL_refuses 139 = .ok (.aload_n 0, 1) := by decide +kernel
theorem dL_refuses_140 : decode cL_refuses 140 = .ok (.bipush 31, 2) := by decide +kernel
theorem dL_refuses_142 : decode cL_refuses 142 = .ok (.invokestatic 121, 3) := by decide +kernel
theorem dL_refuses_145 : decode cL_refuses 145 = .ok (.sipush (-902), 3) := by decide +kernel
theorem dL_refuses_148 : decode cL_refuses 148 = .ok (.if_icmp .ne 124, 3) := by decide +kernel
theorem dL_refuses_151 : decode cL_refuses 151 = .ok (.aload_n 0, 1) := by decide +kernel
theorem dL_refuses_152 : decode cL_refuses 152 = .ok (.bipush 31, 2) := by decide +kernel
theorem dL_refuses_154 : decode cL_refuses 154 = .ok (.iconst 0, 1) := by decide +kernel
theorem dL_refuses_155 : decode cL_refuses 155 = .ok (.invokestatic 123, 3) := by decide +kernel
theorem dL_refuses_158 : decode cL_refuses 158 = .ok (.sipush (-902), 3) := by decide +kernel
theorem dL_refuses_161 : decode cL_refuses 161 = .ok (.if_icmp .ne 111, 3) := by decide +kernel
theorem dL_refuses_164 : decode cL_refuses 164 = .ok (.aload_n 0, 1) := by decide +kernel
theorem dL_refuses_165 : decode cL_refuses 165 = .ok (.bipush 31, 2) := by decide +kernel
theorem dL_refuses_167 : decode cL_refuses 167 = .ok (.iconst 0, 1) := by decide +kernel
theorem dL_refuses_168 : decode cL_refuses 168 = .ok (.invokestatic 129, 3) := by decide +kernel
theorem dL_refuses_171 : decode cL_refuses 171 = .ok (.sipush (-902), 3) := by decide +kernel
theorem dL_refuses_174 : decode cL_refuses 174 = .ok (.if_icmp .ne 98, 3) := by decide +kernel
theorem dL_refuses_177 : decode cL_refuses 177 = .ok (.aload_n 0, 1) := by decide +kernel
theorem dL_refuses_178 : decode cL_refuses 178 = .ok (.bipush 31, 2) := by decide +kernel
theorem dL_refuses_180 : decode cL_refuses 180 = .ok (.iconst 0, 1) := by decide +kernel
theorem dL_refuses_181 : decode cL_refuses 181 = .ok (.invokestatic 91, 3) := by decide +kernel
theorem dL_refuses_184 : decode cL_refuses 184 = .ok (.sipush (-902), 3) := by decide +kernel
theorem dL_refuses_187 : decode cL_refuses 187 = .ok (.if_icmp .ne 85, 3) := by decide +kernel
theorem dL_refuses_190 : decode cL_refuses 190 = .ok (.aload_n 0, 1) := by decide +kernel
theorem dL_refuses_191 : decode cL_refuses 191 = .ok (.bipush 31, 2) := by decide +kernel
theorem dL_refuses_193 : decode cL_refuses 193 = .ok (.iconst 0, 1) := by decide +kernel
theorem dL_refuses_194 : decode cL_refuses 194 = .ok (.iconst 0, 1) := by decide +kernel
theorem dL_refuses_195 : decode cL_refuses 195 = .ok (.invokestatic 88, 3) := by decide +kernel
theorem dL_refuses_198 : decode cL_refuses 198 = .ok (.sipush (-902), 3) := by decide +kernel
theorem dL_refuses_201 : decode cL_refuses 201 = .ok (.if_icmp .ne 71, 3) := by decide +kernel
theorem dL_refuses_204 : decode cL_refuses 204 = .ok (.aload_n 0, 1) := by decide +kernel
theorem dL_refuses_205 : decode cL_refuses 205 = .ok (.bipush 31, 2) := by decide +kernel
theorem dL_refuses_207 : decode cL_refuses 207 = .ok (.iconst 0, 1) := by decide +kernel
theorem dL_refuses_208 : decode cL_refuses 208 = .ok (.invokestatic 97, 3) := by decide +kernel
theorem dL_refuses_211 : decode cL_refuses 211 = .ok (.sipush (-902), 3) := by decide +kernel
theorem dL_refuses_214 : decode cL_refuses 214 = .ok (.if_icmp .ne 58, 3) := by decide +kernel
theorem dL_refuses_217 : decode cL_refuses 217 = .ok (.aload_n 0, 1) := by decide +kernel
theorem dL_refuses_218 : decode cL_refuses 218 = .ok (.bipush 31, 2) := by decide +kernel
theorem dL_refuses_220 : decode cL_refuses 220 = .ok (.invokestatic 102, 3) := by decide +kernel
theorem dL_refuses_223 : decode cL_refuses 223 = .ok (.sipush (-902), 3) := by decide +kernel
theorem dL_refuses_226 : decode cL_refuses 226 = .ok (.if_icmp .ne 46, 3) := by decide +kernel
theorem dL_refuses_229 : decode cL_refuses 229 = .ok (.aload_n 0, 1) := by decide +kernel
theorem dL_refuses_230 : decode cL_refuses 230 = .ok (.bipush 31, 2) := by decide +kernel
theorem dL_refuses_232 : decode cL_refuses 232 = .ok (.invokestatic 99, 3) := by decide +kernel
theorem dL_refuses_235 : decode cL_refuses 235 = .ok (.sipush (-902), 3) := by decide +kernel
theorem dL_refuses_238 : decode cL_refuses 238 = .ok (.if_icmp .ne 34, 3) := by decide +kernel
theorem dL_refuses_241 : decode cL_refuses 241 = .ok (.aload_n 0, 1) := by decide +kernel
theorem dL_refuses_242 : decode cL_refuses 242 = .ok (.bipush 30, 2) := by decide +kernel
theorem dL_refuses_244 : decode cL_refuses 244 = .ok (.bipush 31, 2) := by decide +kernel
theorem dL_refuses_246 : decode cL_refuses 246 = .ok (.iconst 0, 1) := by decide +kernel
theorem dL_refuses_247 : decode cL_refuses 247 = .ok (.invokestatic 111, 3) := by decide +kernel
theorem dL_refuses_250 : decode cL_refuses 250 = .ok (.sipush (-902), 3) := by decide +kernel
theorem dL_refuses_253 : decode cL_refuses 253 = .ok (.if_icmp .ne 19, 3) := by decide +kernel
theorem dL_refuses_256 : decode cL_refuses 256 = .ok (.aload_n 0, 1) := by decide +kernel
theorem dL_refuses_257 : decode cL_refuses 257 = .ok (.iconst 0, 1) := by decide +kernel
theorem dL_refuses_258 : decode cL_refuses 258 = .ok (.iconst (-1), 1) := by decide +kernel
theorem dL_refuses_259 : decode cL_refuses 259 = .ok (.invokestatic 109, 3) := by decide +kernel
theorem dL_refuses_262 : decode cL_refuses 262 = .ok (.sipush (-901), 3) := by decide +kernel
theorem dL_refuses_265 : decode cL_refuses 265 = .ok (.if_icmp .ne 7, 3) := by decide +kernel
theorem dL_refuses_268 : decode cL_refuses 268 = .ok (.iconst 1, 1) := by decide +kernel
theorem dL_refuses_269 : decode cL_refuses 269 = .ok (.goto 4, 3) := by decide +kernel
theorem dL_refuses_272 : decode cL_refuses 272 = .ok (.iconst 0, 1) := by decide +kernel
theorem dL_refuses_273 : decode cL_refuses 273 = .ok (.istore_n 3, 1) := by decide +kernel
theorem dL_refuses_274 : decode cL_refuses 274 = .ok (.iload_n 3, 1) := by decide +kernel
theorem dL_refuses_275 : decode cL_refuses 275 = .ok (.ifCond .eq 16, 3) := by decide +kernel
theorem dL_refuses_278 : decode cL_refuses 278 = .ok (.aload_n 0, 1) := by decide +kernel
theorem dL_refuses_279 : decode cL_refuses 279 = .ok (.invokevirtual 113, 3) := by decide +kernel
theorem dL_refuses_282 : decode cL_refuses 282 = .ok (.lload_n 1, 1) := by decide +kernel
theorem dL_refuses_283 : decode cL_refuses 283 = .ok (.lcmp, 1) := by decide +kernel
theorem dL_refuses_284 : decode cL_refuses 284 = .ok (.ifCond .ne 7, 3) := by decide +kernel
theorem dL_refuses_287 : decode cL_refuses 287 = .ok (.iconst 1, 1) := by decide +kernel
theorem dL_refuses_288 : decode cL_refuses 288 = .ok (.goto 4, 3) := by decide +kernel
theorem dL_refuses_291 : decode cL_refuses 291 = .ok (.iconst 0, 1) := by decide +kernel
theorem dL_refuses_292 : decode cL_refuses 292 = .ok (.ireturn, 1) := by decide +kernel
theorem dL_law_0 : decode cL_law 0 = .ok (.new 10, 3) := by decide +kernel
theorem dL_law_3 : decode cL_law 3 = .ok (.dup, 1) := by decide +kernel
theorem dL_law_4 : decode cL_law 4 = .ok (.invokespecial 133, 3) := by decide +kernel
theorem dL_law_7 : decode cL_law 7 = .ok (.astore_n 1, 1) := by decide +kernel
theorem dL_law_8 : decode cL_law 8 = .ok (.iconst 2, 1) := by decide +kernel
theorem dL_law_9 : decode cL_law 9 = .ok (.istore_n 2, 1) := by decide +kernel
theorem dL_law_10 : decode cL_law 10 = .ok (.aload_n 1, 1) := by decide +kernel
theorem dL_law_11 : decode cL_law 11 = .ok (.iload_n 2, 1) := by decide +kernel
theorem dL_law_12 : decode cL_law 12 = .ok (.invokestatic 134, 3) := by decide +kernel
theorem dL_law_15 : decode cL_law 15 = .ok (.ifCond .eq 20, 3) := by decide +kernel
theorem dL_law_18 : decode cL_law 18 = .ok (.aload_n 1, 1) := by decide +kernel
theorem dL_law_19 : decode cL_law 19 = .ok (.invokestatic 138, 3) := by decide +kernel
theorem dL_law_22 : decode cL_law 22 = .ok (.sipush (-902), 3) := by decide +kernel
theorem dL_law_25 : decode cL_law 25 = .ok (.if_icmp .ne 10, 3) := by decide +kernel
theorem dL_law_28 : decode cL_law 28 = .ok (.aload_n 1, 1) := by decide +kernel
theorem dL_law_29 : decode cL_law 29 = .ok (.invokestatic 141, 3) := by decide +kernel
theorem dL_law_32 : decode cL_law 32 = .ok (.ifCond .ne 5, 3) := by decide +kernel
theorem dL_law_35 : decode cL_law 35 = .ok (.iconst 0, 1) := by decide +kernel
theorem dL_law_36 : decode cL_law 36 = .ok (.ireturn, 1) := by decide +kernel
theorem dL_law_37 : decode cL_law 37 = .ok (.iconst 0, 1) := by decide +kernel
theorem dL_law_38 : decode cL_law 38 = .ok (.istore_n 3, 1) := by decide +kernel
theorem dL_law_39 : decode cL_law 39 = .ok (.iload_n 3, 1) := by decide +kernel
theorem dL_law_40 : decode cL_law 40 = .ok (.bipush 28, 2) := by decide +kernel
theorem dL_law_42 : decode cL_law 42 = .ok (.if_icmp .ge 485, 3) := by decide +kernel
theorem dL_law_45 : decode cL_law 45 = .ok (.aload_n 0, 1) := by decide +kernel
theorem dL_law_46 : decode cL_law 46 = .ok (.iconst 2, 1) := by decide +kernel
theorem dL_law_47 : decode cL_law 47 = .ok (.iload_n 3, 1) := by decide +kernel
theorem dL_law_48 : decode cL_law 48 = .ok (.imul, 1) := by decide +kernel
theorem dL_law_49 : decode cL_law 49 = .ok (.invokestatic 145, 3) := by decide +kernel
theorem dL_law_52 : decode cL_law 52 = .ok (.istore 4, 2) := by decide +kernel
theorem dL_law_54 : decode cL_law 54 = .ok (.aload_n 0, 1) := by decide +kernel
theorem dL_law_55 : decode cL_law 55 = .ok (.iconst 2, 1) := by decide +kernel
theorem dL_law_56 : decode cL_law 56 = .ok (.iload_n 3, 1) := by decide +kernel
theorem dL_law_57 : decode cL_law 57 = .ok (.imul, 1) := by decide +kernel
theorem dL_law_58 : decode cL_law 58 = .ok (.iconst 1, 1) := by decide +kernel
theorem dL_law_59 : decode cL_law 59 = .ok (.iadd, 1) := by decide +kernel
theorem dL_law_60 : decode cL_law 60 = .ok (.invokestatic 145, 3) := by decide +kernel
theorem dL_law_63 : decode cL_law 63 = .ok (.istore 5, 2) := by decide +kernel
theorem dL_law_65 : decode cL_law 65 = .ok (.iload 4, 2) := by decide +kernel
theorem dL_law_67 : decode cL_law 67 = .ok (.bipush 24, 2) := by decide +kernel
theorem dL_law_69 : decode cL_law 69 = .ok (.invokestatic 149, 3) := by decide +kernel
theorem dL_law_72 : decode cL_law 72 = .ok (.istore 6, 2) := by decide +kernel
theorem dL_law_74 : decode cL_law 74 = .ok (.iload 4, 2) := by decide +kernel
theorem dL_law_76 : decode cL_law 76 = .ok (.iconst 5, 1) := by decide +kernel
theorem dL_law_77 : decode cL_law 77 = .ok (.ishr, 1) := by decide +kernel
theorem dL_law_78 : decode cL_law 78 = .ok (.bipush 12, 2) := by decide +kernel
theorem dL_law_80 : decode cL_law 80 = .ok (.invokestatic 149, 3) := by decide +kernel
theorem dL_law_83 : decode cL_law 83 = .ok (.istore 7, 2) := by decide +kernel
theorem dL_law_85 : decode cL_law 85 = .ok (.aload_n 1, 1) := by decide +kernel
theorem dL_law_86 : decode cL_law 86 = .ok (.invokevirtual 113, 3) := by decide +kernel
theorem dL_law_89 : decode cL_law 89 = .ok (.lstore 8, 2) := by decide +kernel
theorem dL_law_91 : decode cL_law 91 = .ok (.iconst 0, 1) := by decide +kernel
theorem dL_law_92 : decode cL_law 92 = .ok (.istore 10, 2) := by decide +kernel
theorem dL_law_94 : decode cL_law 94 = .ok (.iload_n 3, 1) := by decide +kernel
theorem dL_law_95 : decode cL_law 95 = .ok (.bipush 8, 2) := by decide +kernel
theorem dL_law_97 : decode cL_law 97 = .ok (.if_icmp .lt 9, 3) := by decide +kernel
theorem dL_law_100 : decode cL_law 100 = .ok (.iload 7, 2) := by decide +kernel
theorem dL_law_102 : decode cL_law 102 = .ok (.iconst 3, 1) := by decide +kernel
theorem dL_law_103 : decode cL_law 103 = .ok (.if_icmp .ge 29, 3) := by decide +kernel
theorem dL_law_106 : decode cL_law 106 = .ok (.aload_n 1, 1) := by decide +kernel
theorem dL_law_107 : decode cL_law 107 = .ok (.iload 6, 2) := by decide +kernel
theorem dL_law_109 : decode cL_law 109 = .ok (.iload 5, 2) := by decide +kernel
theorem dL_law_111 : decode cL_law 111 = .ok (.bipush 6, 2) := by decide +kernel
theorem dL_law_113 : decode cL_law 113 = .ok (.invokestatic 149, 3) := by decide +kernel
theorem dL_law_116 : decode cL_law 116 = .ok (.iload 5, 2) := by decide +kernel
theorem dL_law_118 : decode cL_law 118 = .ok (.iconst 4, 1) := by decide +kernel
theorem dL_law_119 : decode cL_law 119 = .ok (.ishr, 1) := by decide +kernel
theorem dL_law_120 : decode cL_law 120 = .ok (.iconst 4, 1) := by decide +kernel
theorem dL_law_121 : decode cL_law 121 = .ok (.invokestatic 149, 3) := by decide +kernel
theorem dL_law_124 : decode cL_law 124 = .ok (.invokestatic 117, 3) := by decide +kernel
theorem dL_law_127 : decode cL_law 127 = .ok (.istore 10, 2) := by decide +kernel
theorem dL_law_129 : decode cL_law 129 = .ok (.goto 248, 3) := by decide +kernel
theorem dL_law_132 : decode cL_law 132 = .ok (.iload 7, 2) := by decide +kernel
theorem dL_law_134 : decode cL_law 134 = .ok (.iconst 3, 1) := by decide +kernel
theorem dL_law_135 : decode cL_law 135 = .ok (.if_icmp .ne 14, 3) := by decide +kernel
theorem dL_law_138 : decode cL_law 138 = .ok (.aload_n 1, 1) := by decide +kernel
theorem dL_law_139 : decode cL_law 139 = .ok (.iload 6, 2) := by decide +kernel
theorem dL_law_141 : decode cL_law 141 = .ok (.invokestatic 119, 3) := by decide +kernel
theorem dL_law_144 : decode cL_law 144 = .ok (.istore 10, 2) := by decide +kernel
theorem dL_law_146 : decode cL_law 146 = .ok (.goto 231, 3) := by decide +kernel
theorem dL_law_149 : decode cL_law 149 = .ok (.iload 7, 2) := by decide +kernel
theorem dL_law_151 : decode cL_law 151 = .ok (.bipush 6, 2) := by decide +kernel
theorem dL_law_153 : decode cL_law 153 = .ok (.if_icmp .ge 14, 3) := by decide +kernel
theorem dL_law_156 : decode cL_law 156 = .ok (.aload_n 1, 1) := by decide +kernel
theorem dL_law_157 : decode cL_law 157 = .ok (.iload 6, 2) := by decide +kernel
theorem dL_law_159 : decode cL_law 159 = .ok (.invokestatic 121, 3) := by decide +kernel
theorem dL_law_162 : decode cL_law 162 = .ok (.istore 10, 2) := by decide +kernel
theorem dL_law_164 : decode cL_law 164 = .ok (.goto 213, 3) := by decide +kernel
theorem dL_law_167 : decode cL_law 167 = .ok (.iload 7, 2) := by decide +kernel
theorem dL_law_169 : decode cL_law 169 = .ok (.bipush 6, 2) := by decide +kernel
theorem dL_law_171 : decode cL_law 171 = .ok (.if_icmp .ne 21, 3) := by decide +kernel
theorem dL_law_174 : decode cL_law 174 = .ok (.aload_n 1, 1) := by decide +kernel
theorem dL_law_175 : decode cL_law 175 = .ok (.iload 6, 2) := by decide +kernel
theorem dL_law_177 : decode cL_law 177 = .ok (.iload 5, 2) := by decide +kernel
theorem dL_law_179 : decode cL_law 179 = .ok (.bipush 9, 2) := by decide +kernel
theorem dL_law_181 : decode cL_law 181 = .ok (.invokestatic 149, 3) := by decide +kernel
theorem dL_law_184 : decode cL_law 184 = .ok (.invokestatic 123, 3) := by decide +kernel
theorem dL_law_187 : decode cL_law 187 = .ok (.istore 10, 2) := by decide +kernel
theorem dL_law_189 : decode cL_law 189 = .ok (.goto 188, 3) := by decide +kernel
theorem dL_law_192 : decode cL_law 192 = .ok (.iload 7, 2) := by decide +kernel
theorem dL_law_194 : decode cL_law 194 = .ok (.bipush 7, 2) := by decide +kernel
theorem dL_law_196 : decode cL_law 196 = .ok (.if_icmp .ne 30, 3) := by decide +kernel
theorem dL_law_199 : decode cL_law 199 = .ok (.iload_n 2, 1) := by decide +kernel
theorem dL_law_200 : decode cL_law 200 = .ok (.istore 11, 2) := by decide +kernel
theorem dL_law_202 : decode cL_law 202 = .ok (.iconst 1, 1) := by decide +kernel
theorem dL_law_203 : decode cL_law 203 = .ok (.iload 5, 2) := by decide +kernel
theorem dL_law_205 : decode cL_law 205 = .ok (.iconst 5, 1) := by decide +kernel
theorem dL_law_206 : decode cL_law 206 = .ok (.invokestatic 149, 3) := by decide +kernel
theorem dL_law_209 : decode cL_law 209 = .ok (.iadd, 1) := by decide +kernel
theorem dL_law_210 : decode cL_law 210 = .ok (.istore_n 2, 1) := by decide +kernel
theorem dL_law_211 : decode cL_law 211 = .ok (.aload_n 1, 1) := by decide +kernel
theorem dL_law_212 : decode cL_law 212 = .ok (.iload_n 2, 1) := by decide +kernel
theorem dL_law_213 : decode cL_law 213 = .ok (.invokestatic 125, 3) := by decide +kernel
theorem dL_law_216 : decode cL_law 216 = .ok (.iload 11, 2) := by decide +kernel
theorem dL_law_218 : decode cL_law 218 = .ok (.if_icmp .eq 5, 3) := by decide +kernel
theorem dL_law_221 : decode cL_law 221 = .ok (.iconst 0, 1) := by decide +kernel
theorem dL_law_222 : decode cL_law 222 = .ok (.ireturn, 1) := by decide +kernel
theorem dL_law_223 : decode cL_law 223 = .ok (.goto 154, 3) := by decide +kernel
theorem dL_law_226 : decode cL_law 226 = .ok (.iload 7, 2) := by decide +kernel
theorem dL_law_228 : decode cL_law 228 = .ok (.bipush 8, 2) := by decide +kernel
theorem dL_law_230 : decode cL_law 230 = .ok (.if_icmp .ne 56, 3) := by decide +kernel
theorem dL_law_233 : decode cL_law 233 = .ok (.iload 5, 2) := by decide +kernel
theorem dL_law_235 : decode cL_law 235 = .ok (.iconst 4, 1) := by decide +kernel
theorem dL_law_236 : decode cL_law 236 = .ok (.invokestatic 149, 3) := by decide +kernel
theorem dL_law_239 : decode cL_law 239 = .ok (.istore 11, 2) := by decide +kernel
theorem dL_law_241 : decode cL_law 241 = .ok (.aload_n 1, 1) := by decide +kernel
theorem dL_law_242 : decode cL_law 242 = .ok (.iload 6, 2) := by decide +kernel
theorem dL_law_244 : decode cL_law 244 = .ok (.iload 11, 2) := by decide +kernel
theorem dL_law_246 : decode cL_law 246 = .ok (.invokestatic 129, 3) := by decide +kernel
theorem dL_law_249 : decode cL_law 249 = .ok (.istore 10, 2) := by decide +kernel
theorem dL_law_251 : decode cL_law 251 = .ok (.iload 10, 2) := by decide +kernel
theorem dL_law_253 : decode cL_law 253 = .ok (.iconst (-1), 1) := by decide +kernel
theorem dL_law_254 : decode cL_law 254 = .ok (.if_icmp .ne 29, 3) := by decide +kernel
theorem dL_law_257 : decode cL_law 257 = .ok (.aload_n 1, 1) := by decide +kernel
theorem dL_law_258 : decode cL_law 258 = .ok (.iload 11, 2) := by decide +kernel
theorem dL_law_260 : decode cL_law 260 = .ok (.iconst 4, 1) := by decide +kernel
theorem dL_law_261 : decode cL_law 261 = .ok (.invokestatic 109, 3) := by decide +kernel
theorem dL_law_264 : decode cL_law 264 = .ok (.aload_n 1, 1) := by decide +kernel
theorem dL_law_265 : decode cL_law 265 = .ok (.bipush 100, 2) := by decide +kernel
theorem dL_law_267 : decode cL_law 267 = .ok (.iload 11, 2) := by decide +kernel
theorem dL_law_269 : decode cL_law 269 = .ok (.invokestatic 97, 3) := by decide +kernel
theorem dL_law_272 : decode cL_law 272 = .ok (.iadd, 1) := by decide +kernel
theorem dL_law_273 : decode cL_law 273 = .ok (.ifCond .ne 7, 3) := by decide +kernel
theorem dL_law_276 : decode cL_law 276 = .ok (.iconst 0, 1) := by decide +kernel
theorem dL_law_277 : decode cL_law 277 = .ok (.goto 4, 3) := by decide +kernel
theorem dL_law_280 : decode cL_law 280 = .ok (.iconst (-1), 1) := by decide +kernel
theorem dL_law_281 : decode cL_law 281 = .ok (.istore 10, 2) := by decide +kernel
theorem dL_law_283 : decode cL_law 283 = .ok (.goto 94, 3) := by decide +kernel
theorem dL_law_286 : decode cL_law 286 = .ok (.iload 7, 2) := by decide +kernel
theorem dL_law_288 : decode cL_law 288 = .ok (.bipush 9, 2) := by decide +kernel
theorem dL_law_290 : decode cL_law 290 = .ok (.if_icmp .ne 47, 3) := by decide +kernel
theorem dL_law_293 : decode cL_law 293 = .ok (.aload_n 1, 1) := by decide +kernel
theorem dL_law_294 : decode cL_law 294 = .ok (.invokevirtual 152, 3) := by decide +kernel
theorem dL_law_297 : decode cL_law 297 = .ok (.aload_n 1, 1) := by decide +kernel
theorem dL_law_298 : decode cL_law 298 = .ok (.iconst 0, 1) := by decide +kernel
theorem dL_law_299 : decode cL_law 299 = .ok (.iconst 1, 1) := by decide +kernel
theorem dL_law_300 : decode cL_law 300 = .ok (.invokestatic 109, 3) := by decide +kernel
theorem dL_law_303 : decode cL_law 303 = .ok (.aload_n 1, 1) := by decide +kernel
theorem dL_law_304 : decode cL_law 304 = .ok (.iconst 1, 1) := by decide +kernel
theorem dL_law_305 : decode cL_law 305 = .ok (.iconst 1, 1) := by decide +kernel
theorem dL_law_306 : decode cL_law 306 = .ok (.invokestatic 109, 3) := by decide +kernel
theorem dL_law_309 : decode cL_law 309 = .ok (.iadd, 1) := by decide +kernel
theorem dL_law_310 : decode cL_law 310 = .ok (.aload_n 1, 1) := by decide +kernel
theorem dL_law_311 : decode cL_law 311 = .ok (.iconst 2, 1) := by decide +kernel
theorem dL_law_312 : decode cL_law 312 = .ok (.iconst 1, 1) := by decide +kernel
theorem dL_law_313 : decode cL_law 313 = .ok (.invokestatic 109, 3) := by decide +kernel
theorem dL_law_316 : decode cL_law 316 = .ok (.iadd, 1) := by decide +kernel
theorem dL_law_317 : decode cL_law 317 = .ok (.aload_n 1, 1) := by decide +kernel
theorem dL_law_318 : decode cL_law 318 = .ok (.iconst 3, 1) := by decide +kernel
theorem dL_law_319 : decode cL_law 319 = .ok (.iconst 1, 1) := by decide +kernel
theorem dL_law_320 : decode cL_law 320 = .ok (.invokestatic 109, 3) := by decide +kernel
theorem dL_law_323 : decode cL_law 323 = .ok (.iadd, 1) := by decide +kernel
theorem dL_law_324 : decode cL_law 324 = .ok (.if_icmp .ne 7, 3) := by decide +kernel
theorem dL_law_327 : decode cL_law 327 = .ok (.iconst 0, 1) := by decide +kernel
theorem dL_law_328 : decode cL_law 328 = .ok (.goto 4, 3) := by decide +kernel
theorem dL_law_331 : decode cL_law 331 = .ok (.iconst (-1), 1) := by decide +kernel
theorem dL_law_332 : decode cL_law 332 = .ok (.istore 10, 2) := by decide +kernel
theorem dL_law_334 : decode cL_law 334 = .ok (.goto 43, 3) := by decide +kernel
theorem dL_law_337 : decode cL_law 337 = .ok (.iload 7, 2) := by decide +kernel
theorem dL_law_339 : decode cL_law 339 = .ok (.bipush 10, 2) := by decide +kernel
theorem dL_law_341 : decode cL_law 341 = .ok (.if_icmp .ne 21, 3) := by decide +kernel
theorem dL_law_344 : decode cL_law 344 = .ok (.aload_n 1, 1) := by decide +kernel
theorem dL_law_345 : decode cL_law 345 = .ok (.iconst 1, 1) := by decide +kernel
theorem dL_law_346 : decode cL_law 346 = .ok (.iload 5, 2) := by decide +kernel
theorem dL_law_348 : decode cL_law 348 = .ok (.bipush 8, 2) := by decide +kernel
theorem dL_law_350 : decode cL_law 350 = .ok (.invokestatic 149, 3) := by decide +kernel
theorem dL_law_353 : decode cL_law 353 = .ok (.iadd, 1) := by decide +kernel
theorem dL_law_354 : decode cL_law 354 = .ok (.invokestatic 127, 3) := by decide +kernel
theorem dL_law_357 : decode cL_law 357 = .ok (.istore 10, 2) := by decide +kernel
theorem dL_law_359 : decode cL_law 359 = .ok (.goto 18, 3) := by decide +kernel
theorem dL_law_362 : decode cL_law 362 = .ok (.aload_n 1, 1) := by decide +kernel
theorem dL_law_363 : decode cL_law 363 = .ok (.iconst 1, 1) := by decide +kernel
theorem dL_law_364 : decode cL_law 364 = .ok (.iload 5, 2) := by decide +kernel
theorem dL_law_366 : decode cL_law 366 = .ok (.bipush 12, 2) := by decide +kernel
theorem dL_law_368 : decode cL_law 368 = .ok (.invokestatic 149, 3) := by decide +kernel
theorem dL_law_371 : decode cL_law 371 = .ok (.iadd, 1) := by decide +kernel
theorem dL_law_372 : decode cL_law 372 = .ok (.invokestatic 131, 3) := by decide +kernel
theorem dL_law_375 : decode cL_law 375 = .ok (.istore 10, 2) := by decide +kernel
theorem dL_law_377 : decode cL_law 377 = .ok (.iload 10, 2) := by decide +kernel
theorem dL_law_379 : decode cL_law 379 = .ok (.ifCond .ge 11, 3) := by decide +kernel
theorem dL_law_382 : decode cL_law 382 = .ok (.iload 10, 2) := by decide +kernel
theorem dL_law_384 : decode cL_law 384 = .ok (.sipush (-902), 3) := by decide +kernel
theorem dL_law_387 : decode cL_law 387 = .ok (.if_icmp .ne 67, 3) := by decide +kernel
theorem dL_law_390 : decode cL_law 390 = .ok (.iload 10, 2) := by decide +kernel
theorem dL_law_392 : decode cL_law 392 = .ok (.sipush (-902), 3) := by decide +kernel
theorem dL_law_395 : decode cL_law 395 = .ok (.if_icmp .ne 13, 3) := by decide +kernel
theorem dL_law_398 : decode cL_law 398 = .ok (.aload_n 1, 1) := by decide +kernel
theorem dL_law_399 : decode cL_law 399 = .ok (.invokevirtual 113, 3) := by decide +kernel
theorem dL_law_402 : decode cL_law 402 = .ok (.lload 8, 2) := by decide +kernel
theorem dL_law_404 : decode cL_law 404 = .ok (.lcmp, 1) := by decide +kernel
theorem dL_law_405 : decode cL_law 405 = .ok (.ifCond .ne 49, 3) := by decide +kernel
theorem dL_law_408 : decode cL_law 408 = .ok (.aload_n 1, 1) := by decide +kernel
theorem dL_law_409 : decode cL_law 409 = .ok (.iload_n 2, 1) := by decide +kernel
theorem dL_law_410 : decode cL_law 410 = .ok (.invokestatic 134, 3) := by decide +kernel
theorem dL_law_413 : decode cL_law 413 = .ok (.ifCond .eq 41, 3) := by decide +kernel
theorem dL_law_416 : decode cL_law 416 = .ok (.aload_n 1, 1) := by decide +kernel
theorem dL_law_417 : decode cL_law 417 = .ok (.iload 6, 2) := by decide +kernel
theorem dL_law_419 : decode cL_law 419 = .ok (.iload 5, 2) := by decide +kernel
theorem dL_law_421 : decode cL_law 421 = .ok (.bipush 7, 2) := by decide +kernel
theorem dL_law_423 : decode cL_law 423 = .ok (.ishr, 1) := by decide +kernel
theorem dL_law_424 : decode cL_law 424 = .ok (.bipush 24, 2) := by decide +kernel
theorem dL_law_426 : decode cL_law 426 = .ok (.invokestatic 149, 3) := by decide +kernel
theorem dL_law_429 : decode cL_law 429 = .ok (.iload 5, 2) := by decide +kernel
theorem dL_law_431 : decode cL_law 431 = .ok (.bipush 12, 2) := by decide +kernel
theorem dL_law_433 : decode cL_law 433 = .ok (.ishr, 1) := by decide +kernel
theorem dL_law_434 : decode cL_law 434 = .ok (.bipush 24, 2) := by decide +kernel
theorem dL_law_436 : decode cL_law 436 = .ok (.invokestatic 149, 3) := by decide +kernel
theorem dL_law_439 : decode cL_law 439 = .ok (.iload 5, 2) := by decide +kernel
theorem dL_law_441 : decode cL_law 441 = .ok (.bipush 17, 2) := by decide +kernel
theorem dL_law_443 : decode cL_law 443 = .ok (.ishr, 1) := by decide +kernel
theorem dL_law_444 : decode cL_law 444 = .ok (.iconst 4, 1) := by decide +kernel
theorem dL_law_445 : decode cL_law 445 = .ok (.invokestatic 149, 3) := by decide +kernel
theorem dL_law_448 : decode cL_law 448 = .ok (.invokestatic 155, 3) := by decide +kernel
theorem dL_law_451 : decode cL_law 451 = .ok (.ifCond .ne 5, 3) := by decide +kernel
theorem dL_law_454 : decode cL_law 454 = .ok (.iconst 0, 1) := by decide +kernel
theorem dL_law_455 : decode cL_law 455 = .ok (.ireturn, 1) := by decide +kernel
theorem dL_law_456 : decode cL_law 456 = .ok (.iload_n 3, 1) := by decide +kernel
theorem dL_law_457 : decode cL_law 457 = .ok (.bipush 6, 2) := by decide +kernel
theorem dL_law_459 : decode cL_law 459 = .ok (.irem, 1) := by decide +kernel
theorem dL_law_460 : decode cL_law 460 = .ok (.iconst 5, 1) := by decide +kernel
theorem dL_law_461 : decode cL_law 461 = .ok (.if_icmp .ne 60, 3) := by decide +kernel
theorem dL_law_464 : decode cL_law 464 = .ok (.aload_n 1, 1) := by decide +kernel
theorem dL_law_465 : decode cL_law 465 = .ok (.invokevirtual 104, 3) := by decide +kernel
theorem dL_law_468 : decode cL_law 468 = .ok (.istore 11, 2) := by decide +kernel
theorem dL_law_470 : decode cL_law 470 = .ok (.aload_n 1, 1) := by decide +kernel
theorem dL_law_471 : decode cL_law 471 = .ok (.iconst 0, 1) := by decide +kernel
theorem dL_law_472 : decode cL_law 472 = .ok (.invokestatic 107, 3) := by decide +kernel
theorem dL_law_475 : decode cL_law 475 = .ok (.istore 12, 2) := by decide +kernel
theorem dL_law_477 : decode cL_law 477 = .ok (.aload_n 1, 1) := by decide +kernel
theorem dL_law_478 : decode cL_law 478 = .ok (.iconst 5, 1) := by decide +kernel
theorem dL_law_479 : decode cL_law 479 = .ok (.invokestatic 131, 3) := by decide +kernel
theorem dL_law_482 : decode cL_law 482 = .ok (.ifCond .lt 37, 3) := by decide +kernel
theorem dL_law_485 : decode cL_law 485 = .ok (.aload_n 1, 1) := by decide +kernel
theorem dL_law_486 : decode cL_law 486 = .ok (.iload_n 2, 1) := by decide +kernel
theorem dL_law_487 : decode cL_law 487 = .ok (.invokestatic 134, 3) := by decide +kernel
theorem dL_law_490 : decode cL_law 490 = .ok (.ifCond .eq 29, 3) := by decide +kernel
theorem dL_law_493 : decode cL_law 493 = .ok (.aload_n 1, 1) := by decide +kernel
theorem dL_law_494 : decode cL_law 494 = .ok (.invokestatic 138, 3) := by decide +kernel
theorem dL_law_497 : decode cL_law 497 = .ok (.ifCond .lt 22, 3) := by decide +kernel
theorem dL_law_500 : decode cL_law 500 = .ok (.aload_n 1, 1) := by decide +kernel
theorem dL_law_501 : decode cL_law 501 = .ok (.invokevirtual 104, 3) := by decide +kernel
theorem dL_law_504 : decode cL_law 504 = .ok (.iload 11, 2) := by decide +kernel
theorem dL_law_506 : decode cL_law 506 = .ok (.if_icmp .ne 13, 3) := by decide +kernel
theorem dL_law_509 : decode cL_law 509 = .ok (.aload_n 1, 1) := by decide +kernel
theorem dL_law_510 : decode cL_law 510 = .ok (.iconst 0, 1) := by decide +kernel
theorem dL_law_511 : decode cL_law 511 = .ok (.invokestatic 107, 3) := by decide +kernel
theorem dL_law_514 : decode cL_law 514 = .ok (.iload 12, 2) := by decide +kernel
theorem dL_law_516 : decode cL_law 516 = .ok (.if_icmp .eq 5, 3) := by decide +kernel
theorem dL_law_519 : decode cL_law 519 = .ok (.iconst 0, 1) := by decide +kernel
theorem dL_law_520 : decode cL_law 520 = .ok (.ireturn, 1) := by decide +kernel
theorem dL_law_521 : decode cL_law 521 = .ok (.iinc 3 1, 3) := by decide +kernel
theorem dL_law_524 : decode cL_law 524 = .ok (.goto (-485), 3) := by decide +kernel
theorem dL_law_527 : decode cL_law 527 = .ok (.aload_n 1, 1) := by decide +kernel
theorem dL_law_528 : decode cL_law 528 = .ok (.invokestatic 141, 3) := by decide +kernel
theorem dL_law_531 : decode cL_law 531 = .ok (.ireturn, 1) := by decide +kernel
