theorem dX7_whites_8 : decode cX7_whites 8 = .ok (.if_icmp .ge 18, 3) := by decide +kernel
theorem dX7_whites_11 : decode cX7_whites 11 = .ok (.iload_n 1, 1) := by decide +kernel
theorem dX7_whites_12 : decode cX7_whites 12 = .ok (.aload_n 0, 1) := by decide +kernel
theorem dX7_whites_13 : decode cX7_whites 13 = .ok (.bipush 55, 2) := by decide +kernel
theorem dX7_whites_15 : decode cX7_whites 15 = .ok (.iload_n 2, 1) := by decide +kernel
theorem dX7_whites_16 : decode cX7_whites 16 = .ok (.iadd, 1) := by decide +kernel
theorem dX7_whites_17 : decode cX7_whites 17 = .ok (.iaload, 1) := by decide +kernel
theorem dX7_whites_18 : decode cX7_whites 18 = .ok (.iadd, 1) := by decide +kernel
theorem dX7_whites_19 : decode cX7_whites 19 = .ok (.istore_n 1, 1) := by decide +kernel
theorem dX7_whites_20 : decode cX7_whites 20 = .ok (.iinc 2 1, 3) := by decide +kernel
theorem dX7_whites_23 : decode cX7_whites 23 = .ok (.goto (-19), 3) := by decide +kernel
theorem dX7_whites_26 : decode cX7_whites 26 = .ok (.iload_n 1, 1) := by decide +kernel
theorem dX7_whites_27 : decode cX7_whites 27 = .ok (.ireturn, 1) := by decide +kernel
theorem dX7_whiteSet_0 : decode cX7_whiteSet 0 = .ok (.iconst 0, 1) := by decide +kernel
theorem dX7_whiteSet_1 : decode cX7_whiteSet 1 = .ok (.istore_n 1, 1) := by decide +kernel
theorem dX7_whiteSet_2 : decode cX7_whiteSet 2 = .ok (.iconst 0, 1) := by decide +kernel
theorem dX7_whiteSet_3 : decode cX7_whiteSet 3 = .ok (.istore_n 2, 1) := by decide +kernel
theorem dX7_whiteSet_4 : decode cX7_whiteSet 4 = .ok (.iload_n 2, 1) := by decide +kernel
theorem dX7_whiteSet_5 : decode cX7_whiteSet 5 = .ok (.aload_n 0, 1) := by decide +kernel
theorem dX7_whiteSet_6 : decode cX7_whiteSet 6 = .ok (.iconst 3, 1) := by decide +kernel
theorem dX7_whiteSet_7 : decode cX7_whiteSet 7 = .ok (.iaload, 1) := by decide +kernel
theorem dX7_whiteSet_8 : decode cX7_whiteSet 8 = .ok (.if_icmp .ge 20, 3) := by decide +kernel
theorem dX7_whiteSet_11 : decode cX7_whiteSet 11 = .ok (.iload_n 1, 1) := by decide +kernel
theorem dX7_whiteSet_12 : decode cX7_whiteSet 12 = .ok (.aload_n 0, 1) := by decide +kernel
theorem dX7_whiteSet_13 : decode cX7_whiteSet 13 = .ok (.bipush 55, 2) := by decide +kernel
theorem dX7_whiteSet_15 : decode cX7_whiteSet 15 = .ok (.iload_n 2, 1) := by decide +kernel
theorem dX7_whiteSet_16 : decode cX7_whiteSet 16 = .ok (.iadd, 1) := by decide +kernel
theorem dX7_whiteSet_17 : decode cX7_whiteSet 17 = .ok (.iaload, 1) := by decide +kernel
theorem dX7_whiteSet_18 : decode cX7_whiteSet 18 = .ok (.iload_n 2, 1) := by decide +kernel
theorem dX7_whiteSet_19 : decode cX7_whiteSet 19 = .ok (.ishl, 1) := by decide +kernel
theorem dX7_whiteSet_20 : decode cX7_whiteSet 20 = .ok (.ior, 1) := by decide +kernel
theorem dX7_whiteSet_21 : decode cX7_whiteSet 21 = .ok (.istore_n 1, 1) := by decide +kernel
theorem dX7_whiteSet_22 : decode cX7_whiteSet 22 = .ok (.iinc 2 1, 3) := by decide +kernel
theorem dX7_whiteSet_25 : decode cX7_whiteSet 25 = .ok (.goto (-21), 3) := by decide +kernel
theorem dX7_whiteSet_28 : decode cX7_whiteSet 28 = .ok (.iload_n 1, 1) := by decide +kernel
theorem dX7_whiteSet_29 : decode cX7_whiteSet 29 = .ok (.ireturn, 1) := by decide +kernel
theorem dX7_bits_0 : decode cX7_bits 0 = .ok (.iconst 0, 1) := by decide +kernel
theorem dX7_bits_1 : decode cX7_bits 1 = .ok (.istore_n 1, 1) := by decide +kernel
theorem dX7_bits_2 : decode cX7_bits 2 = .ok (.iload_n 0, 1) := by decide +kernel
theorem dX7_bits_3 : decode cX7_bits 3 = .ok (.istore_n 2, 1) := by decide +kernel
theorem dX7_bits_4 : decode cX7_bits 4 = .ok (.iload_n 2, 1) := by decide +kernel
theorem dX7_bits_5 : decode cX7_bits 5 = .ok (.ifCond .eq 15, 3) := by decide +kernel
theorem dX7_bits_8 : decode cX7_bits 8 = .ok (.iinc 1 1, 3) := by decide +kernel
theorem dX7_bits_11 : decode cX7_bits 11 = .ok (.iload_n 2, 1) := by decide +kernel
theorem dX7_bits_12 : decode cX7_bits 12 = .ok (.iload_n 2, 1) := by decide +kernel
theorem dX7_bits_13 : decode cX7_bits 13 = .ok (.iconst 1, 1) := by decide +kernel
theorem dX7_bits_14 : decode cX7_bits 14 = .ok (.isub, 1) := by decide +kernel
theorem dX7_bits_15 : decode cX7_bits 15 = .ok (.iand, 1) := by decide +kernel
theorem dX7_bits_16 : decode cX7_bits 16 = .ok (.istore_n 2, 1) := by decide +kernel
theorem dX7_bits_17 : decode cX7_bits 17 = .ok (.goto (-13), 3) := by decide +kernel
theorem dX7_bits_20 : decode cX7_bits 20 = .ok (.iload_n 1, 1) := by decide +kernel
theorem dX7_bits_21 : decode cX7_bits 21 = .ok (.ireturn, 1) := by decide +kernel
theorem dX7_remember_0 : decode cX7_remember 0 = .ok (.aload_n 0, 1) := by decide +kernel
theorem dX7_remember_1 : decode cX7_remember 1 = .ok (.getfield 147, 3) := by decide +kernel
theorem dX7_remember_4 : decode cX7_remember 4 = .ok (.bipush 24, 2) := by decide +kernel
theorem dX7_remember_6 : decode cX7_remember 6 = .ok (.if_icmp .ne 43, 3) := by decide +kernel
theorem dX7_remember_9 : decode cX7_remember 9 = .ok (.iconst 0, 1) := by decide +kernel
theorem dX7_remember_10 : decode cX7_remember 10 = .ok (.istore_n 1, 1) := by decide +kernel
theorem dX7_remember_11 : decode cX7_remember 11 = .ok (.iload_n 1, 1) := by decide +kernel
theorem dX7_remember_12 : decode cX7_remember 12 = .ok (.sipush 1955, 3) := by decide +kernel
theorem dX7_remember_15 : decode cX7_remember 15 = .ok (.if_icmp .ge 24, 3) := by decide +kernel
theorem dX7_remember_18 : decode cX7_remember 18 = .ok (.aload_n 0, 1) := by decide +kernel
theorem dX7_remember_19 : decode cX7_remember 19 = .ok (.getfield 25, 3) := by decide +kernel
theorem dX7_remember_22 : decode cX7_remember 22 = .ok (.iload_n 1, 1) := by decide +kernel
theorem dX7_remember_23 : decode cX7_remember 23 = .ok (.aload_n 0, 1) := by decide +kernel
theorem dX7_remember_24 : decode cX7_remember 24 = .ok (.getfield 25, 3) := by decide +kernel
theorem dX7_remember_27 : decode cX7_remember 27 = .ok (.iload_n 1, 1) := by decide +kernel
theorem dX7_remember_28 : decode cX7_remember 28 = .ok (.bipush 85, 2) := by decide +kernel
theorem dX7_remember_30 : decode cX7_remember 30 = .ok (.iadd, 1) := by decide +kernel
theorem dX7_remember_31 : decode cX7_remember 31 = .ok (.iaload, 1) := by decide +kernel
theorem dX7_remember_32 : decode cX7_remember 32 = .ok (.iastore, 1) := by decide +kernel
theorem dX7_remember_33 : decode cX7_remember 33 = .ok (.iinc 1 1, 3) := by decide +kernel
theorem dX7_remember_36 : decode cX7_remember 36 = .ok (.goto (-25), 3) := by decide +kernel
theorem dX7_remember_39 : decode cX7_remember 39 = .ok (.aload_n 0, 1) := by decide +kernel
theorem dX7_remember_40 : decode cX7_remember 40 = .ok (.dup, 1) := by decide +kernel
theorem dX7_remember_41 : decode cX7_remember 41 = .ok (.getfield 147, 3) := by decide +kernel
theorem dX7_remember_44 : decode cX7_remember 44 = .ok (.iconst 1, 1) := by decide +kernel
theorem dX7_remember_45 : decode cX7_remember 45 = .ok (.isub, 1) := by decide +kernel
theorem dX7_remember_46 : decode cX7_remember 46 = .ok (.putfield 147, 3) := by decide +kernel
theorem dX7_remember_49 : decode cX7_remember 49 = .ok (.aload_n 0, 1) := by decide +kernel
theorem dX7_remember_50 : decode cX7_remember 50 = .ok (.getfield 22, 3) := by decide +kernel
theorem dX7_remember_53 : decode cX7_remember 53 = .ok (.iconst 0, 1) := by decide +kernel
theorem dX7_remember_54 : decode cX7_remember 54 = .ok (.aload_n 0, 1) := by decide +kernel
theorem dX7_remember_55 : decode cX7_remember 55 = .ok (.getfield 25, 3) := by decide +kernel
theorem dX7_remember_58 : decode cX7_remember 58 = .ok (.bipush 85, 2) := by decide +kernel
theorem dX7_remember_60 : decode cX7_remember 60 = .ok (.aload_n 0, 1) := by decide +kernel
theorem dX7_remember_61 : decode cX7_remember 61 = .ok (.getfield 147, 3) := by decide +kernel
theorem dX7_remember_64 : decode cX7_remember 64 = .ok (.imul, 1) := by decide +kernel
theorem dX7_remember_65 : decode cX7_remember 65 = .ok (.invokestatic 150, 3) := by decide +kernel
theorem dX7_remember_68 : decode cX7_remember 68 = .ok (.aload_n 0, 1) := by decide +kernel
theorem dX7_remember_69 : decode cX7_remember 69 = .ok (.dup, 1) := by decide +kernel
theorem dX7_remember_70 : decode cX7_remember 70 = .ok (.getfield 147, 3) := by decide +kernel
theorem dX7_remember_73 : decode cX7_remember 73 = .ok (.iconst 1, 1) := by decide +kernel
theorem dX7_remember_74 : decode cX7_remember 74 = .ok (.iadd, 1) := by decide +kernel
theorem dX7_remember_75 : decode cX7_remember 75 = .ok (.putfield 147, 3) := by decide +kernel
theorem dX7_remember_78 : decode cX7_remember 78 = .ok (.return_, 1) := by decide +kernel
theorem dX7_undo_0 : decode cX7_undo 0 = .ok (.aload_n 0, 1) := by decide +kernel
theorem dX7_undo_1 : decode cX7_undo 1 = .ok (.getfield 147, 3) := by decide +kernel
theorem dX7_undo_4 : decode cX7_undo 4 = .ok (.ifCond .ne 6, 3) := by decide +kernel
theorem dX7_undo_7 : decode cX7_undo 7 = .ok (.ldc 169, 2) := by decide +kernel
theorem dX7_undo_9 : decode cX7_undo 9 = .ok (.ireturn, 1) := by decide +kernel
theorem dX7_undo_10 : decode cX7_undo 10 = .ok (.aload_n 0, 1) := by decide +kernel
theorem dX7_undo_11 : decode cX7_undo 11 = .ok (.dup, 1) := by decide +kernel
theorem dX7_undo_12 : decode cX7_undo 12 = .ok (.getfield 147, 3) := by decide +kernel
theorem dX7_undo_15 : decode cX7_undo 15 = .ok (.iconst 1, 1) := by decide +kernel
theorem dX7_undo_16 : decode cX7_undo 16 = .ok (.isub, 1) := by decide +kernel
theorem dX7_undo_17 : decode cX7_undo 17 = .ok (.putfield 147, 3) := by decide +kernel
theorem dX7_undo_20 : decode cX7_undo 20 = .ok (.aload_n 0, 1) := by decide +kernel
theorem dX7_undo_21 : decode cX7_undo 21 = .ok (.getfield 25, 3) := by decide +kernel
theorem dX7_undo_24 : decode cX7_undo 24 = .ok (.bipush 85, 2) := by decide +kernel
theorem dX7_undo_26 : decode cX7_undo 26 = .ok (.aload_n 0, 1) := by decide +kernel
theorem dX7_undo_27 : decode cX7_undo 27 = .ok (.getfield 147, 3) := by decide +kernel
theorem dX7_undo_30 : decode cX7_undo 30 = .ok (.imul, 1) := by decide +kernel
theorem dX7_undo_31 : decode cX7_undo 31 = .ok (.aload_n 0, 1) := by decide +kernel
theorem dX7_undo_32 : decode cX7_undo 32 = .ok (.getfield 22, 3) := by decide +kernel
theorem dX7_undo_35 : decode cX7_undo 35 = .ok (.iconst 0, 1) := by decide +kernel
theorem dX7_undo_36 : decode cX7_undo 36 = .ok (.invokestatic 150, 3) := by decide +kernel
theorem dX7_undo_39 : decode cX7_undo 39 = .ok (.aload_n 0, 1) := by decide +kernel
theorem dX7_undo_40 : decode cX7_undo 40 = .ok (.getfield 147, 3) := by decide +kernel
theorem dX7_undo_43 : decode cX7_undo 43 = .ok (.ireturn, 1) := by decide +kernel
theorem dX7_write_0 : decode cX7_write 0 = .ok (.iload_n 1, 1) := by decide +kernel
theorem dX7_write_1 : decode cX7_write 1 = .ok (.i2l, 1) := by decide +kernel
theorem dX7_write_2 : decode cX7_write 2 = .ok (.lconst 0, 1) := by decide +kernel
theorem dX7_write_3 : decode cX7_write 3 = .ok (.ldc2_w 170, 3) := by decide +kernel
theorem dX7_write_6 : decode cX7_write 6 = .ok (.invokestatic 51, 3) := by decide +kernel
theorem dX7_write_9 : decode cX7_write 9 = .ok (.ifCond .eq 23, 3) := by decide +kernel
theorem dX7_write_12 : decode cX7_write 12 = .ok (.aload_n 0, 1) := by decide +kernel
theorem dX7_write_13 : decode cX7_write 13 = .ok (.iload_n 2, 1) := by decide +kernel
theorem dX7_write_14 : decode cX7_write 14 = .ok (.invokevirtual 172, 3) := by decide +kernel
theorem dX7_write_17 : decode cX7_write 17 = .ok (.ifCond .eq 15, 3) := by decide +kernel
theorem dX7_write_20 : decode cX7_write 20 = .ok (.iload_n 3, 1) := by decide +kernel
theorem dX7_write_21 : decode cX7_write 21 = .ok (.i2l, 1) := by decide +kernel
theorem dX7_write_22 : decode cX7_write 22 = .ok (.lconst 1, 1) := by decide +kernel
theorem dX7_write_23 : decode cX7_write 23 = .ok (.ldc2_w 175, 3) := by decide +kernel
theorem dX7_write_26 : decode cX7_write 26 = .ok (.invokestatic 51, 3) := by decide +kernel
theorem dX7_write_29 : decode cX7_write 29 = .ok (.ifCond .ne 6, 3) := by decide +kernel
theorem dX7_write_32 : decode cX7_write 32 = .ok (.ldc 61, 2) := by decide +kernel
theorem dX7_write_34 : decode cX7_write 34 = .ok (.ireturn, 1) := by decide +kernel
theorem dX7_write_35 : decode cX7_write 35 = .ok (.aload_n 0, 1) := by decide +kernel
theorem dX7_write_36 : decode cX7_write 36 = .ok (.getfield 22, 3) := by decide +kernel
theorem dX7_write_39 : decode cX7_write 39 = .ok (.iconst 3, 1) := by decide +kernel
theorem dX7_write_40 : decode cX7_write 40 = .ok (.iaload, 1) := by decide +kernel
theorem dX7_write_41 : decode cX7_write 41 = .ok (.istore 4, 2) := by decide +kernel
theorem dX7_write_43 : decode cX7_write 43 = .ok (.iload 4, 2) := by decide +kernel
theorem dX7_write_45 : decode cX7_write 45 = .ok (.bipush 10, 2) := by decide +kernel
theorem dX7_write_47 : decode cX7_write 47 = .ok (.if_icmp .ne 6, 3) := by decide +kernel
theorem dX7_write_50 : decode cX7_write 50 = .ok (.ldc 74, 2) := by decide +kernel
theorem dX7_write_52 : decode cX7_write 52 = .ok (.ireturn, 1) := by decide +kernel
theorem dX7_write_53 : decode cX7_write 53 = .ok (.aload_n 0, 1) := by decide +kernel
theorem dX7_write_54 : decode cX7_write 54 = .ok (.invokevirtual 177, 3) := by decide +kernel
theorem dX7_write_57 : decode cX7_write 57 = .ok (.aload_n 0, 1) := by decide +kernel
theorem dX7_write_58 : decode cX7_write 58 = .ok (.getfield 22, 3) := by decide +kernel
theorem dX7_write_61 : decode cX7_write 61 = .ok (.bipush 15, 2) := by decide +kernel
theorem dX7_write_63 : decode cX7_write 63 = .ok (.iload 4, 2) := by decide +kernel
theorem dX7_write_65 : decode cX7_write 65 = .ok (.iadd, 1) := by decide +kernel
theorem dX7_write_66 : decode cX7_write 66 = .ok (.iload_n 1, 1) := by decide +kernel
theorem dX7_write_67 : decode cX7_write 67 = .ok (.iastore, 1) := by decide +kernel
theorem dX7_write_68 : decode cX7_write 68 = .ok (.aload_n 0, 1) := by decide +kernel
theorem dX7_write_69 : decode cX7_write 69 = .ok (.getfield 22, 3) := by decide +kernel
theorem dX7_write_72 : decode cX7_write 72 = .ok (.bipush 25, 2) := by decide +kernel
theorem dX7_write_74 : decode cX7_write 74 = .ok (.iload 4, 2) := by decide +kernel
theorem dX7_write_76 : decode cX7_write 76 = .ok (.iadd, 1) := by decide +kernel
theorem dX7_write_77 : decode cX7_write 77 = .ok (.iload_n 2, 1) := by decide +kernel
theorem dX7_write_78 : decode cX7_write 78 = .ok (.iastore, 1) := by decide +kernel
theorem dX7_write_79 : decode cX7_write 79 = .ok (.aload_n 0, 1) := by decide +kernel
theorem dX7_write_80 : decode cX7_write 80 = .ok (.getfield 22, 3) := by decide +kernel
theorem dX7_write_83 : decode cX7_write 83 = .ok (.bipush 35, 2) := by decide +kernel
theorem dX7_write_85 : decode cX7_write 85 = .ok (.iload 4, 2) := by decide +kernel
theorem dX7_write_87 : decode cX7_write 87 = .ok (.iadd, 1) := by decide +kernel
theorem dX7_write_88 : decode cX7_write 88 = .ok (.iload_n 3, 1) := by decide +kernel
theorem dX7_write_89 : decode cX7_write 89 = .ok (.iastore, 1) := by decide +kernel
theorem dX7_write_90 : decode cX7_write 90 = .ok (.aload_n 0, 1) := by decide +kernel
theorem dX7_write_91 : decode cX7_write 91 = .ok (.getfield 22, 3) := by decide +kernel
theorem dX7_write_94 : decode cX7_write 94 = .ok (.bipush 45, 2) := by decide +kernel
theorem dX7_write_96 : decode cX7_write 96 = .ok (.iload 4, 2) := by decide +kernel
theorem dX7_write_98 : decode cX7_write 98 = .ok (.iadd, 1) := by decide +kernel
theorem dX7_write_99 : decode cX7_write 99 = .ok (.aload_n 0, 1) := by decide +kernel
theorem dX7_write_100 : decode cX7_write 100 = .ok (.getfield 22, 3) := by decide +kernel
theorem dX7_write_103 : decode cX7_write 103 = .ok (.iconst 5, 1) := by decide +kernel
theorem dX7_write_104 : decode cX7_write 104 = .ok (.iaload, 1) := by decide +kernel
theorem dX7_write_105 : decode cX7_write 105 = .ok (.iastore, 1) := by decide +kernel
theorem dX7_write_106 : decode cX7_write 106 = .ok (.aload_n 0, 1) := by decide +kernel
theorem dX7_write_107 : decode cX7_write 107 = .ok (.getfield 22, 3) := by decide +kernel
theorem dX7_write_110 : decode cX7_write 110 = .ok (.bipush 55, 2) := by decide +kernel
theorem dX7_write_112 : decode cX7_write 112 = .ok (.iload 4, 2) := by decide +kernel
theorem dX7_write_114 : decode cX7_write 114 = .ok (.iadd, 1) := by decide +kernel
theorem dX7_write_115 : decode cX7_write 115 = .ok (.iconst 0, 1) := by decide +kernel
theorem dX7_write_116 : decode cX7_write 116 = .ok (.iastore, 1) := by decide +kernel
theorem dX7_write_117 : decode cX7_write 117 = .ok (.aload_n 0, 1) := by decide +kernel
theorem dX7_write_118 : decode cX7_write 118 = .ok (.getfield 22, 3) := by decide +kernel
theorem dX7_write_121 : decode cX7_write 121 = .ok (.bipush 6, 2) := by decide +kernel
theorem dX7_write_123 : decode cX7_write 123 = .ok (.dup2, 1) := by decide +kernel
theorem dX7_write_124 : decode cX7_write 124 = .ok (.iaload, 1) := by decide +kernel
theorem dX7_write_125 : decode cX7_write 125 = .ok (.aload_n 0, 1) := by decide +kernel
theorem dX7_write_126 : decode cX7_write 126 = .ok (.getfield 22, 3) := by decide +kernel
theorem dX7_write_129 : decode cX7_write 129 = .ok (.bipush 11, 2) := by decide +kernel
theorem dX7_write_131 : decode cX7_write 131 = .ok (.iload_n 2, 1) := by decide +kernel
theorem dX7_write_132 : decode cX7_write 132 = .ok (.iadd, 1) := by decide +kernel
theorem dX7_write_133 : decode cX7_write 133 = .ok (.iaload, 1) := by decide +kernel
theorem dX7_write_134 : decode cX7_write 134 = .ok (.iadd, 1) := by decide +kernel
theorem dX7_write_135 : decode cX7_write 135 = .ok (.iastore, 1) := by decide +kernel
theorem dX7_write_136 : decode cX7_write 136 = .ok (.aload_n 0, 1) := by decide +kernel
theorem dX7_write_137 : decode cX7_write 137 = .ok (.getfield 22, 3) := by decide +kernel
theorem dX7_write_140 : decode cX7_write 140 = .ok (.iconst 3, 1) := by decide +kernel
theorem dX7_write_141 : decode cX7_write 141 = .ok (.dup2, 1) := by decide +kernel
theorem dX7_write_142 : decode cX7_write 142 = .ok (.iaload, 1) := by decide +kernel
theorem dX7_write_143 : decode cX7_write 143 = .ok (.iconst 1, 1) := by decide +kernel
theorem dX7_write_144 : decode cX7_write 144 = .ok (.iadd, 1) := by decide +kernel
theorem dX7_write_145 : decode cX7_write 145 = .ok (.iastore, 1) := by decide +kernel
theorem dX7_write_146 : decode cX7_write 146 = .ok (.iload 4, 2) := by decide +kernel
theorem dX7_write_148 : decode cX7_write 148 = .ok (.ireturn, 1) := by decide +kernel
theorem dX7_recall_0 : decode cX7_recall 0 = .ok (.aload_n 0, 1) := by decide +kernel
theorem dX7_recall_1 : decode cX7_recall 1 = .ok (.iload_n 1, 1) := by decide +kernel
theorem dX7_recall_2 : decode cX7_recall 2 = .ok (.invokevirtual 180, 3) := by decide +kernel
theorem dX7_recall_5 : decode cX7_recall 5 = .ok (.ifCond .ne 6, 3) := by decide +kernel
theorem dX7_recall_8 : decode cX7_recall 8 = .ok (.ldc 61, 2) := by decide +kernel
theorem dX7_recall_10 : decode cX7_recall 10 = .ok (.ireturn, 1) := by decide +kernel
theorem dX7_recall_11 : decode cX7_recall 11 = .ok (.aload_n 0, 1) := by decide +kernel
theorem dX7_recall_12 : decode cX7_recall 12 = .ok (.getfield 22, 3) := by decide +kernel
theorem dX7_recall_15 : decode cX7_recall 15 = .ok (.iload_n 1, 1) := by decide +kernel
theorem dX7_recall_16 : decode cX7_recall 16 = .ok (.invokestatic 158, 3) := by decide +kernel
theorem dX7_recall_19 : decode cX7_recall 19 = .ok (.ifCond .ne 6, 3) := by decide +kernel
theorem dX7_recall_22 : decode cX7_recall 22 = .ok (.ldc 169, 2) := by decide +kernel
theorem dX7_recall_24 : decode cX7_recall 24 = .ok (.ireturn, 1) := by decide +kernel
theorem dX7_recall_25 : decode cX7_recall 25 = .ok (.aload_n 0, 1) := by decide +kernel
theorem dX7_recall_26 : decode cX7_recall 26 = .ok (.invokevirtual 177, 3) := by decide +kernel
theorem dX7_recall_29 : decode cX7_recall 29 = .ok (.aload_n 0, 1) := by decide +kernel
theorem dX7_recall_30 : decode cX7_recall 30 = .ok (.getfield 22, 3) := by decide +kernel
theorem dX7_recall_33 : decode cX7_recall 33 = .ok (.bipush 55, 2) := by decide +kernel
theorem dX7_recall_35 : decode cX7_recall 35 = .ok (.iload_n 1, 1) := by decide +kernel
theorem dX7_recall_36 : decode cX7_recall 36 = .ok (.iadd, 1) := by decide +kernel
theorem dX7_recall_37 : decode cX7_recall 37 = .ok (.iconst 1, 1) := by decide +kernel
theorem dX7_recall_38 : decode cX7_recall 38 = .ok (.iastore, 1) := by decide +kernel
theorem dX7_recall_39 : decode cX7_recall 39 = .ok (.aload_n 0, 1) := by decide +kernel
theorem dX7_recall_40 : decode cX7_recall 40 = .ok (.getfield 22, 3) := by decide +kernel
theorem dX7_recall_43 : decode cX7_recall 43 = .ok (.invokestatic 162, 3) := by decide +kernel
theorem dX7_recall_46 : decode cX7_recall 46 = .ok (.aload_n 0, 1) := by decide +kernel
theorem dX7_recall_47 : decode cX7_recall 47 = .ok (.getfield 22, 3) := by decide +kernel
theorem dX7_recall_50 : decode cX7_recall 50 = .ok (.bipush 15, 2) := by decide +kernel
theorem dX7_recall_52 : decode cX7_recall 52 = .ok (.iload_n 1, 1) := by decide +kernel
theorem dX7_recall_53 : decode cX7_recall 53 = .ok (.iadd, 1) := by decide +kernel
theorem dX7_recall_54 : decode cX7_recall 54 = .ok (.iaload, 1) := by decide +kernel
theorem dX7_recall_55 : decode cX7_recall 55 = .ok (.ishr, 1) := by decide +kernel
theorem dX7_recall_56 : decode cX7_recall 56 = .ok (.iconst 1, 1) := by decide +kernel
theorem dX7_recall_57 : decode cX7_recall 57 = .ok (.iand, 1) := by decide +kernel
theorem dX7_recall_58 : decode cX7_recall 58 = .ok (.ireturn, 1) := by decide +kernel
theorem dX7_days_0 : decode cX7_days 0 = .ok (.aload_n 0, 1) := by decide +kernel
theorem dX7_days_1 : decode cX7_days 1 = .ok (.getfield 143, 3) := by decide +kernel
theorem dX7_days_4 : decode cX7_days 4 = .ok (.ifCond .ne 6, 3) := by decide +kernel
theorem dX7_days_7 : decode cX7_days 7 = .ok (.ldc 169, 2) := by decide +kernel
theorem dX7_days_9 : decode cX7_days 9 = .ok (.ireturn, 1) := by decide +kernel
theorem dX7_days_10 : decode cX7_days 10 = .ok (.iload_n 1, 1) := by decide +kernel
theorem dX7_days_11 : decode cX7_days 11 = .ok (.i2l, 1) := by decide +kernel
theorem dX7_days_12 : decode cX7_days 12 = .ok (.lconst 1, 1) := by decide +kernel
theorem dX7_days_13 : decode cX7_days 13 = .ok (.ldc2_w 183, 3) := by decide +kernel
theorem dX7_days_16 : decode cX7_days 16 = .ok (.invokestatic 51, 3) := by decide +kernel
theorem dX7_days_19 : decode cX7_days 19 = .ok (.ifCond .ne 6, 3) := by decide +kernel
theorem dX7_days_22 : decode cX7_days 22 = .ok (.ldc 61, 2) := by decide +kernel
theorem dX7_days_24 : decode cX7_days 24 = .ok (.ireturn, 1) := by decide +kernel
theorem dX7_days_25 : decode cX7_days 25 = .ok (.aload_n 0, 1) := by decide +kernel
theorem dX7_days_26 : decode cX7_days 26 = .ok (.getfield 22, 3) := by decide +kernel
theorem dX7_days_29 : decode cX7_days 29 = .ok (.iconst 5, 1) := by decide +kernel
theorem dX7_days_30 : decode cX7_days 30 = .ok (.iaload, 1) := by decide +kernel
theorem dX7_days_31 : decode cX7_days 31 = .ok (.iload_n 1, 1) := by decide +kernel
theorem dX7_days_32 : decode cX7_days 32 = .ok (.iadd, 1) := by decide +kernel
theorem dX7_days_33 : decode cX7_days 33 = .ok (.sipush 999, 3) := by decide +kernel
theorem dX7_days_36 : decode cX7_days 36 = .ok (.if_icmp .le 6, 3) := by decide +kernel
theorem dX7_days_39 : decode cX7_days 39 = .ok (.ldc 74, 2) := by decide +kernel
theorem dX7_days_41 : decode cX7_days 41 = .ok (.ireturn, 1) := by decide +kernel
theorem dX7_days_42 : decode cX7_days 42 = .ok (.iconst 0, 1) := by decide +kernel
theorem dX7_days_43 : decode cX7_days 43 = .ok (.istore_n 2, 1) := by decide +kernel
theorem dX7_days_44 : decode cX7_days 44 = .ok (.iload_n 2, 1) := by decide +kernel
theorem dX7_days_45 : decode cX7_days 45 = .ok (.iload_n 1, 1) := by decide +kernel
theorem dX7_days_46 : decode cX7_days 46 = .ok (.if_icmp .ge 20, 3) := by decide +kernel
theorem dX7_days_49 : decode cX7_days 49 = .ok (.aload_n 0, 1) := by decide +kernel
theorem dX7_days_50 : decode cX7_days 50 = .ok (.invokevirtual 177, 3) := by decide +kernel
theorem dX7_days_53 : decode cX7_days 53 = .ok (.aload_n 0, 1) := by decide +kernel
theorem dX7_days_54 : decode cX7_days 54 = .ok (.getfield 22, 3) := by decide +kernel
theorem dX7_days_57 : decode cX7_days 57 = .ok (.invokestatic 185, 3) := by decide +kernel
theorem dX7_days_60 : decode cX7_days 60 = .ok (.iinc 2 1, 3) := by decide +kernel
theorem dX7_days_63 : decode cX7_days 63 = .ok (.goto (-19), 3) := by decide +kernel
theorem dX7_days_66 : decode cX7_days 66 = .ok (.aload_n 0, 1) := by decide +kernel
theorem dX7_days_67 : decode cX7_days 67 = .ok (.getfield 22, 3) := by decide +kernel
theorem dX7_days_70 : decode cX7_days 70 = .ok (.invokestatic 189, 3) := by decide +kernel
theorem dX7_days_73 : decode cX7_days 73 = .ok (.ireturn, 1) := by decide +kernel
theorem dX7_copyOf_0 : decode cX7_copyOf 0 = .ok (.aload_n 0, 1) := by decide +kernel
theorem dX7_copyOf_1 : decode cX7_copyOf 1 = .ok (.iload_n 1, 1) := by decide +kernel
theorem dX7_copyOf_2 : decode cX7_copyOf 2 = .ok (.invokevirtual 180, 3) := by decide +kernel
theorem dX7_copyOf_5 : decode cX7_copyOf 5 = .ok (.ifCond .eq 15, 3) := by decide +kernel
theorem dX7_copyOf_8 : decode cX7_copyOf 8 = .ok (.iload_n 2, 1) := by decide +kernel
theorem dX7_copyOf_9 : decode cX7_copyOf 9 = .ok (.i2l, 1) := by decide +kernel
theorem dX7_copyOf_10 : decode cX7_copyOf 10 = .ok (.lconst 0, 1) := by decide +kernel
theorem dX7_copyOf_11 : decode cX7_copyOf 11 = .ok (.ldc2_w 170, 3) := by decide +kernel
theorem dX7_copyOf_14 : decode cX7_copyOf 14 = .ok (.invokestatic 51, 3) := by decide +kernel
theorem dX7_copyOf_17 : decode cX7_copyOf 17 = .ok (.ifCond .ne 6, 3) := by decide +kernel
theorem dX7_copyOf_20 : decode cX7_copyOf 20 = .ok (.ldc 61, 2) := by decide +kernel
theorem dX7_copyOf_22 : decode cX7_copyOf 22 = .ok (.ireturn, 1) := by decide +kernel
theorem dX7_copyOf_23 : decode cX7_copyOf 23 = .ok (.iload_n 2, 1) := by decide +kernel
theorem dX7_copyOf_24 : decode cX7_copyOf 24 = .ok (.iconst 5, 1) := by decide +kernel
theorem dX7_copyOf_25 : decode cX7_copyOf 25 = .ok (.if_icmp .ge 20, 3) := by decide +kernel
theorem dX7_copyOf_28 : decode cX7_copyOf 28 = .ok (.aload_n 0, 1) := by decide +kernel
theorem dX7_copyOf_29 : decode cX7_copyOf 29 = .ok (.getfield 22, 3) := by decide +kernel
theorem dX7_copyOf_32 : decode cX7_copyOf 32 = .ok (.bipush 15, 2) := by decide +kernel
theorem dX7_copyOf_34 : decode cX7_copyOf 34 = .ok (.bipush 10, 2) := by decide +kernel
theorem dX7_copyOf_36 : decode cX7_copyOf 36 = .ok (.iload_n 2, 1) := by decide +kernel
theorem dX7_copyOf_37 : decode cX7_copyOf 37 = .ok (.imul, 1) := by decide +kernel
theorem dX7_copyOf_38 : decode cX7_copyOf 38 = .ok (.iadd, 1) := by decide +kernel
theorem dX7_copyOf_39 : decode cX7_copyOf 39 = .ok (.iload_n 1, 1) := by decide +kernel
theorem dX7_copyOf_40 : decode cX7_copyOf 40 = .ok (.iadd, 1) := by decide +kernel
theorem dX7_copyOf_41 : decode cX7_copyOf 41 = .ok (.iaload, 1) := by decide +kernel
theorem dX7_copyOf_42 : decode cX7_copyOf 42 = .ok (.goto 19, 3) := by decide +kernel
theorem dX7_copyOf_45 : decode cX7_copyOf 45 = .ok (.aload_n 0, 1) := by decide +kernel
theorem dX7_copyOf_46 : decode cX7_copyOf 46 = .ok (.getfield 22, 3) := by decide +kernel
theorem dX7_copyOf_49 : decode cX7_copyOf 49 = .ok (.iload_n 1, 1) := by decide +kernel
theorem dX7_copyOf_50 : decode cX7_copyOf 50 = .ok (.invokestatic 158, 3) := by decide +kernel
theorem dX7_copyOf_53 : decode cX7_copyOf 53 = .ok (.ifCond .eq 7, 3) := by decide +kernel
theorem dX7_copyOf_56 : decode cX7_copyOf 56 = .ok (.iconst 1, 1) := by decide +kernel
theorem dX7_copyOf_57 : decode cX7_copyOf 57 = .ok (.goto 4, 3) := by decide +kernel
theorem dX7_copyOf_60 : decode cX7_copyOf 60 = .ok (.iconst 0, 1) := by decide +kernel
theorem dX7_copyOf_61 : decode cX7_copyOf 61 = .ok (.ireturn, 1) := by decide +kernel
theorem dX7_copiesOf_0 : decode cX7_copiesOf 0 = .ok (.iconst 0, 1) := by decide +kernel
theorem dX7_copiesOf_1 : decode cX7_copiesOf 1 = .ok (.istore_n 3, 1) := by decide +kernel
theorem dX7_copiesOf_2 : decode cX7_copiesOf 2 = .ok (.iconst 0, 1) := by decide +kernel
theorem dX7_copiesOf_3 : decode cX7_copiesOf 3 = .ok (.istore 4, 2) := by decide +kernel
theorem dX7_copiesOf_5 : decode cX7_copiesOf 5 = .ok (.iload 4, 2) := by decide +kernel
theorem dX7_copiesOf_7 : decode cX7_copiesOf 7 = .ok (.aload_n 0, 1) := by decide +kernel
theorem dX7_copiesOf_8 : decode cX7_copiesOf 8 = .ok (.getfield 22, 3) := by decide +kernel
theorem dX7_copiesOf_11 : decode cX7_copiesOf 11 = .ok (.iconst 3, 1) := by decide +kernel
theorem dX7_copiesOf_12 : decode cX7_copiesOf 12 = .ok (.iaload, 1) := by decide +kernel
theorem dX7_copiesOf_13 : decode cX7_copiesOf 13 = .ok (.if_icmp .ge 33, 3) := by decide +kernel
theorem dX7_copiesOf_16 : decode cX7_copiesOf 16 = .ok (.iload_n 3, 1) := by decide +kernel
theorem dX7_copiesOf_17 : decode cX7_copiesOf 17 = .ok (.aload_n 0, 1) := by decide +kernel
theorem dX7_copiesOf_18 : decode cX7_copiesOf 18 = .ok (.getfield 22, 3) := by decide +kernel
theorem dX7_copiesOf_21 : decode cX7_copiesOf 21 = .ok (.iload_n 1, 1) := by decide +kernel
theorem dX7_copiesOf_22 : decode cX7_copiesOf 22 = .ok (.iload 4, 2) := by decide +kernel
theorem dX7_copiesOf_24 : decode cX7_copiesOf 24 = .ok (.iadd, 1) := by decide +kernel
theorem dX7_copiesOf_25 : decode cX7_copiesOf 25 = .ok (.iaload, 1) := by decide +kernel
theorem dX7_copiesOf_26 : decode cX7_copiesOf 26 = .ok (.iload_n 2, 1) := by decide +kernel
theorem dX7_copiesOf_27 : decode cX7_copiesOf 27 = .ok (.if_icmp .ne 10, 3) := by decide +kernel
theorem dX7_copiesOf_30 : decode cX7_copiesOf 30 = .ok (.iconst 1, 1) := by decide +kernel
theorem dX7_copiesOf_31 : decode cX7_copiesOf 31 = .ok (.iload 4, 2) := by decide +kernel
theorem dX7_copiesOf_33 : decode cX7_copiesOf 33 = .ok (.ishl, 1) := by decide +kernel
theorem dX7_copiesOf_34 : decode cX7_copiesOf 34 = .ok (.goto 4, 3) := by decide +kernel
theorem dX7_copiesOf_37 : decode cX7_copiesOf 37 = .ok (.iconst 0, 1) := by decide +kernel
theorem dX7_copiesOf_38 : decode cX7_copiesOf 38 = .ok (.ior, 1) := by decide +kernel
theorem dX7_copiesOf_39 : decode cX7_copiesOf 39 = .ok (.istore_n 3, 1) := by decide +kernel
theorem dX7_copiesOf_40 : decode cX7_copiesOf 40 = .ok (.iinc 4 1, 3) := by decide +kernel
theorem dX7_copiesOf_43 : decode cX7_copiesOf 43 = .ok (.goto (-38), 3) := by decide +kernel
theorem dX7_copiesOf_46 : decode cX7_copiesOf 46 = .ok (.iload_n 3, 1) := by decide +kernel
theorem dX7_copiesOf_47 : decode cX7_copiesOf 47 = .ok (.ireturn, 1) := by decide +kernel
theorem dX7_hand_0 : decode cX7_hand 0 = .ok (.aload_n 0, 1) := by decide +kernel
theorem dX7_hand_1 : decode cX7_hand 1 = .ok (.iload_n 1, 1) := by decide +kernel
theorem dX7_hand_2 : decode cX7_hand 2 = .ok (.invokevirtual 172, 3) := by decide +kernel
theorem dX7_hand_5 : decode cX7_hand 5 = .ok (.ifCond .eq 15, 3) := by decide +kernel
theorem dX7_hand_8 : decode cX7_hand 8 = .ok (.iload_n 2, 1) := by decide +kernel
theorem dX7_hand_9 : decode cX7_hand 9 = .ok (.i2l, 1) := by decide +kernel
theorem dX7_hand_10 : decode cX7_hand 10 = .ok (.lconst 0, 1) := by decide +kernel
theorem dX7_hand_11 : decode cX7_hand 11 = .ok (.ldc2_w 59, 3) := by decide +kernel
theorem dX7_hand_14 : decode cX7_hand 14 = .ok (.invokestatic 51, 3) := by decide +kernel
theorem dX7_hand_17 : decode cX7_hand 17 = .ok (.ifCond .ne 6, 3) := by decide +kernel
theorem dX7_hand_20 : decode cX7_hand 20 = .ok (.ldc 61, 2) := by decide +kernel
theorem dX7_hand_22 : decode cX7_hand 22 = .ok (.ireturn, 1) := by decide +kernel
theorem dX7_hand_23 : decode cX7_hand 23 = .ok (.iload_n 2, 1) := by decide +kernel
theorem dX7_hand_24 : decode cX7_hand 24 = .ok (.ifCond .ne 15, 3) := by decide +kernel
theorem dX7_hand_27 : decode cX7_hand 27 = .ok (.aload_n 0, 1) := by decide +kernel
theorem dX7_hand_28 : decode cX7_hand 28 = .ok (.getfield 22, 3) := by decide +kernel
theorem dX7_hand_31 : decode cX7_hand 31 = .ok (.bipush 11, 2) := by decide +kernel
theorem dX7_hand_33 : decode cX7_hand 33 = .ok (.iload_n 1, 1) := by decide +kernel
theorem dX7_hand_34 : decode cX7_hand 34 = .ok (.iadd, 1) := by decide +kernel
theorem dX7_hand_35 : decode cX7_hand 35 = .ok (.iaload, 1) := by decide +kernel
theorem dX7_hand_36 : decode cX7_hand 36 = .ok (.goto 26, 3) := by decide +kernel
theorem dX7_hand_39 : decode cX7_hand 39 = .ok (.iload_n 2, 1) := by decide +kernel
theorem dX7_hand_40 : decode cX7_hand 40 = .ok (.iconst 1, 1) := by decide +kernel
theorem dX7_hand_41 : decode cX7_hand 41 = .ok (.if_icmp .ne 14, 3) := by decide +kernel
theorem dX7_hand_44 : decode cX7_hand 44 = .ok (.aload_n 0, 1) := by decide +kernel
theorem dX7_hand_45 : decode cX7_hand 45 = .ok (.getfield 22, 3) := by decide +kernel
theorem dX7_hand_48 : decode cX7_hand 48 = .ok (.iload_n 1, 1) := by decide +kernel
theorem dX7_hand_49 : decode cX7_hand 49 = .ok (.invokestatic 154, 3) := by decide +kernel
theorem dX7_hand_52 : decode cX7_hand 52 = .ok (.goto 10, 3) := by decide +kernel
theorem dX7_hand_55 : decode cX7_hand 55 = .ok (.aload_n 0, 1) := by decide +kernel
theorem dX7_hand_56 : decode cX7_hand 56 = .ok (.bipush 25, 2) := by decide +kernel
theorem dX7_hand_58 : decode cX7_hand 58 = .ok (.iload_n 1, 1) := by decide +kernel
theorem dX7_hand_59 : decode cX7_hand 59 = .ok (.invokevirtual 192, 3) := by decide +kernel
theorem dX7_hand_62 : decode cX7_hand 62 = .ok (.ireturn, 1) := by decide +kernel
theorem dX7_deed_0 : decode cX7_deed 0 = .ok (.aload_n 0, 1) := by decide +kernel
theorem dX7_deed_1 : decode cX7_deed 1 = .ok (.iload_n 1, 1) := by decide +kernel
theorem dX7_deed_2 : decode cX7_deed 2 = .ok (.invokevirtual 196, 3) := by decide +kernel
theorem dX7_deed_5 : decode cX7_deed 5 = .ok (.ifCond .eq 15, 3) := by decide +kernel
theorem dX7_deed_8 : decode cX7_deed 8 = .ok (.iload_n 2, 1) := by decide +kernel
theorem dX7_deed_9 : decode cX7_deed 9 = .ok (.i2l, 1) := by decide +kernel
theorem dX7_deed_10 : decode cX7_deed 10 = .ok (.lconst 0, 1) := by decide +kernel
theorem dX7_deed_11 : decode cX7_deed 11 = .ok (.ldc2_w 199, 3) := by decide +kernel
theorem dX7_deed_14 : decode cX7_deed 14 = .ok (.invokestatic 51, 3) := by decide +kernel
theorem dX7_deed_17 : decode cX7_deed 17 = .ok (.ifCond .ne 6, 3) := by decide +kernel
theorem dX7_deed_20 : decode cX7_deed 20 = .ok (.ldc 61, 2) := by decide +kernel
theorem dX7_deed_22 : decode cX7_deed 22 = .ok (.ireturn, 1) := by decide +kernel
theorem dX7_deed_23 : decode cX7_deed 23 = .ok (.iload_n 2, 1) := by decide +kernel
theorem dX7_deed_24 : decode cX7_deed 24 = .ok (.lookupswitch 69 #[(2, 28), (4, 57)], 28) := by decide +kernel
theorem dX7_deed_52 : decode cX7_deed 52 = .ok (.aload_n 0, 1) := by decide +kernel
theorem dX7_deed_53 : decode cX7_deed 53 = .ok (.getfield 22, 3) := by decide +kernel
theorem dX7_deed_56 : decode cX7_deed 56 = .ok (.bipush 75, 2) := by decide +kernel
theorem dX7_deed_58 : decode cX7_deed 58 = .ok (.iload_n 1, 1) := by decide +kernel
theorem dX7_deed_59 : decode cX7_deed 59 = .ok (.iadd, 1) := by decide +kernel
theorem dX7_deed_60 : decode cX7_deed 60 = .ok (.iaload, 1) := by decide +kernel
theorem dX7_deed_61 : decode cX7_deed 61 = .ok (.ifCond .ne 8, 3) := by decide +kernel
theorem dX7_deed_64 : decode cX7_deed 64 = .ok (.ldc 201, 2) := by decide +kernel
theorem dX7_deed_66 : decode cX7_deed 66 = .ok (.goto 14, 3) := by decide +kernel
theorem dX7_deed_69 : decode cX7_deed 69 = .ok (.aload_n 0, 1) := by decide +kernel
theorem dX7_deed_70 : decode cX7_deed 70 = .ok (.getfield 22, 3) := by decide +kernel
theorem dX7_deed_73 : decode cX7_deed 73 = .ok (.bipush 75, 2) := by decide +kernel
theorem dX7_deed_75 : decode cX7_deed 75 = .ok (.iload_n 1, 1) := by decide +kernel
theorem dX7_deed_76 : decode cX7_deed 76 = .ok (.iadd, 1) := by decide +kernel
theorem dX7_deed_77 : decode cX7_deed 77 = .ok (.iaload, 1) := by decide +kernel
theorem dX7_deed_78 : decode cX7_deed 78 = .ok (.iconst 1, 1) := by decide +kernel
theorem dX7_deed_79 : decode cX7_deed 79 = .ok (.isub, 1) := by decide +kernel
theorem dX7_deed_80 : decode cX7_deed 80 = .ok (.ireturn, 1) := by decide +kernel
theorem dX7_deed_81 : decode cX7_deed 81 = .ok (.aload_n 0, 1) := by decide +kernel
theorem dX7_deed_82 : decode cX7_deed 82 = .ok (.getfield 22, 3) := by decide +kernel
theorem dX7_deed_85 : decode cX7_deed 85 = .ok (.invokestatic 189, 3) := by decide +kernel
theorem dX7_deed_88 : decode cX7_deed 88 = .ok (.iload_n 1, 1) := by decide +kernel
theorem dX7_deed_89 : decode cX7_deed 89 = .ok (.ishr, 1) := by decide +kernel
theorem dX7_deed_90 : decode cX7_deed 90 = .ok (.iconst 1, 1) := by decide +kernel
theorem dX7_deed_91 : decode cX7_deed 91 = .ok (.iand, 1) := by decide +kernel
theorem dX7_deed_92 : decode cX7_deed 92 = .ok (.ireturn, 1) := by decide +kernel
theorem dX7_deed_93 : decode cX7_deed 93 = .ok (.aload_n 0, 1) := by decide +kernel
theorem dX7_deed_94 : decode cX7_deed 94 = .ok (.getfield 22, 3) := by decide +kernel
theorem dX7_deed_97 : decode cX7_deed 97 = .ok (.bipush 65, 2) := by decide +kernel
theorem dX7_deed_99 : decode cX7_deed 99 = .ok (.iconst 5, 1) := by decide +kernel
theorem dX7_deed_100 : decode cX7_deed 100 = .ok (.iload_n 2, 1) := by decide +kernel
theorem dX7_deed_101 : decode cX7_deed 101 = .ok (.imul, 1) := by decide +kernel
theorem dX7_deed_102 : decode cX7_deed 102 = .ok (.iadd, 1) := by decide +kernel
theorem dX7_deed_103 : decode cX7_deed 103 = .ok (.iload_n 1, 1) := by decide +kernel
theorem dX7_deed_104 : decode cX7_deed 104 = .ok (.iadd, 1) := by decide +kernel
theorem dX7_deed_105 : decode cX7_deed 105 = .ok (.iaload, 1) := by decide +kernel
theorem dX7_deed_106 : decode cX7_deed 106 = .ok (.ireturn, 1) := by decide +kernel
theorem dX7_place_0 : decode cX7_place 0 = .ok (.aload_n 0, 1) := by decide +kernel
theorem dX7_place_1 : decode cX7_place 1 = .ok (.getfield 143, 3) := by decide +kernel
theorem dX7_place_4 : decode cX7_place 4 = .ok (.ifCond .ne 6, 3) := by decide +kernel
theorem dX7_place_7 : decode cX7_place 7 = .ok (.ldc 169, 2) := by decide +kernel
theorem dX7_place_9 : decode cX7_place 9 = .ok (.ireturn, 1) := by decide +kernel
theorem dX7_place_10 : decode cX7_place 10 = .ok (.iload_n 1, 1) := by decide +kernel
theorem dX7_place_11 : decode cX7_place 11 = .ok (.i2l, 1) := by decide +kernel
theorem dX7_place_12 : decode cX7_place 12 = .ok (.lconst 0, 1) := by decide +kernel
theorem dX7_place_13 : decode cX7_place 13 = .ok (.ldc2_w 170, 3) := by decide +kernel
theorem dX7_place_16 : decode cX7_place 16 = .ok (.invokestatic 51, 3) := by decide +kernel
theorem dX7_place_19 : decode cX7_place 19 = .ok (.ifCond .eq 10, 3) := by decide +kernel
theorem dX7_place_22 : decode cX7_place 22 = .ok (.iload_n 2, 1) := by decide +kernel
theorem dX7_place_23 : decode cX7_place 23 = .ok (.invokestatic 202, 3) := by decide +kernel
theorem dX7_place_26 : decode cX7_place 26 = .ok (.ifCond .ne 6, 3) := by decide +kernel
theorem dX7_place_29 : decode cX7_place 29 = .ok (.ldc 61, 2) := by decide +kernel
theorem dX7_place_31 : decode cX7_place 31 = .ok (.ireturn, 1) := by decide +kernel
theorem dX7_place_32 : decode cX7_place 32 = .ok (.iload_n 2, 1) := by decide +kernel
theorem dX7_place_33 : decode cX7_place 33 = .ok (.ifCond .ne 13, 3) := by decide +kernel
theorem dX7_place_36 : decode cX7_place 36 = .ok (.aload_n 0, 1) := by decide +kernel
theorem dX7_place_37 : decode cX7_place 37 = .ok (.bipush 15, 2) := by decide +kernel
theorem dX7_place_39 : decode cX7_place 39 = .ok (.iload_n 1, 1) := by decide +kernel
theorem dX7_place_40 : decode cX7_place 40 = .ok (.invokevirtual 192, 3) := by decide +kernel
theorem dX7_place_43 : decode cX7_place 43 = .ok (.goto 14, 3) := by decide +kernel
theorem dX7_place_46 : decode cX7_place 46 = .ok (.aload_n 0, 1) := by decide +kernel
theorem dX7_place_47 : decode cX7_place 47 = .ok (.getfield 22, 3) := by decide +kernel
theorem dX7_place_50 : decode cX7_place 50 = .ok (.invokestatic 162, 3) := by decide +kernel
theorem dX7_place_53 : decode cX7_place 53 = .ok (.iload_n 1, 1) := by decide +kernel
theorem dX7_place_54 : decode cX7_place 54 = .ok (.ishr, 1) := by decide +kernel
theorem dX7_place_55 : decode cX7_place 55 = .ok (.iconst 1, 1) := by decide +kernel
theorem dX7_place_56 : decode cX7_place 56 = .ok (.iand, 1) := by decide +kernel
theorem dX7_place_57 : decode cX7_place 57 = .ok (.ireturn, 1) := by decide +kernel
theorem dX7_layAside_0 : decode cX7_layAside 0 = .ok (.aload_n 0, 1) := by decide +kernel
theorem dX7_layAside_1 : decode cX7_layAside 1 = .ok (.getfield 22, 3) := by decide +kernel
theorem dX7_layAside_4 : decode cX7_layAside 4 = .ok (.iconst 0, 1) := by decide +kernel
theorem dX7_layAside_5 : decode cX7_layAside 5 = .ok (.aload_n 0, 1) := by decide +kernel
theorem dX7_layAside_6 : decode cX7_layAside 6 = .ok (.getfield 41, 3) := by decide +kernel
theorem dX7_layAside_9 : decode cX7_layAside 9 = .ok (.iconst 0, 1) := by decide +kernel
theorem dX7_layAside_10 : decode cX7_layAside 10 = .ok (.invokestatic 150, 3) := by decide +kernel
theorem dX7_layAside_13 : decode cX7_layAside 13 = .ok (.return_, 1) := by decide +kernel
theorem dX7_fallsBy_0 : decode cX7_fallsBy 0 = .ok (.aload_n 0, 1) := by decide +kernel
theorem dX7_fallsBy_1 : decode cX7_fallsBy 1 = .ok (.invokevirtual 205, 3) := by decide +kernel
theorem dX7_fallsBy_4 : decode cX7_fallsBy 4 = .ok (.aload_n 0, 1) := by decide +kernel
theorem dX7_fallsBy_5 : decode cX7_fallsBy 5 = .ok (.getfield 41, 3) := by decide +kernel
theorem dX7_fallsBy_8 : decode cX7_fallsBy 8 = .ok (.iload_n 1, 1) := by decide +kernel
theorem dX7_fallsBy_9 : decode cX7_fallsBy 9 = .ok (.invokestatic 208, 3) := by decide +kernel
theorem dX7_fallsBy_12 : decode cX7_fallsBy 12 = .ok (.aload_n 0, 1) := by decide +kernel
theorem dX7_fallsBy_13 : decode cX7_fallsBy 13 = .ok (.getfield 22, 3) := by decide +kernel
theorem dX7_fallsBy_16 : decode cX7_fallsBy 16 = .ok (.invokestatic 189, 3) := by decide +kernel
theorem dX7_fallsBy_19 : decode cX7_fallsBy 19 = .ok (.aload_n 0, 1) := by decide +kernel
theorem dX7_fallsBy_20 : decode cX7_fallsBy 20 = .ok (.getfield 41, 3) := by decide +kernel
theorem dX7_fallsBy_23 : decode cX7_fallsBy 23 = .ok (.invokestatic 189, 3) := by decide +kernel
theorem dX7_fallsBy_26 : decode cX7_fallsBy 26 = .ok (.iconst (-1), 1) := by decide +kernel
theorem dX7_fallsBy_27 : decode cX7_fallsBy 27 = .ok (.ixor, 1) := by decide +kernel
theorem dX7_fallsBy_28 : decode cX7_fallsBy 28 = .ok (.iand, 1) := by decide +kernel
theorem dX7_fallsBy_29 : decode cX7_fallsBy 29 = .ok (.ireturn, 1) := by decide +kernel
theorem dX7_lossBy_0 : decode cX7_lossBy 0 = .ok (.aload_n 0, 1) := by decide +kernel
theorem dX7_lossBy_1 : decode cX7_lossBy 1 = .ok (.iload_n 1, 1) := by decide +kernel
theorem dX7_lossBy_2 : decode cX7_lossBy 2 = .ok (.invokevirtual 212, 3) := by decide +kernel
theorem dX7_lossBy_5 : decode cX7_lossBy 5 = .ok (.istore_n 2, 1) := by decide +kernel
theorem dX7_lossBy_6 : decode cX7_lossBy 6 = .ok (.iconst 0, 1) := by decide +kernel
theorem dX7_lossBy_7 : decode cX7_lossBy 7 = .ok (.istore_n 3, 1) := by decide +kernel
theorem dX7_lossBy_8 : decode cX7_lossBy 8 = .ok (.iconst 0, 1) := by decide +kernel
theorem dX7_lossBy_9 : decode cX7_lossBy 9 = .ok (.istore 4, 2) := by decide +kernel
theorem dX7_lossBy_11 : decode cX7_lossBy 11 = .ok (.iload 4, 2) := by decide +kernel
theorem dX7_lossBy_13 : decode cX7_lossBy 13 = .ok (.aload_n 0, 1) := by decide +kernel
theorem dX7_lossBy_14 : decode cX7_lossBy 14 = .ok (.getfield 22, 3) := by decide +kernel
theorem dX7_lossBy_17 : decode cX7_lossBy 17 = .ok (.iconst 4, 1) := by decide +kernel
theorem dX7_lossBy_18 : decode cX7_lossBy 18 = .ok (.iaload, 1) := by decide +kernel
theorem dX7_lossBy_19 : decode cX7_lossBy 19 = .ok (.if_icmp .ge 29, 3) := by decide +kernel
theorem dX7_lossBy_22 : decode cX7_lossBy 22 = .ok (.iload_n 3, 1) := by decide +kernel
theorem dX7_lossBy_23 : decode cX7_lossBy 23 = .ok (.iload_n 2, 1) := by decide +kernel
theorem dX7_lossBy_24 : decode cX7_lossBy 24 = .ok (.iload 4, 2) := by decide +kernel
theorem dX7_lossBy_26 : decode cX7_lossBy 26 = .ok (.ishr, 1) := by decide +kernel
theorem dX7_lossBy_27 : decode cX7_lossBy 27 = .ok (.iconst 1, 1) := by decide +kernel
theorem dX7_lossBy_28 : decode cX7_lossBy 28 = .ok (.iand, 1) := by decide +kernel
theorem dX7_lossBy_29 : decode cX7_lossBy 29 = .ok (.aload_n 0, 1) := by decide +kernel
theorem dX7_lossBy_30 : decode cX7_lossBy 30 = .ok (.getfield 22, 3) := by decide +kernel
theorem dX7_lossBy_33 : decode cX7_lossBy 33 = .ok (.bipush 80, 2) := by decide +kernel
theorem dX7_lossBy_35 : decode cX7_lossBy 35 = .ok (.iload 4, 2) := by decide +kernel
theorem dX7_lossBy_37 : decode cX7_lossBy 37 = .ok (.iadd, 1) := by decide +kernel
theorem dX7_lossBy_38 : decode cX7_lossBy 38 = .ok (.iaload, 1) := by decide +kernel
theorem dX7_lossBy_39 : decode cX7_lossBy 39 = .ok (.imul, 1) := by decide +kernel
theorem dX7_lossBy_40 : decode cX7_lossBy 40 = .ok (.iadd, 1) := by decide +kernel
theorem dX7_lossBy_41 : decode cX7_lossBy 41 = .ok (.istore_n 3, 1) := by decide +kernel
theorem dX7_lossBy_42 : decode cX7_lossBy 42 = .ok (.iinc 4 1, 3) := by decide +kernel
theorem dX7_lossBy_45 : decode cX7_lossBy 45 = .ok (.goto (-34), 3) := by decide +kernel
theorem dX7_lossBy_48 : decode cX7_lossBy 48 = .ok (.iload_n 3, 1) := by decide +kernel
theorem dX7_lossBy_49 : decode cX7_lossBy 49 = .ok (.ireturn, 1) := by decide +kernel
theorem dX7_falls_0 : decode cX7_falls 0 = .ok (.aload_n 0, 1) := by decide +kernel
theorem dX7_falls_1 : decode cX7_falls 1 = .ok (.getfield 143, 3) := by decide +kernel
theorem dX7_falls_4 : decode cX7_falls 4 = .ok (.ifCond .ne 6, 3) := by decide +kernel
theorem dX7_falls_7 : decode cX7_falls 7 = .ok (.ldc 169, 2) := by decide +kernel
theorem dX7_falls_9 : decode cX7_falls 9 = .ok (.ireturn, 1) := by decide +kernel
theorem dX7_falls_10 : decode cX7_falls 10 = .ok (.aload_n 0, 1) := by decide +kernel
theorem dX7_falls_11 : decode cX7_falls 11 = .ok (.iload_n 1, 1) := by decide +kernel
theorem dX7_falls_12 : decode cX7_falls 12 = .ok (.invokevirtual 215, 3) := by decide +kernel
theorem dX7_falls_15 : decode cX7_falls 15 = .ok (.ifCond .eq 10, 3) := by decide +kernel
theorem dX7_falls_18 : decode cX7_falls 18 = .ok (.iload_n 2, 1) := by decide +kernel
theorem dX7_falls_19 : decode cX7_falls 19 = .ok (.invokestatic 202, 3) := by decide +kernel
theorem dX7_falls_22 : decode cX7_falls 22 = .ok (.ifCond .ne 6, 3) := by decide +kernel
theorem dX7_falls_25 : decode cX7_falls 25 = .ok (.ldc 61, 2) := by decide +kernel
theorem dX7_falls_27 : decode cX7_falls 27 = .ok (.ireturn, 1) := by decide +kernel
theorem dX7_falls_28 : decode cX7_falls 28 = .ok (.iload_n 2, 1) := by decide +kernel
theorem dX7_falls_29 : decode cX7_falls 29 = .ok (.ifCond .ne 11, 3) := by decide +kernel
theorem dX7_falls_32 : decode cX7_falls 32 = .ok (.aload_n 0, 1) := by decide +kernel
theorem dX7_falls_33 : decode cX7_falls 33 = .ok (.iload_n 1, 1) := by decide +kernel
theorem dX7_falls_34 : decode cX7_falls 34 = .ok (.invokevirtual 212, 3) := by decide +kernel
theorem dX7_falls_37 : decode cX7_falls 37 = .ok (.goto 8, 3) := by decide +kernel
theorem dX7_falls_40 : decode cX7_falls 40 = .ok (.aload_n 0, 1) := by decide +kernel
theorem dX7_falls_41 : decode cX7_falls 41 = .ok (.iload_n 1, 1) := by decide +kernel
theorem dX7_falls_42 : decode cX7_falls 42 = .ok (.invokevirtual 218, 3) := by decide +kernel
theorem dX7_falls_45 : decode cX7_falls 45 = .ok (.ireturn, 1) := by decide +kernel
theorem dX7_ransom_0 : decode cX7_ransom 0 = .ok (.aload_n 0, 1) := by decide +kernel
theorem dX7_ransom_1 : decode cX7_ransom 1 = .ok (.iload_n 1, 1) := by decide +kernel
theorem dX7_ransom_2 : decode cX7_ransom 2 = .ok (.invokevirtual 172, 3) := by decide +kernel
theorem dX7_ransom_5 : decode cX7_ransom 5 = .ok (.ifCond .eq 13, 3) := by decide +kernel
theorem dX7_ransom_8 : decode cX7_ransom 8 = .ok (.aload_n 0, 1) := by decide +kernel
theorem dX7_ransom_9 : decode cX7_ransom 9 = .ok (.iconst 1, 1) := by decide +kernel
theorem dX7_ransom_10 : decode cX7_ransom 10 = .ok (.iload_n 1, 1) := by decide +kernel
theorem dX7_ransom_11 : decode cX7_ransom 11 = .ok (.ishl, 1) := by decide +kernel
theorem dX7_ransom_12 : decode cX7_ransom 12 = .ok (.invokevirtual 218, 3) := by decide +kernel
theorem dX7_ransom_15 : decode cX7_ransom 15 = .ok (.goto 5, 3) := by decide +kernel
theorem dX7_ransom_18 : decode cX7_ransom 18 = .ok (.ldc 61, 2) := by decide +kernel
theorem dX7_ransom_20 : decode cX7_ransom 20 = .ok (.ireturn, 1) := by decide +kernel
theorem dX7_pair_0 : decode cX7_pair 0 = .ok (.aload_n 0, 1) := by decide +kernel
theorem dX7_pair_1 : decode cX7_pair 1 = .ok (.getfield 143, 3) := by decide +kernel
theorem dX7_pair_4 : decode cX7_pair 4 = .ok (.ifCond .ne 6, 3) := by decide +kernel
theorem dX7_pair_7 : decode cX7_pair 7 = .ok (.ldc 169, 2) := by decide +kernel
theorem dX7_pair_9 : decode cX7_pair 9 = .ok (.ireturn, 1) := by decide +kernel
theorem dX7_pair_10 : decode cX7_pair 10 = .ok (.iload_n 1, 1) := by decide +kernel
theorem dX7_pair_11 : decode cX7_pair 11 = .ok (.invokestatic 202, 3) := by decide +kernel
theorem dX7_pair_14 : decode cX7_pair 14 = .ok (.ifCond .ne 6, 3) := by decide +kernel
theorem dX7_pair_17 : decode cX7_pair 17 = .ok (.ldc 61, 2) := by decide +kernel
theorem dX7_pair_19 : decode cX7_pair 19 = .ok (.ireturn, 1) := by decide +kernel
theorem dX7_pair_20 : decode cX7_pair 20 = .ok (.ldc 201, 2) := by decide +kernel
theorem dX7_pair_22 : decode cX7_pair 22 = .ok (.istore_n 2, 1) := by decide +kernel
theorem dX7_pair_23 : decode cX7_pair 23 = .ok (.ldc 201, 2) := by decide +kernel
theorem dX7_pair_25 : decode cX7_pair 25 = .ok (.istore_n 3, 1) := by decide +kernel
theorem dX7_pair_26 : decode cX7_pair 26 = .ok (.iconst 0, 1) := by decide +kernel
theorem dX7_pair_27 : decode cX7_pair 27 = .ok (.istore 4, 2) := by decide +kernel
theorem dX7_pair_29 : decode cX7_pair 29 = .ok (.iload 4, 2) := by decide +kernel
theorem dX7_pair_31 : decode cX7_pair 31 = .ok (.aload_n 0, 1) := by decide +kernel
theorem dX7_pair_32 : decode cX7_pair 32 = .ok (.getfield 22, 3) := by decide +kernel
theorem dX7_pair_35 : decode cX7_pair 35 = .ok (.iconst 2, 1) := by decide +kernel
theorem dX7_pair_36 : decode cX7_pair 36 = .ok (.iaload, 1) := by decide +kernel
theorem dX7_pair_37 : decode cX7_pair 37 = .ok (.if_icmp .ge 96, 3) := by decide +kernel
theorem dX7_pair_40 : decode cX7_pair 40 = .ok (.iload 4, 2) := by decide +kernel
theorem dX7_pair_42 : decode cX7_pair 42 = .ok (.iconst 1, 1) := by decide +kernel
theorem dX7_pair_43 : decode cX7_pair 43 = .ok (.iadd, 1) := by decide +kernel
theorem dX7_pair_44 : decode cX7_pair 44 = .ok (.istore 5, 2) := by decide +kernel
theorem dX7_pair_46 : decode cX7_pair 46 = .ok (.iload 5, 2) := by decide +kernel
theorem dX7_pair_48 : decode cX7_pair 48 = .ok (.aload_n 0, 1) := by decide +kernel
theorem dX7_pair_49 : decode cX7_pair 49 = .ok (.getfield 22, 3) := by decide +kernel
theorem dX7_pair_52 : decode cX7_pair 52 = .ok (.iconst 2, 1) := by decide +kernel
theorem dX7_pair_53 : decode cX7_pair 53 = .ok (.iaload, 1) := by decide +kernel
theorem dX7_pair_54 : decode cX7_pair 54 = .ok (.if_icmp .ge 73, 3) := by decide +kernel
theorem dX7_pair_57 : decode cX7_pair 57 = .ok (.aload_n 0, 1) := by decide +kernel
theorem dX7_pair_58 : decode cX7_pair 58 = .ok (.iconst 1, 1) := by decide +kernel
theorem dX7_pair_59 : decode cX7_pair 59 = .ok (.iload 4, 2) := by decide +kernel
theorem dX7_pair_61 : decode cX7_pair 61 = .ok (.ishl, 1) := by decide +kernel
theorem dX7_pair_62 : decode cX7_pair 62 = .ok (.iconst 1, 1) := by decide +kernel
theorem dX7_pair_63 : decode cX7_pair 63 = .ok (.iload 5, 2) := by decide +kernel
theorem dX7_pair_65 : decode cX7_pair 65 = .ok (.ishl, 1) := by decide +kernel
theorem dX7_pair_66 : decode cX7_pair 66 = .ok (.ior, 1) := by decide +kernel
theorem dX7_pair_67 : decode cX7_pair 67 = .ok (.invokevirtual 218, 3) := by decide +kernel
theorem dX7_pair_70 : decode cX7_pair 70 = .ok (.aload_n 0, 1) := by decide +kernel
theorem dX7_pair_71 : decode cX7_pair 71 = .ok (.iconst 1, 1) := by decide +kernel
theorem dX7_pair_72 : decode cX7_pair 72 = .ok (.iload 4, 2) := by decide +kernel
theorem dX7_pair_74 : decode cX7_pair 74 = .ok (.ishl, 1) := by decide +kernel
theorem dX7_pair_75 : decode cX7_pair 75 = .ok (.invokevirtual 218, 3) := by decide +kernel
theorem dX7_pair_78 : decode cX7_pair 78 = .ok (.isub, 1) := by decide +kernel
theorem dX7_pair_79 : decode cX7_pair 79 = .ok (.aload_n 0, 1) := by decide +kernel
theorem dX7_pair_80 : decode cX7_pair 80 = .ok (.iconst 1, 1) := by decide +kernel
theorem dX7_pair_81 : decode cX7_pair 81 = .ok (.iload 5, 2) := by decide +kernel
theorem dX7_pair_83 : decode cX7_pair 83 = .ok (.ishl, 1) := by decide +kernel
theorem dX7_pair_84 : decode cX7_pair 84 = .ok (.invokevirtual 218, 3) := by decide +kernel
theorem dX7_pair_87 : decode cX7_pair 87 = .ok (.isub, 1) := by decide +kernel
theorem dX7_pair_88 : decode cX7_pair 88 = .ok (.istore 6, 2) := by decide +kernel
theorem dX7_pair_90 : decode cX7_pair 90 = .ok (.iload 6, 2) := by decide +kernel
theorem dX7_pair_92 : decode cX7_pair 92 = .ok (.iload_n 2, 1) := by decide +kernel
theorem dX7_pair_93 : decode cX7_pair 93 = .ok (.if_icmp .le 13, 3) := by decide +kernel
theorem dX7_pair_96 : decode cX7_pair 96 = .ok (.iconst 4, 1) := by decide +kernel
theorem dX7_pair_97 : decode cX7_pair 97 = .ok (.iload 4, 2) := by decide +kernel
theorem dX7_pair_99 : decode cX7_pair 99 = .ok (.imul, 1) := by decide +kernel
theorem dX7_pair_100 : decode cX7_pair 100 = .ok (.iload 5, 2) := by decide +kernel
theorem dX7_pair_102 : decode cX7_pair 102 = .ok (.iadd, 1) := by decide +kernel
theorem dX7_pair_103 : decode cX7_pair 103 = .ok (.goto 4, 3) := by decide +kernel
theorem dX7_pair_106 : decode cX7_pair 106 = .ok (.iload_n 3, 1) := by decide +kernel
theorem dX7_pair_107 : decode cX7_pair 107 = .ok (.istore_n 3, 1) := by decide +kernel
theorem dX7_pair_108 : decode cX7_pair 108 = .ok (.iload 6, 2) := by decide +kernel
theorem dX7_pair_110 : decode cX7_pair 110 = .ok (.iload_n 2, 1) := by decide +kernel
theorem dX7_pair_111 : decode cX7_pair 111 = .ok (.if_icmp .le 8, 3) := by decide +kernel
theorem dX7_pair_114 : decode cX7_pair 114 = .ok (.iload 6, 2) := by decide +kernel
theorem dX7_pair_116 : decode cX7_pair 116 = .ok (.goto 4, 3) := by decide +kernel
theorem dX7_pair_119 : decode cX7_pair 119 = .ok (.iload_n 2, 1) := by decide +kernel
theorem dX7_pair_120 : decode cX7_pair 120 = .ok (.istore_n 2, 1) := by decide +kernel
theorem dX7_pair_121 : decode cX7_pair 121 = .ok (.iinc 5 1, 3) := by decide +kernel
theorem dX7_pair_124 : decode cX7_pair 124 = .ok (.goto (-78), 3) := by decide +kernel
theorem dX7_pair_127 : decode cX7_pair 127 = .ok (.iinc 4 1, 3) := by decide +kernel
theorem dX7_pair_130 : decode cX7_pair 130 = .ok (.goto (-101), 3) := by decide +kernel
theorem dX7_pair_133 : decode cX7_pair 133 = .ok (.iload_n 1, 1) := by decide +kernel
theorem dX7_pair_134 : decode cX7_pair 134 = .ok (.ifCond .eq 9, 3) := by decide +kernel
theorem dX7_pair_137 : decode cX7_pair 137 = .ok (.iload_n 3, 1) := by decide +kernel
theorem dX7_pair_138 : decode cX7_pair 138 = .ok (.ldc 201, 2) := by decide +kernel
theorem dX7_pair_140 : decode cX7_pair 140 = .ok (.if_icmp .ne 7, 3) := by decide +kernel
theorem dX7_pair_143 : decode cX7_pair 143 = .ok (.iload_n 3, 1) := by decide +kernel
theorem dX7_pair_144 : decode cX7_pair 144 = .ok (.goto 4, 3) := by decide +kernel
theorem dX7_pair_147 : decode cX7_pair 147 = .ok (.iload_n 2, 1) := by decide +kernel
theorem dX7_pair_148 : decode cX7_pair 148 = .ok (.ireturn, 1) := by decide +kernel
theorem dX7_ahead_0 : decode cX7_ahead 0 = .ok (.aload_n 0, 1) := by decide +kernel
theorem dX7_ahead_1 : decode cX7_ahead 1 = .ok (.getfield 143, 3) := by decide +kernel
theorem dX7_ahead_4 : decode cX7_ahead 4 = .ok (.ifCond .ne 6, 3) := by decide +kernel
theorem dX7_ahead_7 : decode cX7_ahead 7 = .ok (.ldc 169, 2) := by decide +kernel
theorem dX7_ahead_9 : decode cX7_ahead 9 = .ok (.ireturn, 1) := by decide +kernel
theorem dX7_ahead_10 : decode cX7_ahead 10 = .ok (.iload_n 1, 1) := by decide +kernel
theorem dX7_ahead_11 : decode cX7_ahead 11 = .ok (.i2l, 1) := by decide +kernel
theorem dX7_ahead_12 : decode cX7_ahead 12 = .ok (.lconst 0, 1) := by decide +kernel
theorem dX7_ahead_13 : decode cX7_ahead 13 = .ok (.ldc2_w 221, 3) := by decide +kernel
theorem dX7_ahead_16 : decode cX7_ahead 16 = .ok (.invokestatic 51, 3) := by decide +kernel
theorem dX7_ahead_19 : decode cX7_ahead 19 = .ok (.ifCond .eq 15, 3) := by decide +kernel
theorem dX7_ahead_22 : decode cX7_ahead 22 = .ok (.iload_n 2, 1) := by decide +kernel
theorem dX7_ahead_23 : decode cX7_ahead 23 = .ok (.i2l, 1) := by decide +kernel
theorem dX7_ahead_24 : decode cX7_ahead 24 = .ok (.lconst 0, 1) := by decide +kernel
theorem dX7_ahead_25 : decode cX7_ahead 25 = .ok (.ldc2_w 59, 3) := by decide +kernel
theorem dX7_ahead_28 : decode cX7_ahead 28 = .ok (.invokestatic 51, 3) := by decide +kernel
theorem dX7_ahead_31 : decode cX7_ahead 31 = .ok (.ifCond .ne 6, 3) := by decide +kernel
theorem dX7_ahead_34 : decode cX7_ahead 34 = .ok (.ldc 61, 2) := by decide +kernel
theorem dX7_ahead_36 : decode cX7_ahead 36 = .ok (.ireturn, 1) := by decide +kernel
theorem dX7_ahead_37 : decode cX7_ahead 37 = .ok (.aload_n 0, 1) := by decide +kernel
theorem dX7_ahead_38 : decode cX7_ahead 38 = .ok (.invokevirtual 205, 3) := by decide +kernel
theorem dX7_ahead_41 : decode cX7_ahead 41 = .ok (.iconst 0, 1) := by decide +kernel
theorem dX7_ahead_42 : decode cX7_ahead 42 = .ok (.istore_n 3, 1) := by decide +kernel
theorem dX7_ahead_43 : decode cX7_ahead 43 = .ok (.iload_n 3, 1) := by decide +kernel
theorem dX7_ahead_44 : decode cX7_ahead 44 = .ok (.iload_n 1, 1) := by decide +kernel
theorem dX7_ahead_45 : decode cX7_ahead 45 = .ok (.if_icmp .ge 16, 3) := by decide +kernel
theorem dX7_ahead_48 : decode cX7_ahead 48 = .ok (.aload_n 0, 1) := by decide +kernel
theorem dX7_ahead_49 : decode cX7_ahead 49 = .ok (.getfield 41, 3) := by decide +kernel
theorem dX7_ahead_52 : decode cX7_ahead 52 = .ok (.invokestatic 185, 3) := by decide +kernel
theorem dX7_ahead_55 : decode cX7_ahead 55 = .ok (.iinc 3 1, 3) := by decide +kernel
theorem dX7_ahead_58 : decode cX7_ahead 58 = .ok (.goto (-15), 3) := by decide +kernel
theorem dX7_ahead_61 : decode cX7_ahead 61 = .ok (.iload_n 2, 1) := by decide +kernel
theorem dX7_ahead_62 : decode cX7_ahead 62 = .ok (.ifCond .ne 13, 3) := by decide +kernel
theorem dX7_ahead_65 : decode cX7_ahead 65 = .ok (.aload_n 0, 1) := by decide +kernel
theorem dX7_ahead_66 : decode cX7_ahead 66 = .ok (.getfield 41, 3) := by decide +kernel
theorem dX7_ahead_69 : decode cX7_ahead 69 = .ok (.invokestatic 162, 3) := by decide +kernel
theorem dX7_ahead_72 : decode cX7_ahead 72 = .ok (.goto 25, 3) := by decide +kernel
theorem dX7_ahead_75 : decode cX7_ahead 75 = .ok (.iload_n 2, 1) := by decide +kernel
theorem dX7_ahead_76 : decode cX7_ahead 76 = .ok (.iconst 1, 1) := by decide +kernel
theorem dX7_ahead_77 : decode cX7_ahead 77 = .ok (.if_icmp .ne 13, 3) := by decide +kernel
theorem dX7_ahead_80 : decode cX7_ahead 80 = .ok (.aload_n 0, 1) := by decide +kernel
theorem dX7_ahead_81 : decode cX7_ahead 81 = .ok (.getfield 41, 3) := by decide +kernel
theorem dX7_ahead_84 : decode cX7_ahead 84 = .ok (.invokestatic 189, 3) := by decide +kernel
theorem dX7_ahead_87 : decode cX7_ahead 87 = .ok (.goto 10, 3) := by decide +kernel
theorem dX7_ahead_90 : decode cX7_ahead 90 = .ok (.aload_n 0, 1) := by decide +kernel
theorem dX7_ahead_91 : decode cX7_ahead 91 = .ok (.getfield 41, 3) := by decide +kernel
theorem dX7_ahead_94 : decode cX7_ahead 94 = .ok (.invokestatic 223, 3) := by decide +kernel
theorem dX7_ahead_97 : decode cX7_ahead 97 = .ok (.ireturn, 1) := by decide +kernel
theorem dX7_first_0 : decode cX7_first 0 = .ok (.aload_n 0, 1) := by decide +kernel
theorem dX7_first_1 : decode cX7_first 1 = .ok (.iload_n 1, 1) := by decide +kernel
theorem dX7_first_2 : decode cX7_first 2 = .ok (.invokevirtual 196, 3) := by decide +kernel
theorem dX7_first_5 : decode cX7_first 5 = .ok (.ifCond .eq 15, 3) := by decide +kernel
theorem dX7_first_8 : decode cX7_first 8 = .ok (.iload_n 2, 1) := by decide +kernel
theorem dX7_first_9 : decode cX7_first 9 = .ok (.i2l, 1) := by decide +kernel
theorem dX7_first_10 : decode cX7_first 10 = .ok (.lconst 1, 1) := by decide +kernel
theorem dX7_first_11 : decode cX7_first 11 = .ok (.ldc2_w 221, 3) := by decide +kernel
theorem dX7_first_14 : decode cX7_first 14 = .ok (.invokestatic 51, 3) := by decide +kernel
theorem dX7_first_17 : decode cX7_first 17 = .ok (.ifCond .ne 6, 3) := by decide +kernel
theorem dX7_first_20 : decode cX7_first 20 = .ok (.ldc 61, 2) := by decide +kernel
theorem dX7_first_22 : decode cX7_first 22 = .ok (.ireturn, 1) := by decide +kernel
theorem dX7_first_23 : decode cX7_first 23 = .ok (.aload_n 0, 1) := by decide +kernel
theorem dX7_first_24 : decode cX7_first 24 = .ok (.invokevirtual 205, 3) := by decide +kernel
theorem dX7_first_27 : decode cX7_first 27 = .ok (.iconst 0, 1) := by decide +kernel
theorem dX7_first_28 : decode cX7_first 28 = .ok (.istore_n 3, 1) := by decide +kernel
theorem dX7_first_29 : decode cX7_first 29 = .ok (.iload_n 3, 1) := by decide +kernel
theorem dX7_first_30 : decode cX7_first 30 = .ok (.iload_n 2, 1) := by decide +kernel
theorem dX7_first_31 : decode cX7_first 31 = .ok (.if_icmp .ge 32, 3) := by decide +kernel
theorem dX7_first_34 : decode cX7_first 34 = .ok (.aload_n 0, 1) := by decide +kernel
theorem dX7_first_35 : decode cX7_first 35 = .ok (.getfield 41, 3) := by decide +kernel
theorem dX7_first_38 : decode cX7_first 38 = .ok (.invokestatic 185, 3) := by decide +kernel
theorem dX7_first_41 : decode cX7_first 41 = .ok (.aload_n 0, 1) := by decide +kernel
theorem dX7_first_42 : decode cX7_first 42 = .ok (.getfield 41, 3) := by decide +kernel
theorem dX7_first_45 : decode cX7_first 45 = .ok (.invokestatic 189, 3) := by decide +kernel
theorem dX7_first_48 : decode cX7_first 48 = .ok (.iload_n 1, 1) := by decide +kernel
theorem dX7_first_49 : decode cX7_first 49 = .ok (.ishr, 1) := by decide +kernel
theorem dX7_first_50 : decode cX7_first 50 = .ok (.iconst 1, 1) := by decide +kernel
theorem dX7_first_51 : decode cX7_first 51 = .ok (.iand, 1) := by decide +kernel
theorem dX7_first_52 : decode cX7_first 52 = .ok (.ifCond .ne 5, 3) := by decide +kernel
theorem dX7_first_55 : decode cX7_first 55 = .ok (.iload_n 3, 1) := by decide +kernel
theorem dX7_first_56 : decode cX7_first 56 = .ok (.ireturn, 1) := by decide +kernel
theorem dX7_first_57 : decode cX7_first 57 = .ok (.iinc 3 1, 3) := by decide +kernel
theorem dX7_first_60 : decode cX7_first 60 = .ok (.goto (-31), 3) := by decide +kernel
theorem dX7_first_63 : decode cX7_first 63 = .ok (.ldc 201, 2) := by decide +kernel
theorem dX7_first_65 : decode cX7_first 65 = .ok (.ireturn, 1) := by decide +kernel
theorem dX7_safe_0 : decode cX7_safe 0 = .ok (.aload_n 0, 1) := by decide +kernel
theorem dX7_safe_1 : decode cX7_safe 1 = .ok (.iload_n 1, 1) := by decide +kernel
theorem dX7_safe_2 : decode cX7_safe 2 = .ok (.invokevirtual 180, 3) := by decide +kernel
theorem dX7_safe_5 : decode cX7_safe 5 = .ok (.ifCond .ne 6, 3) := by decide +kernel
theorem dX7_safe_8 : decode cX7_safe 8 = .ok (.ldc 61, 2) := by decide +kernel
theorem dX7_safe_10 : decode cX7_safe 10 = .ok (.ireturn, 1) := by decide +kernel
theorem dX7_safe_11 : decode cX7_safe 11 = .ok (.aload_n 0, 1) := by decide +kernel
theorem dX7_safe_12 : decode cX7_safe 12 = .ok (.getfield 22, 3) := by decide +kernel
theorem dX7_safe_15 : decode cX7_safe 15 = .ok (.bipush 25, 2) := by decide +kernel
theorem dX7_safe_17 : decode cX7_safe 17 = .ok (.iload_n 1, 1) := by decide +kernel
theorem dX7_safe_18 : decode cX7_safe 18 = .ok (.iadd, 1) := by decide +kernel
theorem dX7_safe_19 : decode cX7_safe 19 = .ok (.iaload, 1) := by decide +kernel
theorem dX7_safe_20 : decode cX7_safe 20 = .ok (.istore_n 2, 1) := by decide +kernel
theorem dX7_safe_21 : decode cX7_safe 21 = .ok (.aload_n 0, 1) := by decide +kernel
theorem dX7_safe_22 : decode cX7_safe 22 = .ok (.getfield 22, 3) := by decide +kernel
theorem dX7_safe_25 : decode cX7_safe 25 = .ok (.bipush 55, 2) := by decide +kernel
theorem dX7_safe_27 : decode cX7_safe 27 = .ok (.iload_n 1, 1) := by decide +kernel
theorem dX7_safe_28 : decode cX7_safe 28 = .ok (.iadd, 1) := by decide +kernel
theorem dX7_safe_29 : decode cX7_safe 29 = .ok (.iaload, 1) := by decide +kernel
theorem dX7_safe_30 : decode cX7_safe 30 = .ok (.iconst 1, 1) := by decide +kernel
theorem dX7_safe_31 : decode cX7_safe 31 = .ok (.if_icmp .eq 16, 3) := by decide +kernel
theorem dX7_safe_34 : decode cX7_safe 34 = .ok (.aload_n 0, 1) := by decide +kernel
theorem dX7_safe_35 : decode cX7_safe 35 = .ok (.getfield 22, 3) := by decide +kernel
theorem dX7_safe_38 : decode cX7_safe 38 = .ok (.bipush 7, 2) := by decide +kernel
theorem dX7_safe_40 : decode cX7_safe 40 = .ok (.iload_n 2, 1) := by decide +kernel
theorem dX7_safe_41 : decode cX7_safe 41 = .ok (.iadd, 1) := by decide +kernel
theorem dX7_safe_42 : decode cX7_safe 42 = .ok (.iaload, 1) := by decide +kernel
theorem dX7_safe_43 : decode cX7_safe 43 = .ok (.iconst 3, 1) := by decide +kernel
theorem dX7_safe_44 : decode cX7_safe 44 = .ok (.if_icmp .ne 6, 3) := by decide +kernel
theorem dX7_safe_47 : decode cX7_safe 47 = .ok (.ldc 201, 2) := by decide +kernel
theorem dX7_safe_49 : decode cX7_safe 49 = .ok (.ireturn, 1) := by decide +kernel
theorem dX7_safe_50 : decode cX7_safe 50 = .ok (.aload_n 0, 1) := by decide +kernel
theorem dX7_safe_51 : decode cX7_safe 51 = .ok (.getfield 22, 3) := by decide +kernel
theorem dX7_safe_54 : decode cX7_safe 54 = .ok (.bipush 45, 2) := by decide +kernel
theorem dX7_safe_56 : decode cX7_safe 56 = .ok (.iload_n 1, 1) := by decide +kernel
theorem dX7_safe_57 : decode cX7_safe 57 = .ok (.iadd, 1) := by decide +kernel
theorem dX7_safe_58 : decode cX7_safe 58 = .ok (.iaload, 1) := by decide +kernel
theorem dX7_safe_59 : decode cX7_safe 59 = .ok (.aload_n 0, 1) := by decide +kernel
theorem dX7_safe_60 : decode cX7_safe 60 = .ok (.getfield 22, 3) := by decide +kernel
theorem dX7_safe_63 : decode cX7_safe 63 = .ok (.iload_n 2, 1) := by decide +kernel
theorem dX7_safe_64 : decode cX7_safe 64 = .ok (.invokestatic 154, 3) := by decide +kernel
theorem dX7_safe_67 : decode cX7_safe 67 = .ok (.iadd, 1) := by decide +kernel
theorem dX7_safe_68 : decode cX7_safe 68 = .ok (.iconst 1, 1) := by decide +kernel
theorem dX7_safe_69 : decode cX7_safe 69 = .ok (.iadd, 1) := by decide +kernel
theorem dX7_safe_70 : decode cX7_safe 70 = .ok (.istore_n 3, 1) := by decide +kernel
theorem dX7_safe_71 : decode cX7_safe 71 = .ok (.iload_n 3, 1) := by decide +kernel
theorem dX7_safe_72 : decode cX7_safe 72 = .ok (.aload_n 0, 1) := by decide +kernel
theorem dX7_safe_73 : decode cX7_safe 73 = .ok (.getfield 22, 3) := by decide +kernel
theorem dX7_safe_76 : decode cX7_safe 76 = .ok (.iconst 5, 1) := by decide +kernel
theorem dX7_safe_77 : decode cX7_safe 77 = .ok (.iaload, 1) := by decide +kernel
theorem dX7_safe_78 : decode cX7_safe 78 = .ok (.if_icmp .le 7, 3) := by decide +kernel
theorem dX7_safe_81 : decode cX7_safe 81 = .ok (.iload_n 3, 1) := by decide +kernel
theorem dX7_safe_82 : decode cX7_safe 82 = .ok (.goto 9, 3) := by decide +kernel
theorem dX7_safe_85 : decode cX7_safe 85 = .ok (.aload_n 0, 1) := by decide +kernel
theorem dX7_safe_86 : decode cX7_safe 86 = .ok (.getfield 22, 3) := by decide +kernel
theorem dX7_safe_89 : decode cX7_safe 89 = .ok (.iconst 5, 1) := by decide +kernel
theorem dX7_safe_90 : decode cX7_safe 90 = .ok (.iaload, 1) := by decide +kernel
theorem dX7_safe_91 : decode cX7_safe 91 = .ok (.ireturn, 1) := by decide +kernel
theorem dX7_doubles_0 : decode cX7_doubles 0 = .ok (.aload_n 0, 1) := by decide +kernel
theorem dX7_doubles_1 : decode cX7_doubles 1 = .ok (.iload_n 1, 1) := by decide +kernel
theorem dX7_doubles_2 : decode cX7_doubles 2 = .ok (.invokevirtual 196, 3) := by decide +kernel
theorem dX7_doubles_5 : decode cX7_doubles 5 = .ok (.ifCond .eq 23, 3) := by decide +kernel
theorem dX7_doubles_8 : decode cX7_doubles 8 = .ok (.aload_n 0, 1) := by decide +kernel
theorem dX7_doubles_9 : decode cX7_doubles 9 = .ok (.iload_n 2, 1) := by decide +kernel
theorem dX7_doubles_10 : decode cX7_doubles 10 = .ok (.invokevirtual 215, 3) := by decide +kernel
theorem dX7_doubles_13 : decode cX7_doubles 13 = .ok (.ifCond .eq 15, 3) := by decide +kernel
theorem dX7_doubles_16 : decode cX7_doubles 16 = .ok (.iload_n 3, 1) := by decide +kernel
theorem dX7_doubles_17 : decode cX7_doubles 17 = .ok (.i2l, 1) := by decide +kernel
theorem dX7_doubles_18 : decode cX7_doubles 18 = .ok (.lconst 0, 1) := by decide +kernel
theorem dX7_doubles_19 : decode cX7_doubles 19 = .ok (.ldc2_w 59, 3) := by decide +kernel
theorem dX7_doubles_22 : decode cX7_doubles 22 = .ok (.invokestatic 51, 3) := by decide +kernel
theorem dX7_doubles_25 : decode cX7_doubles 25 = .ok (.ifCond .ne 6, 3) := by decide +kernel
theorem dX7_doubles_28 : decode cX7_doubles 28 = .ok (.ldc 61, 2) := by decide +kernel
theorem dX7_doubles_30 : decode cX7_doubles 30 = .ok (.ireturn, 1) := by decide +kernel
theorem dX7_doubles_31 : decode cX7_doubles 31 = .ok (.aload_n 0, 1) := by decide +kernel
theorem dX7_doubles_32 : decode cX7_doubles 32 = .ok (.invokevirtual 205, 3) := by decide +kernel
theorem dX7_doubles_35 : decode cX7_doubles 35 = .ok (.aload_n 0, 1) := by decide +kernel
theorem dX7_doubles_36 : decode cX7_doubles 36 = .ok (.getfield 41, 3) := by decide +kernel
theorem dX7_doubles_39 : decode cX7_doubles 39 = .ok (.iload_n 2, 1) := by decide +kernel
theorem dX7_doubles_40 : decode cX7_doubles 40 = .ok (.invokestatic 208, 3) := by decide +kernel
theorem dX7_doubles_43 : decode cX7_doubles 43 = .ok (.aload_n 0, 1) := by decide +kernel
theorem dX7_doubles_44 : decode cX7_doubles 44 = .ok (.getfield 41, 3) := by decide +kernel
theorem dX7_doubles_47 : decode cX7_doubles 47 = .ok (.invokestatic 162, 3) := by decide +kernel
theorem dX7_doubles_50 : decode cX7_doubles 50 = .ok (.istore 4, 2) := by decide +kernel
theorem dX7_doubles_52 : decode cX7_doubles 52 = .ok (.bipush 63, 2) := by decide +kernel
theorem dX7_doubles_54 : decode cX7_doubles 54 = .ok (.istore 5, 2) := by decide +kernel
theorem dX7_doubles_56 : decode cX7_doubles 56 = .ok (.iconst 0, 1) := by decide +kernel
theorem dX7_doubles_57 : decode cX7_doubles 57 = .ok (.istore 6, 2) := by decide +kernel
theorem dX7_doubles_59 : decode cX7_doubles 59 = .ok (.iload 6, 2) := by decide +kernel
theorem dX7_doubles_61 : decode cX7_doubles 61 = .ok (.bipush 64, 2) := by decide +kernel
theorem dX7_doubles_63 : decode cX7_doubles 63 = .ok (.if_icmp .ge 63, 3) := by decide +kernel
theorem dX7_doubles_66 : decode cX7_doubles 66 = .ok (.aload_n 0, 1) := by decide +kernel
theorem dX7_doubles_67 : decode cX7_doubles 67 = .ok (.getfield 41, 3) := by decide +kernel
theorem dX7_doubles_70 : decode cX7_doubles 70 = .ok (.iload 4, 2) := by decide +kernel
theorem dX7_doubles_72 : decode cX7_doubles 72 = .ok (.iload 6, 2) := by decide +kernel
theorem dX7_doubles_74 : decode cX7_doubles 74 = .ok (.ior, 1) := by decide +kernel
theorem dX7_doubles_75 : decode cX7_doubles 75 = .ok (.invokestatic 166, 3) := by decide +kernel
theorem dX7_doubles_78 : decode cX7_doubles 78 = .ok (.iload_n 1, 1) := by decide +kernel
theorem dX7_doubles_79 : decode cX7_doubles 79 = .ok (.ishr, 1) := by decide +kernel
theorem dX7_doubles_80 : decode cX7_doubles 80 = .ok (.iconst 1, 1) := by decide +kernel
theorem dX7_doubles_81 : decode cX7_doubles 81 = .ok (.iand, 1) := by decide +kernel
theorem dX7_doubles_82 : decode cX7_doubles 82 = .ok (.iconst 1, 1) := by decide +kernel
theorem dX7_doubles_83 : decode cX7_doubles 83 = .ok (.if_icmp .ne 7, 3) := by decide +kernel
theorem dX7_doubles_86 : decode cX7_doubles 86 = .ok (.iconst 1, 1) := by decide +kernel
theorem dX7_doubles_87 : decode cX7_doubles 87 = .ok (.goto 4, 3) := by decide +kernel
theorem dX7_doubles_90 : decode cX7_doubles 90 = .ok (.iconst 0, 1) := by decide +kernel
theorem dX7_doubles_91 : decode cX7_doubles 91 = .ok (.istore 7, 2) := by decide +kernel
theorem dX7_doubles_93 : decode cX7_doubles 93 = .ok (.iload 7, 2) := by decide +kernel
theorem dX7_doubles_95 : decode cX7_doubles 95 = .ok (.ifCond .eq 21, 3) := by decide +kernel
theorem dX7_doubles_98 : decode cX7_doubles 98 = .ok (.iload 6, 2) := by decide +kernel
theorem dX7_doubles_100 : decode cX7_doubles 100 = .ok (.invokestatic 226, 3) := by decide +kernel
theorem dX7_doubles_103 : decode cX7_doubles 103 = .ok (.iload 5, 2) := by decide +kernel
theorem dX7_doubles_105 : decode cX7_doubles 105 = .ok (.invokestatic 226, 3) := by decide +kernel
theorem dX7_doubles_108 : decode cX7_doubles 108 = .ok (.if_icmp .ge 8, 3) := by decide +kernel
theorem dX7_doubles_111 : decode cX7_doubles 111 = .ok (.iload 6, 2) := by decide +kernel
theorem dX7_doubles_113 : decode cX7_doubles 113 = .ok (.goto 5, 3) := by decide +kernel
theorem dX7_doubles_116 : decode cX7_doubles 116 = .ok (.iload 5, 2) := by decide +kernel
theorem dX7_doubles_118 : decode cX7_doubles 118 = .ok (.istore 5, 2) := by decide +kernel
theorem dX7_doubles_120 : decode cX7_doubles 120 = .ok (.iinc 6 1, 3) := by decide +kernel
theorem dX7_doubles_123 : decode cX7_doubles 123 = .ok (.goto (-64), 3) := by decide +kernel
theorem dX7_doubles_126 : decode cX7_doubles 126 = .ok (.ldc 229, 2) := by decide +kernel
theorem dX7_doubles_128 : decode cX7_doubles 128 = .ok (.istore 6, 2) := by decide +kernel
theorem dX7_doubles_130 : decode cX7_doubles 130 = .ok (.iconst 0, 1) := by decide +kernel
theorem dX7_doubles_131 : decode cX7_doubles 131 = .ok (.istore 7, 2) := by decide +kernel
theorem dX7_doubles_133 : decode cX7_doubles 133 = .ok (.iload 7, 2) := by decide +kernel
theorem dX7_doubles_135 : decode cX7_doubles 135 = .ok (.aload_n 0, 1) := by decide +kernel
theorem dX7_doubles_136 : decode cX7_doubles 136 = .ok (.getfield 22, 3) := by decide +kernel
theorem dX7_doubles_139 : decode cX7_doubles 139 = .ok (.iconst 2, 1) := by decide +kernel
theorem dX7_doubles_140 : decode cX7_doubles 140 = .ok (.iaload, 1) := by decide +kernel
theorem dX7_doubles_141 : decode cX7_doubles 141 = .ok (.if_icmp .ge 76, 3) := by decide +kernel
theorem dX7_doubles_144 : decode cX7_doubles 144 = .ok (.iload_n 2, 1) := by decide +kernel
theorem dX7_doubles_145 : decode cX7_doubles 145 = .ok (.iload 7, 2) := by decide +kernel
theorem dX7_doubles_147 : decode cX7_doubles 147 = .ok (.ishr, 1) := by decide +kernel
theorem dX7_doubles_148 : decode cX7_doubles 148 = .ok (.iconst 1, 1) := by decide +kernel
theorem dX7_doubles_149 : decode cX7_doubles 149 = .ok (.iand, 1) := by decide +kernel
theorem dX7_doubles_150 : decode cX7_doubles 150 = .ok (.ifCond .ne 21, 3) := by decide +kernel
theorem dX7_doubles_153 : decode cX7_doubles 153 = .ok (.aload_n 0, 1) := by decide +kernel
theorem dX7_doubles_154 : decode cX7_doubles 154 = .ok (.getfield 22, 3) := by decide +kernel
theorem dX7_doubles_157 : decode cX7_doubles 157 = .ok (.bipush 7, 2) := by decide +kernel
theorem dX7_doubles_159 : decode cX7_doubles 159 = .ok (.iload 7, 2) := by decide +kernel
theorem dX7_doubles_161 : decode cX7_doubles 161 = .ok (.iadd, 1) := by decide +kernel
theorem dX7_doubles_162 : decode cX7_doubles 162 = .ok (.iaload, 1) := by decide +kernel
theorem dX7_doubles_163 : decode cX7_doubles 163 = .ok (.iconst 3, 1) := by decide +kernel
theorem dX7_doubles_164 : decode cX7_doubles 164 = .ok (.if_icmp .eq 7, 3) := by decide +kernel
theorem dX7_doubles_167 : decode cX7_doubles 167 = .ok (.iconst 1, 1) := by decide +kernel
theorem dX7_doubles_168 : decode cX7_doubles 168 = .ok (.goto 4, 3) := by decide +kernel
theorem dX7_doubles_171 : decode cX7_doubles 171 = .ok (.iconst 0, 1) := by decide +kernel
theorem dX7_doubles_172 : decode cX7_doubles 172 = .ok (.istore 8, 2) := by decide +kernel
theorem dX7_doubles_174 : decode cX7_doubles 174 = .ok (.iload 8, 2) := by decide +kernel
theorem dX7_doubles_176 : decode cX7_doubles 176 = .ok (.ifCond .eq 31, 3) := by decide +kernel
theorem dX7_doubles_179 : decode cX7_doubles 179 = .ok (.aload_n 0, 1) := by decide +kernel
theorem dX7_doubles_180 : decode cX7_doubles 180 = .ok (.getfield 22, 3) := by decide +kernel
theorem dX7_doubles_183 : decode cX7_doubles 183 = .ok (.bipush 11, 2) := by decide +kernel
theorem dX7_doubles_185 : decode cX7_doubles 185 = .ok (.iload 7, 2) := by decide +kernel
theorem dX7_doubles_187 : decode cX7_doubles 187 = .ok (.iadd, 1) := by decide +kernel
theorem dX7_doubles_188 : decode cX7_doubles 188 = .ok (.iaload, 1) := by decide +kernel
theorem dX7_doubles_189 : decode cX7_doubles 189 = .ok (.iload 6, 2) := by decide +kernel
theorem dX7_doubles_191 : decode cX7_doubles 191 = .ok (.if_icmp .ge 16, 3) := by decide +kernel
theorem dX7_doubles_194 : decode cX7_doubles 194 = .ok (.aload_n 0, 1) := by decide +kernel
theorem dX7_doubles_195 : decode cX7_doubles 195 = .ok (.getfield 22, 3) := by decide +kernel
theorem dX7_doubles_198 : decode cX7_doubles 198 = .ok (.bipush 11, 2) := by decide +kernel
theorem dX7_doubles_200 : decode cX7_doubles 200 = .ok (.iload 7, 2) := by decide +kernel
theorem dX7_doubles_202 : decode cX7_doubles 202 = .ok (.iadd, 1) := by decide +kernel
theorem dX7_doubles_203 : decode cX7_doubles 203 = .ok (.iaload, 1) := by decide +kernel
theorem dX7_doubles_204 : decode cX7_doubles 204 = .ok (.goto 5, 3) := by decide +kernel
theorem dX7_doubles_207 : decode cX7_doubles 207 = .ok (.iload 6, 2) := by decide +kernel
theorem dX7_doubles_209 : decode cX7_doubles 209 = .ok (.istore 6, 2) := by decide +kernel
theorem dX7_doubles_211 : decode cX7_doubles 211 = .ok (.iinc 7 1, 3) := by decide +kernel
theorem dX7_doubles_214 : decode cX7_doubles 214 = .ok (.goto (-81), 3) := by decide +kernel
theorem dX7_doubles_217 : decode cX7_doubles 217 = .ok (.iload 5, 2) := by decide +kernel
theorem dX7_doubles_219 : decode cX7_doubles 219 = .ok (.ifCond .ne 5, 3) := by decide +kernel
theorem dX7_doubles_222 : decode cX7_doubles 222 = .ok (.iconst 0, 1) := by decide +kernel
theorem dX7_doubles_223 : decode cX7_doubles 223 = .ok (.ireturn, 1) := by decide +kernel
theorem dX7_doubles_224 : decode cX7_doubles 224 = .ok (.iload 6, 2) := by decide +kernel
theorem dX7_doubles_226 : decode cX7_doubles 226 = .ok (.ldc 229, 2) := by decide +kernel
theorem dX7_doubles_228 : decode cX7_doubles 228 = .ok (.if_icmp .ne 6, 3) := by decide +kernel
theorem dX7_doubles_231 : decode cX7_doubles 231 = .ok (.ldc 201, 2) := by decide +kernel
theorem dX7_doubles_233 : decode cX7_doubles 233 = .ok (.ireturn, 1) := by decide +kernel
theorem dX7_doubles_234 : decode cX7_doubles 234 = .ok (.iload_n 3, 1) := by decide +kernel
theorem dX7_doubles_235 : decode cX7_doubles 235 = .ok (.ifCond .ne 11, 3) := by decide +kernel
theorem dX7_doubles_238 : decode cX7_doubles 238 = .ok (.iload 5, 2) := by decide +kernel
theorem dX7_doubles_240 : decode cX7_doubles 240 = .ok (.invokestatic 226, 3) := by decide +kernel
theorem dX7_doubles_243 : decode cX7_doubles 243 = .ok (.goto 21, 3) := by decide +kernel
theorem dX7_doubles_246 : decode cX7_doubles 246 = .ok (.iload_n 3, 1) := by decide +kernel
theorem dX7_doubles_247 : decode cX7_doubles 247 = .ok (.iconst 1, 1) := by decide +kernel
theorem dX7_doubles_248 : decode cX7_doubles 248 = .ok (.if_icmp .ne 14, 3) := by decide +kernel
theorem dX7_doubles_251 : decode cX7_doubles 251 = .ok (.iload 6, 2) := by decide +kernel
theorem dX7_doubles_253 : decode cX7_doubles 253 = .ok (.iload 5, 2) := by decide +kernel
theorem dX7_doubles_255 : decode cX7_doubles 255 = .ok (.invokestatic 226, 3) := by decide +kernel
theorem dX7_doubles_258 : decode cX7_doubles 258 = .ok (.imul, 1) := by decide +kernel
theorem dX7_doubles_259 : decode cX7_doubles 259 = .ok (.goto 5, 3) := by decide +kernel
theorem dX7_doubles_262 : decode cX7_doubles 262 = .ok (.iload 5, 2) := by decide +kernel
theorem dX7_doubles_264 : decode cX7_doubles 264 = .ok (.ireturn, 1) := by decide +kernel
theorem dX7_law_0 : decode cX7_law 0 = .ok (.aload_n 0, 1) := by decide +kernel
theorem dX7_law_1 : decode cX7_law 1 = .ok (.iload_n 1, 1) := by decide +kernel
theorem dX7_law_2 : decode cX7_law 2 = .ok (.invokevirtual 196, 3) := by decide +kernel
theorem dX7_law_5 : decode cX7_law 5 = .ok (.ifCond .eq 11, 3) := by decide +kernel
theorem dX7_law_8 : decode cX7_law 8 = .ok (.aload_n 0, 1) := by decide +kernel
theorem dX7_law_9 : decode cX7_law 9 = .ok (.iload_n 2, 1) := by decide +kernel
theorem dX7_law_10 : decode cX7_law 10 = .ok (.invokevirtual 215, 3) := by decide +kernel
theorem dX7_law_13 : decode cX7_law 13 = .ok (.ifCond .ne 6, 3) := by decide +kernel
theorem dX7_law_16 : decode cX7_law 16 = .ok (.ldc 61, 2) := by decide +kernel
theorem dX7_law_18 : decode cX7_law 18 = .ok (.ireturn, 1) := by decide +kernel
theorem dX7_law_19 : decode cX7_law 19 = .ok (.iconst 1, 1) := by decide +kernel
theorem dX7_law_20 : decode cX7_law 20 = .ok (.istore_n 3, 1) := by decide +kernel
theorem dX7_law_21 : decode cX7_law 21 = .ok (.iload_n 3, 1) := by decide +kernel
theorem dX7_law_22 : decode cX7_law 22 = .ok (.bipush 100, 2) := by decide +kernel
theorem dX7_law_24 : decode cX7_law 24 = .ok (.if_icmp .ge 44, 3) := by decide +kernel
theorem dX7_law_27 : decode cX7_law 27 = .ok (.aload_n 0, 1) := by decide +kernel
theorem dX7_law_28 : decode cX7_law 28 = .ok (.invokevirtual 205, 3) := by decide +kernel
theorem dX7_law_31 : decode cX7_law 31 = .ok (.aload_n 0, 1) := by decide +kernel
theorem dX7_law_32 : decode cX7_law 32 = .ok (.getfield 41, 3) := by decide +kernel
theorem dX7_law_35 : decode cX7_law 35 = .ok (.iconst 0, 1) := by decide +kernel
theorem dX7_law_36 : decode cX7_law 36 = .ok (.iload_n 3, 1) := by decide +kernel
theorem dX7_law_37 : decode cX7_law 37 = .ok (.iastore, 1) := by decide +kernel
theorem dX7_law_38 : decode cX7_law 38 = .ok (.aload_n 0, 1) := by decide +kernel
theorem dX7_law_39 : decode cX7_law 39 = .ok (.getfield 41, 3) := by decide +kernel
theorem dX7_law_42 : decode cX7_law 42 = .ok (.iload_n 2, 1) := by decide +kernel
theorem dX7_law_43 : decode cX7_law 43 = .ok (.invokestatic 208, 3) := by decide +kernel
theorem dX7_law_46 : decode cX7_law 46 = .ok (.aload_n 0, 1) := by decide +kernel
theorem dX7_law_47 : decode cX7_law 47 = .ok (.getfield 41, 3) := by decide +kernel
theorem dX7_law_50 : decode cX7_law 50 = .ok (.invokestatic 189, 3) := by decide +kernel
theorem dX7_law_53 : decode cX7_law 53 = .ok (.iload_n 1, 1) := by decide +kernel
theorem dX7_law_54 : decode cX7_law 54 = .ok (.ishr, 1) := by decide +kernel
theorem dX7_law_55 : decode cX7_law 55 = .ok (.iconst 1, 1) := by decide +kernel
theorem dX7_law_56 : decode cX7_law 56 = .ok (.iand, 1) := by decide +kernel
theorem dX7_law_57 : decode cX7_law 57 = .ok (.ifCond .ne 5, 3) := by decide +kernel
theorem dX7_law_60 : decode cX7_law 60 = .ok (.iload_n 3, 1) := by decide +kernel
theorem dX7_law_61 : decode cX7_law 61 = .ok (.ireturn, 1) := by decide +kernel
theorem dX7_law_62 : decode cX7_law 62 = .ok (.iinc 3 1, 3) := by decide +kernel
theorem dX7_law_65 : decode cX7_law 65 = .ok (.goto (-44), 3) := by decide +kernel
theorem dX7_law_68 : decode cX7_law 68 = .ok (.ldc 201, 2) := by decide +kernel
theorem dX7_law_70 : decode cX7_law 70 = .ok (.ireturn, 1) := by decide +kernel
theorem dX7_handAt_0 : decode cX7_handAt 0 = .ok (.iload_n 1, 1) := by decide +kernel
theorem dX7_handAt_1 : decode cX7_handAt 1 = .ok (.iconst 2, 1) := by decide +kernel
theorem dX7_handAt_2 : decode cX7_handAt 2 = .ok (.aload_n 0, 1) := by decide +kernel
theorem dX7_handAt_3 : decode cX7_handAt 3 = .ok (.getfield 22, 3) := by decide +kernel
theorem dX7_handAt_6 : decode cX7_handAt 6 = .ok (.iconst 2, 1) := by decide +kernel
theorem dX7_handAt_7 : decode cX7_handAt 7 = .ok (.iaload, 1) := by decide +kernel
theorem dX7_handAt_8 : decode cX7_handAt 8 = .ok (.iconst 1, 1) := by decide +kernel
theorem dX7_handAt_9 : decode cX7_handAt 9 = .ok (.isub, 1) := by decide +kernel
theorem dX7_handAt_10 : decode cX7_handAt 10 = .ok (.iload_n 2, 1) := by decide +kernel
theorem dX7_handAt_11 : decode cX7_handAt 11 = .ok (.isub, 1) := by decide +kernel
theorem dX7_handAt_12 : decode cX7_handAt 12 = .ok (.imul, 1) := by decide +kernel
theorem dX7_handAt_13 : decode cX7_handAt 13 = .ok (.ishr, 1) := by decide +kernel
theorem dX7_handAt_14 : decode cX7_handAt 14 = .ok (.iconst 3, 1) := by decide +kernel
theorem dX7_handAt_15 : decode cX7_handAt 15 = .ok (.iand, 1) := by decide +kernel
theorem dX7_handAt_16 : decode cX7_handAt 16 = .ok (.ireturn, 1) := by decide +kernel
theorem dX7_isOrder_0 : decode cX7_isOrder 0 = .ok (.iconst 0, 1) := by decide +kernel
theorem dX7_isOrder_1 : decode cX7_isOrder 1 = .ok (.istore_n 2, 1) := by decide +kernel
theorem dX7_isOrder_2 : decode cX7_isOrder 2 = .ok (.iconst 0, 1) := by decide +kernel
theorem dX7_isOrder_3 : decode cX7_isOrder 3 = .ok (.istore_n 3, 1) := by decide +kernel
theorem dX7_isOrder_4 : decode cX7_isOrder 4 = .ok (.iload_n 3, 1) := by decide +kernel
theorem dX7_isOrder_5 : decode cX7_isOrder 5 = .ok (.aload_n 0, 1) := by decide +kernel
theorem dX7_isOrder_6 : decode cX7_isOrder 6 = .ok (.getfield 22, 3) := by decide +kernel
theorem dX7_isOrder_9 : decode cX7_isOrder 9 = .ok (.iconst 2, 1) := by decide +kernel
theorem dX7_isOrder_10 : decode cX7_isOrder 10 = .ok (.iaload, 1) := by decide +kernel
theorem dX7_isOrder_11 : decode cX7_isOrder 11 = .ok (.if_icmp .ge 20, 3) := by decide +kernel
theorem dX7_isOrder_14 : decode cX7_isOrder 14 = .ok (.iload_n 2, 1) := by decide +kernel
theorem dX7_isOrder_15 : decode cX7_isOrder 15 = .ok (.iconst 1, 1) := by decide +kernel
theorem dX7_isOrder_16 : decode cX7_isOrder 16 = .ok (.aload_n 0, 1) := by decide +kernel
theorem dX7_isOrder_17 : decode cX7_isOrder 17 = .ok (.iload_n 1, 1) := by decide +kernel
theorem dX7_isOrder_18 : decode cX7_isOrder 18 = .ok (.iload_n 3, 1) := by decide +kernel
theorem dX7_isOrder_19 : decode cX7_isOrder 19 = .ok (.invokevirtual 230, 3) := by decide +kernel
theorem dX7_isOrder_22 : decode cX7_isOrder 22 = .ok (.ishl, 1) := by decide +kernel
theorem dX7_isOrder_23 : decode cX7_isOrder 23 = .ok (.ior, 1) := by decide +kernel
theorem dX7_isOrder_24 : decode cX7_isOrder 24 = .ok (.istore_n 2, 1) := by decide +kernel
theorem dX7_isOrder_25 : decode cX7_isOrder 25 = .ok (.iinc 3 1, 3) := by decide +kernel
theorem dX7_isOrder_28 : decode cX7_isOrder 28 = .ok (.goto (-24), 3) := by decide +kernel
theorem dX7_isOrder_31 : decode cX7_isOrder 31 = .ok (.iload_n 2, 1) := by decide +kernel
theorem dX7_isOrder_32 : decode cX7_isOrder 32 = .ok (.iconst 1, 1) := by decide +kernel
theorem dX7_isOrder_33 : decode cX7_isOrder 33 = .ok (.aload_n 0, 1) := by decide +kernel
theorem dX7_isOrder_34 : decode cX7_isOrder 34 = .ok (.getfield 22, 3) := by decide +kernel
theorem dX7_isOrder_37 : decode cX7_isOrder 37 = .ok (.iconst 2, 1) := by decide +kernel
theorem dX7_isOrder_38 : decode cX7_isOrder 38 = .ok (.iaload, 1) := by decide +kernel
theorem dX7_isOrder_39 : decode cX7_isOrder 39 = .ok (.ishl, 1) := by decide +kernel
theorem dX7_isOrder_40 : decode cX7_isOrder 40 = .ok (.iconst 1, 1) := by decide +kernel
theorem dX7_isOrder_41 : decode cX7_isOrder 41 = .ok (.isub, 1) := by decide +kernel
theorem dX7_isOrder_42 : decode cX7_isOrder 42 = .ok (.if_icmp .ne 7, 3) := by decide +kernel
theorem dX7_isOrder_45 : decode cX7_isOrder 45 = .ok (.iconst 1, 1) := by decide +kernel
theorem dX7_isOrder_46 : decode cX7_isOrder 46 = .ok (.goto 4, 3) := by decide +kernel
theorem dX7_isOrder_49 : decode cX7_isOrder 49 = .ok (.iconst 0, 1) := by decide +kernel
theorem dX7_isOrder_50 : decode cX7_isOrder 50 = .ok (.ireturn, 1) := by decide +kernel
theorem dX7_order_0 : decode cX7_order 0 = .ok (.aload_n 0, 1) := by decide +kernel
theorem dX7_order_1 : decode cX7_order 1 = .ok (.getfield 143, 3) := by decide +kernel
theorem dX7_order_4 : decode cX7_order 4 = .ok (.ifCond .ne 6, 3) := by decide +kernel
theorem dX7_order_7 : decode cX7_order 7 = .ok (.ldc 169, 2) := by decide +kernel
theorem dX7_order_9 : decode cX7_order 9 = .ok (.ireturn, 1) := by decide +kernel
theorem dX7_order_10 : decode cX7_order 10 = .ok (.iload_n 1, 1) := by decide +kernel
theorem dX7_order_11 : decode cX7_order 11 = .ok (.i2l, 1) := by decide +kernel
theorem dX7_order_12 : decode cX7_order 12 = .ok (.ldc2_w 233, 3) := by decide +kernel
theorem dX7_order_15 : decode cX7_order 15 = .ok (.ldc2_w 235, 3) := by decide +kernel
theorem dX7_order_18 : decode cX7_order 18 = .ok (.invokestatic 51, 3) := by decide +kernel
theorem dX7_order_21 : decode cX7_order 21 = .ok (.ifCond .ne 6, 3) := by decide +kernel
theorem dX7_order_24 : decode cX7_order 24 = .ok (.ldc 61, 2) := by decide +kernel
theorem dX7_order_26 : decode cX7_order 26 = .ok (.ireturn, 1) := by decide +kernel
theorem dX7_order_27 : decode cX7_order 27 = .ok (.iconst (-1), 1) := by decide +kernel
theorem dX7_order_28 : decode cX7_order 28 = .ok (.istore_n 2, 1) := by decide +kernel
theorem dX7_order_29 : decode cX7_order 29 = .ok (.iconst 0, 1) := by decide +kernel
theorem dX7_order_30 : decode cX7_order 30 = .ok (.istore_n 3, 1) := by decide +kernel
theorem dX7_order_31 : decode cX7_order 31 = .ok (.iconst 0, 1) := by decide +kernel
theorem dX7_order_32 : decode cX7_order 32 = .ok (.istore 4, 2) := by decide +kernel
theorem dX7_order_34 : decode cX7_order 34 = .ok (.iload 4, 2) := by decide +kernel
theorem dX7_order_36 : decode cX7_order 36 = .ok (.iconst 1, 1) := by decide +kernel
theorem dX7_order_37 : decode cX7_order 37 = .ok (.iconst 2, 1) := by decide +kernel
theorem dX7_order_38 : decode cX7_order 38 = .ok (.aload_n 0, 1) := by decide +kernel
theorem dX7_order_39 : decode cX7_order 39 = .ok (.getfield 22, 3) := by decide +kernel
theorem dX7_order_42 : decode cX7_order 42 = .ok (.iconst 2, 1) := by decide +kernel
theorem dX7_order_43 : decode cX7_order 43 = .ok (.iaload, 1) := by decide +kernel
theorem dX7_order_44 : decode cX7_order 44 = .ok (.imul, 1) := by decide +kernel
theorem dX7_order_45 : decode cX7_order 45 = .ok (.ishl, 1) := by decide +kernel
theorem dX7_order_46 : decode cX7_order 46 = .ok (.if_icmp .ge 96, 3) := by decide +kernel
theorem dX7_order_49 : decode cX7_order 49 = .ok (.aload_n 0, 1) := by decide +kernel
theorem dX7_order_50 : decode cX7_order 50 = .ok (.iload 4, 2) := by decide +kernel
theorem dX7_order_52 : decode cX7_order 52 = .ok (.invokevirtual 237, 3) := by decide +kernel
theorem dX7_order_55 : decode cX7_order 55 = .ok (.ifCond .eq 81, 3) := by decide +kernel
theorem dX7_order_58 : decode cX7_order 58 = .ok (.iconst 0, 1) := by decide +kernel
theorem dX7_order_59 : decode cX7_order 59 = .ok (.istore 5, 2) := by decide +kernel
theorem dX7_order_61 : decode cX7_order 61 = .ok (.iconst 0, 1) := by decide +kernel
theorem dX7_order_62 : decode cX7_order 62 = .ok (.istore 6, 2) := by decide +kernel
theorem dX7_order_64 : decode cX7_order 64 = .ok (.iconst 0, 1) := by decide +kernel
theorem dX7_order_65 : decode cX7_order 65 = .ok (.istore 7, 2) := by decide +kernel
theorem dX7_order_67 : decode cX7_order 67 = .ok (.iload 7, 2) := by decide +kernel
theorem dX7_order_69 : decode cX7_order 69 = .ok (.aload_n 0, 1) := by decide +kernel
theorem dX7_order_70 : decode cX7_order 70 = .ok (.getfield 22, 3) := by decide +kernel
theorem dX7_order_73 : decode cX7_order 73 = .ok (.iconst 2, 1) := by decide +kernel
theorem dX7_order_74 : decode cX7_order 74 = .ok (.iaload, 1) := by decide +kernel
theorem dX7_order_75 : decode cX7_order 75 = .ok (.if_icmp .ge 35, 3) := by decide +kernel
theorem dX7_order_78 : decode cX7_order 78 = .ok (.iload 5, 2) := by decide +kernel
theorem dX7_order_80 : decode cX7_order 80 = .ok (.iconst 1, 1) := by decide +kernel
theorem dX7_order_81 : decode cX7_order 81 = .ok (.aload_n 0, 1) := by decide +kernel
theorem dX7_order_82 : decode cX7_order 82 = .ok (.iload 4, 2) := by decide +kernel
theorem dX7_order_84 : decode cX7_order 84 = .ok (.iload 7, 2) := by decide +kernel
theorem dX7_order_86 : decode cX7_order 86 = .ok (.invokevirtual 230, 3) := by decide +kernel
theorem dX7_order_89 : decode cX7_order 89 = .ok (.ishl, 1) := by decide +kernel
theorem dX7_order_90 : decode cX7_order 90 = .ok (.ior, 1) := by decide +kernel
theorem dX7_order_91 : decode cX7_order 91 = .ok (.istore 5, 2) := by decide +kernel
theorem dX7_order_93 : decode cX7_order 93 = .ok (.iload 6, 2) := by decide +kernel
theorem dX7_order_95 : decode cX7_order 95 = .ok (.aload_n 0, 1) := by decide +kernel
theorem dX7_order_96 : decode cX7_order 96 = .ok (.iload 5, 2) := by decide +kernel
theorem dX7_order_98 : decode cX7_order 98 = .ok (.invokevirtual 218, 3) := by decide +kernel
theorem dX7_order_101 : decode cX7_order 101 = .ok (.iadd, 1) := by decide +kernel
theorem dX7_order_102 : decode cX7_order 102 = .ok (.istore 6, 2) := by decide +kernel
theorem dX7_order_104 : decode cX7_order 104 = .ok (.iinc 7 1, 3) := by decide +kernel
theorem dX7_order_107 : decode cX7_order 107 = .ok (.goto (-40), 3) := by decide +kernel
theorem dX7_order_110 : decode cX7_order 110 = .ok (.iload 6, 2) := by decide +kernel
theorem dX7_order_112 : decode cX7_order 112 = .ok (.iload_n 2, 1) := by decide +kernel
theorem dX7_order_113 : decode cX7_order 113 = .ok (.if_icmp .le 8, 3) := by decide +kernel
theorem dX7_order_116 : decode cX7_order 116 = .ok (.iload 4, 2) := by decide +kernel
theorem dX7_order_118 : decode cX7_order 118 = .ok (.goto 4, 3) := by decide +kernel
theorem dX7_order_121 : decode cX7_order 121 = .ok (.iload_n 3, 1) := by decide +kernel
theorem dX7_order_122 : decode cX7_order 122 = .ok (.istore_n 3, 1) := by decide +kernel
theorem dX7_order_123 : decode cX7_order 123 = .ok (.iload 6, 2) := by decide +kernel
theorem dX7_order_125 : decode cX7_order 125 = .ok (.iload_n 2, 1) := by decide +kernel
theorem dX7_order_126 : decode cX7_order 126 = .ok (.if_icmp .le 8, 3) := by decide +kernel
theorem dX7_order_129 : decode cX7_order 129 = .ok (.iload 6, 2) := by decide +kernel
theorem dX7_order_131 : decode cX7_order 131 = .ok (.goto 4, 3) := by decide +kernel
theorem dX7_order_134 : decode cX7_order 134 = .ok (.iload_n 2, 1) := by decide +kernel
theorem dX7_order_135 : decode cX7_order 135 = .ok (.istore_n 2, 1) := by decide +kernel
theorem dX7_order_136 : decode cX7_order 136 = .ok (.iinc 4 1, 3) := by decide +kernel
theorem dX7_order_139 : decode cX7_order 139 = .ok (.goto (-105), 3) := by decide +kernel
theorem dX7_order_142 : decode cX7_order 142 = .ok (.iload_n 1, 1) := by decide +kernel
theorem dX7_order_143 : decode cX7_order 143 = .ok (.ifCond .ge 7, 3) := by decide +kernel
theorem dX7_order_146 : decode cX7_order 146 = .ok (.iload_n 2, 1) := by decide +kernel
theorem dX7_order_147 : decode cX7_order 147 = .ok (.goto 24, 3) := by decide +kernel
theorem dX7_order_150 : decode cX7_order 150 = .ok (.iload_n 1, 1) := by decide +kernel
theorem dX7_order_151 : decode cX7_order 151 = .ok (.aload_n 0, 1) := by decide +kernel
theorem dX7_order_152 : decode cX7_order 152 = .ok (.getfield 22, 3) := by decide +kernel
theorem dX7_order_155 : decode cX7_order 155 = .ok (.iconst 2, 1) := by decide +kernel
theorem dX7_order_156 : decode cX7_order 156 = .ok (.iaload, 1) := by decide +kernel
theorem dX7_order_157 : decode cX7_order 157 = .ok (.if_icmp .ge 12, 3) := by decide +kernel
theorem dX7_order_160 : decode cX7_order 160 = .ok (.aload_n 0, 1) := by decide +kernel
theorem dX7_order_161 : decode cX7_order 161 = .ok (.iload_n 3, 1) := by decide +kernel
theorem dX7_order_162 : decode cX7_order 162 = .ok (.iload_n 1, 1) := by decide +kernel
theorem dX7_order_163 : decode cX7_order 163 = .ok (.invokevirtual 230, 3) := by decide +kernel
theorem dX7_order_166 : decode cX7_order 166 = .ok (.goto 5, 3) := by decide +kernel
theorem dX7_order_169 : decode cX7_order 169 = .ok (.ldc 201, 2) := by decide +kernel
theorem dX7_order_171 : decode cX7_order 171 = .ok (.ireturn, 1) := by decide +kernel
theorem dX7_blanks_0 : decode cX7_blanks 0 = .ok (.aload_n 0, 1) := by decide +kernel
theorem dX7_blanks_1 : decode cX7_blanks 1 = .ok (.getfield 143, 3) := by decide +kernel
theorem dX7_blanks_4 : decode cX7_blanks 4 = .ok (.ifCond .ne 6, 3) := by decide +kernel
theorem dX7_blanks_7 : decode cX7_blanks 7 = .ok (.ldc 169, 2) := by decide +kernel
theorem dX7_blanks_9 : decode cX7_blanks 9 = .ok (.ireturn, 1) := by decide +kernel
theorem dX7_blanks_10 : decode cX7_blanks 10 = .ok (.iload_n 1, 1) := by decide +kernel
theorem dX7_blanks_11 : decode cX7_blanks 11 = .ok (.i2l, 1) := by decide +kernel
theorem dX7_blanks_12 : decode cX7_blanks 12 = .ok (.lconst 1, 1) := by decide +kernel
theorem dX7_blanks_13 : decode cX7_blanks 13 = .ok (.ldc2_w 240, 3) := by decide +kernel
theorem dX7_blanks_16 : decode cX7_blanks 16 = .ok (.invokestatic 51, 3) := by decide +kernel
theorem dX7_blanks_19 : decode cX7_blanks 19 = .ok (.ifCond .eq 10, 3) := by decide +kernel
theorem dX7_blanks_22 : decode cX7_blanks 22 = .ok (.iload_n 2, 1) := by decide +kernel
theorem dX7_blanks_23 : decode cX7_blanks 23 = .ok (.invokestatic 202, 3) := by decide +kernel
theorem dX7_blanks_26 : decode cX7_blanks 26 = .ok (.ifCond .ne 6, 3) := by decide +kernel
theorem dX7_blanks_29 : decode cX7_blanks 29 = .ok (.ldc 61, 2) := by decide +kernel
theorem dX7_blanks_31 : decode cX7_blanks 31 = .ok (.ireturn, 1) := by decide +kernel
theorem dX7_blanks_32 : decode cX7_blanks 32 = .ok (.iconst 0, 1) := by decide +kernel
theorem dX7_blanks_33 : decode cX7_blanks 33 = .ok (.istore_n 3, 1) := by decide +kernel
theorem dX7_blanks_34 : decode cX7_blanks 34 = .ok (.ldc 201, 2) := by decide +kernel
theorem dX7_blanks_36 : decode cX7_blanks 36 = .ok (.istore 4, 2) := by decide +kernel
theorem dX7_blanks_38 : decode cX7_blanks 38 = .ok (.iconst 1, 1) := by decide +kernel
theorem dX7_blanks_39 : decode cX7_blanks 39 = .ok (.istore 5, 2) := by decide +kernel
theorem dX7_blanks_41 : decode cX7_blanks 41 = .ok (.iload 5, 2) := by decide +kernel
theorem dX7_blanks_43 : decode cX7_blanks 43 = .ok (.iconst 1, 1) := by decide +kernel
theorem dX7_blanks_44 : decode cX7_blanks 44 = .ok (.aload_n 0, 1) := by decide +kernel
theorem dX7_blanks_45 : decode cX7_blanks 45 = .ok (.getfield 22, 3) := by decide +kernel
theorem dX7_blanks_48 : decode cX7_blanks 48 = .ok (.iconst 3, 1) := by decide +kernel
theorem dX7_blanks_49 : decode cX7_blanks 49 = .ok (.iaload, 1) := by decide +kernel
theorem dX7_blanks_50 : decode cX7_blanks 50 = .ok (.ishl, 1) := by decide +kernel
theorem dX7_blanks_51 : decode cX7_blanks 51 = .ok (.if_icmp .ge 136, 3) := by decide +kernel
theorem dX7_blanks_54 : decode cX7_blanks 54 = .ok (.iconst 0, 1) := by decide +kernel
theorem dX7_blanks_55 : decode cX7_blanks 55 = .ok (.istore 6, 2) := by decide +kernel
theorem dX7_blanks_57 : decode cX7_blanks 57 = .ok (.iconst 1, 1) := by decide +kernel
theorem dX7_blanks_58 : decode cX7_blanks 58 = .ok (.istore 7, 2) := by decide +kernel
theorem dX7_blanks_60 : decode cX7_blanks 60 = .ok (.iconst 0, 1) := by decide +kernel
theorem dX7_blanks_61 : decode cX7_blanks 61 = .ok (.istore 8, 2) := by decide +kernel
theorem dX7_blanks_63 : decode cX7_blanks 63 = .ok (.iload 8, 2) := by decide +kernel
theorem dX7_blanks_65 : decode cX7_blanks 65 = .ok (.aload_n 0, 1) := by decide +kernel
theorem dX7_blanks_66 : decode cX7_blanks 66 = .ok (.getfield 22, 3) := by decide +kernel
theorem dX7_blanks_69 : decode cX7_blanks 69 = .ok (.iconst 3, 1) := by decide +kernel
theorem dX7_blanks_70 : decode cX7_blanks 70 = .ok (.iaload, 1) := by decide +kernel
theorem dX7_blanks_71 : decode cX7_blanks 71 = .ok (.if_icmp .ge 80, 3) := by decide +kernel
theorem dX7_blanks_74 : decode cX7_blanks 74 = .ok (.iload 5, 2) := by decide +kernel
theorem dX7_blanks_76 : decode cX7_blanks 76 = .ok (.iload 8, 2) := by decide +kernel
theorem dX7_blanks_78 : decode cX7_blanks 78 = .ok (.ishr, 1) := by decide +kernel
theorem dX7_blanks_79 : decode cX7_blanks 79 = .ok (.iconst 1, 1) := by decide +kernel
theorem dX7_blanks_80 : decode cX7_blanks 80 = .ok (.iand, 1) := by decide +kernel
theorem dX7_blanks_81 : decode cX7_blanks 81 = .ok (.iconst 1, 1) := by decide +kernel
theorem dX7_blanks_82 : decode cX7_blanks 82 = .ok (.if_icmp .ne 7, 3) := by decide +kernel
theorem dX7_blanks_85 : decode cX7_blanks 85 = .ok (.iconst 1, 1) := by decide +kernel
theorem dX7_blanks_86 : decode cX7_blanks 86 = .ok (.goto 4, 3) := by decide +kernel
theorem dX7_blanks_89 : decode cX7_blanks 89 = .ok (.iconst 0, 1) := by decide +kernel
theorem dX7_blanks_90 : decode cX7_blanks 90 = .ok (.istore 9, 2) := by decide +kernel
theorem dX7_blanks_92 : decode cX7_blanks 92 = .ok (.iload 6, 2) := by decide +kernel
theorem dX7_blanks_94 : decode cX7_blanks 94 = .ok (.iload 9, 2) := by decide +kernel
theorem dX7_blanks_96 : decode cX7_blanks 96 = .ok (.ifCond .eq 16, 3) := by decide +kernel
theorem dX7_blanks_99 : decode cX7_blanks 99 = .ok (.aload_n 0, 1) := by decide +kernel
theorem dX7_blanks_100 : decode cX7_blanks 100 = .ok (.getfield 22, 3) := by decide +kernel
theorem dX7_blanks_103 : decode cX7_blanks 103 = .ok (.bipush 35, 2) := by decide +kernel
theorem dX7_blanks_105 : decode cX7_blanks 105 = .ok (.iload 8, 2) := by decide +kernel
theorem dX7_blanks_107 : decode cX7_blanks 107 = .ok (.iadd, 1) := by decide +kernel
theorem dX7_blanks_108 : decode cX7_blanks 108 = .ok (.iaload, 1) := by decide +kernel
theorem dX7_blanks_109 : decode cX7_blanks 109 = .ok (.goto 4, 3) := by decide +kernel
theorem dX7_blanks_112 : decode cX7_blanks 112 = .ok (.iconst 0, 1) := by decide +kernel
theorem dX7_blanks_113 : decode cX7_blanks 113 = .ok (.iadd, 1) := by decide +kernel
theorem dX7_blanks_114 : decode cX7_blanks 114 = .ok (.istore 6, 2) := by decide +kernel
theorem dX7_blanks_116 : decode cX7_blanks 116 = .ok (.iload 7, 2) := by decide +kernel
theorem dX7_blanks_118 : decode cX7_blanks 118 = .ok (.ifCond .eq 24, 3) := by decide +kernel
theorem dX7_blanks_121 : decode cX7_blanks 121 = .ok (.iload 9, 2) := by decide +kernel
theorem dX7_blanks_123 : decode cX7_blanks 123 = .ok (.ifCond .eq 15, 3) := by decide +kernel
theorem dX7_blanks_126 : decode cX7_blanks 126 = .ok (.aload_n 0, 1) := by decide +kernel
theorem dX7_blanks_127 : decode cX7_blanks 127 = .ok (.getfield 22, 3) := by decide +kernel
theorem dX7_blanks_130 : decode cX7_blanks 130 = .ok (.iload 8, 2) := by decide +kernel
theorem dX7_blanks_132 : decode cX7_blanks 132 = .ok (.invokestatic 158, 3) := by decide +kernel
theorem dX7_blanks_135 : decode cX7_blanks 135 = .ok (.ifCond .eq 7, 3) := by decide +kernel
theorem dX7_blanks_138 : decode cX7_blanks 138 = .ok (.iconst 1, 1) := by decide +kernel
theorem dX7_blanks_139 : decode cX7_blanks 139 = .ok (.goto 4, 3) := by decide +kernel
theorem dX7_blanks_142 : decode cX7_blanks 142 = .ok (.iconst 0, 1) := by decide +kernel
theorem dX7_blanks_143 : decode cX7_blanks 143 = .ok (.istore 7, 2) := by decide +kernel
theorem dX7_blanks_145 : decode cX7_blanks 145 = .ok (.iinc 8 1, 3) := by decide +kernel
theorem dX7_blanks_148 : decode cX7_blanks 148 = .ok (.goto (-85), 3) := by decide +kernel
theorem dX7_blanks_151 : decode cX7_blanks 151 = .ok (.iload 7, 2) := by decide +kernel
theorem dX7_blanks_153 : decode cX7_blanks 153 = .ok (.ifCond .eq 28, 3) := by decide +kernel
theorem dX7_blanks_156 : decode cX7_blanks 156 = .ok (.iload 6, 2) := by decide +kernel
theorem dX7_blanks_158 : decode cX7_blanks 158 = .ok (.iload_n 1, 1) := by decide +kernel
theorem dX7_blanks_159 : decode cX7_blanks 159 = .ok (.if_icmp .ne 22, 3) := by decide +kernel
theorem dX7_blanks_162 : decode cX7_blanks 162 = .ok (.iinc 3 1, 3) := by decide +kernel
theorem dX7_blanks_165 : decode cX7_blanks 165 = .ok (.iload 4, 2) := by decide +kernel
theorem dX7_blanks_167 : decode cX7_blanks 167 = .ok (.ldc 201, 2) := by decide +kernel
theorem dX7_blanks_169 : decode cX7_blanks 169 = .ok (.if_icmp .ne 8, 3) := by decide +kernel
theorem dX7_blanks_172 : decode cX7_blanks 172 = .ok (.iload 5, 2) := by decide +kernel
theorem dX7_blanks_174 : decode cX7_blanks 174 = .ok (.goto 5, 3) := by decide +kernel
theorem dX7_blanks_177 : decode cX7_blanks 177 = .ok (.iload 4, 2) := by decide +kernel
theorem dX7_blanks_179 : decode cX7_blanks 179 = .ok (.istore 4, 2) := by decide +kernel
theorem dX7_blanks_181 : decode cX7_blanks 181 = .ok (.iinc 5 1, 3) := by decide +kernel
theorem dX7_blanks_184 : decode cX7_blanks 184 = .ok (.goto (-143), 3) := by decide +kernel
theorem dX7_blanks_187 : decode cX7_blanks 187 = .ok (.iload_n 2, 1) := by decide +kernel
theorem dX7_blanks_188 : decode cX7_blanks 188 = .ok (.ifCond .ne 7, 3) := by decide +kernel
theorem dX7_blanks_191 : decode cX7_blanks 191 = .ok (.iload_n 3, 1) := by decide +kernel
theorem dX7_blanks_192 : decode cX7_blanks 192 = .ok (.goto 5, 3) := by decide +kernel
theorem dX7_blanks_195 : decode cX7_blanks 195 = .ok (.iload 4, 2) := by decide +kernel
theorem dX7_blanks_197 : decode cX7_blanks 197 = .ok (.ireturn, 1) := by decide +kernel
theorem dX7_canBe_0 : decode cX7_canBe 0 = .ok (.aload_n 0, 1) := by decide +kernel
theorem dX7_canBe_1 : decode cX7_canBe 1 = .ok (.getfield 22, 3) := by decide +kernel
theorem dX7_canBe_4 : decode cX7_canBe 4 = .ok (.bipush 7, 2) := by decide +kernel
theorem dX7_canBe_6 : decode cX7_canBe 6 = .ok (.aload_n 0, 1) := by decide +kernel
theorem dX7_canBe_7 : decode cX7_canBe 7 = .ok (.getfield 22, 3) := by decide +kernel
theorem dX7_canBe_10 : decode cX7_canBe 10 = .ok (.bipush 25, 2) := by decide +kernel
theorem dX7_canBe_12 : decode cX7_canBe 12 = .ok (.iload_n 1, 1) := by decide +kernel
theorem dX7_canBe_13 : decode cX7_canBe 13 = .ok (.iadd, 1) := by decide +kernel
theorem dX7_canBe_14 : decode cX7_canBe 14 = .ok (.iaload, 1) := by decide +kernel
theorem dX7_canBe_15 : decode cX7_canBe 15 = .ok (.iadd, 1) := by decide +kernel
theorem dX7_canBe_16 : decode cX7_canBe 16 = .ok (.iaload, 1) := by decide +kernel
theorem dX7_canBe_17 : decode cX7_canBe 17 = .ok (.iconst 3, 1) := by decide +kernel
theorem dX7_canBe_18 : decode cX7_canBe 18 = .ok (.if_icmp .ne 7, 3) := by decide +kernel
theorem dX7_canBe_21 : decode cX7_canBe 21 = .ok (.iconst 1, 1) := by decide +kernel
theorem dX7_canBe_22 : decode cX7_canBe 22 = .ok (.goto 4, 3) := by decide +kernel
theorem dX7_canBe_25 : decode cX7_canBe 25 = .ok (.iconst 0, 1) := by decide +kernel
theorem dX7_canBe_26 : decode cX7_canBe 26 = .ok (.istore_n 3, 1) := by decide +kernel
theorem dX7_canBe_27 : decode cX7_canBe 27 = .ok (.iload_n 2, 1) := by decide +kernel
theorem dX7_canBe_28 : decode cX7_canBe 28 = .ok (.iconst (-1), 1) := by decide +kernel
theorem dX7_canBe_29 : decode cX7_canBe 29 = .ok (.if_icmp .ne 5, 3) := by decide +kernel
theorem dX7_canBe_32 : decode cX7_canBe 32 = .ok (.iconst 1, 1) := by decide +kernel
theorem dX7_canBe_33 : decode cX7_canBe 33 = .ok (.ireturn, 1) := by decide +kernel
theorem dX7_canBe_34 : decode cX7_canBe 34 = .ok (.iload_n 2, 1) := by decide +kernel
theorem dX7_canBe_35 : decode cX7_canBe 35 = .ok (.aload_n 0, 1) := by decide +kernel
theorem dX7_canBe_36 : decode cX7_canBe 36 = .ok (.getfield 22, 3) := by decide +kernel
theorem dX7_canBe_39 : decode cX7_canBe 39 = .ok (.bipush 45, 2) := by decide +kernel
theorem dX7_canBe_41 : decode cX7_canBe 41 = .ok (.iload_n 1, 1) := by decide +kernel
theorem dX7_canBe_42 : decode cX7_canBe 42 = .ok (.iadd, 1) := by decide +kernel
theorem dX7_canBe_43 : decode cX7_canBe 43 = .ok (.iaload, 1) := by decide +kernel
theorem dX7_canBe_44 : decode cX7_canBe 44 = .ok (.isub, 1) := by decide +kernel
theorem dX7_canBe_45 : decode cX7_canBe 45 = .ok (.istore 4, 2) := by decide +kernel
theorem dX7_canBe_47 : decode cX7_canBe 47 = .ok (.iload_n 2, 1) := by decide +kernel
theorem dX7_canBe_48 : decode cX7_canBe 48 = .ok (.i2l, 1) := by decide +kernel
theorem dX7_canBe_49 : decode cX7_canBe 49 = .ok (.aload_n 0, 1) := by decide +kernel
theorem dX7_canBe_50 : decode cX7_canBe 50 = .ok (.getfield 22, 3) := by decide +kernel
theorem dX7_canBe_53 : decode cX7_canBe 53 = .ok (.bipush 45, 2) := by decide +kernel
theorem dX7_canBe_55 : decode cX7_canBe 55 = .ok (.iload_n 1, 1) := by decide +kernel
theorem dX7_canBe_56 : decode cX7_canBe 56 = .ok (.iadd, 1) := by decide +kernel
theorem dX7_canBe_57 : decode cX7_canBe 57 = .ok (.iaload, 1) := by decide +kernel
theorem dX7_canBe_58 : decode cX7_canBe 58 = .ok (.i2l, 1) := by decide +kernel
theorem dX7_canBe_59 : decode cX7_canBe 59 = .ok (.aload_n 0, 1) := by decide +kernel
theorem dX7_canBe_60 : decode cX7_canBe 60 = .ok (.getfield 22, 3) := by decide +kernel
theorem dX7_canBe_63 : decode cX7_canBe 63 = .ok (.iconst 5, 1) := by decide +kernel
theorem dX7_canBe_64 : decode cX7_canBe 64 = .ok (.iaload, 1) := by decide +kernel
theorem dX7_canBe_65 : decode cX7_canBe 65 = .ok (.i2l, 1) := by decide +kernel
theorem dX7_canBe_66 : decode cX7_canBe 66 = .ok (.invokestatic 51, 3) := by decide +kernel
theorem dX7_canBe_69 : decode cX7_canBe 69 = .ok (.ifCond .ne 5, 3) := by decide +kernel
theorem dX7_canBe_72 : decode cX7_canBe 72 = .ok (.iconst 0, 1) := by decide +kernel
theorem dX7_canBe_73 : decode cX7_canBe 73 = .ok (.ireturn, 1) := by decide +kernel
theorem dX7_canBe_74 : decode cX7_canBe 74 = .ok (.iload_n 3, 1) := by decide +kernel
theorem dX7_canBe_75 : decode cX7_canBe 75 = .ok (.ifCond .eq 33, 3) := by decide +kernel
theorem dX7_canBe_78 : decode cX7_canBe 78 = .ok (.iload 4, 2) := by decide +kernel
theorem dX7_canBe_80 : decode cX7_canBe 80 = .ok (.aload_n 0, 1) := by decide +kernel
theorem dX7_canBe_81 : decode cX7_canBe 81 = .ok (.getfield 22, 3) := by decide +kernel
theorem dX7_canBe_84 : decode cX7_canBe 84 = .ok (.iconst 1, 1) := by decide +kernel
theorem dX7_canBe_85 : decode cX7_canBe 85 = .ok (.iaload, 1) := by decide +kernel
theorem dX7_canBe_86 : decode cX7_canBe 86 = .ok (.if_icmp .lt 22, 3) := by decide +kernel
theorem dX7_canBe_89 : decode cX7_canBe 89 = .ok (.iload 4, 2) := by decide +kernel
theorem dX7_canBe_91 : decode cX7_canBe 91 = .ok (.aload_n 0, 1) := by decide +kernel
theorem dX7_canBe_92 : decode cX7_canBe 92 = .ok (.getfield 22, 3) := by decide +kernel
theorem dX7_canBe_95 : decode cX7_canBe 95 = .ok (.iconst 1, 1) := by decide +kernel
theorem dX7_canBe_96 : decode cX7_canBe 96 = .ok (.iaload, 1) := by decide +kernel
theorem dX7_canBe_97 : decode cX7_canBe 97 = .ok (.if_icmp .ne 7, 3) := by decide +kernel
theorem dX7_canBe_100 : decode cX7_canBe 100 = .ok (.iconst 1, 1) := by decide +kernel
theorem dX7_canBe_101 : decode cX7_canBe 101 = .ok (.goto 33, 3) := by decide +kernel
theorem dX7_canBe_104 : decode cX7_canBe 104 = .ok (.iconst 0, 1) := by decide +kernel
theorem dX7_canBe_105 : decode cX7_canBe 105 = .ok (.goto 29, 3) := by decide +kernel
theorem dX7_canBe_108 : decode cX7_canBe 108 = .ok (.iload 4, 2) := by decide +kernel
theorem dX7_canBe_110 : decode cX7_canBe 110 = .ok (.aload_n 0, 1) := by decide +kernel
theorem dX7_canBe_111 : decode cX7_canBe 111 = .ok (.getfield 22, 3) := by decide +kernel
theorem dX7_canBe_114 : decode cX7_canBe 114 = .ok (.aload_n 0, 1) := by decide +kernel
theorem dX7_canBe_115 : decode cX7_canBe 115 = .ok (.getfield 22, 3) := by decide +kernel
theorem dX7_canBe_118 : decode cX7_canBe 118 = .ok (.bipush 25, 2) := by decide +kernel
theorem dX7_canBe_120 : decode cX7_canBe 120 = .ok (.iload_n 1, 1) := by decide +kernel
theorem dX7_canBe_121 : decode cX7_canBe 121 = .ok (.iadd, 1) := by decide +kernel
theorem dX7_canBe_122 : decode cX7_canBe 122 = .ok (.iaload, 1) := by decide +kernel
theorem dX7_canBe_123 : decode cX7_canBe 123 = .ok (.invokestatic 154, 3) := by decide +kernel
theorem dX7_canBe_126 : decode cX7_canBe 126 = .ok (.if_icmp .gt 7, 3) := by decide +kernel
theorem dX7_canBe_129 : decode cX7_canBe 129 = .ok (.iconst 1, 1) := by decide +kernel
theorem dX7_canBe_130 : decode cX7_canBe 130 = .ok (.goto 4, 3) := by decide +kernel
theorem dX7_canBe_133 : decode cX7_canBe 133 = .ok (.iconst 0, 1) := by decide +kernel
theorem dX7_canBe_134 : decode cX7_canBe 134 = .ok (.ireturn, 1) := by decide +kernel
theorem dX7_forged_0 : decode cX7_forged 0 = .ok (.aload_n 0, 1) := by decide +kernel
theorem dX7_forged_1 : decode cX7_forged 1 = .ok (.getfield 143, 3) := by decide +kernel
theorem dX7_forged_4 : decode cX7_forged 4 = .ok (.ifCond .ne 6, 3) := by decide +kernel
theorem dX7_forged_7 : decode cX7_forged 7 = .ok (.ldc 169, 2) := by decide +kernel
theorem dX7_forged_9 : decode cX7_forged 9 = .ok (.ireturn, 1) := by decide +kernel
theorem dX7_forged_10 : decode cX7_forged 10 = .ok (.iload_n 1, 1) := by decide +kernel
theorem dX7_forged_11 : decode cX7_forged 11 = .ok (.invokestatic 55, 3) := by decide +kernel
theorem dX7_forged_14 : decode cX7_forged 14 = .ok (.ifCond .ne 6, 3) := by decide +kernel
theorem dX7_forged_17 : decode cX7_forged 17 = .ok (.ldc 61, 2) := by decide +kernel
theorem dX7_forged_19 : decode cX7_forged 19 = .ok (.ireturn, 1) := by decide +kernel
theorem dX7_forged_20 : decode cX7_forged 20 = .ok (.aload_n 0, 1) := by decide +kernel
theorem dX7_forged_21 : decode cX7_forged 21 = .ok (.getfield 13, 3) := by decide +kernel
theorem dX7_forged_24 : decode cX7_forged 24 = .ok (.iload_n 1, 1) := by decide +kernel
theorem dX7_forged_25 : decode cX7_forged 25 = .ok (.iaload, 1) := by decide +kernel
theorem dX7_forged_26 : decode cX7_forged 26 = .ok (.ifCond .ge 9, 3) := by decide +kernel
theorem dX7_forged_29 : decode cX7_forged 29 = .ok (.aload_n 0, 1) := by decide +kernel
theorem dX7_forged_30 : decode cX7_forged 30 = .ok (.iconst 1, 1) := by decide +kernel
theorem dX7_forged_31 : decode cX7_forged 31 = .ok (.invokevirtual 62, 3) := by decide +kernel
theorem dX7_forged_34 : decode cX7_forged 34 = .ok (.ireturn, 1) := by decide +kernel
theorem dX7_forged_35 : decode cX7_forged 35 = .ok (.iload_n 2, 1) := by decide +kernel
theorem dX7_forged_36 : decode cX7_forged 36 = .ok (.ifCond .lt 24, 3) := by decide +kernel
theorem dX7_forged_39 : decode cX7_forged 39 = .ok (.iload_n 2, 1) := by decide +kernel
theorem dX7_forged_40 : decode cX7_forged 40 = .ok (.i2l, 1) := by decide +kernel
theorem dX7_forged_41 : decode cX7_forged 41 = .ok (.aload_n 0, 1) := by decide +kernel
theorem dX7_forged_42 : decode cX7_forged 42 = .ok (.getfield 22, 3) := by decide +kernel
theorem dX7_forged_45 : decode cX7_forged 45 = .ok (.iconst 3, 1) := by decide +kernel
theorem dX7_forged_46 : decode cX7_forged 46 = .ok (.iaload, 1) := by decide +kernel
theorem dX7_forged_47 : decode cX7_forged 47 = .ok (.i2l, 1) := by decide +kernel
theorem dX7_forged_48 : decode cX7_forged 48 = .ok (.ladd, 1) := by decide +kernel
theorem dX7_forged_49 : decode cX7_forged 49 = .ok (.aload_n 0, 1) := by decide +kernel
theorem dX7_forged_50 : decode cX7_forged 50 = .ok (.getfield 13, 3) := by decide +kernel
theorem dX7_forged_53 : decode cX7_forged 53 = .ok (.iload_n 1, 1) := by decide +kernel
theorem dX7_forged_54 : decode cX7_forged 54 = .ok (.iaload, 1) := by decide +kernel
theorem dX7_forged_55 : decode cX7_forged 55 = .ok (.i2l, 1) := by decide +kernel
theorem dX7_forged_56 : decode cX7_forged 56 = .ok (.lcmp, 1) := by decide +kernel
theorem dX7_forged_57 : decode cX7_forged 57 = .ok (.ifCond .le 9, 3) := by decide +kernel
theorem dX7_forged_60 : decode cX7_forged 60 = .ok (.aload_n 0, 1) := by decide +kernel
theorem dX7_forged_61 : decode cX7_forged 61 = .ok (.iconst 2, 1) := by decide +kernel
theorem dX7_forged_62 : decode cX7_forged 62 = .ok (.invokevirtual 62, 3) := by decide +kernel
theorem dX7_forged_65 : decode cX7_forged 65 = .ok (.ireturn, 1) := by decide +kernel
theorem dX7_forged_66 : decode cX7_forged 66 = .ok (.iconst 0, 1) := by decide +kernel
theorem dX7_forged_67 : decode cX7_forged 67 = .ok (.istore_n 3, 1) := by decide +kernel
theorem dX7_forged_68 : decode cX7_forged 68 = .ok (.iconst 0, 1) := by decide +kernel
theorem dX7_forged_69 : decode cX7_forged 69 = .ok (.istore 4, 2) := by decide +kernel
theorem dX7_forged_71 : decode cX7_forged 71 = .ok (.iload 4, 2) := by decide +kernel
theorem dX7_forged_73 : decode cX7_forged 73 = .ok (.aload_n 0, 1) := by decide +kernel
theorem dX7_forged_74 : decode cX7_forged 74 = .ok (.getfield 22, 3) := by decide +kernel
theorem dX7_forged_77 : decode cX7_forged 77 = .ok (.iconst 3, 1) := by decide +kernel
theorem dX7_forged_78 : decode cX7_forged 78 = .ok (.iaload, 1) := by decide +kernel
theorem dX7_forged_79 : decode cX7_forged 79 = .ok (.if_icmp .ge 43, 3) := by decide +kernel
theorem dX7_forged_82 : decode cX7_forged 82 = .ok (.iload_n 3, 1) := by decide +kernel
theorem dX7_forged_83 : decode cX7_forged 83 = .ok (.aload_n 0, 1) := by decide +kernel
theorem dX7_forged_84 : decode cX7_forged 84 = .ok (.iload 4, 2) := by decide +kernel
theorem dX7_forged_86 : decode cX7_forged 86 = .ok (.aload_n 0, 1) := by decide +kernel
theorem dX7_forged_87 : decode cX7_forged 87 = .ok (.getfield 16, 3) := by decide +kernel
theorem dX7_forged_90 : decode cX7_forged 90 = .ok (.bipush 40, 2) := by decide +kernel
theorem dX7_forged_92 : decode cX7_forged 92 = .ok (.iload_n 1, 1) := by decide +kernel
theorem dX7_forged_93 : decode cX7_forged 93 = .ok (.imul, 1) := by decide +kernel
theorem dX7_forged_94 : decode cX7_forged 94 = .ok (.iload_n 2, 1) := by decide +kernel
theorem dX7_forged_95 : decode cX7_forged 95 = .ok (.iadd, 1) := by decide +kernel
theorem dX7_forged_96 : decode cX7_forged 96 = .ok (.iload 4, 2) := by decide +kernel
theorem dX7_forged_98 : decode cX7_forged 98 = .ok (.iadd, 1) := by decide +kernel
theorem dX7_forged_99 : decode cX7_forged 99 = .ok (.iaload, 1) := by decide +kernel
theorem dX7_forged_100 : decode cX7_forged 100 = .ok (.invokevirtual 242, 3) := by decide +kernel
theorem dX7_forged_103 : decode cX7_forged 103 = .ok (.ifCond .eq 7, 3) := by decide +kernel
theorem dX7_forged_106 : decode cX7_forged 106 = .ok (.iconst 0, 1) := by decide +kernel
theorem dX7_forged_107 : decode cX7_forged 107 = .ok (.goto 7, 3) := by decide +kernel
theorem dX7_forged_110 : decode cX7_forged 110 = .ok (.iconst 1, 1) := by decide +kernel
theorem dX7_forged_111 : decode cX7_forged 111 = .ok (.iload 4, 2) := by decide +kernel
theorem dX7_forged_113 : decode cX7_forged 113 = .ok (.ishl, 1) := by decide +kernel
theorem dX7_forged_114 : decode cX7_forged 114 = .ok (.ior, 1) := by decide +kernel
theorem dX7_forged_115 : decode cX7_forged 115 = .ok (.istore_n 3, 1) := by decide +kernel
theorem dX7_forged_116 : decode cX7_forged 116 = .ok (.iinc 4 1, 3) := by decide +kernel
theorem dX7_forged_119 : decode cX7_forged 119 = .ok (.goto (-48), 3) := by decide +kernel
theorem dX7_forged_122 : decode cX7_forged 122 = .ok (.aload_n 0, 1) := by decide +kernel
theorem dX7_forged_123 : decode cX7_forged 123 = .ok (.iload_n 3, 1) := by decide +kernel
theorem dX7_forged_124 : decode cX7_forged 124 = .ok (.invokevirtual 66, 3) := by decide +kernel
theorem dX7_forged_127 : decode cX7_forged 127 = .ok (.ireturn, 1) := by decide +kernel
theorem dX7_itself_0 : decode cX7_itself 0 = .ok (.aload_n 0, 1) := by decide +kernel
theorem dX7_itself_1 : decode cX7_itself 1 = .ok (.iload_n 1, 1) := by decide +kernel
theorem dX7_itself_2 : decode cX7_itself 2 = .ok (.invokevirtual 196, 3) := by decide +kernel
theorem dX7_itself_5 : decode cX7_itself 5 = .ok (.ifCond .eq 22, 3) := by decide +kernel
theorem dX7_itself_8 : decode cX7_itself 8 = .ok (.iload_n 2, 1) := by decide +kernel
theorem dX7_itself_9 : decode cX7_itself 9 = .ok (.i2l, 1) := by decide +kernel
theorem dX7_itself_10 : decode cX7_itself 10 = .ok (.lconst 0, 1) := by decide +kernel
theorem dX7_itself_11 : decode cX7_itself 11 = .ok (.ldc2_w 170, 3) := by decide +kernel
theorem dX7_itself_14 : decode cX7_itself 14 = .ok (.invokestatic 51, 3) := by decide +kernel
theorem dX7_itself_17 : decode cX7_itself 17 = .ok (.ifCond .eq 10, 3) := by decide +kernel
theorem dX7_itself_20 : decode cX7_itself 20 = .ok (.iload_n 3, 1) := by decide +kernel
theorem dX7_itself_21 : decode cX7_itself 21 = .ok (.invokestatic 202, 3) := by decide +kernel
theorem dX7_itself_24 : decode cX7_itself 24 = .ok (.ifCond .ne 6, 3) := by decide +kernel
theorem dX7_itself_27 : decode cX7_itself 27 = .ok (.ldc 61, 2) := by decide +kernel
theorem dX7_itself_29 : decode cX7_itself 29 = .ok (.ireturn, 1) := by decide +kernel
theorem dX7_itself_30 : decode cX7_itself 30 = .ok (.aload_n 0, 1) := by decide +kernel
theorem dX7_itself_31 : decode cX7_itself 31 = .ok (.getfield 22, 3) := by decide +kernel
theorem dX7_itself_34 : decode cX7_itself 34 = .ok (.invokestatic 162, 3) := by decide +kernel
theorem dX7_itself_37 : decode cX7_itself 37 = .ok (.istore 4, 2) := by decide +kernel
theorem dX7_itself_39 : decode cX7_itself 39 = .ok (.aload_n 0, 1) := by decide +kernel
theorem dX7_itself_40 : decode cX7_itself 40 = .ok (.getfield 22, 3) := by decide +kernel
theorem dX7_itself_43 : decode cX7_itself 43 = .ok (.iload 4, 2) := by decide +kernel
theorem dX7_itself_45 : decode cX7_itself 45 = .ok (.iconst 1, 1) := by decide +kernel
theorem dX7_itself_46 : decode cX7_itself 46 = .ok (.iload_n 2, 1) := by decide +kernel
theorem dX7_itself_47 : decode cX7_itself 47 = .ok (.ishl, 1) := by decide +kernel
theorem dX7_itself_48 : decode cX7_itself 48 = .ok (.iconst (-1), 1) := by decide +kernel
theorem dX7_itself_49 : decode cX7_itself 49 = .ok (.ixor, 1) := by decide +kernel
theorem dX7_itself_50 : decode cX7_itself 50 = .ok (.iand, 1) := by decide +kernel
theorem dX7_itself_51 : decode cX7_itself 51 = .ok (.invokestatic 166, 3) := by decide +kernel
theorem dX7_itself_54 : decode cX7_itself 54 = .ok (.iload_n 1, 1) := by decide +kernel
theorem dX7_itself_55 : decode cX7_itself 55 = .ok (.ishr, 1) := by decide +kernel
theorem dX7_itself_56 : decode cX7_itself 56 = .ok (.iconst 1, 1) := by decide +kernel
theorem dX7_itself_57 : decode cX7_itself 57 = .ok (.iand, 1) := by decide +kernel
theorem dX7_itself_58 : decode cX7_itself 58 = .ok (.iconst 1, 1) := by decide +kernel
theorem dX7_itself_59 : decode cX7_itself 59 = .ok (.if_icmp .ne 7, 3) := by decide +kernel
theorem dX7_itself_62 : decode cX7_itself 62 = .ok (.iconst 1, 1) := by decide +kernel
theorem dX7_itself_63 : decode cX7_itself 63 = .ok (.goto 4, 3) := by decide +kernel
theorem dX7_itself_66 : decode cX7_itself 66 = .ok (.iconst 0, 1) := by decide +kernel
theorem dX7_itself_67 : decode cX7_itself 67 = .ok (.istore 5, 2) := by decide +kernel
theorem dX7_itself_69 : decode cX7_itself 69 = .ok (.aload_n 0, 1) := by decide +kernel
theorem dX7_itself_70 : decode cX7_itself 70 = .ok (.getfield 22, 3) := by decide +kernel
theorem dX7_itself_73 : decode cX7_itself 73 = .ok (.iload 4, 2) := by decide +kernel
theorem dX7_itself_75 : decode cX7_itself 75 = .ok (.invokestatic 166, 3) := by decide +kernel
theorem dX7_itself_78 : decode cX7_itself 78 = .ok (.iload_n 1, 1) := by decide +kernel
theorem dX7_itself_79 : decode cX7_itself 79 = .ok (.ishr, 1) := by decide +kernel
theorem dX7_itself_80 : decode cX7_itself 80 = .ok (.iconst 1, 1) := by decide +kernel
theorem dX7_itself_81 : decode cX7_itself 81 = .ok (.iand, 1) := by decide +kernel
theorem dX7_itself_82 : decode cX7_itself 82 = .ok (.ifCond .ne 7, 3) := by decide +kernel
theorem dX7_itself_85 : decode cX7_itself 85 = .ok (.iconst 1, 1) := by decide +kernel
theorem dX7_itself_86 : decode cX7_itself 86 = .ok (.goto 4, 3) := by decide +kernel
theorem dX7_itself_89 : decode cX7_itself 89 = .ok (.iconst 0, 1) := by decide +kernel
theorem dX7_itself_90 : decode cX7_itself 90 = .ok (.istore 6, 2) := by decide +kernel
theorem dX7_itself_92 : decode cX7_itself 92 = .ok (.iload 5, 2) := by decide +kernel
theorem dX7_itself_94 : decode cX7_itself 94 = .ok (.ifCond .eq 7, 3) := by decide +kernel
theorem dX7_itself_97 : decode cX7_itself 97 = .ok (.iconst 1, 1) := by decide +kernel
theorem dX7_itself_98 : decode cX7_itself 98 = .ok (.goto 4, 3) := by decide +kernel
theorem dX7_itself_101 : decode cX7_itself 101 = .ok (.iconst 0, 1) := by decide +kernel
theorem dX7_itself_102 : decode cX7_itself 102 = .ok (.iload 6, 2) := by decide +kernel
theorem dX7_itself_104 : decode cX7_itself 104 = .ok (.ifCond .eq 7, 3) := by decide +kernel
theorem dX7_itself_107 : decode cX7_itself 107 = .ok (.iconst 1, 1) := by decide +kernel
theorem dX7_itself_108 : decode cX7_itself 108 = .ok (.goto 4, 3) := by decide +kernel
theorem dX7_itself_111 : decode cX7_itself 111 = .ok (.iconst 0, 1) := by decide +kernel
theorem dX7_itself_112 : decode cX7_itself 112 = .ok (.iadd, 1) := by decide +kernel
theorem dX7_itself_113 : decode cX7_itself 113 = .ok (.istore 7, 2) := by decide +kernel
theorem dX7_itself_115 : decode cX7_itself 115 = .ok (.iload_n 3, 1) := by decide +kernel
theorem dX7_itself_116 : decode cX7_itself 116 = .ok (.ifCond .ne 8, 3) := by decide +kernel
theorem dX7_itself_119 : decode cX7_itself 119 = .ok (.iload 7, 2) := by decide +kernel
theorem dX7_itself_121 : decode cX7_itself 121 = .ok (.goto 32, 3) := by decide +kernel
theorem dX7_itself_124 : decode cX7_itself 124 = .ok (.iload 7, 2) := by decide +kernel
theorem dX7_itself_126 : decode cX7_itself 126 = .ok (.iconst 2, 1) := by decide +kernel
theorem dX7_itself_127 : decode cX7_itself 127 = .ok (.if_icmp .ne 7, 3) := by decide +kernel
theorem dX7_itself_130 : decode cX7_itself 130 = .ok (.iconst 2, 1) := by decide +kernel
theorem dX7_itself_131 : decode cX7_itself 131 = .ok (.goto 22, 3) := by decide +kernel
theorem dX7_itself_134 : decode cX7_itself 134 = .ok (.iload 5, 2) := by decide +kernel
theorem dX7_itself_136 : decode cX7_itself 136 = .ok (.ifCond .eq 7, 3) := by decide +kernel
theorem dX7_itself_139 : decode cX7_itself 139 = .ok (.iconst 1, 1) := by decide +kernel
theorem dX7_itself_140 : decode cX7_itself 140 = .ok (.goto 13, 3) := by decide +kernel
theorem dX7_itself_143 : decode cX7_itself 143 = .ok (.iload 6, 2) := by decide +kernel
theorem dX7_itself_145 : decode cX7_itself 145 = .ok (.ifCond .eq 7, 3) := by decide +kernel
theorem dX7_itself_148 : decode cX7_itself 148 = .ok (.iconst 0, 1) := by decide +kernel
theorem dX7_itself_149 : decode cX7_itself 149 = .ok (.goto 4, 3) := by decide +kernel
theorem dX7_itself_152 : decode cX7_itself 152 = .ok (.iconst 3, 1) := by decide +kernel
theorem dX7_itself_153 : decode cX7_itself 153 = .ok (.ireturn, 1) := by decide +kernel
theorem dX7_years_0 : decode cX7_years 0 = .ok (.aload_n 0, 1) := by decide +kernel
theorem dX7_years_1 : decode cX7_years 1 = .ok (.getfield 143, 3) := by decide +kernel
theorem dX7_years_4 : decode cX7_years 4 = .ok (.ifCond .ne 6, 3) := by decide +kernel
theorem dX7_years_7 : decode cX7_years 7 = .ok (.ldc 169, 2) := by decide +kernel
theorem dX7_years_9 : decode cX7_years 9 = .ok (.ireturn, 1) := by decide +kernel
theorem dX7_years_10 : decode cX7_years 10 = .ok (.iload_n 1, 1) := by decide +kernel
theorem dX7_years_11 : decode cX7_years 11 = .ok (.i2l, 1) := by decide +kernel
theorem dX7_years_12 : decode cX7_years 12 = .ok (.lconst 0, 1) := by decide +kernel
theorem dX7_years_13 : decode cX7_years 13 = .ok (.ldc2_w 246, 3) := by decide +kernel
theorem dX7_years_16 : decode cX7_years 16 = .ok (.invokestatic 51, 3) := by decide +kernel
theorem dX7_years_19 : decode cX7_years 19 = .ok (.ifCond .eq 22, 3) := by decide +kernel
theorem dX7_years_22 : decode cX7_years 22 = .ok (.iload_n 2, 1) := by decide +kernel
theorem dX7_years_23 : decode cX7_years 23 = .ok (.i2l, 1) := by decide +kernel
theorem dX7_years_24 : decode cX7_years 24 = .ok (.lconst 1, 1) := by decide +kernel
theorem dX7_years_25 : decode cX7_years 25 = .ok (.ldc2_w 248, 3) := by decide +kernel
theorem dX7_years_28 : decode cX7_years 28 = .ok (.invokestatic 51, 3) := by decide +kernel
theorem dX7_years_31 : decode cX7_years 31 = .ok (.ifCond .eq 10, 3) := by decide +kernel
theorem dX7_years_34 : decode cX7_years 34 = .ok (.iload_n 3, 1) := by decide +kernel
theorem dX7_years_35 : decode cX7_years 35 = .ok (.invokestatic 202, 3) := by decide +kernel
theorem dX7_years_38 : decode cX7_years 38 = .ok (.ifCond .ne 6, 3) := by decide +kernel
theorem dX7_years_41 : decode cX7_years 41 = .ok (.ldc 61, 2) := by decide +kernel
theorem dX7_years_43 : decode cX7_years 43 = .ok (.ireturn, 1) := by decide +kernel
theorem dX7_years_44 : decode cX7_years 44 = .ok (.aload_n 0, 1) := by decide +kernel
theorem dX7_years_45 : decode cX7_years 45 = .ok (.invokevirtual 205, 3) := by decide +kernel
theorem dX7_years_48 : decode cX7_years 48 = .ok (.iload_n 2, 1) := by decide +kernel
theorem dX7_years_49 : decode cX7_years 49 = .ok (.i2l, 1) := by decide +kernel
theorem dX7_years_50 : decode cX7_years 50 = .ok (.lstore 4, 2) := by decide +kernel
theorem dX7_years_52 : decode cX7_years 52 = .ok (.iconst 0, 1) := by decide +kernel
theorem dX7_years_53 : decode cX7_years 53 = .ok (.istore 6, 2) := by decide +kernel
theorem dX7_years_55 : decode cX7_years 55 = .ok (.iconst 0, 1) := by decide +kernel
theorem dX7_years_56 : decode cX7_years 56 = .ok (.istore 7, 2) := by decide +kernel
theorem dX7_years_58 : decode cX7_years 58 = .ok (.iload 7, 2) := by decide +kernel
theorem dX7_years_60 : decode cX7_years 60 = .ok (.iload_n 1, 1) := by decide +kernel
theorem dX7_years_61 : decode cX7_years 61 = .ok (.if_icmp .ge 87, 3) := by decide +kernel
theorem dX7_years_64 : decode cX7_years 64 = .ok (.aload_n 0, 1) := by decide +kernel
theorem dX7_years_65 : decode cX7_years 65 = .ok (.getfield 41, 3) := by decide +kernel
theorem dX7_years_68 : decode cX7_years 68 = .ok (.iconst 3, 1) := by decide +kernel
theorem dX7_years_69 : decode cX7_years 69 = .ok (.iaload, 1) := by decide +kernel
theorem dX7_years_70 : decode cX7_years 70 = .ok (.ifCond .le 65, 3) := by decide +kernel
theorem dX7_years_73 : decode cX7_years 73 = .ok (.lload 4, 2) := by decide +kernel
theorem dX7_years_75 : decode cX7_years 75 = .ok (.ldc2_w 250, 3) := by decide +kernel
theorem dX7_years_78 : decode cX7_years 78 = .ok (.lmul, 1) := by decide +kernel
theorem dX7_years_79 : decode cX7_years 79 = .ok (.ldc2_w 252, 3) := by decide +kernel
theorem dX7_years_82 : decode cX7_years 82 = .ok (.lrem, 1) := by decide +kernel
theorem dX7_years_83 : decode cX7_years 83 = .ok (.lstore 4, 2) := by decide +kernel
theorem dX7_years_85 : decode cX7_years 85 = .ok (.lload 4, 2) := by decide +kernel
theorem dX7_years_87 : decode cX7_years 87 = .ok (.aload_n 0, 1) := by decide +kernel
theorem dX7_years_88 : decode cX7_years 88 = .ok (.getfield 41, 3) := by decide +kernel
theorem dX7_years_91 : decode cX7_years 91 = .ok (.iconst 3, 1) := by decide +kernel
theorem dX7_years_92 : decode cX7_years 92 = .ok (.iaload, 1) := by decide +kernel
theorem dX7_years_93 : decode cX7_years 93 = .ok (.i2l, 1) := by decide +kernel
theorem dX7_years_94 : decode cX7_years 94 = .ok (.lrem, 1) := by decide +kernel
theorem dX7_years_95 : decode cX7_years 95 = .ok (.l2i, 1) := by decide +kernel
theorem dX7_years_96 : decode cX7_years 96 = .ok (.istore 8, 2) := by decide +kernel
theorem dX7_years_98 : decode cX7_years 98 = .ok (.lload 4, 2) := by decide +kernel
theorem dX7_years_100 : decode cX7_years 100 = .ok (.ldc2_w 49, 3) := by decide +kernel
theorem dX7_years_103 : decode cX7_years 103 = .ok (.lrem, 1) := by decide +kernel
theorem dX7_years_104 : decode cX7_years 104 = .ok (.lconst 0, 1) := by decide +kernel
theorem dX7_years_105 : decode cX7_years 105 = .ok (.lcmp, 1) := by decide +kernel
theorem dX7_years_106 : decode cX7_years 106 = .ok (.ifCond .ne 29, 3) := by decide +kernel
theorem dX7_years_109 : decode cX7_years 109 = .ok (.aload_n 0, 1) := by decide +kernel
theorem dX7_years_110 : decode cX7_years 110 = .ok (.getfield 41, 3) := by decide +kernel
theorem dX7_years_113 : decode cX7_years 113 = .ok (.iload 8, 2) := by decide +kernel
theorem dX7_years_115 : decode cX7_years 115 = .ok (.invokestatic 158, 3) := by decide +kernel
theorem dX7_years_118 : decode cX7_years 118 = .ok (.ifCond .eq 17, 3) := by decide +kernel
theorem dX7_years_121 : decode cX7_years 121 = .ok (.aload_n 0, 1) := by decide +kernel
theorem dX7_years_122 : decode cX7_years 122 = .ok (.getfield 41, 3) := by decide +kernel
theorem dX7_years_125 : decode cX7_years 125 = .ok (.bipush 55, 2) := by decide +kernel
theorem dX7_years_127 : decode cX7_years 127 = .ok (.iload 8, 2) := by decide +kernel
theorem dX7_years_129 : decode cX7_years 129 = .ok (.iadd, 1) := by decide +kernel
theorem dX7_years_130 : decode cX7_years 130 = .ok (.iconst 1, 1) := by decide +kernel
theorem dX7_years_131 : decode cX7_years 131 = .ok (.iastore, 1) := by decide +kernel
theorem dX7_years_132 : decode cX7_years 132 = .ok (.iinc 6 1, 3) := by decide +kernel
theorem dX7_years_135 : decode cX7_years 135 = .ok (.aload_n 0, 1) := by decide +kernel
theorem dX7_years_136 : decode cX7_years 136 = .ok (.getfield 41, 3) := by decide +kernel
theorem dX7_years_139 : decode cX7_years 139 = .ok (.invokestatic 185, 3) := by decide +kernel
theorem dX7_years_142 : decode cX7_years 142 = .ok (.iinc 7 1, 3) := by decide +kernel
theorem dX7_years_145 : decode cX7_years 145 = .ok (.goto (-87), 3) := by decide +kernel
theorem dX7_years_148 : decode cX7_years 148 = .ok (.iload_n 3, 1) := by decide +kernel
theorem dX7_years_149 : decode cX7_years 149 = .ok (.ifCond .ne 8, 3) := by decide +kernel
theorem dX7_years_152 : decode cX7_years 152 = .ok (.iload 6, 2) := by decide +kernel
theorem dX7_years_154 : decode cX7_years 154 = .ok (.goto 10, 3) := by decide +kernel
theorem dX7_years_157 : decode cX7_years 157 = .ok (.aload_n 0, 1) := by decide +kernel
theorem dX7_years_158 : decode cX7_years 158 = .ok (.getfield 41, 3) := by decide +kernel
theorem dX7_years_161 : decode cX7_years 161 = .ok (.invokestatic 189, 3) := by decide +kernel
theorem dX7_years_164 : decode cX7_years 164 = .ok (.ireturn, 1) := by decide +kernel
theorem dX7_image_0 : decode cX7_image 0 = .ok (.iload_n 1, 1) := by decide +kernel
theorem dX7_image_1 : decode cX7_image 1 = .ok (.invokestatic 202, 3) := by decide +kernel
theorem dX7_image_4 : decode cX7_image 4 = .ok (.ifCond .ne 6, 3) := by decide +kernel
theorem dX7_image_7 : decode cX7_image 7 = .ok (.ldc 61, 2) := by decide +kernel
theorem dX7_image_9 : decode cX7_image 9 = .ok (.ireturn, 1) := by decide +kernel
theorem dX7_image_10 : decode cX7_image 10 = .ok (.aload_n 0, 1) := by decide +kernel
theorem dX7_image_11 : decode cX7_image 11 = .ok (.getfield 143, 3) := by decide +kernel
theorem dX7_image_14 : decode cX7_image 14 = .ok (.ifCond .ne 6, 3) := by decide +kernel
theorem dX7_image_17 : decode cX7_image 17 = .ok (.ldc 169, 2) := by decide +kernel
theorem dX7_image_19 : decode cX7_image 19 = .ok (.ireturn, 1) := by decide +kernel
theorem dX7_image_20 : decode cX7_image 20 = .ok (.aload_n 0, 1) := by decide +kernel
theorem dX7_image_21 : decode cX7_image 21 = .ok (.getfield 22, 3) := by decide +kernel
theorem dX7_image_24 : decode cX7_image 24 = .ok (.iconst 0, 1) := by decide +kernel
theorem dX7_image_25 : decode cX7_image 25 = .ok (.aload_n 0, 1) := by decide +kernel
theorem dX7_image_26 : decode cX7_image 26 = .ok (.getfield 28, 3) := by decide +kernel
theorem dX7_image_29 : decode cX7_image 29 = .ok (.bipush 85, 2) := by decide +kernel
theorem dX7_image_31 : decode cX7_image 31 = .ok (.iload_n 1, 1) := by decide +kernel
theorem dX7_image_32 : decode cX7_image 32 = .ok (.imul, 1) := by decide +kernel
theorem dX7_image_33 : decode cX7_image 33 = .ok (.invokestatic 150, 3) := by decide +kernel
theorem dX7_image_36 : decode cX7_image 36 = .ok (.aload_n 0, 1) := by decide +kernel
theorem dX7_image_37 : decode cX7_image 37 = .ok (.getfield 31, 3) := by decide +kernel
theorem dX7_image_40 : decode cX7_image 40 = .ok (.iload_n 1, 1) := by decide +kernel
theorem dX7_image_41 : decode cX7_image 41 = .ok (.iconst 1, 1) := by decide +kernel
theorem dX7_image_42 : decode cX7_image 42 = .ok (.bastore, 1) := by decide +kernel
theorem dX7_image_43 : decode cX7_image 43 = .ok (.iconst 1, 1) := by decide +kernel
theorem dX7_image_44 : decode cX7_image 44 = .ok (.ireturn, 1) := by decide +kernel
theorem dX7_restore_0 : decode cX7_restore 0 = .ok (.iload_n 1, 1) := by decide +kernel
theorem dX7_restore_1 : decode cX7_restore 1 = .ok (.invokestatic 202, 3) := by decide +kernel
theorem dX7_restore_4 : decode cX7_restore 4 = .ok (.ifCond .ne 6, 3) := by decide +kernel
theorem dX7_restore_7 : decode cX7_restore 7 = .ok (.ldc 61, 2) := by decide +kernel
theorem dX7_restore_9 : decode cX7_restore 9 = .ok (.ireturn, 1) := by decide +kernel
theorem dX7_restore_10 : decode cX7_restore 10 = .ok (.aload_n 0, 1) := by decide +kernel
theorem dX7_restore_11 : decode cX7_restore 11 = .ok (.getfield 31, 3) := by decide +kernel
theorem dX7_restore_14 : decode cX7_restore 14 = .ok (.iload_n 1, 1) := by decide +kernel
theorem dX7_restore_15 : decode cX7_restore 15 = .ok (.baload, 1) := by decide +kernel
theorem dX7_restore_16 : decode cX7_restore 16 = .ok (.ifCond .ne 6, 3) := by decide +kernel
theorem dX7_restore_19 : decode cX7_restore 19 = .ok (.ldc 169, 2) := by decide +kernel
theorem dX7_restore_21 : decode cX7_restore 21 = .ok (.ireturn, 1) := by decide +kernel
theorem dX7_restore_22 : decode cX7_restore 22 = .ok (.aload_n 0, 1) := by decide +kernel
theorem dX7_restore_23 : decode cX7_restore 23 = .ok (.getfield 28, 3) := by decide +kernel
theorem dX7_restore_26 : decode cX7_restore 26 = .ok (.bipush 85, 2) := by decide +kernel
theorem dX7_restore_28 : decode cX7_restore 28 = .ok (.iload_n 1, 1) := by decide +kernel
theorem dX7_restore_29 : decode cX7_restore 29 = .ok (.imul, 1) := by decide +kernel
theorem dX7_restore_30 : decode cX7_restore 30 = .ok (.aload_n 0, 1) := by decide +kernel
theorem dX7_restore_31 : decode cX7_restore 31 = .ok (.getfield 22, 3) := by decide +kernel
theorem dX7_restore_34 : decode cX7_restore 34 = .ok (.iconst 0, 1) := by decide +kernel
theorem dX7_restore_35 : decode cX7_restore 35 = .ok (.invokestatic 150, 3) := by decide +kernel
theorem dX7_restore_38 : decode cX7_restore 38 = .ok (.aload_n 0, 1) := by decide +kernel
theorem dX7_restore_39 : decode cX7_restore 39 = .ok (.iconst 0, 1) := by decide +kernel
theorem dX7_restore_40 : decode cX7_restore 40 = .ok (.putfield 147, 3) := by decide +kernel
theorem dX7_restore_43 : decode cX7_restore 43 = .ok (.iconst 1, 1) := by decide +kernel
theorem dX7_restore_44 : decode cX7_restore 44 = .ok (.ireturn, 1) := by decide +kernel
theorem dX7_blackOf_0 : decode cX7_blackOf 0 = .ok (.iconst 0, 1) := by decide +kernel
theorem dX7_blackOf_1 : decode cX7_blackOf 1 = .ok (.istore_n 2, 1) := by decide +kernel
theorem dX7_blackOf_2 : decode cX7_blackOf 2 = .ok (.iconst 0, 1) := by decide +kernel
theorem dX7_blackOf_3 : decode cX7_blackOf 3 = .ok (.istore_n 3, 1) := by decide +kernel
theorem dX7_blackOf_4 : decode cX7_blackOf 4 = .ok (.iload_n 3, 1) := by decide +kernel
theorem dX7_blackOf_5 : decode cX7_blackOf 5 = .ok (.aload_n 0, 1) := by decide +kernel
theorem dX7_blackOf_6 : decode cX7_blackOf 6 = .ok (.getfield 22, 3) := by decide +kernel
theorem dX7_blackOf_9 : decode cX7_blackOf 9 = .ok (.iconst 3, 1) := by decide +kernel
theorem dX7_blackOf_10 : decode cX7_blackOf 10 = .ok (.iaload, 1) := by decide +kernel
theorem dX7_blackOf_11 : decode cX7_blackOf 11 = .ok (.if_icmp .ge 42, 3) := by decide +kernel
theorem dX7_blackOf_14 : decode cX7_blackOf 14 = .ok (.iload_n 2, 1) := by decide +kernel
