theorem dX3_selfOf_71 : decode cX3_selfOf 71 = .ok (.iconst 0, 1) := by decide +kernel
theorem dX3_selfOf_72 : decode cX3_selfOf 72 = .ok (.iload 7, 2) := by decide +kernel
theorem dX3_selfOf_74 : decode cX3_selfOf 74 = .ok (.ifCond .eq 7, 3) := by decide +kernel
theorem dX3_selfOf_77 : decode cX3_selfOf 77 = .ok (.iconst 1, 1) := by decide +kernel
theorem dX3_selfOf_78 : decode cX3_selfOf 78 = .ok (.goto 4, 3) := by decide +kernel
theorem dX3_selfOf_81 : decode cX3_selfOf 81 = .ok (.iconst 0, 1) := by decide +kernel
theorem dX3_selfOf_82 : decode cX3_selfOf 82 = .ok (.iadd, 1) := by decide +kernel
theorem dX3_selfOf_83 : decode cX3_selfOf 83 = .ok (.ireturn, 1) := by decide +kernel
theorem dX3_selfOf_84 : decode cX3_selfOf 84 = .ok (.iload 6, 2) := by decide +kernel
theorem dX3_selfOf_86 : decode cX3_selfOf 86 = .ok (.ifCond .eq 14, 3) := by decide +kernel
theorem dX3_selfOf_89 : decode cX3_selfOf 89 = .ok (.iload 7, 2) := by decide +kernel
theorem dX3_selfOf_91 : decode cX3_selfOf 91 = .ok (.ifCond .eq 7, 3) := by decide +kernel
theorem dX3_selfOf_94 : decode cX3_selfOf 94 = .ok (.iconst 2, 1) := by decide +kernel
theorem dX3_selfOf_95 : decode cX3_selfOf 95 = .ok (.goto 4, 3) := by decide +kernel
theorem dX3_selfOf_98 : decode cX3_selfOf 98 = .ok (.iconst 1, 1) := by decide +kernel
theorem dX3_selfOf_99 : decode cX3_selfOf 99 = .ok (.ireturn, 1) := by decide +kernel
theorem dX3_selfOf_100 : decode cX3_selfOf 100 = .ok (.iload 7, 2) := by decide +kernel
theorem dX3_selfOf_102 : decode cX3_selfOf 102 = .ok (.ifCond .eq 7, 3) := by decide +kernel
theorem dX3_selfOf_105 : decode cX3_selfOf 105 = .ok (.iconst 0, 1) := by decide +kernel
theorem dX3_selfOf_106 : decode cX3_selfOf 106 = .ok (.goto 4, 3) := by decide +kernel
theorem dX3_selfOf_109 : decode cX3_selfOf 109 = .ok (.iconst 3, 1) := by decide +kernel
theorem dX3_selfOf_110 : decode cX3_selfOf 110 = .ok (.ireturn, 1) := by decide +kernel
theorem dX3_byDraws_0 : decode cX3_byDraws 0 = .ok (.iload_n 3, 1) := by decide +kernel
theorem dX3_byDraws_1 : decode cX3_byDraws 1 = .ok (.i2l, 1) := by decide +kernel
theorem dX3_byDraws_2 : decode cX3_byDraws 2 = .ok (.lstore 5, 2) := by decide +kernel
theorem dX3_byDraws_4 : decode cX3_byDraws 4 = .ok (.aload_n 1, 1) := by decide +kernel
theorem dX3_byDraws_5 : decode cX3_byDraws 5 = .ok (.getfield 35, 3) := by decide +kernel
theorem dX3_byDraws_8 : decode cX3_byDraws 8 = .ok (.istore 7, 2) := by decide +kernel
theorem dX3_byDraws_10 : decode cX3_byDraws 10 = .ok (.iconst 0, 1) := by decide +kernel
theorem dX3_byDraws_11 : decode cX3_byDraws 11 = .ok (.istore 8, 2) := by decide +kernel
theorem dX3_byDraws_13 : decode cX3_byDraws 13 = .ok (.iconst 0, 1) := by decide +kernel
theorem dX3_byDraws_14 : decode cX3_byDraws 14 = .ok (.istore 9, 2) := by decide +kernel
theorem dX3_byDraws_16 : decode cX3_byDraws 16 = .ok (.iload 9, 2) := by decide +kernel
theorem dX3_byDraws_18 : decode cX3_byDraws 18 = .ok (.iload_n 2, 1) := by decide +kernel
theorem dX3_byDraws_19 : decode cX3_byDraws 19 = .ok (.if_icmp .ge 97, 3) := by decide +kernel
theorem dX3_byDraws_22 : decode cX3_byDraws 22 = .ok (.aload_n 1, 1) := by decide +kernel
theorem dX3_byDraws_23 : decode cX3_byDraws 23 = .ok (.getfield 121, 3) := by decide +kernel
theorem dX3_byDraws_26 : decode cX3_byDraws 26 = .ok (.ifCond .le 90, 3) := by decide +kernel
theorem dX3_byDraws_29 : decode cX3_byDraws 29 = .ok (.lload 5, 2) := by decide +kernel
theorem dX3_byDraws_31 : decode cX3_byDraws 31 = .ok (.ldc2_w 142, 3) := by decide +kernel
theorem dX3_byDraws_34 : decode cX3_byDraws 34 = .ok (.lmul, 1) := by decide +kernel
theorem dX3_byDraws_35 : decode cX3_byDraws 35 = .ok (.ldc2_w 144, 3) := by decide +kernel
theorem dX3_byDraws_38 : decode cX3_byDraws 38 = .ok (.lrem, 1) := by decide +kernel
theorem dX3_byDraws_39 : decode cX3_byDraws 39 = .ok (.lstore 5, 2) := by decide +kernel
theorem dX3_byDraws_41 : decode cX3_byDraws 41 = .ok (.lload 5, 2) := by decide +kernel
theorem dX3_byDraws_43 : decode cX3_byDraws 43 = .ok (.aload_n 1, 1) := by decide +kernel
theorem dX3_byDraws_44 : decode cX3_byDraws 44 = .ok (.getfield 121, 3) := by decide +kernel
theorem dX3_byDraws_47 : decode cX3_byDraws 47 = .ok (.i2l, 1) := by decide +kernel
theorem dX3_byDraws_48 : decode cX3_byDraws 48 = .ok (.lrem, 1) := by decide +kernel
theorem dX3_byDraws_49 : decode cX3_byDraws 49 = .ok (.l2i, 1) := by decide +kernel
theorem dX3_byDraws_50 : decode cX3_byDraws 50 = .ok (.istore 10, 2) := by decide +kernel
theorem dX3_byDraws_52 : decode cX3_byDraws 52 = .ok (.lload 5, 2) := by decide +kernel
theorem dX3_byDraws_54 : decode cX3_byDraws 54 = .ok (.ldc2_w 146, 3) := by decide +kernel
theorem dX3_byDraws_57 : decode cX3_byDraws 57 = .ok (.lrem, 1) := by decide +kernel
theorem dX3_byDraws_58 : decode cX3_byDraws 58 = .ok (.lconst 0, 1) := by decide +kernel
theorem dX3_byDraws_59 : decode cX3_byDraws 59 = .ok (.lcmp, 1) := by decide +kernel
theorem dX3_byDraws_60 : decode cX3_byDraws 60 = .ok (.ifCond .ne 33, 3) := by decide +kernel
theorem dX3_byDraws_63 : decode cX3_byDraws 63 = .ok (.aload_n 1, 1) := by decide +kernel
theorem dX3_byDraws_64 : decode cX3_byDraws 64 = .ok (.iload 10, 2) := by decide +kernel
theorem dX3_byDraws_66 : decode cX3_byDraws 66 = .ok (.iload 7, 2) := by decide +kernel
theorem dX3_byDraws_68 : decode cX3_byDraws 68 = .ok (.aload_n 1, 1) := by decide +kernel
theorem dX3_byDraws_69 : decode cX3_byDraws 69 = .ok (.getfield 61, 3) := by decide +kernel
theorem dX3_byDraws_72 : decode cX3_byDraws 72 = .ok (.iload 9, 2) := by decide +kernel
theorem dX3_byDraws_74 : decode cX3_byDraws 74 = .ok (.iadd, 1) := by decide +kernel
theorem dX3_byDraws_75 : decode cX3_byDraws 75 = .ok (.invokevirtual 148, 3) := by decide +kernel
theorem dX3_byDraws_78 : decode cX3_byDraws 78 = .ok (.ifCond .eq 15, 3) := by decide +kernel
theorem dX3_byDraws_81 : decode cX3_byDraws 81 = .ok (.iload 7, 2) := by decide +kernel
theorem dX3_byDraws_83 : decode cX3_byDraws 83 = .ok (.iconst 1, 1) := by decide +kernel
theorem dX3_byDraws_84 : decode cX3_byDraws 84 = .ok (.iload 10, 2) := by decide +kernel
theorem dX3_byDraws_86 : decode cX3_byDraws 86 = .ok (.ishl, 1) := by decide +kernel
theorem dX3_byDraws_87 : decode cX3_byDraws 87 = .ok (.ior, 1) := by decide +kernel
theorem dX3_byDraws_88 : decode cX3_byDraws 88 = .ok (.istore 7, 2) := by decide +kernel
theorem dX3_byDraws_90 : decode cX3_byDraws 90 = .ok (.iinc 8 1, 3) := by decide +kernel
theorem dX3_byDraws_93 : decode cX3_byDraws 93 = .ok (.aload_n 1, 1) := by decide +kernel
theorem dX3_byDraws_94 : decode cX3_byDraws 94 = .ok (.iload 7, 2) := by decide +kernel
theorem dX3_byDraws_96 : decode cX3_byDraws 96 = .ok (.aload_n 1, 1) := by decide +kernel
theorem dX3_byDraws_97 : decode cX3_byDraws 97 = .ok (.getfield 61, 3) := by decide +kernel
theorem dX3_byDraws_100 : decode cX3_byDraws 100 = .ok (.iload 9, 2) := by decide +kernel
theorem dX3_byDraws_102 : decode cX3_byDraws 102 = .ok (.iadd, 1) := by decide +kernel
theorem dX3_byDraws_103 : decode cX3_byDraws 103 = .ok (.iconst 1, 1) := by decide +kernel
theorem dX3_byDraws_104 : decode cX3_byDraws 104 = .ok (.iadd, 1) := by decide +kernel
theorem dX3_byDraws_105 : decode cX3_byDraws 105 = .ok (.invokevirtual 64, 3) := by decide +kernel
theorem dX3_byDraws_108 : decode cX3_byDraws 108 = .ok (.istore 7, 2) := by decide +kernel
theorem dX3_byDraws_110 : decode cX3_byDraws 110 = .ok (.iinc 9 1, 3) := by decide +kernel
theorem dX3_byDraws_113 : decode cX3_byDraws 113 = .ok (.goto (-97), 3) := by decide +kernel
theorem dX3_byDraws_116 : decode cX3_byDraws 116 = .ok (.iload 4, 2) := by decide +kernel
theorem dX3_byDraws_118 : decode cX3_byDraws 118 = .ok (.ifCond .ne 8, 3) := by decide +kernel
theorem dX3_byDraws_121 : decode cX3_byDraws 121 = .ok (.iload 8, 2) := by decide +kernel
theorem dX3_byDraws_123 : decode cX3_byDraws 123 = .ok (.goto 9, 3) := by decide +kernel
theorem dX3_byDraws_126 : decode cX3_byDraws 126 = .ok (.aload_n 1, 1) := by decide +kernel
theorem dX3_byDraws_127 : decode cX3_byDraws 127 = .ok (.iload 7, 2) := by decide +kernel
theorem dX3_byDraws_129 : decode cX3_byDraws 129 = .ok (.invokevirtual 31, 3) := by decide +kernel
theorem dX3_byDraws_132 : decode cX3_byDraws 132 = .ok (.ireturn, 1) := by decide +kernel
theorem dX4_init_0 : decode cX4_init 0 = .ok (.aload_n 0, 1) := by decide +kernel
theorem dX4_init_1 : decode cX4_init 1 = .ok (.invokespecial 3, 3) := by decide +kernel
theorem dX4_init_4 : decode cX4_init 4 = .ok (.aload_n 0, 1) := by decide +kernel
theorem dX4_init_5 : decode cX4_init 5 = .ok (.sipush 140, 3) := by decide +kernel
theorem dX4_init_8 : decode cX4_init 8 = .ok (.newarray .int, 2) := by decide +kernel
theorem dX4_init_10 : decode cX4_init 10 = .ok (.putfield 9, 3) := by decide +kernel
theorem dX4_init_13 : decode cX4_init 13 = .ok (.aload_n 0, 1) := by decide +kernel
theorem dX4_init_14 : decode cX4_init 14 = .ok (.new 15, 3) := by decide +kernel
theorem dX4_init_17 : decode cX4_init 17 = .ok (.dup, 1) := by decide +kernel
theorem dX4_init_18 : decode cX4_init 18 = .ok (.invokespecial 17, 3) := by decide +kernel
theorem dX4_init_21 : decode cX4_init 21 = .ok (.putfield 18, 3) := by decide +kernel
theorem dX4_init_24 : decode cX4_init 24 = .ok (.return_, 1) := by decide +kernel
theorem dX4_append_0 : decode cX4_append 0 = .ok (.aload_n 0, 1) := by decide +kernel
theorem dX4_append_1 : decode cX4_append 1 = .ok (.getfield 22, 3) := by decide +kernel
theorem dX4_append_4 : decode cX4_append 4 = .ok (.sipush 140, 3) := by decide +kernel
theorem dX4_append_7 : decode cX4_append 7 = .ok (.if_icmp .ge 23, 3) := by decide +kernel
theorem dX4_append_10 : decode cX4_append 10 = .ok (.aload_n 0, 1) := by decide +kernel
theorem dX4_append_11 : decode cX4_append 11 = .ok (.getfield 9, 3) := by decide +kernel
theorem dX4_append_14 : decode cX4_append 14 = .ok (.aload_n 0, 1) := by decide +kernel
theorem dX4_append_15 : decode cX4_append 15 = .ok (.getfield 22, 3) := by decide +kernel
theorem dX4_append_18 : decode cX4_append 18 = .ok (.iload_n 1, 1) := by decide +kernel
theorem dX4_append_19 : decode cX4_append 19 = .ok (.iastore, 1) := by decide +kernel
theorem dX4_append_20 : decode cX4_append 20 = .ok (.aload_n 0, 1) := by decide +kernel
theorem dX4_append_21 : decode cX4_append 21 = .ok (.dup, 1) := by decide +kernel
theorem dX4_append_22 : decode cX4_append 22 = .ok (.getfield 22, 3) := by decide +kernel
theorem dX4_append_25 : decode cX4_append 25 = .ok (.iconst 1, 1) := by decide +kernel
theorem dX4_append_26 : decode cX4_append 26 = .ok (.iadd, 1) := by decide +kernel
theorem dX4_append_27 : decode cX4_append 27 = .ok (.putfield 22, 3) := by decide +kernel
theorem dX4_append_30 : decode cX4_append 30 = .ok (.aload_n 0, 1) := by decide +kernel
theorem dX4_append_31 : decode cX4_append 31 = .ok (.getfield 22, 3) := by decide +kernel
theorem dX4_append_34 : decode cX4_append 34 = .ok (.ireturn, 1) := by decide +kernel
theorem dX4_readTape_0 : decode cX4_readTape 0 = .ok (.aload_n 0, 1) := by decide +kernel
theorem dX4_readTape_1 : decode cX4_readTape 1 = .ok (.iconst 0, 1) := by decide +kernel
theorem dX4_readTape_2 : decode cX4_readTape 2 = .ok (.putfield 26, 3) := by decide +kernel
theorem dX4_readTape_5 : decode cX4_readTape 5 = .ok (.aload_n 0, 1) := by decide +kernel
theorem dX4_readTape_6 : decode cX4_readTape 6 = .ok (.iconst 0, 1) := by decide +kernel
theorem dX4_readTape_7 : decode cX4_readTape 7 = .ok (.putfield 29, 3) := by decide +kernel
theorem dX4_readTape_10 : decode cX4_readTape 10 = .ok (.aload_n 0, 1) := by decide +kernel
theorem dX4_readTape_11 : decode cX4_readTape 11 = .ok (.getfield 18, 3) := by decide +kernel
theorem dX4_readTape_14 : decode cX4_readTape 14 = .ok (.invokevirtual 32, 3) := by decide +kernel
theorem dX4_readTape_17 : decode cX4_readTape 17 = .ok (.aload_n 0, 1) := by decide +kernel
theorem dX4_readTape_18 : decode cX4_readTape 18 = .ok (.invokevirtual 35, 3) := by decide +kernel
theorem dX4_readTape_21 : decode cX4_readTape 21 = .ok (.ifCond .eq 24, 3) := by decide +kernel
theorem dX4_readTape_24 : decode cX4_readTape 24 = .ok (.aload_n 0, 1) := by decide +kernel
theorem dX4_readTape_25 : decode cX4_readTape 25 = .ok (.invokevirtual 39, 3) := by decide +kernel
theorem dX4_readTape_28 : decode cX4_readTape 28 = .ok (.ifCond .eq 17, 3) := by decide +kernel
theorem dX4_readTape_31 : decode cX4_readTape 31 = .ok (.aload_n 0, 1) := by decide +kernel
theorem dX4_readTape_32 : decode cX4_readTape 32 = .ok (.invokevirtual 42, 3) := by decide +kernel
theorem dX4_readTape_35 : decode cX4_readTape 35 = .ok (.ifCond .eq 10, 3) := by decide +kernel
theorem dX4_readTape_38 : decode cX4_readTape 38 = .ok (.aload_n 0, 1) := by decide +kernel
theorem dX4_readTape_39 : decode cX4_readTape 39 = .ok (.invokevirtual 45, 3) := by decide +kernel
theorem dX4_readTape_42 : decode cX4_readTape 42 = .ok (.ifCond .ne 5, 3) := by decide +kernel
theorem dX4_readTape_45 : decode cX4_readTape 45 = .ok (.iconst 0, 1) := by decide +kernel
theorem dX4_readTape_46 : decode cX4_readTape 46 = .ok (.ireturn, 1) := by decide +kernel
theorem dX4_readTape_47 : decode cX4_readTape 47 = .ok (.aload_n 0, 1) := by decide +kernel
theorem dX4_readTape_48 : decode cX4_readTape 48 = .ok (.getfield 26, 3) := by decide +kernel
theorem dX4_readTape_51 : decode cX4_readTape 51 = .ok (.aload_n 0, 1) := by decide +kernel
theorem dX4_readTape_52 : decode cX4_readTape 52 = .ok (.getfield 22, 3) := by decide +kernel
theorem dX4_readTape_55 : decode cX4_readTape 55 = .ok (.if_icmp .eq 11, 3) := by decide +kernel
theorem dX4_readTape_58 : decode cX4_readTape 58 = .ok (.aload_n 0, 1) := by decide +kernel
theorem dX4_readTape_59 : decode cX4_readTape 59 = .ok (.iconst 1, 1) := by decide +kernel
theorem dX4_readTape_60 : decode cX4_readTape 60 = .ok (.invokevirtual 48, 3) := by decide +kernel
theorem dX4_readTape_63 : decode cX4_readTape 63 = .ok (.ifCond .eq 7, 3) := by decide +kernel
theorem dX4_readTape_66 : decode cX4_readTape 66 = .ok (.iconst 1, 1) := by decide +kernel
theorem dX4_readTape_67 : decode cX4_readTape 67 = .ok (.goto 4, 3) := by decide +kernel
theorem dX4_readTape_70 : decode cX4_readTape 70 = .ok (.iconst 0, 1) := by decide +kernel
theorem dX4_readTape_71 : decode cX4_readTape 71 = .ok (.ireturn, 1) := by decide +kernel
theorem dX4_fail_0 : decode cX4_fail 0 = .ok (.aload_n 0, 1) := by decide +kernel
theorem dX4_fail_1 : decode cX4_fail 1 = .ok (.iload_n 1, 1) := by decide +kernel
theorem dX4_fail_2 : decode cX4_fail 2 = .ok (.putfield 29, 3) := by decide +kernel
theorem dX4_fail_5 : decode cX4_fail 5 = .ok (.iconst 0, 1) := by decide +kernel
theorem dX4_fail_6 : decode cX4_fail 6 = .ok (.ireturn, 1) := by decide +kernel
theorem dX4_next_0 : decode cX4_next 0 = .ok (.aload_n 0, 1) := by decide +kernel
theorem dX4_next_1 : decode cX4_next 1 = .ok (.getfield 26, 3) := by decide +kernel
theorem dX4_next_4 : decode cX4_next 4 = .ok (.aload_n 0, 1) := by decide +kernel
theorem dX4_next_5 : decode cX4_next 5 = .ok (.getfield 22, 3) := by decide +kernel
theorem dX4_next_8 : decode cX4_next 8 = .ok (.if_icmp .ge 15, 3) := by decide +kernel
theorem dX4_next_11 : decode cX4_next 11 = .ok (.aload_n 0, 1) := by decide +kernel
theorem dX4_next_12 : decode cX4_next 12 = .ok (.getfield 9, 3) := by decide +kernel
theorem dX4_next_15 : decode cX4_next 15 = .ok (.aload_n 0, 1) := by decide +kernel
theorem dX4_next_16 : decode cX4_next 16 = .ok (.getfield 26, 3) := by decide +kernel
theorem dX4_next_19 : decode cX4_next 19 = .ok (.iaload, 1) := by decide +kernel
theorem dX4_next_20 : decode cX4_next 20 = .ok (.goto 4, 3) := by decide +kernel
theorem dX4_next_23 : decode cX4_next 23 = .ok (.iconst (-1), 1) := by decide +kernel
theorem dX4_next_24 : decode cX4_next 24 = .ok (.ireturn, 1) := by decide +kernel
theorem dX4_isFigure_0 : decode cX4_isFigure 0 = .ok (.iload_n 1, 1) := by decide +kernel
theorem dX4_isFigure_1 : decode cX4_isFigure 1 = .ok (.aload_n 0, 1) := by decide +kernel
theorem dX4_isFigure_2 : decode cX4_isFigure 2 = .ok (.getfield 22, 3) := by decide +kernel
theorem dX4_isFigure_5 : decode cX4_isFigure 5 = .ok (.if_icmp .ge 29, 3) := by decide +kernel
theorem dX4_isFigure_8 : decode cX4_isFigure 8 = .ok (.aload_n 0, 1) := by decide +kernel
theorem dX4_isFigure_9 : decode cX4_isFigure 9 = .ok (.getfield 9, 3) := by decide +kernel
theorem dX4_isFigure_12 : decode cX4_isFigure 12 = .ok (.iload_n 1, 1) := by decide +kernel
theorem dX4_isFigure_13 : decode cX4_isFigure 13 = .ok (.iaload, 1) := by decide +kernel
theorem dX4_isFigure_14 : decode cX4_isFigure 14 = .ok (.bipush 48, 2) := by decide +kernel
theorem dX4_isFigure_16 : decode cX4_isFigure 16 = .ok (.if_icmp .lt 18, 3) := by decide +kernel
theorem dX4_isFigure_19 : decode cX4_isFigure 19 = .ok (.aload_n 0, 1) := by decide +kernel
theorem dX4_isFigure_20 : decode cX4_isFigure 20 = .ok (.getfield 9, 3) := by decide +kernel
theorem dX4_isFigure_23 : decode cX4_isFigure 23 = .ok (.iload_n 1, 1) := by decide +kernel
theorem dX4_isFigure_24 : decode cX4_isFigure 24 = .ok (.iaload, 1) := by decide +kernel
theorem dX4_isFigure_25 : decode cX4_isFigure 25 = .ok (.bipush 57, 2) := by decide +kernel
theorem dX4_isFigure_27 : decode cX4_isFigure 27 = .ok (.if_icmp .gt 7, 3) := by decide +kernel
theorem dX4_isFigure_30 : decode cX4_isFigure 30 = .ok (.iconst 1, 1) := by decide +kernel
theorem dX4_isFigure_31 : decode cX4_isFigure 31 = .ok (.goto 4, 3) := by decide +kernel
theorem dX4_isFigure_34 : decode cX4_isFigure 34 = .ok (.iconst 0, 1) := by decide +kernel
theorem dX4_isFigure_35 : decode cX4_isFigure 35 = .ok (.ireturn, 1) := by decide +kernel
theorem dX4_readSign_0 : decode cX4_readSign 0 = .ok (.aload_n 0, 1) := by decide +kernel
theorem dX4_readSign_1 : decode cX4_readSign 1 = .ok (.invokevirtual 52, 3) := by decide +kernel
theorem dX4_readSign_4 : decode cX4_readSign 4 = .ok (.iload_n 1, 1) := by decide +kernel
theorem dX4_readSign_5 : decode cX4_readSign 5 = .ok (.if_icmp .eq 9, 3) := by decide +kernel
theorem dX4_readSign_8 : decode cX4_readSign 8 = .ok (.aload_n 0, 1) := by decide +kernel
theorem dX4_readSign_9 : decode cX4_readSign 9 = .ok (.iconst 1, 1) := by decide +kernel
theorem dX4_readSign_10 : decode cX4_readSign 10 = .ok (.invokevirtual 48, 3) := by decide +kernel
theorem dX4_readSign_13 : decode cX4_readSign 13 = .ok (.ireturn, 1) := by decide +kernel
theorem dX4_readSign_14 : decode cX4_readSign 14 = .ok (.aload_n 0, 1) := by decide +kernel
theorem dX4_readSign_15 : decode cX4_readSign 15 = .ok (.dup, 1) := by decide +kernel
theorem dX4_readSign_16 : decode cX4_readSign 16 = .ok (.getfield 26, 3) := by decide +kernel
theorem dX4_readSign_19 : decode cX4_readSign 19 = .ok (.iconst 1, 1) := by decide +kernel
theorem dX4_readSign_20 : decode cX4_readSign 20 = .ok (.iadd, 1) := by decide +kernel
theorem dX4_readSign_21 : decode cX4_readSign 21 = .ok (.putfield 26, 3) := by decide +kernel
theorem dX4_readSign_24 : decode cX4_readSign 24 = .ok (.iconst 1, 1) := by decide +kernel
theorem dX4_readSign_25 : decode cX4_readSign 25 = .ok (.ireturn, 1) := by decide +kernel
theorem dX4_readNumber_0 : decode cX4_readNumber 0 = .ok (.aload_n 0, 1) := by decide +kernel
theorem dX4_readNumber_1 : decode cX4_readNumber 1 = .ok (.getfield 26, 3) := by decide +kernel
theorem dX4_readNumber_4 : decode cX4_readNumber 4 = .ok (.istore_n 3, 1) := by decide +kernel
theorem dX4_readNumber_5 : decode cX4_readNumber 5 = .ok (.iload_n 3, 1) := by decide +kernel
theorem dX4_readNumber_6 : decode cX4_readNumber 6 = .ok (.aload_n 0, 1) := by decide +kernel
theorem dX4_readNumber_7 : decode cX4_readNumber 7 = .ok (.getfield 22, 3) := by decide +kernel
theorem dX4_readNumber_10 : decode cX4_readNumber 10 = .ok (.if_icmp .ge 17, 3) := by decide +kernel
theorem dX4_readNumber_13 : decode cX4_readNumber 13 = .ok (.aload_n 0, 1) := by decide +kernel
theorem dX4_readNumber_14 : decode cX4_readNumber 14 = .ok (.iload_n 3, 1) := by decide +kernel
theorem dX4_readNumber_15 : decode cX4_readNumber 15 = .ok (.invokevirtual 56, 3) := by decide +kernel
theorem dX4_readNumber_18 : decode cX4_readNumber 18 = .ok (.ifCond .eq 9, 3) := by decide +kernel
theorem dX4_readNumber_21 : decode cX4_readNumber 21 = .ok (.iinc 3 1, 3) := by decide +kernel
theorem dX4_readNumber_24 : decode cX4_readNumber 24 = .ok (.goto (-19), 3) := by decide +kernel
theorem dX4_readNumber_27 : decode cX4_readNumber 27 = .ok (.iload_n 3, 1) := by decide +kernel
theorem dX4_readNumber_28 : decode cX4_readNumber 28 = .ok (.aload_n 0, 1) := by decide +kernel
theorem dX4_readNumber_29 : decode cX4_readNumber 29 = .ok (.getfield 26, 3) := by decide +kernel
theorem dX4_readNumber_32 : decode cX4_readNumber 32 = .ok (.if_icmp .eq 13, 3) := by decide +kernel
theorem dX4_readNumber_35 : decode cX4_readNumber 35 = .ok (.iload_n 3, 1) := by decide +kernel
theorem dX4_readNumber_36 : decode cX4_readNumber 36 = .ok (.aload_n 0, 1) := by decide +kernel
theorem dX4_readNumber_37 : decode cX4_readNumber 37 = .ok (.getfield 26, 3) := by decide +kernel
theorem dX4_readNumber_40 : decode cX4_readNumber 40 = .ok (.isub, 1) := by decide +kernel
theorem dX4_readNumber_41 : decode cX4_readNumber 41 = .ok (.iconst 2, 1) := by decide +kernel
theorem dX4_readNumber_42 : decode cX4_readNumber 42 = .ok (.if_icmp .le 10, 3) := by decide +kernel
theorem dX4_readNumber_45 : decode cX4_readNumber 45 = .ok (.aload_n 0, 1) := by decide +kernel
theorem dX4_readNumber_46 : decode cX4_readNumber 46 = .ok (.iconst 1, 1) := by decide +kernel
theorem dX4_readNumber_47 : decode cX4_readNumber 47 = .ok (.putfield 29, 3) := by decide +kernel
theorem dX4_readNumber_50 : decode cX4_readNumber 50 = .ok (.iconst (-1), 1) := by decide +kernel
theorem dX4_readNumber_51 : decode cX4_readNumber 51 = .ok (.ireturn, 1) := by decide +kernel
theorem dX4_readNumber_52 : decode cX4_readNumber 52 = .ok (.aload_n 0, 1) := by decide +kernel
theorem dX4_readNumber_53 : decode cX4_readNumber 53 = .ok (.getfield 9, 3) := by decide +kernel
theorem dX4_readNumber_56 : decode cX4_readNumber 56 = .ok (.aload_n 0, 1) := by decide +kernel
theorem dX4_readNumber_57 : decode cX4_readNumber 57 = .ok (.getfield 26, 3) := by decide +kernel
theorem dX4_readNumber_60 : decode cX4_readNumber 60 = .ok (.iaload, 1) := by decide +kernel
theorem dX4_readNumber_61 : decode cX4_readNumber 61 = .ok (.bipush 48, 2) := by decide +kernel
theorem dX4_readNumber_63 : decode cX4_readNumber 63 = .ok (.isub, 1) := by decide +kernel
theorem dX4_readNumber_64 : decode cX4_readNumber 64 = .ok (.istore 4, 2) := by decide +kernel
theorem dX4_readNumber_66 : decode cX4_readNumber 66 = .ok (.iload_n 3, 1) := by decide +kernel
theorem dX4_readNumber_67 : decode cX4_readNumber 67 = .ok (.aload_n 0, 1) := by decide +kernel
theorem dX4_readNumber_68 : decode cX4_readNumber 68 = .ok (.getfield 26, 3) := by decide +kernel
theorem dX4_readNumber_71 : decode cX4_readNumber 71 = .ok (.isub, 1) := by decide +kernel
theorem dX4_readNumber_72 : decode cX4_readNumber 72 = .ok (.iconst 2, 1) := by decide +kernel
theorem dX4_readNumber_73 : decode cX4_readNumber 73 = .ok (.if_icmp .ne 25, 3) := by decide +kernel
theorem dX4_readNumber_76 : decode cX4_readNumber 76 = .ok (.iload 4, 2) := by decide +kernel
theorem dX4_readNumber_78 : decode cX4_readNumber 78 = .ok (.bipush 10, 2) := by decide +kernel
theorem dX4_readNumber_80 : decode cX4_readNumber 80 = .ok (.imul, 1) := by decide +kernel
theorem dX4_readNumber_81 : decode cX4_readNumber 81 = .ok (.aload_n 0, 1) := by decide +kernel
theorem dX4_readNumber_82 : decode cX4_readNumber 82 = .ok (.getfield 9, 3) := by decide +kernel
theorem dX4_readNumber_85 : decode cX4_readNumber 85 = .ok (.aload_n 0, 1) := by decide +kernel
theorem dX4_readNumber_86 : decode cX4_readNumber 86 = .ok (.getfield 26, 3) := by decide +kernel
theorem dX4_readNumber_89 : decode cX4_readNumber 89 = .ok (.iconst 1, 1) := by decide +kernel
theorem dX4_readNumber_90 : decode cX4_readNumber 90 = .ok (.iadd, 1) := by decide +kernel
theorem dX4_readNumber_91 : decode cX4_readNumber 91 = .ok (.iaload, 1) := by decide +kernel
theorem dX4_readNumber_92 : decode cX4_readNumber 92 = .ok (.iadd, 1) := by decide +kernel
theorem dX4_readNumber_93 : decode cX4_readNumber 93 = .ok (.bipush 48, 2) := by decide +kernel
theorem dX4_readNumber_95 : decode cX4_readNumber 95 = .ok (.isub, 1) := by decide +kernel
theorem dX4_readNumber_96 : decode cX4_readNumber 96 = .ok (.istore 4, 2) := by decide +kernel
theorem dX4_readNumber_98 : decode cX4_readNumber 98 = .ok (.iload 4, 2) := by decide +kernel
theorem dX4_readNumber_100 : decode cX4_readNumber 100 = .ok (.iload_n 1, 1) := by decide +kernel
theorem dX4_readNumber_101 : decode cX4_readNumber 101 = .ok (.if_icmp .lt 9, 3) := by decide +kernel
theorem dX4_readNumber_104 : decode cX4_readNumber 104 = .ok (.iload 4, 2) := by decide +kernel
theorem dX4_readNumber_106 : decode cX4_readNumber 106 = .ok (.iload_n 2, 1) := by decide +kernel
theorem dX4_readNumber_107 : decode cX4_readNumber 107 = .ok (.if_icmp .le 10, 3) := by decide +kernel
theorem dX4_readNumber_110 : decode cX4_readNumber 110 = .ok (.aload_n 0, 1) := by decide +kernel
theorem dX4_readNumber_111 : decode cX4_readNumber 111 = .ok (.iconst 2, 1) := by decide +kernel
theorem dX4_readNumber_112 : decode cX4_readNumber 112 = .ok (.putfield 29, 3) := by decide +kernel
theorem dX4_readNumber_115 : decode cX4_readNumber 115 = .ok (.iconst (-1), 1) := by decide +kernel
theorem dX4_readNumber_116 : decode cX4_readNumber 116 = .ok (.ireturn, 1) := by decide +kernel
theorem dX4_readNumber_117 : decode cX4_readNumber 117 = .ok (.aload_n 0, 1) := by decide +kernel
theorem dX4_readNumber_118 : decode cX4_readNumber 118 = .ok (.iload_n 3, 1) := by decide +kernel
theorem dX4_readNumber_119 : decode cX4_readNumber 119 = .ok (.putfield 26, 3) := by decide +kernel
theorem dX4_readNumber_122 : decode cX4_readNumber 122 = .ok (.iload 4, 2) := by decide +kernel
theorem dX4_readNumber_124 : decode cX4_readNumber 124 = .ok (.ireturn, 1) := by decide +kernel
theorem dX4_readNumberAndSign_0 : decode cX4_readNumberAndSign 0 = .ok (.aload_n 0, 1) := by decide +kernel
theorem dX4_readNumberAndSign_1 : decode cX4_readNumberAndSign 1 = .ok (.iload_n 1, 1) := by decide +kernel
theorem dX4_readNumberAndSign_2 : decode cX4_readNumberAndSign 2 = .ok (.iload_n 2, 1) := by decide +kernel
theorem dX4_readNumberAndSign_3 : decode cX4_readNumberAndSign 3 = .ok (.invokevirtual 59, 3) := by decide +kernel
theorem dX4_readNumberAndSign_6 : decode cX4_readNumberAndSign 6 = .ok (.istore 4, 2) := by decide +kernel
theorem dX4_readNumberAndSign_8 : decode cX4_readNumberAndSign 8 = .ok (.iload 4, 2) := by decide +kernel
theorem dX4_readNumberAndSign_10 : decode cX4_readNumberAndSign 10 = .ok (.ifCond .lt 16, 3) := by decide +kernel
theorem dX4_readNumberAndSign_13 : decode cX4_readNumberAndSign 13 = .ok (.aload_n 0, 1) := by decide +kernel
theorem dX4_readNumberAndSign_14 : decode cX4_readNumberAndSign 14 = .ok (.iload_n 3, 1) := by decide +kernel
theorem dX4_readNumberAndSign_15 : decode cX4_readNumberAndSign 15 = .ok (.invokevirtual 63, 3) := by decide +kernel
theorem dX4_readNumberAndSign_18 : decode cX4_readNumberAndSign 18 = .ok (.ifCond .eq 8, 3) := by decide +kernel
theorem dX4_readNumberAndSign_21 : decode cX4_readNumberAndSign 21 = .ok (.iload 4, 2) := by decide +kernel
theorem dX4_readNumberAndSign_23 : decode cX4_readNumberAndSign 23 = .ok (.goto 4, 3) := by decide +kernel
theorem dX4_readNumberAndSign_26 : decode cX4_readNumberAndSign 26 = .ok (.iconst (-1), 1) := by decide +kernel
theorem dX4_readNumberAndSign_27 : decode cX4_readNumberAndSign 27 = .ok (.ireturn, 1) := by decide +kernel
theorem dX4_readLaw_0 : decode cX4_readLaw 0 = .ok (.aload_n 0, 1) := by decide +kernel
theorem dX4_readLaw_1 : decode cX4_readLaw 1 = .ok (.bipush 105, 2) := by decide +kernel
theorem dX4_readLaw_3 : decode cX4_readLaw 3 = .ok (.invokevirtual 63, 3) := by decide +kernel
theorem dX4_readLaw_6 : decode cX4_readLaw 6 = .ok (.ifCond .ne 5, 3) := by decide +kernel
theorem dX4_readLaw_9 : decode cX4_readLaw 9 = .ok (.iconst 0, 1) := by decide +kernel
theorem dX4_readLaw_10 : decode cX4_readLaw 10 = .ok (.ireturn, 1) := by decide +kernel
theorem dX4_readLaw_11 : decode cX4_readLaw 11 = .ok (.aload_n 0, 1) := by decide +kernel
theorem dX4_readLaw_12 : decode cX4_readLaw 12 = .ok (.getfield 18, 3) := by decide +kernel
theorem dX4_readLaw_15 : decode cX4_readLaw 15 = .ok (.aload_n 0, 1) := by decide +kernel
theorem dX4_readLaw_16 : decode cX4_readLaw 16 = .ok (.iconst 1, 1) := by decide +kernel
theorem dX4_readLaw_17 : decode cX4_readLaw 17 = .ok (.bipush 99, 2) := by decide +kernel
theorem dX4_readLaw_19 : decode cX4_readLaw 19 = .ok (.bipush 44, 2) := by decide +kernel
theorem dX4_readLaw_21 : decode cX4_readLaw 21 = .ok (.invokevirtual 66, 3) := by decide +kernel
theorem dX4_readLaw_24 : decode cX4_readLaw 24 = .ok (.putfield 70, 3) := by decide +kernel
theorem dX4_readLaw_27 : decode cX4_readLaw 27 = .ok (.aload_n 0, 1) := by decide +kernel
theorem dX4_readLaw_28 : decode cX4_readLaw 28 = .ok (.getfield 18, 3) := by decide +kernel
theorem dX4_readLaw_31 : decode cX4_readLaw 31 = .ok (.getfield 70, 3) := by decide +kernel
theorem dX4_readLaw_34 : decode cX4_readLaw 34 = .ok (.ifCond .ge 5, 3) := by decide +kernel
theorem dX4_readLaw_37 : decode cX4_readLaw 37 = .ok (.iconst 0, 1) := by decide +kernel
theorem dX4_readLaw_38 : decode cX4_readLaw 38 = .ok (.ireturn, 1) := by decide +kernel
theorem dX4_readLaw_39 : decode cX4_readLaw 39 = .ok (.aload_n 0, 1) := by decide +kernel
theorem dX4_readLaw_40 : decode cX4_readLaw 40 = .ok (.getfield 18, 3) := by decide +kernel
theorem dX4_readLaw_43 : decode cX4_readLaw 43 = .ok (.aload_n 0, 1) := by decide +kernel
theorem dX4_readLaw_44 : decode cX4_readLaw 44 = .ok (.iconst 1, 1) := by decide +kernel
theorem dX4_readLaw_45 : decode cX4_readLaw 45 = .ok (.bipush 99, 2) := by decide +kernel
theorem dX4_readLaw_47 : decode cX4_readLaw 47 = .ok (.bipush 59, 2) := by decide +kernel
theorem dX4_readLaw_49 : decode cX4_readLaw 49 = .ok (.invokevirtual 66, 3) := by decide +kernel
theorem dX4_readLaw_52 : decode cX4_readLaw 52 = .ok (.putfield 73, 3) := by decide +kernel
theorem dX4_readLaw_55 : decode cX4_readLaw 55 = .ok (.aload_n 0, 1) := by decide +kernel
theorem dX4_readLaw_56 : decode cX4_readLaw 56 = .ok (.getfield 18, 3) := by decide +kernel
theorem dX4_readLaw_59 : decode cX4_readLaw 59 = .ok (.getfield 73, 3) := by decide +kernel
theorem dX4_readLaw_62 : decode cX4_readLaw 62 = .ok (.ifCond .lt 7, 3) := by decide +kernel
theorem dX4_readLaw_65 : decode cX4_readLaw 65 = .ok (.iconst 1, 1) := by decide +kernel
theorem dX4_readLaw_66 : decode cX4_readLaw 66 = .ok (.goto 4, 3) := by decide +kernel
theorem dX4_readLaw_69 : decode cX4_readLaw 69 = .ok (.iconst 0, 1) := by decide +kernel
theorem dX4_readLaw_70 : decode cX4_readLaw 70 = .ok (.ireturn, 1) := by decide +kernel
theorem dX4_kindOfSort_0 : decode cX4_kindOfSort 0 = .ok (.iload_n 0, 1) := by decide +kernel
theorem dX4_kindOfSort_1 : decode cX4_kindOfSort 1 = .ok (.tableswitch 73 104 115 #[69, 73, 73, 73, 71, 73, 73, 73, 65, 73, 67, 63], 63) := by decide +kernel
theorem dX4_kindOfSort_64 : decode cX4_kindOfSort 64 = .ok (.iconst 1, 1) := by decide +kernel
theorem dX4_kindOfSort_65 : decode cX4_kindOfSort 65 = .ok (.ireturn, 1) := by decide +kernel
theorem dX4_kindOfSort_66 : decode cX4_kindOfSort 66 = .ok (.iconst 2, 1) := by decide +kernel
theorem dX4_kindOfSort_67 : decode cX4_kindOfSort 67 = .ok (.ireturn, 1) := by decide +kernel
theorem dX4_kindOfSort_68 : decode cX4_kindOfSort 68 = .ok (.iconst 3, 1) := by decide +kernel
theorem dX4_kindOfSort_69 : decode cX4_kindOfSort 69 = .ok (.ireturn, 1) := by decide +kernel
theorem dX4_kindOfSort_70 : decode cX4_kindOfSort 70 = .ok (.iconst 4, 1) := by decide +kernel
theorem dX4_kindOfSort_71 : decode cX4_kindOfSort 71 = .ok (.ireturn, 1) := by decide +kernel
theorem dX4_kindOfSort_72 : decode cX4_kindOfSort 72 = .ok (.iconst 5, 1) := by decide +kernel
theorem dX4_kindOfSort_73 : decode cX4_kindOfSort 73 = .ok (.ireturn, 1) := by decide +kernel
theorem dX4_kindOfSort_74 : decode cX4_kindOfSort 74 = .ok (.iconst 0, 1) := by decide +kernel
theorem dX4_kindOfSort_75 : decode cX4_kindOfSort 75 = .ok (.ireturn, 1) := by decide +kernel
theorem dX4_readHands_0 : decode cX4_readHands 0 = .ok (.iconst 0, 1) := by decide +kernel
theorem dX4_readHands_1 : decode cX4_readHands 1 = .ok (.istore_n 1, 1) := by decide +kernel
theorem dX4_readHands_2 : decode cX4_readHands 2 = .ok (.iload_n 1, 1) := by decide +kernel
theorem dX4_readHands_3 : decode cX4_readHands 3 = .ok (.iconst 4, 1) := by decide +kernel
theorem dX4_readHands_4 : decode cX4_readHands 4 = .ok (.if_icmp .gt 28, 3) := by decide +kernel
theorem dX4_readHands_7 : decode cX4_readHands 7 = .ok (.aload_n 0, 1) := by decide +kernel
theorem dX4_readHands_8 : decode cX4_readHands 8 = .ok (.invokevirtual 52, 3) := by decide +kernel
theorem dX4_readHands_11 : decode cX4_readHands 11 = .ok (.invokestatic 76, 3) := by decide +kernel
theorem dX4_readHands_14 : decode cX4_readHands 14 = .ok (.ifCond .eq 18, 3) := by decide +kernel
theorem dX4_readHands_17 : decode cX4_readHands 17 = .ok (.aload_n 0, 1) := by decide +kernel
theorem dX4_readHands_18 : decode cX4_readHands 18 = .ok (.invokevirtual 80, 3) := by decide +kernel
theorem dX4_readHands_21 : decode cX4_readHands 21 = .ok (.ifCond .ne 5, 3) := by decide +kernel
theorem dX4_readHands_24 : decode cX4_readHands 24 = .ok (.iconst 0, 1) := by decide +kernel
theorem dX4_readHands_25 : decode cX4_readHands 25 = .ok (.ireturn, 1) := by decide +kernel
theorem dX4_readHands_26 : decode cX4_readHands 26 = .ok (.iinc 1 1, 3) := by decide +kernel
theorem dX4_readHands_29 : decode cX4_readHands 29 = .ok (.goto (-27), 3) := by decide +kernel
theorem dX4_readHands_32 : decode cX4_readHands 32 = .ok (.aload_n 0, 1) := by decide +kernel
theorem dX4_readHands_33 : decode cX4_readHands 33 = .ok (.getfield 18, 3) := by decide +kernel
theorem dX4_readHands_36 : decode cX4_readHands 36 = .ok (.getfield 83, 3) := by decide +kernel
theorem dX4_readHands_39 : decode cX4_readHands 39 = .ok (.ifCond .gt 11, 3) := by decide +kernel
theorem dX4_readHands_42 : decode cX4_readHands 42 = .ok (.aload_n 0, 1) := by decide +kernel
theorem dX4_readHands_43 : decode cX4_readHands 43 = .ok (.iconst 1, 1) := by decide +kernel
theorem dX4_readHands_44 : decode cX4_readHands 44 = .ok (.invokevirtual 48, 3) := by decide +kernel
theorem dX4_readHands_47 : decode cX4_readHands 47 = .ok (.ifCond .eq 7, 3) := by decide +kernel
theorem dX4_readHands_50 : decode cX4_readHands 50 = .ok (.iconst 1, 1) := by decide +kernel
theorem dX4_readHands_51 : decode cX4_readHands 51 = .ok (.goto 4, 3) := by decide +kernel
theorem dX4_readHands_54 : decode cX4_readHands 54 = .ok (.iconst 0, 1) := by decide +kernel
theorem dX4_readHands_55 : decode cX4_readHands 55 = .ok (.ireturn, 1) := by decide +kernel
theorem dX4_readHand_0 : decode cX4_readHand 0 = .ok (.aload_n 0, 1) := by decide +kernel
theorem dX4_readHand_1 : decode cX4_readHand 1 = .ok (.getfield 18, 3) := by decide +kernel
theorem dX4_readHand_4 : decode cX4_readHand 4 = .ok (.getfield 83, 3) := by decide +kernel
theorem dX4_readHand_7 : decode cX4_readHand 7 = .ok (.iconst 4, 1) := by decide +kernel
theorem dX4_readHand_8 : decode cX4_readHand 8 = .ok (.if_icmp .lt 9, 3) := by decide +kernel
theorem dX4_readHand_11 : decode cX4_readHand 11 = .ok (.aload_n 0, 1) := by decide +kernel
theorem dX4_readHand_12 : decode cX4_readHand 12 = .ok (.iconst 3, 1) := by decide +kernel
theorem dX4_readHand_13 : decode cX4_readHand 13 = .ok (.invokevirtual 48, 3) := by decide +kernel
theorem dX4_readHand_16 : decode cX4_readHand 16 = .ok (.ireturn, 1) := by decide +kernel
theorem dX4_readHand_17 : decode cX4_readHand 17 = .ok (.aload_n 0, 1) := by decide +kernel
theorem dX4_readHand_18 : decode cX4_readHand 18 = .ok (.invokevirtual 52, 3) := by decide +kernel
theorem dX4_readHand_21 : decode cX4_readHand 21 = .ok (.invokestatic 76, 3) := by decide +kernel
theorem dX4_readHand_24 : decode cX4_readHand 24 = .ok (.istore_n 1, 1) := by decide +kernel
theorem dX4_readHand_25 : decode cX4_readHand 25 = .ok (.aload_n 0, 1) := by decide +kernel
theorem dX4_readHand_26 : decode cX4_readHand 26 = .ok (.dup, 1) := by decide +kernel
theorem dX4_readHand_27 : decode cX4_readHand 27 = .ok (.getfield 26, 3) := by decide +kernel
theorem dX4_readHand_30 : decode cX4_readHand 30 = .ok (.iconst 1, 1) := by decide +kernel
theorem dX4_readHand_31 : decode cX4_readHand 31 = .ok (.iadd, 1) := by decide +kernel
theorem dX4_readHand_32 : decode cX4_readHand 32 = .ok (.putfield 26, 3) := by decide +kernel
theorem dX4_readHand_35 : decode cX4_readHand 35 = .ok (.aload_n 0, 1) := by decide +kernel
theorem dX4_readHand_36 : decode cX4_readHand 36 = .ok (.iconst 0, 1) := by decide +kernel
theorem dX4_readHand_37 : decode cX4_readHand 37 = .ok (.bipush 9, 2) := by decide +kernel
theorem dX4_readHand_39 : decode cX4_readHand 39 = .ok (.bipush 59, 2) := by decide +kernel
theorem dX4_readHand_41 : decode cX4_readHand 41 = .ok (.invokevirtual 66, 3) := by decide +kernel
theorem dX4_readHand_44 : decode cX4_readHand 44 = .ok (.istore_n 2, 1) := by decide +kernel
theorem dX4_readHand_45 : decode cX4_readHand 45 = .ok (.iload_n 2, 1) := by decide +kernel
theorem dX4_readHand_46 : decode cX4_readHand 46 = .ok (.ifCond .ge 5, 3) := by decide +kernel
theorem dX4_readHand_49 : decode cX4_readHand 49 = .ok (.iconst 0, 1) := by decide +kernel
theorem dX4_readHand_50 : decode cX4_readHand 50 = .ok (.ireturn, 1) := by decide +kernel
theorem dX4_readHand_51 : decode cX4_readHand 51 = .ok (.aload_n 0, 1) := by decide +kernel
theorem dX4_readHand_52 : decode cX4_readHand 52 = .ok (.getfield 18, 3) := by decide +kernel
theorem dX4_readHand_55 : decode cX4_readHand 55 = .ok (.iload_n 1, 1) := by decide +kernel
theorem dX4_readHand_56 : decode cX4_readHand 56 = .ok (.iload_n 2, 1) := by decide +kernel
theorem dX4_readHand_57 : decode cX4_readHand 57 = .ok (.invokevirtual 86, 3) := by decide +kernel
theorem dX4_readHand_60 : decode cX4_readHand 60 = .ok (.iconst 1, 1) := by decide +kernel
theorem dX4_readHand_61 : decode cX4_readHand 61 = .ok (.ireturn, 1) := by decide +kernel
theorem dX4_readCopies_0 : decode cX4_readCopies 0 = .ok (.iconst 0, 1) := by decide +kernel
theorem dX4_readCopies_1 : decode cX4_readCopies 1 = .ok (.istore_n 1, 1) := by decide +kernel
theorem dX4_readCopies_2 : decode cX4_readCopies 2 = .ok (.iload_n 1, 1) := by decide +kernel
theorem dX4_readCopies_3 : decode cX4_readCopies 3 = .ok (.bipush 10, 2) := by decide +kernel
theorem dX4_readCopies_5 : decode cX4_readCopies 5 = .ok (.if_icmp .gt 27, 3) := by decide +kernel
theorem dX4_readCopies_8 : decode cX4_readCopies 8 = .ok (.aload_n 0, 1) := by decide +kernel
theorem dX4_readCopies_9 : decode cX4_readCopies 9 = .ok (.invokevirtual 52, 3) := by decide +kernel
theorem dX4_readCopies_12 : decode cX4_readCopies 12 = .ok (.bipush 119, 2) := by decide +kernel
theorem dX4_readCopies_14 : decode cX4_readCopies 14 = .ok (.if_icmp .ne 18, 3) := by decide +kernel
theorem dX4_readCopies_17 : decode cX4_readCopies 17 = .ok (.aload_n 0, 1) := by decide +kernel
theorem dX4_readCopies_18 : decode cX4_readCopies 18 = .ok (.invokevirtual 90, 3) := by decide +kernel
theorem dX4_readCopies_21 : decode cX4_readCopies 21 = .ok (.ifCond .ne 5, 3) := by decide +kernel
theorem dX4_readCopies_24 : decode cX4_readCopies 24 = .ok (.iconst 0, 1) := by decide +kernel
theorem dX4_readCopies_25 : decode cX4_readCopies 25 = .ok (.ireturn, 1) := by decide +kernel
theorem dX4_readCopies_26 : decode cX4_readCopies 26 = .ok (.iinc 1 1, 3) := by decide +kernel
theorem dX4_readCopies_29 : decode cX4_readCopies 29 = .ok (.goto (-27), 3) := by decide +kernel
theorem dX4_readCopies_32 : decode cX4_readCopies 32 = .ok (.iconst 1, 1) := by decide +kernel
theorem dX4_readCopies_33 : decode cX4_readCopies 33 = .ok (.ireturn, 1) := by decide +kernel
theorem dX4_readCopy_0 : decode cX4_readCopy 0 = .ok (.aload_n 0, 1) := by decide +kernel
theorem dX4_readCopy_1 : decode cX4_readCopy 1 = .ok (.getfield 18, 3) := by decide +kernel
theorem dX4_readCopy_4 : decode cX4_readCopy 4 = .ok (.getfield 93, 3) := by decide +kernel
theorem dX4_readCopy_7 : decode cX4_readCopy 7 = .ok (.bipush 10, 2) := by decide +kernel
theorem dX4_readCopy_9 : decode cX4_readCopy 9 = .ok (.if_icmp .lt 9, 3) := by decide +kernel
theorem dX4_readCopy_12 : decode cX4_readCopy 12 = .ok (.aload_n 0, 1) := by decide +kernel
theorem dX4_readCopy_13 : decode cX4_readCopy 13 = .ok (.iconst 3, 1) := by decide +kernel
theorem dX4_readCopy_14 : decode cX4_readCopy 14 = .ok (.invokevirtual 48, 3) := by decide +kernel
theorem dX4_readCopy_17 : decode cX4_readCopy 17 = .ok (.ireturn, 1) := by decide +kernel
theorem dX4_readCopy_18 : decode cX4_readCopy 18 = .ok (.aload_n 0, 1) := by decide +kernel
theorem dX4_readCopy_19 : decode cX4_readCopy 19 = .ok (.dup, 1) := by decide +kernel
theorem dX4_readCopy_20 : decode cX4_readCopy 20 = .ok (.getfield 26, 3) := by decide +kernel
theorem dX4_readCopy_23 : decode cX4_readCopy 23 = .ok (.iconst 1, 1) := by decide +kernel
theorem dX4_readCopy_24 : decode cX4_readCopy 24 = .ok (.iadd, 1) := by decide +kernel
theorem dX4_readCopy_25 : decode cX4_readCopy 25 = .ok (.putfield 26, 3) := by decide +kernel
theorem dX4_readCopy_28 : decode cX4_readCopy 28 = .ok (.aload_n 0, 1) := by decide +kernel
theorem dX4_readCopy_29 : decode cX4_readCopy 29 = .ok (.iconst 0, 1) := by decide +kernel
theorem dX4_readCopy_30 : decode cX4_readCopy 30 = .ok (.iconst 5, 1) := by decide +kernel
theorem dX4_readCopy_31 : decode cX4_readCopy 31 = .ok (.bipush 44, 2) := by decide +kernel
theorem dX4_readCopy_33 : decode cX4_readCopy 33 = .ok (.invokevirtual 66, 3) := by decide +kernel
theorem dX4_readCopy_36 : decode cX4_readCopy 36 = .ok (.istore_n 1, 1) := by decide +kernel
theorem dX4_readCopy_37 : decode cX4_readCopy 37 = .ok (.iload_n 1, 1) := by decide +kernel
theorem dX4_readCopy_38 : decode cX4_readCopy 38 = .ok (.ifCond .ge 5, 3) := by decide +kernel
theorem dX4_readCopy_41 : decode cX4_readCopy 41 = .ok (.iconst 0, 1) := by decide +kernel
theorem dX4_readCopy_42 : decode cX4_readCopy 42 = .ok (.ireturn, 1) := by decide +kernel
theorem dX4_readCopy_43 : decode cX4_readCopy 43 = .ok (.aload_n 0, 1) := by decide +kernel
theorem dX4_readCopy_44 : decode cX4_readCopy 44 = .ok (.iconst 0, 1) := by decide +kernel
theorem dX4_readCopy_45 : decode cX4_readCopy 45 = .ok (.aload_n 0, 1) := by decide +kernel
theorem dX4_readCopy_46 : decode cX4_readCopy 46 = .ok (.getfield 18, 3) := by decide +kernel
theorem dX4_readCopy_49 : decode cX4_readCopy 49 = .ok (.getfield 83, 3) := by decide +kernel
theorem dX4_readCopy_52 : decode cX4_readCopy 52 = .ok (.iconst 1, 1) := by decide +kernel
theorem dX4_readCopy_53 : decode cX4_readCopy 53 = .ok (.isub, 1) := by decide +kernel
theorem dX4_readCopy_54 : decode cX4_readCopy 54 = .ok (.bipush 44, 2) := by decide +kernel
theorem dX4_readCopy_56 : decode cX4_readCopy 56 = .ok (.invokevirtual 66, 3) := by decide +kernel
theorem dX4_readCopy_59 : decode cX4_readCopy 59 = .ok (.istore_n 2, 1) := by decide +kernel
theorem dX4_readCopy_60 : decode cX4_readCopy 60 = .ok (.iload_n 2, 1) := by decide +kernel
theorem dX4_readCopy_61 : decode cX4_readCopy 61 = .ok (.ifCond .ge 5, 3) := by decide +kernel
theorem dX4_readCopy_64 : decode cX4_readCopy 64 = .ok (.iconst 0, 1) := by decide +kernel
theorem dX4_readCopy_65 : decode cX4_readCopy 65 = .ok (.ireturn, 1) := by decide +kernel
theorem dX4_readCopy_66 : decode cX4_readCopy 66 = .ok (.aload_n 0, 1) := by decide +kernel
theorem dX4_readCopy_67 : decode cX4_readCopy 67 = .ok (.iconst 1, 1) := by decide +kernel
theorem dX4_readCopy_68 : decode cX4_readCopy 68 = .ok (.bipush 9, 2) := by decide +kernel
theorem dX4_readCopy_70 : decode cX4_readCopy 70 = .ok (.bipush 59, 2) := by decide +kernel
theorem dX4_readCopy_72 : decode cX4_readCopy 72 = .ok (.invokevirtual 66, 3) := by decide +kernel
theorem dX4_readCopy_75 : decode cX4_readCopy 75 = .ok (.istore_n 3, 1) := by decide +kernel
theorem dX4_readCopy_76 : decode cX4_readCopy 76 = .ok (.iload_n 3, 1) := by decide +kernel
theorem dX4_readCopy_77 : decode cX4_readCopy 77 = .ok (.ifCond .ge 5, 3) := by decide +kernel
theorem dX4_readCopy_80 : decode cX4_readCopy 80 = .ok (.iconst 0, 1) := by decide +kernel
theorem dX4_readCopy_81 : decode cX4_readCopy 81 = .ok (.ireturn, 1) := by decide +kernel
theorem dX4_readCopy_82 : decode cX4_readCopy 82 = .ok (.aload_n 0, 1) := by decide +kernel
theorem dX4_readCopy_83 : decode cX4_readCopy 83 = .ok (.getfield 18, 3) := by decide +kernel
theorem dX4_readCopy_86 : decode cX4_readCopy 86 = .ok (.iload_n 1, 1) := by decide +kernel
theorem dX4_readCopy_87 : decode cX4_readCopy 87 = .ok (.iload_n 2, 1) := by decide +kernel
theorem dX4_readCopy_88 : decode cX4_readCopy 88 = .ok (.iload_n 3, 1) := by decide +kernel
theorem dX4_readCopy_89 : decode cX4_readCopy 89 = .ok (.invokevirtual 96, 3) := by decide +kernel
theorem dX4_readCopy_92 : decode cX4_readCopy 92 = .ok (.iconst 1, 1) := by decide +kernel
theorem dX4_readCopy_93 : decode cX4_readCopy 93 = .ok (.ireturn, 1) := by decide +kernel
theorem dX4_readDeeds_0 : decode cX4_readDeeds 0 = .ok (.iconst 0, 1) := by decide +kernel
theorem dX4_readDeeds_1 : decode cX4_readDeeds 1 = .ok (.istore_n 1, 1) := by decide +kernel
theorem dX4_readDeeds_2 : decode cX4_readDeeds 2 = .ok (.iload_n 1, 1) := by decide +kernel
theorem dX4_readDeeds_3 : decode cX4_readDeeds 3 = .ok (.iconst 5, 1) := by decide +kernel
theorem dX4_readDeeds_4 : decode cX4_readDeeds 4 = .ok (.if_icmp .gt 36, 3) := by decide +kernel
theorem dX4_readDeeds_7 : decode cX4_readDeeds 7 = .ok (.aload_n 0, 1) := by decide +kernel
theorem dX4_readDeeds_8 : decode cX4_readDeeds 8 = .ok (.invokevirtual 52, 3) := by decide +kernel
theorem dX4_readDeeds_11 : decode cX4_readDeeds 11 = .ok (.bipush 97, 2) := by decide +kernel
theorem dX4_readDeeds_13 : decode cX4_readDeeds 13 = .ok (.if_icmp .eq 12, 3) := by decide +kernel
theorem dX4_readDeeds_16 : decode cX4_readDeeds 16 = .ok (.aload_n 0, 1) := by decide +kernel
theorem dX4_readDeeds_17 : decode cX4_readDeeds 17 = .ok (.invokevirtual 52, 3) := by decide +kernel
theorem dX4_readDeeds_20 : decode cX4_readDeeds 20 = .ok (.bipush 121, 2) := by decide +kernel
theorem dX4_readDeeds_22 : decode cX4_readDeeds 22 = .ok (.if_icmp .ne 18, 3) := by decide +kernel
theorem dX4_readDeeds_25 : decode cX4_readDeeds 25 = .ok (.aload_n 0, 1) := by decide +kernel
theorem dX4_readDeeds_26 : decode cX4_readDeeds 26 = .ok (.invokevirtual 100, 3) := by decide +kernel
theorem dX4_readDeeds_29 : decode cX4_readDeeds 29 = .ok (.ifCond .ne 5, 3) := by decide +kernel
theorem dX4_readDeeds_32 : decode cX4_readDeeds 32 = .ok (.iconst 0, 1) := by decide +kernel
theorem dX4_readDeeds_33 : decode cX4_readDeeds 33 = .ok (.ireturn, 1) := by decide +kernel
theorem dX4_readDeeds_34 : decode cX4_readDeeds 34 = .ok (.iinc 1 1, 3) := by decide +kernel
theorem dX4_readDeeds_37 : decode cX4_readDeeds 37 = .ok (.goto (-35), 3) := by decide +kernel
theorem dX4_readDeeds_40 : decode cX4_readDeeds 40 = .ok (.iconst 1, 1) := by decide +kernel
theorem dX4_readDeeds_41 : decode cX4_readDeeds 41 = .ok (.ireturn, 1) := by decide +kernel
theorem dX4_readDeed_0 : decode cX4_readDeed 0 = .ok (.aload_n 0, 1) := by decide +kernel
theorem dX4_readDeed_1 : decode cX4_readDeed 1 = .ok (.getfield 18, 3) := by decide +kernel
theorem dX4_readDeed_4 : decode cX4_readDeed 4 = .ok (.getfield 103, 3) := by decide +kernel
theorem dX4_readDeed_7 : decode cX4_readDeed 7 = .ok (.iconst 5, 1) := by decide +kernel
theorem dX4_readDeed_8 : decode cX4_readDeed 8 = .ok (.if_icmp .lt 9, 3) := by decide +kernel
theorem dX4_readDeed_11 : decode cX4_readDeed 11 = .ok (.aload_n 0, 1) := by decide +kernel
theorem dX4_readDeed_12 : decode cX4_readDeed 12 = .ok (.iconst 3, 1) := by decide +kernel
theorem dX4_readDeed_13 : decode cX4_readDeed 13 = .ok (.invokevirtual 48, 3) := by decide +kernel
theorem dX4_readDeed_16 : decode cX4_readDeed 16 = .ok (.ireturn, 1) := by decide +kernel
theorem dX4_readDeed_17 : decode cX4_readDeed 17 = .ok (.aload_n 0, 1) := by decide +kernel
theorem dX4_readDeed_18 : decode cX4_readDeed 18 = .ok (.invokevirtual 52, 3) := by decide +kernel
theorem dX4_readDeed_21 : decode cX4_readDeed 21 = .ok (.bipush 97, 2) := by decide +kernel
theorem dX4_readDeed_23 : decode cX4_readDeed 23 = .ok (.if_icmp .ne 7, 3) := by decide +kernel
theorem dX4_readDeed_26 : decode cX4_readDeed 26 = .ok (.iconst 1, 1) := by decide +kernel
theorem dX4_readDeed_27 : decode cX4_readDeed 27 = .ok (.goto 4, 3) := by decide +kernel
theorem dX4_readDeed_30 : decode cX4_readDeed 30 = .ok (.iconst 0, 1) := by decide +kernel
theorem dX4_readDeed_31 : decode cX4_readDeed 31 = .ok (.istore_n 1, 1) := by decide +kernel
theorem dX4_readDeed_32 : decode cX4_readDeed 32 = .ok (.aload_n 0, 1) := by decide +kernel
theorem dX4_readDeed_33 : decode cX4_readDeed 33 = .ok (.dup, 1) := by decide +kernel
theorem dX4_readDeed_34 : decode cX4_readDeed 34 = .ok (.getfield 26, 3) := by decide +kernel
theorem dX4_readDeed_37 : decode cX4_readDeed 37 = .ok (.iconst 1, 1) := by decide +kernel
theorem dX4_readDeed_38 : decode cX4_readDeed 38 = .ok (.iadd, 1) := by decide +kernel
theorem dX4_readDeed_39 : decode cX4_readDeed 39 = .ok (.putfield 26, 3) := by decide +kernel
theorem dX4_readDeed_42 : decode cX4_readDeed 42 = .ok (.aload_n 0, 1) := by decide +kernel
theorem dX4_readDeed_43 : decode cX4_readDeed 43 = .ok (.iconst 1, 1) := by decide +kernel
theorem dX4_readDeed_44 : decode cX4_readDeed 44 = .ok (.bipush 63, 2) := by decide +kernel
theorem dX4_readDeed_46 : decode cX4_readDeed 46 = .ok (.bipush 44, 2) := by decide +kernel
theorem dX4_readDeed_48 : decode cX4_readDeed 48 = .ok (.invokevirtual 66, 3) := by decide +kernel
theorem dX4_readDeed_51 : decode cX4_readDeed 51 = .ok (.istore_n 2, 1) := by decide +kernel
theorem dX4_readDeed_52 : decode cX4_readDeed 52 = .ok (.iload_n 2, 1) := by decide +kernel
theorem dX4_readDeed_53 : decode cX4_readDeed 53 = .ok (.ifCond .ge 5, 3) := by decide +kernel
theorem dX4_readDeed_56 : decode cX4_readDeed 56 = .ok (.iconst 0, 1) := by decide +kernel
theorem dX4_readDeed_57 : decode cX4_readDeed 57 = .ok (.ireturn, 1) := by decide +kernel
theorem dX4_readDeed_58 : decode cX4_readDeed 58 = .ok (.aload_n 0, 1) := by decide +kernel
theorem dX4_readDeed_59 : decode cX4_readDeed 59 = .ok (.iconst 0, 1) := by decide +kernel
theorem dX4_readDeed_60 : decode cX4_readDeed 60 = .ok (.aload_n 0, 1) := by decide +kernel
theorem dX4_readDeed_61 : decode cX4_readDeed 61 = .ok (.getfield 18, 3) := by decide +kernel
theorem dX4_readDeed_64 : decode cX4_readDeed 64 = .ok (.getfield 103, 3) := by decide +kernel
theorem dX4_readDeed_67 : decode cX4_readDeed 67 = .ok (.bipush 44, 2) := by decide +kernel
theorem dX4_readDeed_69 : decode cX4_readDeed 69 = .ok (.invokevirtual 66, 3) := by decide +kernel
theorem dX4_readDeed_72 : decode cX4_readDeed 72 = .ok (.istore_n 3, 1) := by decide +kernel
theorem dX4_readDeed_73 : decode cX4_readDeed 73 = .ok (.iload_n 3, 1) := by decide +kernel
theorem dX4_readDeed_74 : decode cX4_readDeed 74 = .ok (.ifCond .ge 5, 3) := by decide +kernel
theorem dX4_readDeed_77 : decode cX4_readDeed 77 = .ok (.iconst 0, 1) := by decide +kernel
theorem dX4_readDeed_78 : decode cX4_readDeed 78 = .ok (.ireturn, 1) := by decide +kernel
theorem dX4_readDeed_79 : decode cX4_readDeed 79 = .ok (.aload_n 0, 1) := by decide +kernel
theorem dX4_readDeed_80 : decode cX4_readDeed 80 = .ok (.iconst 0, 1) := by decide +kernel
theorem dX4_readDeed_81 : decode cX4_readDeed 81 = .ok (.bipush 20, 2) := by decide +kernel
theorem dX4_readDeed_83 : decode cX4_readDeed 83 = .ok (.bipush 59, 2) := by decide +kernel
theorem dX4_readDeed_85 : decode cX4_readDeed 85 = .ok (.invokevirtual 66, 3) := by decide +kernel
theorem dX4_readDeed_88 : decode cX4_readDeed 88 = .ok (.istore 4, 2) := by decide +kernel
theorem dX4_readDeed_90 : decode cX4_readDeed 90 = .ok (.iload 4, 2) := by decide +kernel
theorem dX4_readDeed_92 : decode cX4_readDeed 92 = .ok (.ifCond .ge 5, 3) := by decide +kernel
theorem dX4_readDeed_95 : decode cX4_readDeed 95 = .ok (.iconst 0, 1) := by decide +kernel
theorem dX4_readDeed_96 : decode cX4_readDeed 96 = .ok (.ireturn, 1) := by decide +kernel
theorem dX4_readDeed_97 : decode cX4_readDeed 97 = .ok (.aload_n 0, 1) := by decide +kernel
theorem dX4_readDeed_98 : decode cX4_readDeed 98 = .ok (.getfield 18, 3) := by decide +kernel
theorem dX4_readDeed_101 : decode cX4_readDeed 101 = .ok (.iload_n 1, 1) := by decide +kernel
theorem dX4_readDeed_102 : decode cX4_readDeed 102 = .ok (.iload_n 2, 1) := by decide +kernel
theorem dX4_readDeed_103 : decode cX4_readDeed 103 = .ok (.iload_n 3, 1) := by decide +kernel
theorem dX4_readDeed_104 : decode cX4_readDeed 104 = .ok (.iconst 1, 1) := by decide +kernel
theorem dX4_readDeed_105 : decode cX4_readDeed 105 = .ok (.isub, 1) := by decide +kernel
theorem dX4_readDeed_106 : decode cX4_readDeed 106 = .ok (.iload 4, 2) := by decide +kernel
theorem dX4_readDeed_108 : decode cX4_readDeed 108 = .ok (.invokevirtual 106, 3) := by decide +kernel
theorem dX4_readDeed_111 : decode cX4_readDeed 111 = .ok (.iconst 1, 1) := by decide +kernel
theorem dX4_readDeed_112 : decode cX4_readDeed 112 = .ok (.ireturn, 1) := by decide +kernel
theorem dX5_init_0 : decode cX5_init 0 = .ok (.aload_n 0, 1) := by decide +kernel
theorem dX5_init_1 : decode cX5_init 1 = .ok (.invokespecial 3, 3) := by decide +kernel
theorem dX5_init_4 : decode cX5_init 4 = .ok (.aload_n 0, 1) := by decide +kernel
theorem dX5_init_5 : decode cX5_init 5 = .ok (.bipush 8, 2) := by decide +kernel
theorem dX5_init_7 : decode cX5_init 7 = .ok (.newarray .int, 2) := by decide +kernel
theorem dX5_init_9 : decode cX5_init 9 = .ok (.putfield 9, 3) := by decide +kernel
theorem dX5_init_12 : decode cX5_init 12 = .ok (.aload_n 0, 1) := by decide +kernel
theorem dX5_init_13 : decode cX5_init 13 = .ok (.bipush 8, 2) := by decide +kernel
theorem dX5_init_15 : decode cX5_init 15 = .ok (.newarray .int, 2) := by decide +kernel
theorem dX5_init_17 : decode cX5_init 17 = .ok (.putfield 15, 3) := by decide +kernel
theorem dX5_init_20 : decode cX5_init 20 = .ok (.aload_n 0, 1) := by decide +kernel
theorem dX5_init_21 : decode cX5_init 21 = .ok (.bipush 8, 2) := by decide +kernel
theorem dX5_init_23 : decode cX5_init 23 = .ok (.bipush 40, 2) := by decide +kernel
theorem dX5_init_25 : decode cX5_init 25 = .ok (.multianewarray 18 2, 4) := by decide +kernel
theorem dX5_init_29 : decode cX5_init 29 = .ok (.putfield 20, 3) := by decide +kernel
theorem dX5_init_32 : decode cX5_init 32 = .ok (.iconst 0, 1) := by decide +kernel
theorem dX5_init_33 : decode cX5_init 33 = .ok (.istore_n 1, 1) := by decide +kernel
theorem dX5_init_34 : decode cX5_init 34 = .ok (.iload_n 1, 1) := by decide +kernel
theorem dX5_init_35 : decode cX5_init 35 = .ok (.bipush 8, 2) := by decide +kernel
theorem dX5_init_37 : decode cX5_init 37 = .ok (.if_icmp .ge 16, 3) := by decide +kernel
theorem dX5_init_40 : decode cX5_init 40 = .ok (.aload_n 0, 1) := by decide +kernel
theorem dX5_init_41 : decode cX5_init 41 = .ok (.getfield 9, 3) := by decide +kernel
theorem dX5_init_44 : decode cX5_init 44 = .ok (.iload_n 1, 1) := by decide +kernel
theorem dX5_init_45 : decode cX5_init 45 = .ok (.iconst (-1), 1) := by decide +kernel
theorem dX5_init_46 : decode cX5_init 46 = .ok (.iastore, 1) := by decide +kernel
theorem dX5_init_47 : decode cX5_init 47 = .ok (.iinc 1 1, 3) := by decide +kernel
theorem dX5_init_50 : decode cX5_init 50 = .ok (.goto (-16), 3) := by decide +kernel
theorem dX5_init_53 : decode cX5_init 53 = .ok (.return_, 1) := by decide +kernel
theorem dX5_lay_0 : decode cX5_lay 0 = .ok (.aload_n 0, 1) := by decide +kernel
theorem dX5_lay_1 : decode cX5_lay 1 = .ok (.getfield 9, 3) := by decide +kernel
theorem dX5_lay_4 : decode cX5_lay 4 = .ok (.iload_n 1, 1) := by decide +kernel
theorem dX5_lay_5 : decode cX5_lay 5 = .ok (.iload_n 2, 1) := by decide +kernel
theorem dX5_lay_6 : decode cX5_lay 6 = .ok (.iastore, 1) := by decide +kernel
theorem dX5_lay_7 : decode cX5_lay 7 = .ok (.aload_n 0, 1) := by decide +kernel
theorem dX5_lay_8 : decode cX5_lay 8 = .ok (.getfield 15, 3) := by decide +kernel
theorem dX5_lay_11 : decode cX5_lay 11 = .ok (.iload_n 1, 1) := by decide +kernel
theorem dX5_lay_12 : decode cX5_lay 12 = .ok (.iload_n 3, 1) := by decide +kernel
theorem dX5_lay_13 : decode cX5_lay 13 = .ok (.iastore, 1) := by decide +kernel
theorem dX5_lay_14 : decode cX5_lay 14 = .ok (.aload_n 0, 1) := by decide +kernel
theorem dX5_lay_15 : decode cX5_lay 15 = .ok (.getfield 20, 3) := by decide +kernel
theorem dX5_lay_18 : decode cX5_lay 18 = .ok (.iload_n 1, 1) := by decide +kernel
theorem dX5_lay_19 : decode cX5_lay 19 = .ok (.aaload, 1) := by decide +kernel
theorem dX5_lay_20 : decode cX5_lay 20 = .ok (.iconst 0, 1) := by decide +kernel
theorem dX5_lay_21 : decode cX5_lay 21 = .ok (.invokestatic 23, 3) := by decide +kernel
theorem dX5_lay_24 : decode cX5_lay 24 = .ok (.return_, 1) := by decide +kernel
theorem dX5_isMissing_0 : decode cX5_isMissing 0 = .ok (.aload_n 0, 1) := by decide +kernel
theorem dX5_isMissing_1 : decode cX5_isMissing 1 = .ok (.getfield 9, 3) := by decide +kernel
theorem dX5_isMissing_4 : decode cX5_isMissing 4 = .ok (.iload_n 1, 1) := by decide +kernel
theorem dX5_isMissing_5 : decode cX5_isMissing 5 = .ok (.iaload, 1) := by decide +kernel
theorem dX5_isMissing_6 : decode cX5_isMissing 6 = .ok (.iconst (-1), 1) := by decide +kernel
theorem dX5_isMissing_7 : decode cX5_isMissing 7 = .ok (.if_icmp .ne 7, 3) := by decide +kernel
theorem dX5_isMissing_10 : decode cX5_isMissing 10 = .ok (.iconst 1, 1) := by decide +kernel
theorem dX5_isMissing_11 : decode cX5_isMissing 11 = .ok (.goto 4, 3) := by decide +kernel
theorem dX5_isMissing_14 : decode cX5_isMissing 14 = .ok (.iconst 0, 1) := by decide +kernel
theorem dX5_isMissing_15 : decode cX5_isMissing 15 = .ok (.ireturn, 1) := by decide +kernel
theorem dX5_hasPlaces_0 : decode cX5_hasPlaces 0 = .ok (.iload_n 2, 1) := by decide +kernel
theorem dX5_hasPlaces_1 : decode cX5_hasPlaces 1 = .ok (.ifCond .lt 23, 3) := by decide +kernel
theorem dX5_hasPlaces_4 : decode cX5_hasPlaces 4 = .ok (.iload_n 3, 1) := by decide +kernel
theorem dX5_hasPlaces_5 : decode cX5_hasPlaces 5 = .ok (.ifCond .lt 19, 3) := by decide +kernel
theorem dX5_hasPlaces_8 : decode cX5_hasPlaces 8 = .ok (.iload_n 2, 1) := by decide +kernel
theorem dX5_hasPlaces_9 : decode cX5_hasPlaces 9 = .ok (.aload_n 0, 1) := by decide +kernel
theorem dX5_hasPlaces_10 : decode cX5_hasPlaces 10 = .ok (.getfield 15, 3) := by decide +kernel
theorem dX5_hasPlaces_13 : decode cX5_hasPlaces 13 = .ok (.iload_n 1, 1) := by decide +kernel
theorem dX5_hasPlaces_14 : decode cX5_hasPlaces 14 = .ok (.iaload, 1) := by decide +kernel
theorem dX5_hasPlaces_15 : decode cX5_hasPlaces 15 = .ok (.iload_n 3, 1) := by decide +kernel
theorem dX5_hasPlaces_16 : decode cX5_hasPlaces 16 = .ok (.isub, 1) := by decide +kernel
theorem dX5_hasPlaces_17 : decode cX5_hasPlaces 17 = .ok (.if_icmp .gt 7, 3) := by decide +kernel
theorem dX5_hasPlaces_20 : decode cX5_hasPlaces 20 = .ok (.iconst 1, 1) := by decide +kernel
theorem dX5_hasPlaces_21 : decode cX5_hasPlaces 21 = .ok (.goto 4, 3) := by decide +kernel
theorem dX5_hasPlaces_24 : decode cX5_hasPlaces 24 = .ok (.iconst 0, 1) := by decide +kernel
theorem dX5_hasPlaces_25 : decode cX5_hasPlaces 25 = .ok (.ireturn, 1) := by decide +kernel
theorem dX5_put_0 : decode cX5_put 0 = .ok (.aload_n 0, 1) := by decide +kernel
theorem dX5_put_1 : decode cX5_put 1 = .ok (.getfield 9, 3) := by decide +kernel
theorem dX5_put_4 : decode cX5_put 4 = .ok (.iload_n 1, 1) := by decide +kernel
theorem dX5_put_5 : decode cX5_put 5 = .ok (.iaload, 1) := by decide +kernel
theorem dX5_put_6 : decode cX5_put 6 = .ok (.lookupswitch 52 #[(0, 26), (1, 39)], 26) := by decide +kernel
theorem dX5_put_32 : decode cX5_put 32 = .ok (.aload_n 0, 1) := by decide +kernel
theorem dX5_put_33 : decode cX5_put 33 = .ok (.getfield 20, 3) := by decide +kernel
theorem dX5_put_36 : decode cX5_put 36 = .ok (.iload_n 1, 1) := by decide +kernel
theorem dX5_put_37 : decode cX5_put 37 = .ok (.aaload, 1) := by decide +kernel
theorem dX5_put_38 : decode cX5_put 38 = .ok (.iload_n 2, 1) := by decide +kernel
theorem dX5_put_39 : decode cX5_put 39 = .ok (.iload_n 3, 1) := by decide +kernel
theorem dX5_put_40 : decode cX5_put 40 = .ok (.i2b, 1) := by decide +kernel
theorem dX5_put_41 : decode cX5_put 41 = .ok (.iastore, 1) := by decide +kernel
theorem dX5_put_42 : decode cX5_put 42 = .ok (.goto 25, 3) := by decide +kernel
theorem dX5_put_45 : decode cX5_put 45 = .ok (.aload_n 0, 1) := by decide +kernel
theorem dX5_put_46 : decode cX5_put 46 = .ok (.getfield 20, 3) := by decide +kernel
theorem dX5_put_49 : decode cX5_put 49 = .ok (.iload_n 1, 1) := by decide +kernel
theorem dX5_put_50 : decode cX5_put 50 = .ok (.aaload, 1) := by decide +kernel
theorem dX5_put_51 : decode cX5_put 51 = .ok (.iload_n 2, 1) := by decide +kernel
theorem dX5_put_52 : decode cX5_put 52 = .ok (.iload_n 3, 1) := by decide +kernel
theorem dX5_put_53 : decode cX5_put 53 = .ok (.i2s, 1) := by decide +kernel
theorem dX5_put_54 : decode cX5_put 54 = .ok (.iastore, 1) := by decide +kernel
theorem dX5_put_55 : decode cX5_put 55 = .ok (.goto 12, 3) := by decide +kernel
theorem dX5_put_58 : decode cX5_put 58 = .ok (.aload_n 0, 1) := by decide +kernel
theorem dX5_put_59 : decode cX5_put 59 = .ok (.getfield 20, 3) := by decide +kernel
theorem dX5_put_62 : decode cX5_put 62 = .ok (.iload_n 1, 1) := by decide +kernel
theorem dX5_put_63 : decode cX5_put 63 = .ok (.aaload, 1) := by decide +kernel
theorem dX5_put_64 : decode cX5_put 64 = .ok (.iload_n 2, 1) := by decide +kernel
theorem dX5_put_65 : decode cX5_put 65 = .ok (.iload_n 3, 1) := by decide +kernel
theorem dX5_put_66 : decode cX5_put 66 = .ok (.iastore, 1) := by decide +kernel
theorem dX5_put_67 : decode cX5_put 67 = .ok (.aload_n 0, 1) := by decide +kernel
theorem dX5_put_68 : decode cX5_put 68 = .ok (.getfield 20, 3) := by decide +kernel
theorem dX5_put_71 : decode cX5_put 71 = .ok (.iload_n 1, 1) := by decide +kernel
theorem dX5_put_72 : decode cX5_put 72 = .ok (.aaload, 1) := by decide +kernel
theorem dX5_put_73 : decode cX5_put 73 = .ok (.iload_n 2, 1) := by decide +kernel
theorem dX5_put_74 : decode cX5_put 74 = .ok (.iaload, 1) := by decide +kernel
theorem dX5_put_75 : decode cX5_put 75 = .ok (.ireturn, 1) := by decide +kernel
theorem dX5_present_0 : decode cX5_present 0 = .ok (.iconst 0, 1) := by decide +kernel
theorem dX5_present_1 : decode cX5_present 1 = .ok (.istore_n 1, 1) := by decide +kernel
theorem dX5_present_2 : decode cX5_present 2 = .ok (.iconst 0, 1) := by decide +kernel
theorem dX5_present_3 : decode cX5_present 3 = .ok (.istore_n 2, 1) := by decide +kernel
theorem dX5_present_4 : decode cX5_present 4 = .ok (.iload_n 2, 1) := by decide +kernel
theorem dX5_present_5 : decode cX5_present 5 = .ok (.bipush 8, 2) := by decide +kernel
theorem dX5_present_7 : decode cX5_present 7 = .ok (.if_icmp .ge 20, 3) := by decide +kernel
theorem dX5_present_10 : decode cX5_present 10 = .ok (.aload_n 0, 1) := by decide +kernel
theorem dX5_present_11 : decode cX5_present 11 = .ok (.iload_n 2, 1) := by decide +kernel
theorem dX5_present_12 : decode cX5_present 12 = .ok (.invokevirtual 29, 3) := by decide +kernel
theorem dX5_present_15 : decode cX5_present 15 = .ok (.ifCond .ne 6, 3) := by decide +kernel
theorem dX5_present_18 : decode cX5_present 18 = .ok (.iinc 1 1, 3) := by decide +kernel
theorem dX5_present_21 : decode cX5_present 21 = .ok (.iinc 2 1, 3) := by decide +kernel
theorem dX5_present_24 : decode cX5_present 24 = .ok (.goto (-20), 3) := by decide +kernel
theorem dX5_present_27 : decode cX5_present 27 = .ok (.iload_n 1, 1) := by decide +kernel
theorem dX5_present_28 : decode cX5_present 28 = .ok (.ireturn, 1) := by decide +kernel
theorem dX6_init_0 : decode cX6_init 0 = .ok (.aload_n 0, 1) := by decide +kernel
theorem dX6_init_1 : decode cX6_init 1 = .ok (.invokespecial 1, 3) := by decide +kernel
theorem dX6_init_4 : decode cX6_init 4 = .ok (.aload_n 0, 1) := by decide +kernel
theorem dX6_init_5 : decode cX6_init 5 = .ok (.new 7, 3) := by decide +kernel
theorem dX6_init_8 : decode cX6_init 8 = .ok (.dup, 1) := by decide +kernel
theorem dX6_init_9 : decode cX6_init 9 = .ok (.invokespecial 9, 3) := by decide +kernel
theorem dX6_init_12 : decode cX6_init 12 = .ok (.putfield 10, 3) := by decide +kernel
theorem dX6_init_15 : decode cX6_init 15 = .ok (.aload_n 0, 1) := by decide +kernel
theorem dX6_init_16 : decode cX6_init 16 = .ok (.new 16, 3) := by decide +kernel
theorem dX6_init_19 : decode cX6_init 19 = .ok (.dup, 1) := by decide +kernel
theorem dX6_init_20 : decode cX6_init 20 = .ok (.invokespecial 18, 3) := by decide +kernel
theorem dX6_init_23 : decode cX6_init 23 = .ok (.putfield 19, 3) := by decide +kernel
theorem dX6_init_26 : decode cX6_init 26 = .ok (.aload_n 0, 1) := by decide +kernel
theorem dX6_init_27 : decode cX6_init 27 = .ok (.new 16, 3) := by decide +kernel
theorem dX6_init_30 : decode cX6_init 30 = .ok (.dup, 1) := by decide +kernel
theorem dX6_init_31 : decode cX6_init 31 = .ok (.invokespecial 18, 3) := by decide +kernel
theorem dX6_init_34 : decode cX6_init 34 = .ok (.putfield 23, 3) := by decide +kernel
theorem dX6_init_37 : decode cX6_init 37 = .ok (.aload_n 0, 1) := by decide +kernel
theorem dX6_init_38 : decode cX6_init 38 = .ok (.new 16, 3) := by decide +kernel
theorem dX6_init_41 : decode cX6_init 41 = .ok (.dup, 1) := by decide +kernel
theorem dX6_init_42 : decode cX6_init 42 = .ok (.invokespecial 18, 3) := by decide +kernel
theorem dX6_init_45 : decode cX6_init 45 = .ok (.putfield 26, 3) := by decide +kernel
theorem dX6_init_48 : decode cX6_init 48 = .ok (.aload_n 0, 1) := by decide +kernel
theorem dX6_init_49 : decode cX6_init 49 = .ok (.new 29, 3) := by decide +kernel
theorem dX6_init_52 : decode cX6_init 52 = .ok (.dup, 1) := by decide +kernel
theorem dX6_init_53 : decode cX6_init 53 = .ok (.invokespecial 31, 3) := by decide +kernel
theorem dX6_init_56 : decode cX6_init 56 = .ok (.putfield 32, 3) := by decide +kernel
theorem dX6_init_59 : decode cX6_init 59 = .ok (.aload_n 0, 1) := by decide +kernel
theorem dX6_init_60 : decode cX6_init 60 = .ok (.new 36, 3) := by decide +kernel
theorem dX6_init_63 : decode cX6_init 63 = .ok (.dup, 1) := by decide +kernel
theorem dX6_init_64 : decode cX6_init 64 = .ok (.invokespecial 38, 3) := by decide +kernel
theorem dX6_init_67 : decode cX6_init 67 = .ok (.putfield 39, 3) := by decide +kernel
theorem dX6_init_70 : decode cX6_init 70 = .ok (.aload_n 0, 1) := by decide +kernel
theorem dX6_init_71 : decode cX6_init 71 = .ok (.new 43, 3) := by decide +kernel
theorem dX6_init_74 : decode cX6_init 74 = .ok (.dup, 1) := by decide +kernel
theorem dX6_init_75 : decode cX6_init 75 = .ok (.invokespecial 45, 3) := by decide +kernel
theorem dX6_init_78 : decode cX6_init 78 = .ok (.putfield 46, 3) := by decide +kernel
theorem dX6_init_81 : decode cX6_init 81 = .ok (.aload_n 0, 1) := by decide +kernel
theorem dX6_init_82 : decode cX6_init 82 = .ok (.new 50, 3) := by decide +kernel
theorem dX6_init_85 : decode cX6_init 85 = .ok (.dup, 1) := by decide +kernel
theorem dX6_init_86 : decode cX6_init 86 = .ok (.invokespecial 52, 3) := by decide +kernel
theorem dX6_init_89 : decode cX6_init 89 = .ok (.putfield 53, 3) := by decide +kernel
theorem dX6_init_92 : decode cX6_init 92 = .ok (.return_, 1) := by decide +kernel
theorem dX6_row_0 : decode cX6_row 0 = .ok (.iload_n 1, 1) := by decide +kernel
theorem dX6_row_1 : decode cX6_row 1 = .ok (.invokestatic 57, 3) := by decide +kernel
theorem dX6_row_4 : decode cX6_row 4 = .ok (.ifCond .eq 17, 3) := by decide +kernel
theorem dX6_row_7 : decode cX6_row 7 = .ok (.iload_n 2, 1) := by decide +kernel
theorem dX6_row_8 : decode cX6_row 8 = .ok (.iconst 3, 1) := by decide +kernel
theorem dX6_row_9 : decode cX6_row 9 = .ok (.invokestatic 61, 3) := by decide +kernel
theorem dX6_row_12 : decode cX6_row 12 = .ok (.ifCond .eq 9, 3) := by decide +kernel
theorem dX6_row_15 : decode cX6_row 15 = .ok (.iload_n 3, 1) := by decide +kernel
theorem dX6_row_16 : decode cX6_row 16 = .ok (.bipush 40, 2) := by decide +kernel
theorem dX6_row_18 : decode cX6_row 18 = .ok (.if_icmp .le 6, 3) := by decide +kernel
theorem dX6_row_21 : decode cX6_row 21 = .ok (.ldc 65, 2) := by decide +kernel
theorem dX6_row_23 : decode cX6_row 23 = .ok (.ireturn, 1) := by decide +kernel
theorem dX6_row_24 : decode cX6_row 24 = .ok (.iload_n 3, 1) := by decide +kernel
theorem dX6_row_25 : decode cX6_row 25 = .ok (.ifCond .ge 9, 3) := by decide +kernel
theorem dX6_row_28 : decode cX6_row 28 = .ok (.aload_n 0, 1) := by decide +kernel
theorem dX6_row_29 : decode cX6_row 29 = .ok (.iconst 4, 1) := by decide +kernel
theorem dX6_row_30 : decode cX6_row 30 = .ok (.invokevirtual 66, 3) := by decide +kernel
theorem dX6_row_33 : decode cX6_row 33 = .ok (.ireturn, 1) := by decide +kernel
theorem dX6_row_34 : decode cX6_row 34 = .ok (.aload_n 0, 1) := by decide +kernel
theorem dX6_row_35 : decode cX6_row 35 = .ok (.getfield 10, 3) := by decide +kernel
theorem dX6_row_38 : decode cX6_row 38 = .ok (.iload_n 1, 1) := by decide +kernel
theorem dX6_row_39 : decode cX6_row 39 = .ok (.iload_n 2, 1) := by decide +kernel
theorem dX6_row_40 : decode cX6_row 40 = .ok (.iload_n 3, 1) := by decide +kernel
theorem dX6_row_41 : decode cX6_row 41 = .ok (.invokevirtual 70, 3) := by decide +kernel
theorem dX6_row_44 : decode cX6_row 44 = .ok (.aload_n 0, 1) := by decide +kernel
theorem dX6_row_45 : decode cX6_row 45 = .ok (.iload_n 3, 1) := by decide +kernel
theorem dX6_row_46 : decode cX6_row 46 = .ok (.invokevirtual 74, 3) := by decide +kernel
theorem dX6_row_49 : decode cX6_row 49 = .ok (.ireturn, 1) := by decide +kernel
theorem dX6_set_0 : decode cX6_set 0 = .ok (.iload_n 1, 1) := by decide +kernel
theorem dX6_set_1 : decode cX6_set 1 = .ok (.invokestatic 57, 3) := by decide +kernel
theorem dX6_set_4 : decode cX6_set 4 = .ok (.ifCond .ne 6, 3) := by decide +kernel
theorem dX6_set_7 : decode cX6_set 7 = .ok (.ldc 65, 2) := by decide +kernel
theorem dX6_set_9 : decode cX6_set 9 = .ok (.ireturn, 1) := by decide +kernel
theorem dX6_set_10 : decode cX6_set 10 = .ok (.aload_n 0, 1) := by decide +kernel
theorem dX6_set_11 : decode cX6_set 11 = .ok (.getfield 10, 3) := by decide +kernel
theorem dX6_set_14 : decode cX6_set 14 = .ok (.iload_n 1, 1) := by decide +kernel
theorem dX6_set_15 : decode cX6_set 15 = .ok (.invokevirtual 77, 3) := by decide +kernel
theorem dX6_set_18 : decode cX6_set 18 = .ok (.ifCond .eq 9, 3) := by decide +kernel
theorem dX6_set_21 : decode cX6_set 21 = .ok (.aload_n 0, 1) := by decide +kernel
theorem dX6_set_22 : decode cX6_set 22 = .ok (.iconst 1, 1) := by decide +kernel
theorem dX6_set_23 : decode cX6_set 23 = .ok (.invokevirtual 66, 3) := by decide +kernel
theorem dX6_set_26 : decode cX6_set 26 = .ok (.ireturn, 1) := by decide +kernel
theorem dX6_set_27 : decode cX6_set 27 = .ok (.aload_n 0, 1) := by decide +kernel
theorem dX6_set_28 : decode cX6_set 28 = .ok (.getfield 10, 3) := by decide +kernel
theorem dX6_set_31 : decode cX6_set 31 = .ok (.iload_n 1, 1) := by decide +kernel
theorem dX6_set_32 : decode cX6_set 32 = .ok (.iload_n 2, 1) := by decide +kernel
theorem dX6_set_33 : decode cX6_set 33 = .ok (.iconst 1, 1) := by decide +kernel
theorem dX6_set_34 : decode cX6_set 34 = .ok (.invokevirtual 80, 3) := by decide +kernel
theorem dX6_set_37 : decode cX6_set 37 = .ok (.ifCond .ne 9, 3) := by decide +kernel
theorem dX6_set_40 : decode cX6_set 40 = .ok (.aload_n 0, 1) := by decide +kernel
theorem dX6_set_41 : decode cX6_set 41 = .ok (.iconst 2, 1) := by decide +kernel
theorem dX6_set_42 : decode cX6_set 42 = .ok (.invokevirtual 66, 3) := by decide +kernel
theorem dX6_set_45 : decode cX6_set 45 = .ok (.ireturn, 1) := by decide +kernel
theorem dX6_set_46 : decode cX6_set 46 = .ok (.aload_n 0, 1) := by decide +kernel
theorem dX6_set_47 : decode cX6_set 47 = .ok (.aload_n 0, 1) := by decide +kernel
theorem dX6_set_48 : decode cX6_set 48 = .ok (.getfield 10, 3) := by decide +kernel
theorem dX6_set_51 : decode cX6_set 51 = .ok (.iload_n 1, 1) := by decide +kernel
theorem dX6_set_52 : decode cX6_set 52 = .ok (.iload_n 2, 1) := by decide +kernel
theorem dX6_set_53 : decode cX6_set 53 = .ok (.iload_n 3, 1) := by decide +kernel
theorem dX6_set_54 : decode cX6_set 54 = .ok (.invokevirtual 84, 3) := by decide +kernel
theorem dX6_set_57 : decode cX6_set 57 = .ok (.invokevirtual 74, 3) := by decide +kernel
theorem dX6_set_60 : decode cX6_set 60 = .ok (.ireturn, 1) := by decide +kernel
theorem dX6_copy_0 : decode cX6_copy 0 = .ok (.iload_n 1, 1) := by decide +kernel
theorem dX6_copy_1 : decode cX6_copy 1 = .ok (.invokestatic 57, 3) := by decide +kernel
theorem dX6_copy_4 : decode cX6_copy 4 = .ok (.ifCond .eq 10, 3) := by decide +kernel
theorem dX6_copy_7 : decode cX6_copy 7 = .ok (.iload_n 3, 1) := by decide +kernel
theorem dX6_copy_8 : decode cX6_copy 8 = .ok (.invokestatic 57, 3) := by decide +kernel
theorem dX6_copy_11 : decode cX6_copy 11 = .ok (.ifCond .ne 6, 3) := by decide +kernel
theorem dX6_copy_14 : decode cX6_copy 14 = .ok (.ldc 65, 2) := by decide +kernel
theorem dX6_copy_16 : decode cX6_copy 16 = .ok (.ireturn, 1) := by decide +kernel
theorem dX6_copy_17 : decode cX6_copy 17 = .ok (.aload_n 0, 1) := by decide +kernel
theorem dX6_copy_18 : decode cX6_copy 18 = .ok (.getfield 10, 3) := by decide +kernel
theorem dX6_copy_21 : decode cX6_copy 21 = .ok (.iload_n 1, 1) := by decide +kernel
theorem dX6_copy_22 : decode cX6_copy 22 = .ok (.invokevirtual 77, 3) := by decide +kernel
theorem dX6_copy_25 : decode cX6_copy 25 = .ok (.ifCond .ne 14, 3) := by decide +kernel
theorem dX6_copy_28 : decode cX6_copy 28 = .ok (.aload_n 0, 1) := by decide +kernel
theorem dX6_copy_29 : decode cX6_copy 29 = .ok (.getfield 10, 3) := by decide +kernel
theorem dX6_copy_32 : decode cX6_copy 32 = .ok (.iload_n 3, 1) := by decide +kernel
theorem dX6_copy_33 : decode cX6_copy 33 = .ok (.invokevirtual 77, 3) := by decide +kernel
theorem dX6_copy_36 : decode cX6_copy 36 = .ok (.ifCond .eq 9, 3) := by decide +kernel
theorem dX6_copy_39 : decode cX6_copy 39 = .ok (.aload_n 0, 1) := by decide +kernel
theorem dX6_copy_40 : decode cX6_copy 40 = .ok (.iconst 1, 1) := by decide +kernel
theorem dX6_copy_41 : decode cX6_copy 41 = .ok (.invokevirtual 66, 3) := by decide +kernel
theorem dX6_copy_44 : decode cX6_copy 44 = .ok (.ireturn, 1) := by decide +kernel
theorem dX6_copy_45 : decode cX6_copy 45 = .ok (.aload_n 0, 1) := by decide +kernel
theorem dX6_copy_46 : decode cX6_copy 46 = .ok (.getfield 10, 3) := by decide +kernel
theorem dX6_copy_49 : decode cX6_copy 49 = .ok (.getfield 88, 3) := by decide +kernel
theorem dX6_copy_52 : decode cX6_copy 52 = .ok (.iload_n 1, 1) := by decide +kernel
theorem dX6_copy_53 : decode cX6_copy 53 = .ok (.iaload, 1) := by decide +kernel
theorem dX6_copy_54 : decode cX6_copy 54 = .ok (.aload_n 0, 1) := by decide +kernel
theorem dX6_copy_55 : decode cX6_copy 55 = .ok (.getfield 10, 3) := by decide +kernel
theorem dX6_copy_58 : decode cX6_copy 58 = .ok (.getfield 88, 3) := by decide +kernel
theorem dX6_copy_61 : decode cX6_copy 61 = .ok (.iload_n 3, 1) := by decide +kernel
theorem dX6_copy_62 : decode cX6_copy 62 = .ok (.iaload, 1) := by decide +kernel
theorem dX6_copy_63 : decode cX6_copy 63 = .ok (.if_icmp .eq 9, 3) := by decide +kernel
theorem dX6_copy_66 : decode cX6_copy 66 = .ok (.aload_n 0, 1) := by decide +kernel
theorem dX6_copy_67 : decode cX6_copy 67 = .ok (.iconst 5, 1) := by decide +kernel
theorem dX6_copy_68 : decode cX6_copy 68 = .ok (.invokevirtual 66, 3) := by decide +kernel
theorem dX6_copy_71 : decode cX6_copy 71 = .ok (.ireturn, 1) := by decide +kernel
theorem dX6_copy_72 : decode cX6_copy 72 = .ok (.aload_n 0, 1) := by decide +kernel
theorem dX6_copy_73 : decode cX6_copy 73 = .ok (.getfield 10, 3) := by decide +kernel
theorem dX6_copy_76 : decode cX6_copy 76 = .ok (.iload_n 1, 1) := by decide +kernel
theorem dX6_copy_77 : decode cX6_copy 77 = .ok (.iload_n 2, 1) := by decide +kernel
theorem dX6_copy_78 : decode cX6_copy 78 = .ok (.iload 5, 2) := by decide +kernel
theorem dX6_copy_80 : decode cX6_copy 80 = .ok (.invokevirtual 80, 3) := by decide +kernel
theorem dX6_copy_83 : decode cX6_copy 83 = .ok (.ifCond .eq 18, 3) := by decide +kernel
theorem dX6_copy_86 : decode cX6_copy 86 = .ok (.aload_n 0, 1) := by decide +kernel
theorem dX6_copy_87 : decode cX6_copy 87 = .ok (.getfield 10, 3) := by decide +kernel
theorem dX6_copy_90 : decode cX6_copy 90 = .ok (.iload_n 3, 1) := by decide +kernel
theorem dX6_copy_91 : decode cX6_copy 91 = .ok (.iload 4, 2) := by decide +kernel
theorem dX6_copy_93 : decode cX6_copy 93 = .ok (.iload 5, 2) := by decide +kernel
theorem dX6_copy_95 : decode cX6_copy 95 = .ok (.invokevirtual 80, 3) := by decide +kernel
theorem dX6_copy_98 : decode cX6_copy 98 = .ok (.ifCond .ne 9, 3) := by decide +kernel
theorem dX6_copy_101 : decode cX6_copy 101 = .ok (.aload_n 0, 1) := by decide +kernel
theorem dX6_copy_102 : decode cX6_copy 102 = .ok (.iconst 2, 1) := by decide +kernel
theorem dX6_copy_103 : decode cX6_copy 103 = .ok (.invokevirtual 66, 3) := by decide +kernel
theorem dX6_copy_106 : decode cX6_copy 106 = .ok (.ireturn, 1) := by decide +kernel
theorem dX6_copy_107 : decode cX6_copy 107 = .ok (.aload_n 0, 1) := by decide +kernel
theorem dX6_copy_108 : decode cX6_copy 108 = .ok (.getfield 10, 3) := by decide +kernel
theorem dX6_copy_111 : decode cX6_copy 111 = .ok (.getfield 92, 3) := by decide +kernel
theorem dX6_copy_114 : decode cX6_copy 114 = .ok (.iload_n 1, 1) := by decide +kernel
theorem dX6_copy_115 : decode cX6_copy 115 = .ok (.aaload, 1) := by decide +kernel
theorem dX6_copy_116 : decode cX6_copy 116 = .ok (.iload_n 2, 1) := by decide +kernel
theorem dX6_copy_117 : decode cX6_copy 117 = .ok (.aload_n 0, 1) := by decide +kernel
theorem dX6_copy_118 : decode cX6_copy 118 = .ok (.getfield 10, 3) := by decide +kernel
theorem dX6_copy_121 : decode cX6_copy 121 = .ok (.getfield 92, 3) := by decide +kernel
theorem dX6_copy_124 : decode cX6_copy 124 = .ok (.iload_n 3, 1) := by decide +kernel
theorem dX6_copy_125 : decode cX6_copy 125 = .ok (.aaload, 1) := by decide +kernel
theorem dX6_copy_126 : decode cX6_copy 126 = .ok (.iload 4, 2) := by decide +kernel
theorem dX6_copy_128 : decode cX6_copy 128 = .ok (.iload 5, 2) := by decide +kernel
theorem dX6_copy_130 : decode cX6_copy 130 = .ok (.invokestatic 96, 3) := by decide +kernel
theorem dX6_copy_133 : decode cX6_copy 133 = .ok (.aload_n 0, 1) := by decide +kernel
theorem dX6_copy_134 : decode cX6_copy 134 = .ok (.iload 5, 2) := by decide +kernel
theorem dX6_copy_136 : decode cX6_copy 136 = .ok (.invokevirtual 74, 3) := by decide +kernel
theorem dX6_copy_139 : decode cX6_copy 139 = .ok (.ireturn, 1) := by decide +kernel
theorem dX6_drop_0 : decode cX6_drop 0 = .ok (.iload_n 1, 1) := by decide +kernel
theorem dX6_drop_1 : decode cX6_drop 1 = .ok (.invokestatic 57, 3) := by decide +kernel
theorem dX6_drop_4 : decode cX6_drop 4 = .ok (.ifCond .ne 6, 3) := by decide +kernel
theorem dX6_drop_7 : decode cX6_drop 7 = .ok (.ldc 65, 2) := by decide +kernel
theorem dX6_drop_9 : decode cX6_drop 9 = .ok (.ireturn, 1) := by decide +kernel
theorem dX6_drop_10 : decode cX6_drop 10 = .ok (.aload_n 0, 1) := by decide +kernel
theorem dX6_drop_11 : decode cX6_drop 11 = .ok (.getfield 10, 3) := by decide +kernel
theorem dX6_drop_14 : decode cX6_drop 14 = .ok (.iload_n 1, 1) := by decide +kernel
theorem dX6_drop_15 : decode cX6_drop 15 = .ok (.invokevirtual 77, 3) := by decide +kernel
theorem dX6_drop_18 : decode cX6_drop 18 = .ok (.ifCond .eq 9, 3) := by decide +kernel
theorem dX6_drop_21 : decode cX6_drop 21 = .ok (.aload_n 0, 1) := by decide +kernel
theorem dX6_drop_22 : decode cX6_drop 22 = .ok (.iconst 1, 1) := by decide +kernel
theorem dX6_drop_23 : decode cX6_drop 23 = .ok (.invokevirtual 66, 3) := by decide +kernel
theorem dX6_drop_26 : decode cX6_drop 26 = .ok (.ireturn, 1) := by decide +kernel
theorem dX6_drop_27 : decode cX6_drop 27 = .ok (.aload_n 0, 1) := by decide +kernel
theorem dX6_drop_28 : decode cX6_drop 28 = .ok (.getfield 10, 3) := by decide +kernel
theorem dX6_drop_31 : decode cX6_drop 31 = .ok (.getfield 88, 3) := by decide +kernel
theorem dX6_drop_34 : decode cX6_drop 34 = .ok (.iload_n 1, 1) := by decide +kernel
theorem dX6_drop_35 : decode cX6_drop 35 = .ok (.iconst (-1), 1) := by decide +kernel
theorem dX6_drop_36 : decode cX6_drop 36 = .ok (.iastore, 1) := by decide +kernel
theorem dX6_drop_37 : decode cX6_drop 37 = .ok (.aload_n 0, 1) := by decide +kernel
theorem dX6_drop_38 : decode cX6_drop 38 = .ok (.aload_n 0, 1) := by decide +kernel
theorem dX6_drop_39 : decode cX6_drop 39 = .ok (.getfield 10, 3) := by decide +kernel
theorem dX6_drop_42 : decode cX6_drop 42 = .ok (.getfield 102, 3) := by decide +kernel
theorem dX6_drop_45 : decode cX6_drop 45 = .ok (.iload_n 1, 1) := by decide +kernel
theorem dX6_drop_46 : decode cX6_drop 46 = .ok (.iaload, 1) := by decide +kernel
theorem dX6_drop_47 : decode cX6_drop 47 = .ok (.invokevirtual 74, 3) := by decide +kernel
theorem dX6_drop_50 : decode cX6_drop 50 = .ok (.ireturn, 1) := by decide +kernel
theorem dX6_feed_0 : decode cX6_feed 0 = .ok (.iload_n 1, 1) := by decide +kernel
theorem dX6_feed_1 : decode cX6_feed 1 = .ok (.ifCond .lt 10, 3) := by decide +kernel
theorem dX6_feed_4 : decode cX6_feed 4 = .ok (.iload_n 1, 1) := by decide +kernel
theorem dX6_feed_5 : decode cX6_feed 5 = .ok (.sipush 255, 3) := by decide +kernel
theorem dX6_feed_8 : decode cX6_feed 8 = .ok (.if_icmp .le 6, 3) := by decide +kernel
theorem dX6_feed_11 : decode cX6_feed 11 = .ok (.ldc 65, 2) := by decide +kernel
theorem dX6_feed_13 : decode cX6_feed 13 = .ok (.ireturn, 1) := by decide +kernel
theorem dX6_feed_14 : decode cX6_feed 14 = .ok (.aload_n 0, 1) := by decide +kernel
theorem dX6_feed_15 : decode cX6_feed 15 = .ok (.getfield 32, 3) := by decide +kernel
theorem dX6_feed_18 : decode cX6_feed 18 = .ok (.getfield 105, 3) := by decide +kernel
theorem dX6_feed_21 : decode cX6_feed 21 = .ok (.sipush 140, 3) := by decide +kernel
theorem dX6_feed_24 : decode cX6_feed 24 = .ok (.if_icmp .lt 6, 3) := by decide +kernel
theorem dX6_feed_27 : decode cX6_feed 27 = .ok (.ldc 109, 2) := by decide +kernel
theorem dX6_feed_29 : decode cX6_feed 29 = .ok (.ireturn, 1) := by decide +kernel
theorem dX6_feed_30 : decode cX6_feed 30 = .ok (.aload_n 0, 1) := by decide +kernel
theorem dX6_feed_31 : decode cX6_feed 31 = .ok (.getfield 32, 3) := by decide +kernel
theorem dX6_feed_34 : decode cX6_feed 34 = .ok (.iload_n 1, 1) := by decide +kernel
theorem dX6_feed_35 : decode cX6_feed 35 = .ok (.invokevirtual 110, 3) := by decide +kernel
theorem dX6_feed_38 : decode cX6_feed 38 = .ok (.ireturn, 1) := by decide +kernel
theorem dX6_archive_0 : decode cX6_archive 0 = .ok (.aload_n 0, 1) := by decide +kernel
theorem dX6_archive_1 : decode cX6_archive 1 = .ok (.getfield 32, 3) := by decide +kernel
theorem dX6_archive_4 : decode cX6_archive 4 = .ok (.invokevirtual 113, 3) := by decide +kernel
theorem dX6_archive_7 : decode cX6_archive 7 = .ok (.istore_n 1, 1) := by decide +kernel
theorem dX6_archive_8 : decode cX6_archive 8 = .ok (.aload_n 0, 1) := by decide +kernel
theorem dX6_archive_9 : decode cX6_archive 9 = .ok (.getfield 32, 3) := by decide +kernel
theorem dX6_archive_12 : decode cX6_archive 12 = .ok (.iconst 0, 1) := by decide +kernel
theorem dX6_archive_13 : decode cX6_archive 13 = .ok (.putfield 105, 3) := by decide +kernel
theorem dX6_archive_16 : decode cX6_archive 16 = .ok (.iload_n 1, 1) := by decide +kernel
theorem dX6_archive_17 : decode cX6_archive 17 = .ok (.ifCond .ne 25, 3) := by decide +kernel
theorem dX6_archive_20 : decode cX6_archive 20 = .ok (.aload_n 0, 1) := by decide +kernel
theorem dX6_archive_21 : decode cX6_archive 21 = .ok (.aload_n 0, 1) := by decide +kernel
theorem dX6_archive_22 : decode cX6_archive 22 = .ok (.getfield 32, 3) := by decide +kernel
theorem dX6_archive_25 : decode cX6_archive 25 = .ok (.getfield 117, 3) := by decide +kernel
theorem dX6_archive_28 : decode cX6_archive 28 = .ok (.putfield 120, 3) := by decide +kernel
theorem dX6_archive_31 : decode cX6_archive 31 = .ok (.ldc 123, 2) := by decide +kernel
theorem dX6_archive_33 : decode cX6_archive 33 = .ok (.aload_n 0, 1) := by decide +kernel
theorem dX6_archive_34 : decode cX6_archive 34 = .ok (.getfield 32, 3) := by decide +kernel
theorem dX6_archive_37 : decode cX6_archive 37 = .ok (.getfield 124, 3) := by decide +kernel
theorem dX6_archive_40 : decode cX6_archive 40 = .ok (.isub, 1) := by decide +kernel
theorem dX6_archive_41 : decode cX6_archive 41 = .ok (.ireturn, 1) := by decide +kernel
theorem dX6_archive_42 : decode cX6_archive 42 = .ok (.aload_n 0, 1) := by decide +kernel
theorem dX6_archive_43 : decode cX6_archive 43 = .ok (.getfield 19, 3) := by decide +kernel
theorem dX6_archive_46 : decode cX6_archive 46 = .ok (.aload_n 0, 1) := by decide +kernel
theorem dX6_archive_47 : decode cX6_archive 47 = .ok (.getfield 32, 3) := by decide +kernel
theorem dX6_archive_50 : decode cX6_archive 50 = .ok (.getfield 127, 3) := by decide +kernel
theorem dX6_archive_53 : decode cX6_archive 53 = .ok (.invokevirtual 130, 3) := by decide +kernel
theorem dX6_archive_56 : decode cX6_archive 56 = .ok (.aload_n 0, 1) := by decide +kernel
theorem dX6_archive_57 : decode cX6_archive 57 = .ok (.getfield 39, 3) := by decide +kernel
theorem dX6_archive_60 : decode cX6_archive 60 = .ok (.invokevirtual 134, 3) := by decide +kernel
theorem dX6_archive_63 : decode cX6_archive 63 = .ok (.aload_n 0, 1) := by decide +kernel
theorem dX6_archive_64 : decode cX6_archive 64 = .ok (.getfield 19, 3) := by decide +kernel
theorem dX6_archive_67 : decode cX6_archive 67 = .ok (.getfield 137, 3) := by decide +kernel
theorem dX6_archive_70 : decode cX6_archive 70 = .ok (.ireturn, 1) := by decide +kernel
theorem dX6_fault_0 : decode cX6_fault 0 = .ok (.aload_n 0, 1) := by decide +kernel
theorem dX6_fault_1 : decode cX6_fault 1 = .ok (.getfield 120, 3) := by decide +kernel
theorem dX6_fault_4 : decode cX6_fault 4 = .ok (.ireturn, 1) := by decide +kernel
theorem dX6_undo_0 : decode cX6_undo 0 = .ok (.aload_n 0, 1) := by decide +kernel
theorem dX6_undo_1 : decode cX6_undo 1 = .ok (.getfield 39, 3) := by decide +kernel
theorem dX6_undo_4 : decode cX6_undo 4 = .ok (.getfield 140, 3) := by decide +kernel
theorem dX6_undo_7 : decode cX6_undo 7 = .ok (.ifCond .gt 6, 3) := by decide +kernel
theorem dX6_undo_10 : decode cX6_undo 10 = .ok (.ldc 141, 2) := by decide +kernel
theorem dX6_undo_12 : decode cX6_undo 12 = .ok (.ireturn, 1) := by decide +kernel
theorem dX6_undo_13 : decode cX6_undo 13 = .ok (.aload_n 0, 1) := by decide +kernel
theorem dX6_undo_14 : decode cX6_undo 14 = .ok (.getfield 39, 3) := by decide +kernel
theorem dX6_undo_17 : decode cX6_undo 17 = .ok (.aload_n 0, 1) := by decide +kernel
theorem dX6_undo_18 : decode cX6_undo 18 = .ok (.getfield 19, 3) := by decide +kernel
theorem dX6_undo_21 : decode cX6_undo 21 = .ok (.invokevirtual 142, 3) := by decide +kernel
theorem dX6_undo_24 : decode cX6_undo 24 = .ok (.aload_n 0, 1) := by decide +kernel
theorem dX6_undo_25 : decode cX6_undo 25 = .ok (.getfield 39, 3) := by decide +kernel
theorem dX6_undo_28 : decode cX6_undo 28 = .ok (.getfield 140, 3) := by decide +kernel
theorem dX6_undo_31 : decode cX6_undo 31 = .ok (.ireturn, 1) := by decide +kernel
theorem dX6_write_0 : decode cX6_write 0 = .ok (.iload_n 1, 1) := by decide +kernel
theorem dX6_write_1 : decode cX6_write 1 = .ok (.bipush 6, 2) := by decide +kernel
theorem dX6_write_3 : decode cX6_write 3 = .ok (.invokestatic 61, 3) := by decide +kernel
theorem dX6_write_6 : decode cX6_write 6 = .ok (.ifCond .eq 22, 3) := by decide +kernel
theorem dX6_write_9 : decode cX6_write 9 = .ok (.aload_n 0, 1) := by decide +kernel
theorem dX6_write_10 : decode cX6_write 10 = .ok (.iload_n 2, 1) := by decide +kernel
theorem dX6_write_11 : decode cX6_write 11 = .ok (.invokevirtual 145, 3) := by decide +kernel
theorem dX6_write_14 : decode cX6_write 14 = .ok (.ifCond .eq 14, 3) := by decide +kernel
theorem dX6_write_17 : decode cX6_write 17 = .ok (.iload_n 3, 1) := by decide +kernel
theorem dX6_write_18 : decode cX6_write 18 = .ok (.iconst 1, 1) := by decide +kernel
theorem dX6_write_19 : decode cX6_write 19 = .ok (.if_icmp .lt 9, 3) := by decide +kernel
theorem dX6_write_22 : decode cX6_write 22 = .ok (.iload_n 3, 1) := by decide +kernel
theorem dX6_write_23 : decode cX6_write 23 = .ok (.bipush 9, 2) := by decide +kernel
theorem dX6_write_25 : decode cX6_write 25 = .ok (.if_icmp .le 6, 3) := by decide +kernel
theorem dX6_write_28 : decode cX6_write 28 = .ok (.ldc 65, 2) := by decide +kernel
theorem dX6_write_30 : decode cX6_write 30 = .ok (.ireturn, 1) := by decide +kernel
theorem dX6_write_31 : decode cX6_write 31 = .ok (.aload_n 0, 1) := by decide +kernel
theorem dX6_write_32 : decode cX6_write 32 = .ok (.getfield 19, 3) := by decide +kernel
theorem dX6_write_35 : decode cX6_write 35 = .ok (.getfield 148, 3) := by decide +kernel
theorem dX6_write_38 : decode cX6_write 38 = .ok (.bipush 10, 2) := by decide +kernel
theorem dX6_write_40 : decode cX6_write 40 = .ok (.if_icmp .lt 6, 3) := by decide +kernel
theorem dX6_write_43 : decode cX6_write 43 = .ok (.ldc 109, 2) := by decide +kernel
theorem dX6_write_45 : decode cX6_write 45 = .ok (.ireturn, 1) := by decide +kernel
theorem dX6_write_46 : decode cX6_write 46 = .ok (.aload_n 0, 1) := by decide +kernel
theorem dX6_write_47 : decode cX6_write 47 = .ok (.getfield 39, 3) := by decide +kernel
theorem dX6_write_50 : decode cX6_write 50 = .ok (.iconst 0, 1) := by decide +kernel
theorem dX6_write_51 : decode cX6_write 51 = .ok (.aload_n 0, 1) := by decide +kernel
theorem dX6_write_52 : decode cX6_write 52 = .ok (.getfield 19, 3) := by decide +kernel
theorem dX6_write_55 : decode cX6_write 55 = .ok (.getfield 151, 3) := by decide +kernel
theorem dX6_write_58 : decode cX6_write 58 = .ok (.invokevirtual 154, 3) := by decide +kernel
theorem dX6_write_61 : decode cX6_write 61 = .ok (.aload_n 0, 1) := by decide +kernel
theorem dX6_write_62 : decode cX6_write 62 = .ok (.getfield 19, 3) := by decide +kernel
theorem dX6_write_65 : decode cX6_write 65 = .ok (.iload_n 1, 1) := by decide +kernel
theorem dX6_write_66 : decode cX6_write 66 = .ok (.iload_n 2, 1) := by decide +kernel
theorem dX6_write_67 : decode cX6_write 67 = .ok (.iload_n 3, 1) := by decide +kernel
theorem dX6_write_68 : decode cX6_write 68 = .ok (.invokevirtual 158, 3) := by decide +kernel
theorem dX6_write_71 : decode cX6_write 71 = .ok (.aload_n 0, 1) := by decide +kernel
theorem dX6_write_72 : decode cX6_write 72 = .ok (.getfield 19, 3) := by decide +kernel
theorem dX6_write_75 : decode cX6_write 75 = .ok (.dup, 1) := by decide +kernel
theorem dX6_write_76 : decode cX6_write 76 = .ok (.getfield 161, 3) := by decide +kernel
theorem dX6_write_79 : decode cX6_write 79 = .ok (.aload_n 0, 1) := by decide +kernel
theorem dX6_write_80 : decode cX6_write 80 = .ok (.getfield 19, 3) := by decide +kernel
theorem dX6_write_83 : decode cX6_write 83 = .ok (.getfield 164, 3) := by decide +kernel
theorem dX6_write_86 : decode cX6_write 86 = .ok (.iload_n 2, 1) := by decide +kernel
theorem dX6_write_87 : decode cX6_write 87 = .ok (.iaload, 1) := by decide +kernel
theorem dX6_write_88 : decode cX6_write 88 = .ok (.iadd, 1) := by decide +kernel
theorem dX6_write_89 : decode cX6_write 89 = .ok (.putfield 161, 3) := by decide +kernel
theorem dX6_write_92 : decode cX6_write 92 = .ok (.aload_n 0, 1) := by decide +kernel
theorem dX6_write_93 : decode cX6_write 93 = .ok (.getfield 19, 3) := by decide +kernel
theorem dX6_write_96 : decode cX6_write 96 = .ok (.getfield 148, 3) := by decide +kernel
theorem dX6_write_99 : decode cX6_write 99 = .ok (.iconst 1, 1) := by decide +kernel
theorem dX6_write_100 : decode cX6_write 100 = .ok (.isub, 1) := by decide +kernel
theorem dX6_write_101 : decode cX6_write 101 = .ok (.ireturn, 1) := by decide +kernel
theorem dX6_recall_0 : decode cX6_recall 0 = .ok (.aload_n 0, 1) := by decide +kernel
theorem dX6_recall_1 : decode cX6_recall 1 = .ok (.iload_n 1, 1) := by decide +kernel
theorem dX6_recall_2 : decode cX6_recall 2 = .ok (.invokevirtual 167, 3) := by decide +kernel
theorem dX6_recall_5 : decode cX6_recall 5 = .ok (.ifCond .ne 6, 3) := by decide +kernel
theorem dX6_recall_8 : decode cX6_recall 8 = .ok (.ldc 65, 2) := by decide +kernel
theorem dX6_recall_10 : decode cX6_recall 10 = .ok (.ireturn, 1) := by decide +kernel
theorem dX6_recall_11 : decode cX6_recall 11 = .ok (.aload_n 0, 1) := by decide +kernel
theorem dX6_recall_12 : decode cX6_recall 12 = .ok (.getfield 19, 3) := by decide +kernel
theorem dX6_recall_15 : decode cX6_recall 15 = .ok (.iload_n 1, 1) := by decide +kernel
theorem dX6_recall_16 : decode cX6_recall 16 = .ok (.invokevirtual 170, 3) := by decide +kernel
theorem dX6_recall_19 : decode cX6_recall 19 = .ok (.ifCond .ne 6, 3) := by decide +kernel
theorem dX6_recall_22 : decode cX6_recall 22 = .ok (.ldc 141, 2) := by decide +kernel
theorem dX6_recall_24 : decode cX6_recall 24 = .ok (.ireturn, 1) := by decide +kernel
theorem dX6_recall_25 : decode cX6_recall 25 = .ok (.aload_n 0, 1) := by decide +kernel
theorem dX6_recall_26 : decode cX6_recall 26 = .ok (.getfield 39, 3) := by decide +kernel
theorem dX6_recall_29 : decode cX6_recall 29 = .ok (.iconst 1, 1) := by decide +kernel
theorem dX6_recall_30 : decode cX6_recall 30 = .ok (.aload_n 0, 1) := by decide +kernel
theorem dX6_recall_31 : decode cX6_recall 31 = .ok (.getfield 19, 3) := by decide +kernel
theorem dX6_recall_34 : decode cX6_recall 34 = .ok (.getfield 151, 3) := by decide +kernel
theorem dX6_recall_37 : decode cX6_recall 37 = .ok (.invokevirtual 154, 3) := by decide +kernel
theorem dX6_recall_40 : decode cX6_recall 40 = .ok (.aload_n 0, 1) := by decide +kernel
theorem dX6_recall_41 : decode cX6_recall 41 = .ok (.getfield 19, 3) := by decide +kernel
theorem dX6_recall_44 : decode cX6_recall 44 = .ok (.dup, 1) := by decide +kernel
theorem dX6_recall_45 : decode cX6_recall 45 = .ok (.getfield 151, 3) := by decide +kernel
theorem dX6_recall_48 : decode cX6_recall 48 = .ok (.iconst 1, 1) := by decide +kernel
theorem dX6_recall_49 : decode cX6_recall 49 = .ok (.iload_n 1, 1) := by decide +kernel
theorem dX6_recall_50 : decode cX6_recall 50 = .ok (.ishl, 1) := by decide +kernel
theorem dX6_recall_51 : decode cX6_recall 51 = .ok (.ior, 1) := by decide +kernel
theorem dX6_recall_52 : decode cX6_recall 52 = .ok (.putfield 151, 3) := by decide +kernel
theorem dX6_recall_55 : decode cX6_recall 55 = .ok (.aload_n 0, 1) := by decide +kernel
theorem dX6_recall_56 : decode cX6_recall 56 = .ok (.getfield 19, 3) := by decide +kernel
theorem dX6_recall_59 : decode cX6_recall 59 = .ok (.aload_n 0, 1) := by decide +kernel
theorem dX6_recall_60 : decode cX6_recall 60 = .ok (.getfield 19, 3) := by decide +kernel
theorem dX6_recall_63 : decode cX6_recall 63 = .ok (.getfield 151, 3) := by decide +kernel
theorem dX6_recall_66 : decode cX6_recall 66 = .ok (.invokevirtual 173, 3) := by decide +kernel
theorem dX6_recall_69 : decode cX6_recall 69 = .ok (.aload_n 0, 1) := by decide +kernel
theorem dX6_recall_70 : decode cX6_recall 70 = .ok (.getfield 19, 3) := by decide +kernel
theorem dX6_recall_73 : decode cX6_recall 73 = .ok (.getfield 176, 3) := by decide +kernel
theorem dX6_recall_76 : decode cX6_recall 76 = .ok (.iload_n 1, 1) := by decide +kernel
theorem dX6_recall_77 : decode cX6_recall 77 = .ok (.iaload, 1) := by decide +kernel
theorem dX6_recall_78 : decode cX6_recall 78 = .ok (.invokestatic 179, 3) := by decide +kernel
theorem dX6_recall_81 : decode cX6_recall 81 = .ok (.ireturn, 1) := by decide +kernel
theorem dX6_days_0 : decode cX6_days 0 = .ok (.aload_n 0, 1) := by decide +kernel
theorem dX6_days_1 : decode cX6_days 1 = .ok (.getfield 19, 3) := by decide +kernel
theorem dX6_days_4 : decode cX6_days 4 = .ok (.getfield 183, 3) := by decide +kernel
theorem dX6_days_7 : decode cX6_days 7 = .ok (.ifCond .ne 6, 3) := by decide +kernel
theorem dX6_days_10 : decode cX6_days 10 = .ok (.ldc 141, 2) := by decide +kernel
theorem dX6_days_12 : decode cX6_days 12 = .ok (.ireturn, 1) := by decide +kernel
theorem dX6_days_13 : decode cX6_days 13 = .ok (.iload_n 1, 1) := by decide +kernel
theorem dX6_days_14 : decode cX6_days 14 = .ok (.iconst 1, 1) := by decide +kernel
theorem dX6_days_15 : decode cX6_days 15 = .ok (.if_icmp .lt 9, 3) := by decide +kernel
theorem dX6_days_18 : decode cX6_days 18 = .ok (.iload_n 1, 1) := by decide +kernel
theorem dX6_days_19 : decode cX6_days 19 = .ok (.bipush 24, 2) := by decide +kernel
theorem dX6_days_21 : decode cX6_days 21 = .ok (.if_icmp .le 6, 3) := by decide +kernel
theorem dX6_days_24 : decode cX6_days 24 = .ok (.ldc 65, 2) := by decide +kernel
theorem dX6_days_26 : decode cX6_days 26 = .ok (.ireturn, 1) := by decide +kernel
theorem dX6_days_27 : decode cX6_days 27 = .ok (.aload_n 0, 1) := by decide +kernel
theorem dX6_days_28 : decode cX6_days 28 = .ok (.getfield 19, 3) := by decide +kernel
theorem dX6_days_31 : decode cX6_days 31 = .ok (.getfield 187, 3) := by decide +kernel
theorem dX6_days_34 : decode cX6_days 34 = .ok (.iload_n 1, 1) := by decide +kernel
theorem dX6_days_35 : decode cX6_days 35 = .ok (.iadd, 1) := by decide +kernel
theorem dX6_days_36 : decode cX6_days 36 = .ok (.sipush 999, 3) := by decide +kernel
theorem dX6_days_39 : decode cX6_days 39 = .ok (.if_icmp .le 6, 3) := by decide +kernel
theorem dX6_days_42 : decode cX6_days 42 = .ok (.ldc 109, 2) := by decide +kernel
theorem dX6_days_44 : decode cX6_days 44 = .ok (.ireturn, 1) := by decide +kernel
theorem dX6_days_45 : decode cX6_days 45 = .ok (.iconst 0, 1) := by decide +kernel
theorem dX6_days_46 : decode cX6_days 46 = .ok (.istore_n 2, 1) := by decide +kernel
theorem dX6_days_47 : decode cX6_days 47 = .ok (.iload_n 2, 1) := by decide +kernel
theorem dX6_days_48 : decode cX6_days 48 = .ok (.iload_n 1, 1) := by decide +kernel
theorem dX6_days_49 : decode cX6_days 49 = .ok (.if_icmp .ge 31, 3) := by decide +kernel
theorem dX6_days_52 : decode cX6_days 52 = .ok (.aload_n 0, 1) := by decide +kernel
theorem dX6_days_53 : decode cX6_days 53 = .ok (.getfield 39, 3) := by decide +kernel
theorem dX6_days_56 : decode cX6_days 56 = .ok (.iconst 2, 1) := by decide +kernel
theorem dX6_days_57 : decode cX6_days 57 = .ok (.aload_n 0, 1) := by decide +kernel
theorem dX6_days_58 : decode cX6_days 58 = .ok (.getfield 19, 3) := by decide +kernel
theorem dX6_days_61 : decode cX6_days 61 = .ok (.getfield 151, 3) := by decide +kernel
theorem dX6_days_64 : decode cX6_days 64 = .ok (.invokevirtual 154, 3) := by decide +kernel
theorem dX6_days_67 : decode cX6_days 67 = .ok (.aload_n 0, 1) := by decide +kernel
theorem dX6_days_68 : decode cX6_days 68 = .ok (.getfield 19, 3) := by decide +kernel
theorem dX6_days_71 : decode cX6_days 71 = .ok (.invokevirtual 190, 3) := by decide +kernel
theorem dX6_days_74 : decode cX6_days 74 = .ok (.iinc 2 1, 3) := by decide +kernel
theorem dX6_days_77 : decode cX6_days 77 = .ok (.goto (-30), 3) := by decide +kernel
theorem dX6_days_80 : decode cX6_days 80 = .ok (.aload_n 0, 1) := by decide +kernel
theorem dX6_days_81 : decode cX6_days 81 = .ok (.getfield 19, 3) := by decide +kernel
theorem dX6_days_84 : decode cX6_days 84 = .ok (.aload_n 0, 1) := by decide +kernel
theorem dX6_days_85 : decode cX6_days 85 = .ok (.getfield 19, 3) := by decide +kernel
theorem dX6_days_88 : decode cX6_days 88 = .ok (.getfield 151, 3) := by decide +kernel
theorem dX6_days_91 : decode cX6_days 91 = .ok (.invokevirtual 193, 3) := by decide +kernel
theorem dX6_days_94 : decode cX6_days 94 = .ok (.ireturn, 1) := by decide +kernel
theorem dX6_copyOf_0 : decode cX6_copyOf 0 = .ok (.aload_n 0, 1) := by decide +kernel
theorem dX6_copyOf_1 : decode cX6_copyOf 1 = .ok (.iload_n 1, 1) := by decide +kernel
theorem dX6_copyOf_2 : decode cX6_copyOf 2 = .ok (.invokevirtual 167, 3) := by decide +kernel
theorem dX6_copyOf_5 : decode cX6_copyOf 5 = .ok (.ifCond .ne 6, 3) := by decide +kernel
theorem dX6_copyOf_8 : decode cX6_copyOf 8 = .ok (.ldc 65, 2) := by decide +kernel
theorem dX6_copyOf_10 : decode cX6_copyOf 10 = .ok (.ireturn, 1) := by decide +kernel
theorem dX6_copyOf_11 : decode cX6_copyOf 11 = .ok (.iload_n 2, 1) := by decide +kernel
theorem dX6_copyOf_12 : decode cX6_copyOf 12 = .ok (.tableswitch 109 0 5 #[40, 50, 60, 70, 80, 92], 40) := by decide +kernel
theorem dX6_copyOf_52 : decode cX6_copyOf 52 = .ok (.aload_n 0, 1) := by decide +kernel
theorem dX6_copyOf_53 : decode cX6_copyOf 53 = .ok (.getfield 19, 3) := by decide +kernel
theorem dX6_copyOf_56 : decode cX6_copyOf 56 = .ok (.getfield 176, 3) := by decide +kernel
theorem dX6_copyOf_59 : decode cX6_copyOf 59 = .ok (.iload_n 1, 1) := by decide +kernel
theorem dX6_copyOf_60 : decode cX6_copyOf 60 = .ok (.iaload, 1) := by decide +kernel
theorem dX6_copyOf_61 : decode cX6_copyOf 61 = .ok (.ireturn, 1) := by decide +kernel
theorem dX6_copyOf_62 : decode cX6_copyOf 62 = .ok (.aload_n 0, 1) := by decide +kernel
theorem dX6_copyOf_63 : decode cX6_copyOf 63 = .ok (.getfield 19, 3) := by decide +kernel
theorem dX6_copyOf_66 : decode cX6_copyOf 66 = .ok (.getfield 196, 3) := by decide +kernel
theorem dX6_copyOf_69 : decode cX6_copyOf 69 = .ok (.iload_n 1, 1) := by decide +kernel
theorem dX6_copyOf_70 : decode cX6_copyOf 70 = .ok (.iaload, 1) := by decide +kernel
theorem dX6_copyOf_71 : decode cX6_copyOf 71 = .ok (.ireturn, 1) := by decide +kernel
theorem dX6_copyOf_72 : decode cX6_copyOf 72 = .ok (.aload_n 0, 1) := by decide +kernel
theorem dX6_copyOf_73 : decode cX6_copyOf 73 = .ok (.getfield 19, 3) := by decide +kernel
theorem dX6_copyOf_76 : decode cX6_copyOf 76 = .ok (.getfield 199, 3) := by decide +kernel
theorem dX6_copyOf_79 : decode cX6_copyOf 79 = .ok (.iload_n 1, 1) := by decide +kernel
theorem dX6_copyOf_80 : decode cX6_copyOf 80 = .ok (.iaload, 1) := by decide +kernel
theorem dX6_copyOf_81 : decode cX6_copyOf 81 = .ok (.ireturn, 1) := by decide +kernel
theorem dX6_copyOf_82 : decode cX6_copyOf 82 = .ok (.aload_n 0, 1) := by decide +kernel
theorem dX6_copyOf_83 : decode cX6_copyOf 83 = .ok (.getfield 19, 3) := by decide +kernel
theorem dX6_copyOf_86 : decode cX6_copyOf 86 = .ok (.getfield 202, 3) := by decide +kernel
theorem dX6_copyOf_89 : decode cX6_copyOf 89 = .ok (.iload_n 1, 1) := by decide +kernel
theorem dX6_copyOf_90 : decode cX6_copyOf 90 = .ok (.iaload, 1) := by decide +kernel
theorem dX6_copyOf_91 : decode cX6_copyOf 91 = .ok (.ireturn, 1) := by decide +kernel
theorem dX6_copyOf_92 : decode cX6_copyOf 92 = .ok (.aload_n 0, 1) := by decide +kernel
theorem dX6_copyOf_93 : decode cX6_copyOf 93 = .ok (.getfield 19, 3) := by decide +kernel
theorem dX6_copyOf_96 : decode cX6_copyOf 96 = .ok (.getfield 151, 3) := by decide +kernel
theorem dX6_copyOf_99 : decode cX6_copyOf 99 = .ok (.iload_n 1, 1) := by decide +kernel
theorem dX6_copyOf_100 : decode cX6_copyOf 100 = .ok (.invokestatic 179, 3) := by decide +kernel
theorem dX6_copyOf_103 : decode cX6_copyOf 103 = .ok (.ireturn, 1) := by decide +kernel
theorem dX6_copyOf_104 : decode cX6_copyOf 104 = .ok (.aload_n 0, 1) := by decide +kernel
theorem dX6_copyOf_105 : decode cX6_copyOf 105 = .ok (.getfield 19, 3) := by decide +kernel
theorem dX6_copyOf_108 : decode cX6_copyOf 108 = .ok (.iload_n 1, 1) := by decide +kernel
theorem dX6_copyOf_109 : decode cX6_copyOf 109 = .ok (.invokevirtual 170, 3) := by decide +kernel
theorem dX6_copyOf_112 : decode cX6_copyOf 112 = .ok (.ifCond .eq 7, 3) := by decide +kernel
theorem dX6_copyOf_115 : decode cX6_copyOf 115 = .ok (.iconst 1, 1) := by decide +kernel
theorem dX6_copyOf_116 : decode cX6_copyOf 116 = .ok (.goto 4, 3) := by decide +kernel
theorem dX6_copyOf_119 : decode cX6_copyOf 119 = .ok (.iconst 0, 1) := by decide +kernel
theorem dX6_copyOf_120 : decode cX6_copyOf 120 = .ok (.ireturn, 1) := by decide +kernel
theorem dX6_copyOf_121 : decode cX6_copyOf 121 = .ok (.ldc 65, 2) := by decide +kernel
theorem dX6_copyOf_123 : decode cX6_copyOf 123 = .ok (.ireturn, 1) := by decide +kernel
theorem dX6_hand_0 : decode cX6_hand 0 = .ok (.aload_n 0, 1) := by decide +kernel
theorem dX6_hand_1 : decode cX6_hand 1 = .ok (.iload_n 1, 1) := by decide +kernel
theorem dX6_hand_2 : decode cX6_hand 2 = .ok (.invokevirtual 145, 3) := by decide +kernel
theorem dX6_hand_5 : decode cX6_hand 5 = .ok (.ifCond .ne 6, 3) := by decide +kernel
theorem dX6_hand_8 : decode cX6_hand 8 = .ok (.ldc 65, 2) := by decide +kernel
theorem dX6_hand_10 : decode cX6_hand 10 = .ok (.ireturn, 1) := by decide +kernel
theorem dX6_hand_11 : decode cX6_hand 11 = .ok (.iload_n 2, 1) := by decide +kernel
theorem dX6_hand_12 : decode cX6_hand 12 = .ok (.tableswitch 63 0 2 #[28, 38, 54], 28) := by decide +kernel
theorem dX6_hand_40 : decode cX6_hand 40 = .ok (.aload_n 0, 1) := by decide +kernel
theorem dX6_hand_41 : decode cX6_hand 41 = .ok (.getfield 19, 3) := by decide +kernel
theorem dX6_hand_44 : decode cX6_hand 44 = .ok (.getfield 164, 3) := by decide +kernel
theorem dX6_hand_47 : decode cX6_hand 47 = .ok (.iload_n 1, 1) := by decide +kernel
theorem dX6_hand_48 : decode cX6_hand 48 = .ok (.iaload, 1) := by decide +kernel
theorem dX6_hand_49 : decode cX6_hand 49 = .ok (.ireturn, 1) := by decide +kernel
theorem dX6_hand_50 : decode cX6_hand 50 = .ok (.aload_n 0, 1) := by decide +kernel
theorem dX6_hand_51 : decode cX6_hand 51 = .ok (.getfield 19, 3) := by decide +kernel
theorem dX6_hand_54 : decode cX6_hand 54 = .ok (.iload_n 1, 1) := by decide +kernel
theorem dX6_hand_55 : decode cX6_hand 55 = .ok (.aload_n 0, 1) := by decide +kernel
theorem dX6_hand_56 : decode cX6_hand 56 = .ok (.getfield 19, 3) := by decide +kernel
theorem dX6_hand_59 : decode cX6_hand 59 = .ok (.getfield 205, 3) := by decide +kernel
theorem dX6_hand_62 : decode cX6_hand 62 = .ok (.invokevirtual 208, 3) := by decide +kernel
theorem dX6_hand_65 : decode cX6_hand 65 = .ok (.ireturn, 1) := by decide +kernel
theorem dX6_hand_66 : decode cX6_hand 66 = .ok (.aload_n 0, 1) := by decide +kernel
theorem dX6_hand_67 : decode cX6_hand 67 = .ok (.getfield 19, 3) := by decide +kernel
theorem dX6_hand_70 : decode cX6_hand 70 = .ok (.iload_n 1, 1) := by decide +kernel
theorem dX6_hand_71 : decode cX6_hand 71 = .ok (.invokevirtual 211, 3) := by decide +kernel
theorem dX6_hand_74 : decode cX6_hand 74 = .ok (.ireturn, 1) := by decide +kernel
theorem dX6_hand_75 : decode cX6_hand 75 = .ok (.ldc 65, 2) := by decide +kernel
theorem dX6_hand_77 : decode cX6_hand 77 = .ok (.ireturn, 1) := by decide +kernel
theorem dX6_deed_0 : decode cX6_deed 0 = .ok (.aload_n 0, 1) := by decide +kernel
theorem dX6_deed_1 : decode cX6_deed 1 = .ok (.iload_n 1, 1) := by decide +kernel
theorem dX6_deed_2 : decode cX6_deed 2 = .ok (.invokevirtual 214, 3) := by decide +kernel
theorem dX6_deed_5 : decode cX6_deed 5 = .ok (.ifCond .ne 6, 3) := by decide +kernel
theorem dX6_deed_8 : decode cX6_deed 8 = .ok (.ldc 65, 2) := by decide +kernel
theorem dX6_deed_10 : decode cX6_deed 10 = .ok (.ireturn, 1) := by decide +kernel
theorem dX6_deed_11 : decode cX6_deed 11 = .ok (.iload_n 2, 1) := by decide +kernel
theorem dX6_deed_12 : decode cX6_deed 12 = .ok (.tableswitch 112 0 4 #[36, 46, 56, 83, 93], 36) := by decide +kernel
theorem dX6_deed_48 : decode cX6_deed 48 = .ok (.aload_n 0, 1) := by decide +kernel
theorem dX6_deed_49 : decode cX6_deed 49 = .ok (.getfield 19, 3) := by decide +kernel
theorem dX6_deed_52 : decode cX6_deed 52 = .ok (.getfield 217, 3) := by decide +kernel
theorem dX6_deed_55 : decode cX6_deed 55 = .ok (.iload_n 1, 1) := by decide +kernel
theorem dX6_deed_56 : decode cX6_deed 56 = .ok (.iaload, 1) := by decide +kernel
theorem dX6_deed_57 : decode cX6_deed 57 = .ok (.ireturn, 1) := by decide +kernel
theorem dX6_deed_58 : decode cX6_deed 58 = .ok (.aload_n 0, 1) := by decide +kernel
theorem dX6_deed_59 : decode cX6_deed 59 = .ok (.getfield 19, 3) := by decide +kernel
theorem dX6_deed_62 : decode cX6_deed 62 = .ok (.getfield 220, 3) := by decide +kernel
theorem dX6_deed_65 : decode cX6_deed 65 = .ok (.iload_n 1, 1) := by decide +kernel
theorem dX6_deed_66 : decode cX6_deed 66 = .ok (.iaload, 1) := by decide +kernel
theorem dX6_deed_67 : decode cX6_deed 67 = .ok (.ireturn, 1) := by decide +kernel
theorem dX6_deed_68 : decode cX6_deed 68 = .ok (.aload_n 0, 1) := by decide +kernel
theorem dX6_deed_69 : decode cX6_deed 69 = .ok (.getfield 19, 3) := by decide +kernel
theorem dX6_deed_72 : decode cX6_deed 72 = .ok (.getfield 223, 3) := by decide +kernel
theorem dX6_deed_75 : decode cX6_deed 75 = .ok (.iload_n 1, 1) := by decide +kernel
theorem dX6_deed_76 : decode cX6_deed 76 = .ok (.iaload, 1) := by decide +kernel
theorem dX6_deed_77 : decode cX6_deed 77 = .ok (.ifCond .lt 15, 3) := by decide +kernel
theorem dX6_deed_80 : decode cX6_deed 80 = .ok (.aload_n 0, 1) := by decide +kernel
theorem dX6_deed_81 : decode cX6_deed 81 = .ok (.getfield 19, 3) := by decide +kernel
theorem dX6_deed_84 : decode cX6_deed 84 = .ok (.getfield 223, 3) := by decide +kernel
theorem dX6_deed_87 : decode cX6_deed 87 = .ok (.iload_n 1, 1) := by decide +kernel
theorem dX6_deed_88 : decode cX6_deed 88 = .ok (.iaload, 1) := by decide +kernel
theorem dX6_deed_89 : decode cX6_deed 89 = .ok (.goto 5, 3) := by decide +kernel
theorem dX6_deed_92 : decode cX6_deed 92 = .ok (.ldc 226, 2) := by decide +kernel
theorem dX6_deed_94 : decode cX6_deed 94 = .ok (.ireturn, 1) := by decide +kernel
theorem dX6_deed_95 : decode cX6_deed 95 = .ok (.aload_n 0, 1) := by decide +kernel
theorem dX6_deed_96 : decode cX6_deed 96 = .ok (.getfield 19, 3) := by decide +kernel
theorem dX6_deed_99 : decode cX6_deed 99 = .ok (.getfield 227, 3) := by decide +kernel
theorem dX6_deed_102 : decode cX6_deed 102 = .ok (.iload_n 1, 1) := by decide +kernel
theorem dX6_deed_103 : decode cX6_deed 103 = .ok (.iaload, 1) := by decide +kernel
theorem dX6_deed_104 : decode cX6_deed 104 = .ok (.ireturn, 1) := by decide +kernel
theorem dX6_deed_105 : decode cX6_deed 105 = .ok (.aload_n 0, 1) := by decide +kernel
theorem dX6_deed_106 : decode cX6_deed 106 = .ok (.getfield 19, 3) := by decide +kernel
theorem dX6_deed_109 : decode cX6_deed 109 = .ok (.aload_n 0, 1) := by decide +kernel
theorem dX6_deed_110 : decode cX6_deed 110 = .ok (.getfield 19, 3) := by decide +kernel
theorem dX6_deed_113 : decode cX6_deed 113 = .ok (.getfield 151, 3) := by decide +kernel
theorem dX6_deed_116 : decode cX6_deed 116 = .ok (.invokevirtual 193, 3) := by decide +kernel
theorem dX6_deed_119 : decode cX6_deed 119 = .ok (.iload_n 1, 1) := by decide +kernel
theorem dX6_deed_120 : decode cX6_deed 120 = .ok (.invokestatic 179, 3) := by decide +kernel
theorem dX6_deed_123 : decode cX6_deed 123 = .ok (.ireturn, 1) := by decide +kernel
theorem dX6_deed_124 : decode cX6_deed 124 = .ok (.ldc 65, 2) := by decide +kernel
theorem dX6_deed_126 : decode cX6_deed 126 = .ok (.ireturn, 1) := by decide +kernel
theorem dX6_place_0 : decode cX6_place 0 = .ok (.aload_n 0, 1) := by decide +kernel
theorem dX6_place_1 : decode cX6_place 1 = .ok (.getfield 19, 3) := by decide +kernel
theorem dX6_place_4 : decode cX6_place 4 = .ok (.getfield 183, 3) := by decide +kernel
theorem dX6_place_7 : decode cX6_place 7 = .ok (.ifCond .ne 6, 3) := by decide +kernel
theorem dX6_place_10 : decode cX6_place 10 = .ok (.ldc 141, 2) := by decide +kernel
theorem dX6_place_12 : decode cX6_place 12 = .ok (.ireturn, 1) := by decide +kernel
theorem dX6_place_13 : decode cX6_place 13 = .ok (.iload_n 1, 1) := by decide +kernel
theorem dX6_place_14 : decode cX6_place 14 = .ok (.bipush 6, 2) := by decide +kernel
theorem dX6_place_16 : decode cX6_place 16 = .ok (.invokestatic 61, 3) := by decide +kernel
theorem dX6_place_19 : decode cX6_place 19 = .ok (.ifCond .eq 11, 3) := by decide +kernel
theorem dX6_place_22 : decode cX6_place 22 = .ok (.iload_n 2, 1) := by decide +kernel
theorem dX6_place_23 : decode cX6_place 23 = .ok (.iconst 2, 1) := by decide +kernel
theorem dX6_place_24 : decode cX6_place 24 = .ok (.invokestatic 61, 3) := by decide +kernel
theorem dX6_place_27 : decode cX6_place 27 = .ok (.ifCond .ne 6, 3) := by decide +kernel
theorem dX6_place_30 : decode cX6_place 30 = .ok (.ldc 65, 2) := by decide +kernel
theorem dX6_place_32 : decode cX6_place 32 = .ok (.ireturn, 1) := by decide +kernel
theorem dX6_place_33 : decode cX6_place 33 = .ok (.iload_n 2, 1) := by decide +kernel
theorem dX6_place_34 : decode cX6_place 34 = .ok (.ifCond .ne 14, 3) := by decide +kernel
theorem dX6_place_37 : decode cX6_place 37 = .ok (.aload_n 0, 1) := by decide +kernel
theorem dX6_place_38 : decode cX6_place 38 = .ok (.getfield 19, 3) := by decide +kernel
theorem dX6_place_41 : decode cX6_place 41 = .ok (.iload_n 1, 1) := by decide +kernel
theorem dX6_place_42 : decode cX6_place 42 = .ok (.invokevirtual 230, 3) := by decide +kernel
theorem dX6_place_45 : decode cX6_place 45 = .ok (.goto 21, 3) := by decide +kernel
theorem dX6_place_48 : decode cX6_place 48 = .ok (.aload_n 0, 1) := by decide +kernel
theorem dX6_place_49 : decode cX6_place 49 = .ok (.getfield 19, 3) := by decide +kernel
theorem dX6_place_52 : decode cX6_place 52 = .ok (.aload_n 0, 1) := by decide +kernel
theorem dX6_place_53 : decode cX6_place 53 = .ok (.getfield 19, 3) := by decide +kernel
theorem dX6_place_56 : decode cX6_place 56 = .ok (.getfield 151, 3) := by decide +kernel
theorem dX6_place_59 : decode cX6_place 59 = .ok (.invokevirtual 173, 3) := by decide +kernel
theorem dX6_place_62 : decode cX6_place 62 = .ok (.iload_n 1, 1) := by decide +kernel
theorem dX6_place_63 : decode cX6_place 63 = .ok (.invokestatic 179, 3) := by decide +kernel
theorem dX6_place_66 : decode cX6_place 66 = .ok (.ireturn, 1) := by decide +kernel
theorem dX6_falls_0 : decode cX6_falls 0 = .ok (.aload_n 0, 1) := by decide +kernel
theorem dX6_falls_1 : decode cX6_falls 1 = .ok (.getfield 19, 3) := by decide +kernel
theorem dX6_falls_4 : decode cX6_falls 4 = .ok (.getfield 183, 3) := by decide +kernel
theorem dX6_falls_7 : decode cX6_falls 7 = .ok (.ifCond .ne 6, 3) := by decide +kernel
theorem dX6_falls_10 : decode cX6_falls 10 = .ok (.ldc 141, 2) := by decide +kernel
theorem dX6_falls_12 : decode cX6_falls 12 = .ok (.ireturn, 1) := by decide +kernel
theorem dX6_falls_13 : decode cX6_falls 13 = .ok (.aload_n 0, 1) := by decide +kernel
theorem dX6_falls_14 : decode cX6_falls 14 = .ok (.iload_n 1, 1) := by decide +kernel
theorem dX6_falls_15 : decode cX6_falls 15 = .ok (.invokevirtual 233, 3) := by decide +kernel
theorem dX6_falls_18 : decode cX6_falls 18 = .ok (.ifCond .eq 11, 3) := by decide +kernel
theorem dX6_falls_21 : decode cX6_falls 21 = .ok (.iload_n 2, 1) := by decide +kernel
theorem dX6_falls_22 : decode cX6_falls 22 = .ok (.iconst 2, 1) := by decide +kernel
theorem dX6_falls_23 : decode cX6_falls 23 = .ok (.invokestatic 61, 3) := by decide +kernel
theorem dX6_falls_26 : decode cX6_falls 26 = .ok (.ifCond .ne 6, 3) := by decide +kernel
theorem dX6_falls_29 : decode cX6_falls 29 = .ok (.ldc 65, 2) := by decide +kernel
theorem dX6_falls_31 : decode cX6_falls 31 = .ok (.ireturn, 1) := by decide +kernel
theorem dX6_falls_32 : decode cX6_falls 32 = .ok (.iload_n 2, 1) := by decide +kernel
theorem dX6_falls_33 : decode cX6_falls 33 = .ok (.ifCond .ne 18, 3) := by decide +kernel
theorem dX6_falls_36 : decode cX6_falls 36 = .ok (.aload_n 0, 1) := by decide +kernel
theorem dX6_falls_37 : decode cX6_falls 37 = .ok (.getfield 46, 3) := by decide +kernel
theorem dX6_falls_40 : decode cX6_falls 40 = .ok (.aload_n 0, 1) := by decide +kernel
theorem dX6_falls_41 : decode cX6_falls 41 = .ok (.getfield 19, 3) := by decide +kernel
theorem dX6_falls_44 : decode cX6_falls 44 = .ok (.iload_n 1, 1) := by decide +kernel
theorem dX6_falls_45 : decode cX6_falls 45 = .ok (.invokevirtual 236, 3) := by decide +kernel
theorem dX6_falls_48 : decode cX6_falls 48 = .ok (.goto 15, 3) := by decide +kernel
theorem dX6_falls_51 : decode cX6_falls 51 = .ok (.aload_n 0, 1) := by decide +kernel
theorem dX6_falls_52 : decode cX6_falls 52 = .ok (.getfield 46, 3) := by decide +kernel
theorem dX6_falls_55 : decode cX6_falls 55 = .ok (.aload_n 0, 1) := by decide +kernel
theorem dX6_falls_56 : decode cX6_falls 56 = .ok (.getfield 19, 3) := by decide +kernel
theorem dX6_falls_59 : decode cX6_falls 59 = .ok (.iload_n 1, 1) := by decide +kernel
theorem dX6_falls_60 : decode cX6_falls 60 = .ok (.invokevirtual 240, 3) := by decide +kernel
theorem dX6_falls_63 : decode cX6_falls 63 = .ok (.ireturn, 1) := by decide +kernel
theorem dX6_ransom_0 : decode cX6_ransom 0 = .ok (.aload_n 0, 1) := by decide +kernel
theorem dX6_ransom_1 : decode cX6_ransom 1 = .ok (.iload_n 1, 1) := by decide +kernel
theorem dX6_ransom_2 : decode cX6_ransom 2 = .ok (.invokevirtual 145, 3) := by decide +kernel
theorem dX6_ransom_5 : decode cX6_ransom 5 = .ok (.ifCond .eq 20, 3) := by decide +kernel
theorem dX6_ransom_8 : decode cX6_ransom 8 = .ok (.aload_n 0, 1) := by decide +kernel
theorem dX6_ransom_9 : decode cX6_ransom 9 = .ok (.getfield 46, 3) := by decide +kernel
theorem dX6_ransom_12 : decode cX6_ransom 12 = .ok (.aload_n 0, 1) := by decide +kernel
theorem dX6_ransom_13 : decode cX6_ransom 13 = .ok (.getfield 19, 3) := by decide +kernel
theorem dX6_ransom_16 : decode cX6_ransom 16 = .ok (.iconst 1, 1) := by decide +kernel
theorem dX6_ransom_17 : decode cX6_ransom 17 = .ok (.iload_n 1, 1) := by decide +kernel
theorem dX6_ransom_18 : decode cX6_ransom 18 = .ok (.ishl, 1) := by decide +kernel
theorem dX6_ransom_19 : decode cX6_ransom 19 = .ok (.invokevirtual 240, 3) := by decide +kernel
theorem dX6_ransom_22 : decode cX6_ransom 22 = .ok (.goto 5, 3) := by decide +kernel
theorem dX6_ransom_25 : decode cX6_ransom 25 = .ok (.ldc 65, 2) := by decide +kernel
theorem dX6_ransom_27 : decode cX6_ransom 27 = .ok (.ireturn, 1) := by decide +kernel
theorem dX6_pair_0 : decode cX6_pair 0 = .ok (.aload_n 0, 1) := by decide +kernel
theorem dX6_pair_1 : decode cX6_pair 1 = .ok (.getfield 19, 3) := by decide +kernel
theorem dX6_pair_4 : decode cX6_pair 4 = .ok (.getfield 183, 3) := by decide +kernel
theorem dX6_pair_7 : decode cX6_pair 7 = .ok (.ifCond .ne 6, 3) := by decide +kernel
theorem dX6_pair_10 : decode cX6_pair 10 = .ok (.ldc 141, 2) := by decide +kernel
theorem dX6_pair_12 : decode cX6_pair 12 = .ok (.ireturn, 1) := by decide +kernel
theorem dX6_pair_13 : decode cX6_pair 13 = .ok (.iload_n 1, 1) := by decide +kernel
theorem dX6_pair_14 : decode cX6_pair 14 = .ok (.iconst 2, 1) := by decide +kernel
theorem dX6_pair_15 : decode cX6_pair 15 = .ok (.invokestatic 61, 3) := by decide +kernel
theorem dX6_pair_18 : decode cX6_pair 18 = .ok (.ifCond .ne 6, 3) := by decide +kernel
theorem dX6_pair_21 : decode cX6_pair 21 = .ok (.ldc 65, 2) := by decide +kernel
theorem dX6_pair_23 : decode cX6_pair 23 = .ok (.ireturn, 1) := by decide +kernel
theorem dX6_pair_24 : decode cX6_pair 24 = .ok (.aload_n 0, 1) := by decide +kernel
theorem dX6_pair_25 : decode cX6_pair 25 = .ok (.getfield 46, 3) := by decide +kernel
theorem dX6_pair_28 : decode cX6_pair 28 = .ok (.aload_n 0, 1) := by decide +kernel
theorem dX6_pair_29 : decode cX6_pair 29 = .ok (.getfield 19, 3) := by decide +kernel
theorem dX6_pair_32 : decode cX6_pair 32 = .ok (.invokevirtual 243, 3) := by decide +kernel
theorem dX6_pair_35 : decode cX6_pair 35 = .ok (.aload_n 0, 1) := by decide +kernel
theorem dX6_pair_36 : decode cX6_pair 36 = .ok (.getfield 46, 3) := by decide +kernel
theorem dX6_pair_39 : decode cX6_pair 39 = .ok (.aload_n 0, 1) := by decide +kernel
theorem dX6_pair_40 : decode cX6_pair 40 = .ok (.getfield 19, 3) := by decide +kernel
theorem dX6_pair_43 : decode cX6_pair 43 = .ok (.invokevirtual 246, 3) := by decide +kernel
theorem dX6_pair_46 : decode cX6_pair 46 = .ok (.istore_n 2, 1) := by decide +kernel
theorem dX6_pair_47 : decode cX6_pair 47 = .ok (.iload_n 1, 1) := by decide +kernel
theorem dX6_pair_48 : decode cX6_pair 48 = .ok (.ifCond .eq 9, 3) := by decide +kernel
theorem dX6_pair_51 : decode cX6_pair 51 = .ok (.iload_n 2, 1) := by decide +kernel
theorem dX6_pair_52 : decode cX6_pair 52 = .ok (.ldc 226, 2) := by decide +kernel
theorem dX6_pair_54 : decode cX6_pair 54 = .ok (.if_icmp .ne 7, 3) := by decide +kernel
theorem dX6_pair_57 : decode cX6_pair 57 = .ok (.iload_n 2, 1) := by decide +kernel
theorem dX6_pair_58 : decode cX6_pair 58 = .ok (.goto 16, 3) := by decide +kernel
theorem dX6_pair_61 : decode cX6_pair 61 = .ok (.aload_n 0, 1) := by decide +kernel
theorem dX6_pair_62 : decode cX6_pair 62 = .ok (.getfield 46, 3) := by decide +kernel
theorem dX6_pair_65 : decode cX6_pair 65 = .ok (.iload_n 2, 1) := by decide +kernel
theorem dX6_pair_66 : decode cX6_pair 66 = .ok (.iconst 4, 1) := by decide +kernel
theorem dX6_pair_67 : decode cX6_pair 67 = .ok (.idiv, 1) := by decide +kernel
theorem dX6_pair_68 : decode cX6_pair 68 = .ok (.iload_n 2, 1) := by decide +kernel
theorem dX6_pair_69 : decode cX6_pair 69 = .ok (.iconst 4, 1) := by decide +kernel
theorem dX6_pair_70 : decode cX6_pair 70 = .ok (.irem, 1) := by decide +kernel
theorem dX6_pair_71 : decode cX6_pair 71 = .ok (.invokevirtual 250, 3) := by decide +kernel
theorem dX6_pair_74 : decode cX6_pair 74 = .ok (.ireturn, 1) := by decide +kernel
theorem dX6_ahead_0 : decode cX6_ahead 0 = .ok (.aload_n 0, 1) := by decide +kernel
theorem dX6_ahead_1 : decode cX6_ahead 1 = .ok (.getfield 19, 3) := by decide +kernel
theorem dX6_ahead_4 : decode cX6_ahead 4 = .ok (.getfield 183, 3) := by decide +kernel
theorem dX6_ahead_7 : decode cX6_ahead 7 = .ok (.ifCond .ne 6, 3) := by decide +kernel
theorem dX6_ahead_10 : decode cX6_ahead 10 = .ok (.ldc 141, 2) := by decide +kernel
theorem dX6_ahead_12 : decode cX6_ahead 12 = .ok (.ireturn, 1) := by decide +kernel
theorem dX6_ahead_13 : decode cX6_ahead 13 = .ok (.iload_n 1, 1) := by decide +kernel
theorem dX6_ahead_14 : decode cX6_ahead 14 = .ok (.ifCond .lt 18, 3) := by decide +kernel
theorem dX6_ahead_17 : decode cX6_ahead 17 = .ok (.iload_n 1, 1) := by decide +kernel
theorem dX6_ahead_18 : decode cX6_ahead 18 = .ok (.sipush 200, 3) := by decide +kernel
theorem dX6_ahead_21 : decode cX6_ahead 21 = .ok (.if_icmp .gt 11, 3) := by decide +kernel
theorem dX6_ahead_24 : decode cX6_ahead 24 = .ok (.iload_n 2, 1) := by decide +kernel
theorem dX6_ahead_25 : decode cX6_ahead 25 = .ok (.iconst 3, 1) := by decide +kernel
theorem dX6_ahead_26 : decode cX6_ahead 26 = .ok (.invokestatic 61, 3) := by decide +kernel
theorem dX6_ahead_29 : decode cX6_ahead 29 = .ok (.ifCond .ne 6, 3) := by decide +kernel
theorem dX6_ahead_32 : decode cX6_ahead 32 = .ok (.ldc 65, 2) := by decide +kernel
theorem dX6_ahead_34 : decode cX6_ahead 34 = .ok (.ireturn, 1) := by decide +kernel
theorem dX6_ahead_35 : decode cX6_ahead 35 = .ok (.aload_n 0, 1) := by decide +kernel
theorem dX6_ahead_36 : decode cX6_ahead 36 = .ok (.getfield 19, 3) := by decide +kernel
theorem dX6_ahead_39 : decode cX6_ahead 39 = .ok (.aload_n 0, 1) := by decide +kernel
theorem dX6_ahead_40 : decode cX6_ahead 40 = .ok (.getfield 19, 3) := by decide +kernel
theorem dX6_ahead_43 : decode cX6_ahead 43 = .ok (.getfield 151, 3) := by decide +kernel
theorem dX6_ahead_46 : decode cX6_ahead 46 = .ok (.aload_n 0, 1) := by decide +kernel
theorem dX6_ahead_47 : decode cX6_ahead 47 = .ok (.getfield 19, 3) := by decide +kernel
theorem dX6_ahead_50 : decode cX6_ahead 50 = .ok (.getfield 187, 3) := by decide +kernel
theorem dX6_ahead_53 : decode cX6_ahead 53 = .ok (.iload_n 1, 1) := by decide +kernel
theorem dX6_ahead_54 : decode cX6_ahead 54 = .ok (.iadd, 1) := by decide +kernel
theorem dX6_ahead_55 : decode cX6_ahead 55 = .ok (.invokevirtual 253, 3) := by decide +kernel
theorem dX6_ahead_58 : decode cX6_ahead 58 = .ok (.istore_n 3, 1) := by decide +kernel
theorem dX6_ahead_59 : decode cX6_ahead 59 = .ok (.iload_n 2, 1) := by decide +kernel
theorem dX6_ahead_60 : decode cX6_ahead 60 = .ok (.lookupswitch 46 #[(0, 28), (1, 37)], 28) := by decide +kernel
theorem dX6_ahead_88 : decode cX6_ahead 88 = .ok (.aload_n 0, 1) := by decide +kernel
theorem dX6_ahead_89 : decode cX6_ahead 89 = .ok (.getfield 19, 3) := by decide +kernel
theorem dX6_ahead_92 : decode cX6_ahead 92 = .ok (.iload_n 3, 1) := by decide +kernel
theorem dX6_ahead_93 : decode cX6_ahead 93 = .ok (.invokevirtual 173, 3) := by decide +kernel
theorem dX6_ahead_96 : decode cX6_ahead 96 = .ok (.ireturn, 1) := by decide +kernel
theorem dX6_ahead_97 : decode cX6_ahead 97 = .ok (.aload_n 0, 1) := by decide +kernel
theorem dX6_ahead_98 : decode cX6_ahead 98 = .ok (.getfield 19, 3) := by decide +kernel
theorem dX6_ahead_101 : decode cX6_ahead 101 = .ok (.iload_n 3, 1) := by decide +kernel
theorem dX6_ahead_102 : decode cX6_ahead 102 = .ok (.invokevirtual 193, 3) := by decide +kernel
theorem dX6_ahead_105 : decode cX6_ahead 105 = .ok (.ireturn, 1) := by decide +kernel
theorem dX6_ahead_106 : decode cX6_ahead 106 = .ok (.iload_n 3, 1) := by decide +kernel
theorem dX6_ahead_107 : decode cX6_ahead 107 = .ok (.ireturn, 1) := by decide +kernel
theorem dX6_first_0 : decode cX6_first 0 = .ok (.aload_n 0, 1) := by decide +kernel
theorem dX6_first_1 : decode cX6_first 1 = .ok (.iload_n 1, 1) := by decide +kernel
theorem dX6_first_2 : decode cX6_first 2 = .ok (.invokevirtual 214, 3) := by decide +kernel
theorem dX6_first_5 : decode cX6_first 5 = .ok (.ifCond .eq 15, 3) := by decide +kernel
theorem dX6_first_8 : decode cX6_first 8 = .ok (.iload_n 2, 1) := by decide +kernel
theorem dX6_first_9 : decode cX6_first 9 = .ok (.iconst 1, 1) := by decide +kernel
theorem dX6_first_10 : decode cX6_first 10 = .ok (.if_icmp .lt 10, 3) := by decide +kernel
theorem dX6_first_13 : decode cX6_first 13 = .ok (.iload_n 2, 1) := by decide +kernel
theorem dX6_first_14 : decode cX6_first 14 = .ok (.sipush 200, 3) := by decide +kernel
theorem dX6_first_17 : decode cX6_first 17 = .ok (.if_icmp .le 6, 3) := by decide +kernel
theorem dX6_first_20 : decode cX6_first 20 = .ok (.ldc 65, 2) := by decide +kernel
theorem dX6_first_22 : decode cX6_first 22 = .ok (.ireturn, 1) := by decide +kernel
theorem dX6_first_23 : decode cX6_first 23 = .ok (.aload_n 0, 1) := by decide +kernel
theorem dX6_first_24 : decode cX6_first 24 = .ok (.getfield 46, 3) := by decide +kernel
theorem dX6_first_27 : decode cX6_first 27 = .ok (.aload_n 0, 1) := by decide +kernel
theorem dX6_first_28 : decode cX6_first 28 = .ok (.getfield 19, 3) := by decide +kernel
theorem dX6_first_31 : decode cX6_first 31 = .ok (.iload_n 1, 1) := by decide +kernel
theorem dX6_first_32 : decode cX6_first 32 = .ok (.iload_n 2, 1) := by decide +kernel
theorem dX6_first_33 : decode cX6_first 33 = .ok (.invokevirtual 256, 3) := by decide +kernel
theorem dX6_first_36 : decode cX6_first 36 = .ok (.ireturn, 1) := by decide +kernel
theorem dX6_safe_0 : decode cX6_safe 0 = .ok (.aload_n 0, 1) := by decide +kernel
theorem dX6_safe_1 : decode cX6_safe 1 = .ok (.iload_n 1, 1) := by decide +kernel
theorem dX6_safe_2 : decode cX6_safe 2 = .ok (.invokevirtual 167, 3) := by decide +kernel
theorem dX6_safe_5 : decode cX6_safe 5 = .ok (.ifCond .eq 18, 3) := by decide +kernel
theorem dX6_safe_8 : decode cX6_safe 8 = .ok (.aload_n 0, 1) := by decide +kernel
theorem dX6_safe_9 : decode cX6_safe 9 = .ok (.getfield 46, 3) := by decide +kernel
theorem dX6_safe_12 : decode cX6_safe 12 = .ok (.aload_n 0, 1) := by decide +kernel
theorem dX6_safe_13 : decode cX6_safe 13 = .ok (.getfield 19, 3) := by decide +kernel
theorem dX6_safe_16 : decode cX6_safe 16 = .ok (.iload_n 1, 1) := by decide +kernel
theorem dX6_safe_17 : decode cX6_safe 17 = .ok (.invokevirtual 260, 3) := by decide +kernel
theorem dX6_safe_20 : decode cX6_safe 20 = .ok (.goto 5, 3) := by decide +kernel
theorem dX6_safe_23 : decode cX6_safe 23 = .ok (.ldc 65, 2) := by decide +kernel
theorem dX6_safe_25 : decode cX6_safe 25 = .ok (.ireturn, 1) := by decide +kernel
theorem dX6_doubles_0 : decode cX6_doubles 0 = .ok (.aload_n 0, 1) := by decide +kernel
theorem dX6_doubles_1 : decode cX6_doubles 1 = .ok (.iload_n 1, 1) := by decide +kernel
theorem dX6_doubles_2 : decode cX6_doubles 2 = .ok (.invokevirtual 214, 3) := by decide +kernel
theorem dX6_doubles_5 : decode cX6_doubles 5 = .ok (.ifCond .eq 19, 3) := by decide +kernel
theorem dX6_doubles_8 : decode cX6_doubles 8 = .ok (.aload_n 0, 1) := by decide +kernel
theorem dX6_doubles_9 : decode cX6_doubles 9 = .ok (.iload_n 2, 1) := by decide +kernel
theorem dX6_doubles_10 : decode cX6_doubles 10 = .ok (.invokevirtual 233, 3) := by decide +kernel
theorem dX6_doubles_13 : decode cX6_doubles 13 = .ok (.ifCond .eq 11, 3) := by decide +kernel
theorem dX6_doubles_16 : decode cX6_doubles 16 = .ok (.iload_n 3, 1) := by decide +kernel
theorem dX6_doubles_17 : decode cX6_doubles 17 = .ok (.iconst 3, 1) := by decide +kernel
theorem dX6_doubles_18 : decode cX6_doubles 18 = .ok (.invokestatic 61, 3) := by decide +kernel
theorem dX6_doubles_21 : decode cX6_doubles 21 = .ok (.ifCond .ne 6, 3) := by decide +kernel
theorem dX6_doubles_24 : decode cX6_doubles 24 = .ok (.ldc 65, 2) := by decide +kernel
theorem dX6_doubles_26 : decode cX6_doubles 26 = .ok (.ireturn, 1) := by decide +kernel
theorem dX6_doubles_27 : decode cX6_doubles 27 = .ok (.aload_n 0, 1) := by decide +kernel
theorem dX6_doubles_28 : decode cX6_doubles 28 = .ok (.getfield 46, 3) := by decide +kernel
theorem dX6_doubles_31 : decode cX6_doubles 31 = .ok (.aload_n 0, 1) := by decide +kernel
theorem dX6_doubles_32 : decode cX6_doubles 32 = .ok (.getfield 19, 3) := by decide +kernel
theorem dX6_doubles_35 : decode cX6_doubles 35 = .ok (.iload_n 1, 1) := by decide +kernel
theorem dX6_doubles_36 : decode cX6_doubles 36 = .ok (.iload_n 2, 1) := by decide +kernel
theorem dX6_doubles_37 : decode cX6_doubles 37 = .ok (.iload_n 3, 1) := by decide +kernel
theorem dX6_doubles_38 : decode cX6_doubles 38 = .ok (.invokevirtual 263, 3) := by decide +kernel
theorem dX6_doubles_41 : decode cX6_doubles 41 = .ok (.ireturn, 1) := by decide +kernel
theorem dX6_law_0 : decode cX6_law 0 = .ok (.aload_n 0, 1) := by decide +kernel
theorem dX6_law_1 : decode cX6_law 1 = .ok (.iload_n 1, 1) := by decide +kernel
theorem dX6_law_2 : decode cX6_law 2 = .ok (.invokevirtual 214, 3) := by decide +kernel
theorem dX6_law_5 : decode cX6_law 5 = .ok (.ifCond .eq 11, 3) := by decide +kernel
theorem dX6_law_8 : decode cX6_law 8 = .ok (.aload_n 0, 1) := by decide +kernel
theorem dX6_law_9 : decode cX6_law 9 = .ok (.iload_n 2, 1) := by decide +kernel
theorem dX6_law_10 : decode cX6_law 10 = .ok (.invokevirtual 233, 3) := by decide +kernel
theorem dX6_law_13 : decode cX6_law 13 = .ok (.ifCond .ne 6, 3) := by decide +kernel
theorem dX6_law_16 : decode cX6_law 16 = .ok (.ldc 65, 2) := by decide +kernel
theorem dX6_law_18 : decode cX6_law 18 = .ok (.ireturn, 1) := by decide +kernel
theorem dX6_law_19 : decode cX6_law 19 = .ok (.aload_n 0, 1) := by decide +kernel
theorem dX6_law_20 : decode cX6_law 20 = .ok (.getfield 46, 3) := by decide +kernel
theorem dX6_law_23 : decode cX6_law 23 = .ok (.aload_n 0, 1) := by decide +kernel
theorem dX6_law_24 : decode cX6_law 24 = .ok (.getfield 19, 3) := by decide +kernel
theorem dX6_law_27 : decode cX6_law 27 = .ok (.iload_n 1, 1) := by decide +kernel
theorem dX6_law_28 : decode cX6_law 28 = .ok (.iload_n 2, 1) := by decide +kernel
theorem dX6_law_29 : decode cX6_law 29 = .ok (.invokevirtual 267, 3) := by decide +kernel
theorem dX6_law_32 : decode cX6_law 32 = .ok (.ireturn, 1) := by decide +kernel
theorem dX6_order_0 : decode cX6_order 0 = .ok (.aload_n 0, 1) := by decide +kernel
theorem dX6_order_1 : decode cX6_order 1 = .ok (.getfield 19, 3) := by decide +kernel
theorem dX6_order_4 : decode cX6_order 4 = .ok (.getfield 183, 3) := by decide +kernel
theorem dX6_order_7 : decode cX6_order 7 = .ok (.ifCond .ne 6, 3) := by decide +kernel
theorem dX6_order_10 : decode cX6_order 10 = .ok (.ldc 141, 2) := by decide +kernel
theorem dX6_order_12 : decode cX6_order 12 = .ok (.ireturn, 1) := by decide +kernel
theorem dX6_order_13 : decode cX6_order 13 = .ok (.iload_n 1, 1) := by decide +kernel
theorem dX6_order_14 : decode cX6_order 14 = .ok (.iconst (-1), 1) := by decide +kernel
theorem dX6_order_15 : decode cX6_order 15 = .ok (.if_icmp .lt 8, 3) := by decide +kernel
theorem dX6_order_18 : decode cX6_order 18 = .ok (.iload_n 1, 1) := by decide +kernel
theorem dX6_order_19 : decode cX6_order 19 = .ok (.iconst 4, 1) := by decide +kernel
theorem dX6_order_20 : decode cX6_order 20 = .ok (.if_icmp .lt 6, 3) := by decide +kernel
theorem dX6_order_23 : decode cX6_order 23 = .ok (.ldc 65, 2) := by decide +kernel
theorem dX6_order_25 : decode cX6_order 25 = .ok (.ireturn, 1) := by decide +kernel
theorem dX6_order_26 : decode cX6_order 26 = .ok (.iload_n 1, 1) := by decide +kernel
theorem dX6_order_27 : decode cX6_order 27 = .ok (.aload_n 0, 1) := by decide +kernel
theorem dX6_order_28 : decode cX6_order 28 = .ok (.getfield 19, 3) := by decide +kernel
theorem dX6_order_31 : decode cX6_order 31 = .ok (.getfield 137, 3) := by decide +kernel
theorem dX6_order_34 : decode cX6_order 34 = .ok (.if_icmp .lt 6, 3) := by decide +kernel
theorem dX6_order_37 : decode cX6_order 37 = .ok (.ldc 226, 2) := by decide +kernel
theorem dX6_order_39 : decode cX6_order 39 = .ok (.ireturn, 1) := by decide +kernel
theorem dX6_order_40 : decode cX6_order 40 = .ok (.aload_n 0, 1) := by decide +kernel
theorem dX6_order_41 : decode cX6_order 41 = .ok (.getfield 46, 3) := by decide +kernel
theorem dX6_order_44 : decode cX6_order 44 = .ok (.aload_n 0, 1) := by decide +kernel
theorem dX6_order_45 : decode cX6_order 45 = .ok (.getfield 19, 3) := by decide +kernel
theorem dX6_order_48 : decode cX6_order 48 = .ok (.invokevirtual 243, 3) := by decide +kernel
theorem dX6_order_51 : decode cX6_order 51 = .ok (.aload_n 0, 1) := by decide +kernel
theorem dX6_order_52 : decode cX6_order 52 = .ok (.getfield 46, 3) := by decide +kernel
theorem dX6_order_55 : decode cX6_order 55 = .ok (.aload_n 0, 1) := by decide +kernel
theorem dX6_order_56 : decode cX6_order 56 = .ok (.getfield 19, 3) := by decide +kernel
theorem dX6_order_59 : decode cX6_order 59 = .ok (.invokevirtual 270, 3) := by decide +kernel
theorem dX6_order_62 : decode cX6_order 62 = .ok (.istore_n 2, 1) := by decide +kernel
theorem dX6_order_63 : decode cX6_order 63 = .ok (.iload_n 1, 1) := by decide +kernel
theorem dX6_order_64 : decode cX6_order 64 = .ok (.ifCond .ge 18, 3) := by decide +kernel
theorem dX6_order_67 : decode cX6_order 67 = .ok (.aload_n 0, 1) := by decide +kernel
theorem dX6_order_68 : decode cX6_order 68 = .ok (.getfield 46, 3) := by decide +kernel
theorem dX6_order_71 : decode cX6_order 71 = .ok (.aload_n 0, 1) := by decide +kernel
theorem dX6_order_72 : decode cX6_order 72 = .ok (.getfield 19, 3) := by decide +kernel
theorem dX6_order_75 : decode cX6_order 75 = .ok (.iload_n 2, 1) := by decide +kernel
theorem dX6_order_76 : decode cX6_order 76 = .ok (.invokevirtual 273, 3) := by decide +kernel
theorem dX6_order_79 : decode cX6_order 79 = .ok (.goto 16, 3) := by decide +kernel
theorem dX6_order_82 : decode cX6_order 82 = .ok (.aload_n 0, 1) := by decide +kernel
theorem dX6_order_83 : decode cX6_order 83 = .ok (.getfield 46, 3) := by decide +kernel
theorem dX6_order_86 : decode cX6_order 86 = .ok (.aload_n 0, 1) := by decide +kernel
theorem dX6_order_87 : decode cX6_order 87 = .ok (.getfield 19, 3) := by decide +kernel
theorem dX6_order_90 : decode cX6_order 90 = .ok (.iload_n 2, 1) := by decide +kernel
theorem dX6_order_91 : decode cX6_order 91 = .ok (.iload_n 1, 1) := by decide +kernel
theorem dX6_order_92 : decode cX6_order 92 = .ok (.invokevirtual 276, 3) := by decide +kernel
theorem dX6_order_95 : decode cX6_order 95 = .ok (.ireturn, 1) := by decide +kernel
theorem dX6_blanks_0 : decode cX6_blanks 0 = .ok (.aload_n 0, 1) := by decide +kernel
theorem dX6_blanks_1 : decode cX6_blanks 1 = .ok (.getfield 19, 3) := by decide +kernel
theorem dX6_blanks_4 : decode cX6_blanks 4 = .ok (.getfield 183, 3) := by decide +kernel
theorem dX6_blanks_7 : decode cX6_blanks 7 = .ok (.ifCond .ne 6, 3) := by decide +kernel
theorem dX6_blanks_10 : decode cX6_blanks 10 = .ok (.ldc 141, 2) := by decide +kernel
theorem dX6_blanks_12 : decode cX6_blanks 12 = .ok (.ireturn, 1) := by decide +kernel
theorem dX6_blanks_13 : decode cX6_blanks 13 = .ok (.iload_n 1, 1) := by decide +kernel
theorem dX6_blanks_14 : decode cX6_blanks 14 = .ok (.iconst 1, 1) := by decide +kernel
theorem dX6_blanks_15 : decode cX6_blanks 15 = .ok (.if_icmp .lt 17, 3) := by decide +kernel
theorem dX6_blanks_18 : decode cX6_blanks 18 = .ok (.iload_n 1, 1) := by decide +kernel
theorem dX6_blanks_19 : decode cX6_blanks 19 = .ok (.bipush 90, 2) := by decide +kernel
theorem dX6_blanks_21 : decode cX6_blanks 21 = .ok (.if_icmp .gt 11, 3) := by decide +kernel
theorem dX6_blanks_24 : decode cX6_blanks 24 = .ok (.iload_n 2, 1) := by decide +kernel
theorem dX6_blanks_25 : decode cX6_blanks 25 = .ok (.iconst 2, 1) := by decide +kernel
theorem dX6_blanks_26 : decode cX6_blanks 26 = .ok (.invokestatic 61, 3) := by decide +kernel
theorem dX6_blanks_29 : decode cX6_blanks 29 = .ok (.ifCond .ne 6, 3) := by decide +kernel
theorem dX6_blanks_32 : decode cX6_blanks 32 = .ok (.ldc 65, 2) := by decide +kernel
theorem dX6_blanks_34 : decode cX6_blanks 34 = .ok (.ireturn, 1) := by decide +kernel
theorem dX6_blanks_35 : decode cX6_blanks 35 = .ok (.aload_n 0, 1) := by decide +kernel
theorem dX6_blanks_36 : decode cX6_blanks 36 = .ok (.getfield 46, 3) := by decide +kernel
theorem dX6_blanks_39 : decode cX6_blanks 39 = .ok (.aload_n 0, 1) := by decide +kernel
theorem dX6_blanks_40 : decode cX6_blanks 40 = .ok (.getfield 19, 3) := by decide +kernel
theorem dX6_blanks_43 : decode cX6_blanks 43 = .ok (.iload_n 1, 1) := by decide +kernel
theorem dX6_blanks_44 : decode cX6_blanks 44 = .ok (.iload_n 2, 1) := by decide +kernel
theorem dX6_blanks_45 : decode cX6_blanks 45 = .ok (.invokevirtual 279, 3) := by decide +kernel
theorem dX6_blanks_48 : decode cX6_blanks 48 = .ok (.ireturn, 1) := by decide +kernel
theorem dX6_forged_0 : decode cX6_forged 0 = .ok (.aload_n 0, 1) := by decide +kernel
theorem dX6_forged_1 : decode cX6_forged 1 = .ok (.getfield 19, 3) := by decide +kernel
theorem dX6_forged_4 : decode cX6_forged 4 = .ok (.getfield 183, 3) := by decide +kernel
theorem dX6_forged_7 : decode cX6_forged 7 = .ok (.ifCond .ne 6, 3) := by decide +kernel
theorem dX6_forged_10 : decode cX6_forged 10 = .ok (.ldc 141, 2) := by decide +kernel
theorem dX6_forged_12 : decode cX6_forged 12 = .ok (.ireturn, 1) := by decide +kernel
theorem dX6_forged_13 : decode cX6_forged 13 = .ok (.iload_n 1, 1) := by decide +kernel
theorem dX6_forged_14 : decode cX6_forged 14 = .ok (.invokestatic 57, 3) := by decide +kernel
theorem dX6_forged_17 : decode cX6_forged 17 = .ok (.ifCond .ne 6, 3) := by decide +kernel
theorem dX6_forged_20 : decode cX6_forged 20 = .ok (.ldc 65, 2) := by decide +kernel
theorem dX6_forged_22 : decode cX6_forged 22 = .ok (.ireturn, 1) := by decide +kernel
theorem dX6_forged_23 : decode cX6_forged 23 = .ok (.aload_n 0, 1) := by decide +kernel
theorem dX6_forged_24 : decode cX6_forged 24 = .ok (.getfield 10, 3) := by decide +kernel
theorem dX6_forged_27 : decode cX6_forged 27 = .ok (.iload_n 1, 1) := by decide +kernel
theorem dX6_forged_28 : decode cX6_forged 28 = .ok (.invokevirtual 77, 3) := by decide +kernel
theorem dX6_forged_31 : decode cX6_forged 31 = .ok (.ifCond .eq 9, 3) := by decide +kernel
theorem dX6_forged_34 : decode cX6_forged 34 = .ok (.aload_n 0, 1) := by decide +kernel
theorem dX6_forged_35 : decode cX6_forged 35 = .ok (.iconst 1, 1) := by decide +kernel
theorem dX6_forged_36 : decode cX6_forged 36 = .ok (.invokevirtual 66, 3) := by decide +kernel
theorem dX6_forged_39 : decode cX6_forged 39 = .ok (.ireturn, 1) := by decide +kernel
theorem dX6_forged_40 : decode cX6_forged 40 = .ok (.aload_n 0, 1) := by decide +kernel
theorem dX6_forged_41 : decode cX6_forged 41 = .ok (.getfield 10, 3) := by decide +kernel
theorem dX6_forged_44 : decode cX6_forged 44 = .ok (.iload_n 1, 1) := by decide +kernel
theorem dX6_forged_45 : decode cX6_forged 45 = .ok (.iload_n 2, 1) := by decide +kernel
theorem dX6_forged_46 : decode cX6_forged 46 = .ok (.aload_n 0, 1) := by decide +kernel
theorem dX6_forged_47 : decode cX6_forged 47 = .ok (.getfield 19, 3) := by decide +kernel
theorem dX6_forged_50 : decode cX6_forged 50 = .ok (.getfield 148, 3) := by decide +kernel
theorem dX6_forged_53 : decode cX6_forged 53 = .ok (.invokevirtual 80, 3) := by decide +kernel
theorem dX6_forged_56 : decode cX6_forged 56 = .ok (.ifCond .ne 9, 3) := by decide +kernel
theorem dX6_forged_59 : decode cX6_forged 59 = .ok (.aload_n 0, 1) := by decide +kernel
theorem dX6_forged_60 : decode cX6_forged 60 = .ok (.iconst 2, 1) := by decide +kernel
theorem dX6_forged_61 : decode cX6_forged 61 = .ok (.invokevirtual 66, 3) := by decide +kernel
theorem dX6_forged_64 : decode cX6_forged 64 = .ok (.ireturn, 1) := by decide +kernel
theorem dX6_forged_65 : decode cX6_forged 65 = .ok (.aload_n 0, 1) := by decide +kernel
theorem dX6_forged_66 : decode cX6_forged 66 = .ok (.aload_n 0, 1) := by decide +kernel
theorem dX6_forged_67 : decode cX6_forged 67 = .ok (.getfield 46, 3) := by decide +kernel
theorem dX6_forged_70 : decode cX6_forged 70 = .ok (.aload_n 0, 1) := by decide +kernel
theorem dX6_forged_71 : decode cX6_forged 71 = .ok (.getfield 19, 3) := by decide +kernel
theorem dX6_forged_74 : decode cX6_forged 74 = .ok (.aload_n 0, 1) := by decide +kernel
