theorem dX6_forged_75 : decode cX6_forged 75 = .ok (.getfield 10, 3) := by decide +kernel
theorem dX6_forged_78 : decode cX6_forged 78 = .ok (.getfield 92, 3) := by decide +kernel
theorem dX6_forged_81 : decode cX6_forged 81 = .ok (.iload_n 1, 1) := by decide +kernel
theorem dX6_forged_82 : decode cX6_forged 82 = .ok (.aaload, 1) := by decide +kernel
theorem dX6_forged_83 : decode cX6_forged 83 = .ok (.iload_n 2, 1) := by decide +kernel
theorem dX6_forged_84 : decode cX6_forged 84 = .ok (.invokevirtual 282, 3) := by decide +kernel
theorem dX6_forged_87 : decode cX6_forged 87 = .ok (.invokevirtual 74, 3) := by decide +kernel
theorem dX6_forged_90 : decode cX6_forged 90 = .ok (.ireturn, 1) := by decide +kernel
theorem dX6_itself_0 : decode cX6_itself 0 = .ok (.aload_n 0, 1) := by decide +kernel
theorem dX6_itself_1 : decode cX6_itself 1 = .ok (.iload_n 1, 1) := by decide +kernel
theorem dX6_itself_2 : decode cX6_itself 2 = .ok (.invokevirtual 214, 3) := by decide +kernel
theorem dX6_itself_5 : decode cX6_itself 5 = .ok (.ifCond .eq 20, 3) := by decide +kernel
theorem dX6_itself_8 : decode cX6_itself 8 = .ok (.iload_n 2, 1) := by decide +kernel
theorem dX6_itself_9 : decode cX6_itself 9 = .ok (.bipush 6, 2) := by decide +kernel
theorem dX6_itself_11 : decode cX6_itself 11 = .ok (.invokestatic 61, 3) := by decide +kernel
theorem dX6_itself_14 : decode cX6_itself 14 = .ok (.ifCond .eq 11, 3) := by decide +kernel
theorem dX6_itself_17 : decode cX6_itself 17 = .ok (.iload_n 3, 1) := by decide +kernel
theorem dX6_itself_18 : decode cX6_itself 18 = .ok (.iconst 2, 1) := by decide +kernel
theorem dX6_itself_19 : decode cX6_itself 19 = .ok (.invokestatic 61, 3) := by decide +kernel
theorem dX6_itself_22 : decode cX6_itself 22 = .ok (.ifCond .ne 6, 3) := by decide +kernel
theorem dX6_itself_25 : decode cX6_itself 25 = .ok (.ldc 65, 2) := by decide +kernel
theorem dX6_itself_27 : decode cX6_itself 27 = .ok (.ireturn, 1) := by decide +kernel
theorem dX6_itself_28 : decode cX6_itself 28 = .ok (.aload_n 0, 1) := by decide +kernel
theorem dX6_itself_29 : decode cX6_itself 29 = .ok (.getfield 46, 3) := by decide +kernel
theorem dX6_itself_32 : decode cX6_itself 32 = .ok (.aload_n 0, 1) := by decide +kernel
theorem dX6_itself_33 : decode cX6_itself 33 = .ok (.getfield 19, 3) := by decide +kernel
theorem dX6_itself_36 : decode cX6_itself 36 = .ok (.iload_n 1, 1) := by decide +kernel
theorem dX6_itself_37 : decode cX6_itself 37 = .ok (.iload_n 2, 1) := by decide +kernel
theorem dX6_itself_38 : decode cX6_itself 38 = .ok (.iload_n 3, 1) := by decide +kernel
theorem dX6_itself_39 : decode cX6_itself 39 = .ok (.invokevirtual 286, 3) := by decide +kernel
theorem dX6_itself_42 : decode cX6_itself 42 = .ok (.ireturn, 1) := by decide +kernel
theorem dX6_years_0 : decode cX6_years 0 = .ok (.aload_n 0, 1) := by decide +kernel
theorem dX6_years_1 : decode cX6_years 1 = .ok (.getfield 19, 3) := by decide +kernel
theorem dX6_years_4 : decode cX6_years 4 = .ok (.getfield 183, 3) := by decide +kernel
theorem dX6_years_7 : decode cX6_years 7 = .ok (.ifCond .ne 6, 3) := by decide +kernel
theorem dX6_years_10 : decode cX6_years 10 = .ok (.ldc 141, 2) := by decide +kernel
theorem dX6_years_12 : decode cX6_years 12 = .ok (.ireturn, 1) := by decide +kernel
theorem dX6_years_13 : decode cX6_years 13 = .ok (.iload_n 1, 1) := by decide +kernel
theorem dX6_years_14 : decode cX6_years 14 = .ok (.ifCond .lt 29, 3) := by decide +kernel
theorem dX6_years_17 : decode cX6_years 17 = .ok (.iload_n 1, 1) := by decide +kernel
theorem dX6_years_18 : decode cX6_years 18 = .ok (.bipush 100, 2) := by decide +kernel
theorem dX6_years_20 : decode cX6_years 20 = .ok (.if_icmp .gt 23, 3) := by decide +kernel
theorem dX6_years_23 : decode cX6_years 23 = .ok (.iload_n 2, 1) := by decide +kernel
theorem dX6_years_24 : decode cX6_years 24 = .ok (.iconst 1, 1) := by decide +kernel
theorem dX6_years_25 : decode cX6_years 25 = .ok (.if_icmp .lt 18, 3) := by decide +kernel
theorem dX6_years_28 : decode cX6_years 28 = .ok (.iload_n 2, 1) := by decide +kernel
theorem dX6_years_29 : decode cX6_years 29 = .ok (.ldc_w 289, 3) := by decide +kernel
theorem dX6_years_32 : decode cX6_years 32 = .ok (.if_icmp .gt 11, 3) := by decide +kernel
theorem dX6_years_35 : decode cX6_years 35 = .ok (.iload_n 3, 1) := by decide +kernel
theorem dX6_years_36 : decode cX6_years 36 = .ok (.iconst 2, 1) := by decide +kernel
theorem dX6_years_37 : decode cX6_years 37 = .ok (.invokestatic 61, 3) := by decide +kernel
theorem dX6_years_40 : decode cX6_years 40 = .ok (.ifCond .ne 6, 3) := by decide +kernel
theorem dX6_years_43 : decode cX6_years 43 = .ok (.ldc 65, 2) := by decide +kernel
theorem dX6_years_45 : decode cX6_years 45 = .ok (.ireturn, 1) := by decide +kernel
theorem dX6_years_46 : decode cX6_years 46 = .ok (.aload_n 0, 1) := by decide +kernel
theorem dX6_years_47 : decode cX6_years 47 = .ok (.getfield 46, 3) := by decide +kernel
theorem dX6_years_50 : decode cX6_years 50 = .ok (.aload_n 0, 1) := by decide +kernel
theorem dX6_years_51 : decode cX6_years 51 = .ok (.getfield 19, 3) := by decide +kernel
theorem dX6_years_54 : decode cX6_years 54 = .ok (.iload_n 1, 1) := by decide +kernel
theorem dX6_years_55 : decode cX6_years 55 = .ok (.iload_n 2, 1) := by decide +kernel
theorem dX6_years_56 : decode cX6_years 56 = .ok (.iload_n 3, 1) := by decide +kernel
theorem dX6_years_57 : decode cX6_years 57 = .ok (.invokevirtual 290, 3) := by decide +kernel
theorem dX6_years_60 : decode cX6_years 60 = .ok (.ireturn, 1) := by decide +kernel
theorem dX6_image_0 : decode cX6_image 0 = .ok (.iload_n 1, 1) := by decide +kernel
theorem dX6_image_1 : decode cX6_image 1 = .ok (.iconst 2, 1) := by decide +kernel
theorem dX6_image_2 : decode cX6_image 2 = .ok (.invokestatic 61, 3) := by decide +kernel
theorem dX6_image_5 : decode cX6_image 5 = .ok (.ifCond .ne 6, 3) := by decide +kernel
theorem dX6_image_8 : decode cX6_image 8 = .ok (.ldc 65, 2) := by decide +kernel
theorem dX6_image_10 : decode cX6_image 10 = .ok (.ireturn, 1) := by decide +kernel
theorem dX6_image_11 : decode cX6_image 11 = .ok (.aload_n 0, 1) := by decide +kernel
theorem dX6_image_12 : decode cX6_image 12 = .ok (.getfield 19, 3) := by decide +kernel
theorem dX6_image_15 : decode cX6_image 15 = .ok (.getfield 183, 3) := by decide +kernel
theorem dX6_image_18 : decode cX6_image 18 = .ok (.ifCond .ne 6, 3) := by decide +kernel
theorem dX6_image_21 : decode cX6_image 21 = .ok (.ldc 141, 2) := by decide +kernel
theorem dX6_image_23 : decode cX6_image 23 = .ok (.ireturn, 1) := by decide +kernel
theorem dX6_image_24 : decode cX6_image 24 = .ok (.aload_n 0, 1) := by decide +kernel
theorem dX6_image_25 : decode cX6_image 25 = .ok (.iload_n 1, 1) := by decide +kernel
theorem dX6_image_26 : decode cX6_image 26 = .ok (.invokevirtual 293, 3) := by decide +kernel
theorem dX6_image_29 : decode cX6_image 29 = .ok (.aload_n 0, 1) := by decide +kernel
theorem dX6_image_30 : decode cX6_image 30 = .ok (.getfield 19, 3) := by decide +kernel
theorem dX6_image_33 : decode cX6_image 33 = .ok (.invokevirtual 130, 3) := by decide +kernel
theorem dX6_image_36 : decode cX6_image 36 = .ok (.iconst 1, 1) := by decide +kernel
theorem dX6_image_37 : decode cX6_image 37 = .ok (.ireturn, 1) := by decide +kernel
theorem dX6_restore_0 : decode cX6_restore 0 = .ok (.iload_n 1, 1) := by decide +kernel
theorem dX6_restore_1 : decode cX6_restore 1 = .ok (.iconst 2, 1) := by decide +kernel
theorem dX6_restore_2 : decode cX6_restore 2 = .ok (.invokestatic 61, 3) := by decide +kernel
theorem dX6_restore_5 : decode cX6_restore 5 = .ok (.ifCond .ne 6, 3) := by decide +kernel
theorem dX6_restore_8 : decode cX6_restore 8 = .ok (.ldc 65, 2) := by decide +kernel
theorem dX6_restore_10 : decode cX6_restore 10 = .ok (.ireturn, 1) := by decide +kernel
theorem dX6_restore_11 : decode cX6_restore 11 = .ok (.aload_n 0, 1) := by decide +kernel
theorem dX6_restore_12 : decode cX6_restore 12 = .ok (.iload_n 1, 1) := by decide +kernel
theorem dX6_restore_13 : decode cX6_restore 13 = .ok (.invokevirtual 293, 3) := by decide +kernel
theorem dX6_restore_16 : decode cX6_restore 16 = .ok (.getfield 183, 3) := by decide +kernel
theorem dX6_restore_19 : decode cX6_restore 19 = .ok (.ifCond .ne 6, 3) := by decide +kernel
theorem dX6_restore_22 : decode cX6_restore 22 = .ok (.ldc 141, 2) := by decide +kernel
theorem dX6_restore_24 : decode cX6_restore 24 = .ok (.ireturn, 1) := by decide +kernel
theorem dX6_restore_25 : decode cX6_restore 25 = .ok (.aload_n 0, 1) := by decide +kernel
theorem dX6_restore_26 : decode cX6_restore 26 = .ok (.getfield 19, 3) := by decide +kernel
theorem dX6_restore_29 : decode cX6_restore 29 = .ok (.aload_n 0, 1) := by decide +kernel
theorem dX6_restore_30 : decode cX6_restore 30 = .ok (.iload_n 1, 1) := by decide +kernel
theorem dX6_restore_31 : decode cX6_restore 31 = .ok (.invokevirtual 293, 3) := by decide +kernel
theorem dX6_restore_34 : decode cX6_restore 34 = .ok (.invokevirtual 130, 3) := by decide +kernel
theorem dX6_restore_37 : decode cX6_restore 37 = .ok (.aload_n 0, 1) := by decide +kernel
theorem dX6_restore_38 : decode cX6_restore 38 = .ok (.getfield 39, 3) := by decide +kernel
theorem dX6_restore_41 : decode cX6_restore 41 = .ok (.invokevirtual 134, 3) := by decide +kernel
theorem dX6_restore_44 : decode cX6_restore 44 = .ok (.iconst 1, 1) := by decide +kernel
theorem dX6_restore_45 : decode cX6_restore 45 = .ok (.ireturn, 1) := by decide +kernel
theorem dX6_kind_0 : decode cX6_kind 0 = .ok (.aload_n 0, 1) := by decide +kernel
theorem dX6_kind_1 : decode cX6_kind 1 = .ok (.iload_n 1, 1) := by decide +kernel
theorem dX6_kind_2 : decode cX6_kind 2 = .ok (.invokevirtual 145, 3) := by decide +kernel
theorem dX6_kind_5 : decode cX6_kind 5 = .ok (.ifCond .eq 15, 3) := by decide +kernel
theorem dX6_kind_8 : decode cX6_kind 8 = .ok (.aload_n 0, 1) := by decide +kernel
theorem dX6_kind_9 : decode cX6_kind 9 = .ok (.getfield 19, 3) := by decide +kernel
theorem dX6_kind_12 : decode cX6_kind 12 = .ok (.getfield 297, 3) := by decide +kernel
theorem dX6_kind_15 : decode cX6_kind 15 = .ok (.iload_n 1, 1) := by decide +kernel
theorem dX6_kind_16 : decode cX6_kind 16 = .ok (.iaload, 1) := by decide +kernel
theorem dX6_kind_17 : decode cX6_kind 17 = .ok (.goto 5, 3) := by decide +kernel
theorem dX6_kind_20 : decode cX6_kind 20 = .ok (.ldc 65, 2) := by decide +kernel
theorem dX6_kind_22 : decode cX6_kind 22 = .ok (.ireturn, 1) := by decide +kernel
theorem dX6_as_0 : decode cX6_as 0 = .ok (.aload_n 0, 1) := by decide +kernel
theorem dX6_as_1 : decode cX6_as 1 = .ok (.iload_n 1, 1) := by decide +kernel
theorem dX6_as_2 : decode cX6_as 2 = .ok (.invokevirtual 145, 3) := by decide +kernel
theorem dX6_as_5 : decode cX6_as 5 = .ok (.ifCond .eq 12, 3) := by decide +kernel
theorem dX6_as_8 : decode cX6_as 8 = .ok (.iload_n 2, 1) := by decide +kernel
theorem dX6_as_9 : decode cX6_as 9 = .ok (.bipush 6, 2) := by decide +kernel
theorem dX6_as_11 : decode cX6_as 11 = .ok (.invokestatic 61, 3) := by decide +kernel
theorem dX6_as_14 : decode cX6_as 14 = .ok (.ifCond .ne 6, 3) := by decide +kernel
theorem dX6_as_17 : decode cX6_as 17 = .ok (.ldc 65, 2) := by decide +kernel
theorem dX6_as_19 : decode cX6_as 19 = .ok (.ireturn, 1) := by decide +kernel
theorem dX6_as_20 : decode cX6_as 20 = .ok (.aload_n 0, 1) := by decide +kernel
theorem dX6_as_21 : decode cX6_as 21 = .ok (.getfield 19, 3) := by decide +kernel
theorem dX6_as_24 : decode cX6_as 24 = .ok (.getfield 297, 3) := by decide +kernel
theorem dX6_as_27 : decode cX6_as 27 = .ok (.iload_n 1, 1) := by decide +kernel
theorem dX6_as_28 : decode cX6_as 28 = .ok (.iaload, 1) := by decide +kernel
theorem dX6_as_29 : decode cX6_as 29 = .ok (.iload_n 2, 1) := by decide +kernel
theorem dX6_as_30 : decode cX6_as 30 = .ok (.invokestatic 300, 3) := by decide +kernel
theorem dX6_as_33 : decode cX6_as 33 = .ok (.ifCond .ne 9, 3) := by decide +kernel
theorem dX6_as_36 : decode cX6_as 36 = .ok (.aload_n 0, 1) := by decide +kernel
theorem dX6_as_37 : decode cX6_as 37 = .ok (.iconst 3, 1) := by decide +kernel
theorem dX6_as_38 : decode cX6_as 38 = .ok (.invokevirtual 66, 3) := by decide +kernel
theorem dX6_as_41 : decode cX6_as 41 = .ok (.ireturn, 1) := by decide +kernel
theorem dX6_as_42 : decode cX6_as 42 = .ok (.aload_n 0, 1) := by decide +kernel
theorem dX6_as_43 : decode cX6_as 43 = .ok (.iload_n 1, 1) := by decide +kernel
theorem dX6_as_44 : decode cX6_as 44 = .ok (.invokevirtual 74, 3) := by decide +kernel
theorem dX6_as_47 : decode cX6_as 47 = .ok (.ireturn, 1) := by decide +kernel
theorem dX6_ask_0 : decode cX6_ask 0 = .ok (.aload_n 0, 1) := by decide +kernel
theorem dX6_ask_1 : decode cX6_ask 1 = .ok (.iload_n 1, 1) := by decide +kernel
theorem dX6_ask_2 : decode cX6_ask 2 = .ok (.invokevirtual 145, 3) := by decide +kernel
theorem dX6_ask_5 : decode cX6_ask 5 = .ok (.ifCond .eq 11, 3) := by decide +kernel
theorem dX6_ask_8 : decode cX6_ask 8 = .ok (.iload_n 2, 1) := by decide +kernel
theorem dX6_ask_9 : decode cX6_ask 9 = .ok (.iconst 2, 1) := by decide +kernel
theorem dX6_ask_10 : decode cX6_ask 10 = .ok (.invokestatic 61, 3) := by decide +kernel
theorem dX6_ask_13 : decode cX6_ask 13 = .ok (.ifCond .ne 6, 3) := by decide +kernel
theorem dX6_ask_16 : decode cX6_ask 16 = .ok (.ldc 65, 2) := by decide +kernel
theorem dX6_ask_18 : decode cX6_ask 18 = .ok (.ireturn, 1) := by decide +kernel
theorem dX6_ask_19 : decode cX6_ask 19 = .ok (.aload_n 0, 1) := by decide +kernel
theorem dX6_ask_20 : decode cX6_ask 20 = .ok (.getfield 53, 3) := by decide +kernel
theorem dX6_ask_23 : decode cX6_ask 23 = .ok (.aload_n 0, 1) := by decide +kernel
theorem dX6_ask_24 : decode cX6_ask 24 = .ok (.getfield 19, 3) := by decide +kernel
theorem dX6_ask_27 : decode cX6_ask 27 = .ok (.iload_n 1, 1) := by decide +kernel
theorem dX6_ask_28 : decode cX6_ask 28 = .ok (.iload_n 2, 1) := by decide +kernel
theorem dX6_ask_29 : decode cX6_ask 29 = .ok (.invokevirtual 303, 3) := by decide +kernel
theorem dX6_ask_32 : decode cX6_ask 32 = .ok (.ireturn, 1) := by decide +kernel
theorem dX6_trace_0 : decode cX6_trace 0 = .ok (.iload_n 1, 1) := by decide +kernel
theorem dX6_trace_1 : decode cX6_trace 1 = .ok (.aload_n 0, 1) := by decide +kernel
theorem dX6_trace_2 : decode cX6_trace 2 = .ok (.getfield 53, 3) := by decide +kernel
theorem dX6_trace_5 : decode cX6_trace 5 = .ok (.getfield 306, 3) := by decide +kernel
theorem dX6_trace_8 : decode cX6_trace 8 = .ok (.invokestatic 61, 3) := by decide +kernel
theorem dX6_trace_11 : decode cX6_trace 11 = .ok (.ifCond .eq 15, 3) := by decide +kernel
theorem dX6_trace_14 : decode cX6_trace 14 = .ok (.aload_n 0, 1) := by decide +kernel
theorem dX6_trace_15 : decode cX6_trace 15 = .ok (.getfield 53, 3) := by decide +kernel
theorem dX6_trace_18 : decode cX6_trace 18 = .ok (.getfield 309, 3) := by decide +kernel
theorem dX6_trace_21 : decode cX6_trace 21 = .ok (.iload_n 1, 1) := by decide +kernel
theorem dX6_trace_22 : decode cX6_trace 22 = .ok (.iaload, 1) := by decide +kernel
theorem dX6_trace_23 : decode cX6_trace 23 = .ok (.goto 5, 3) := by decide +kernel
theorem dX6_trace_26 : decode cX6_trace 26 = .ok (.ldc 226, 2) := by decide +kernel
theorem dX6_trace_28 : decode cX6_trace 28 = .ok (.ireturn, 1) := by decide +kernel
theorem dX6_count_0 : decode cX6_count 0 = .ok (.iload_n 1, 1) := by decide +kernel
theorem dX6_count_1 : decode cX6_count 1 = .ok (.tableswitch 126 0 8 #[51, 59, 67, 75, 83, 91, 99, 110, 118], 51) := by decide +kernel
theorem dX6_count_52 : decode cX6_count 52 = .ok (.aload_n 0, 1) := by decide +kernel
theorem dX6_count_53 : decode cX6_count 53 = .ok (.getfield 10, 3) := by decide +kernel
theorem dX6_count_56 : decode cX6_count 56 = .ok (.invokevirtual 312, 3) := by decide +kernel
theorem dX6_count_59 : decode cX6_count 59 = .ok (.ireturn, 1) := by decide +kernel
theorem dX6_count_60 : decode cX6_count 60 = .ok (.aload_n 0, 1) := by decide +kernel
theorem dX6_count_61 : decode cX6_count 61 = .ok (.getfield 19, 3) := by decide +kernel
theorem dX6_count_64 : decode cX6_count 64 = .ok (.getfield 137, 3) := by decide +kernel
theorem dX6_count_67 : decode cX6_count 67 = .ok (.ireturn, 1) := by decide +kernel
theorem dX6_count_68 : decode cX6_count 68 = .ok (.aload_n 0, 1) := by decide +kernel
theorem dX6_count_69 : decode cX6_count 69 = .ok (.getfield 19, 3) := by decide +kernel
theorem dX6_count_72 : decode cX6_count 72 = .ok (.getfield 148, 3) := by decide +kernel
theorem dX6_count_75 : decode cX6_count 75 = .ok (.ireturn, 1) := by decide +kernel
theorem dX6_count_76 : decode cX6_count 76 = .ok (.aload_n 0, 1) := by decide +kernel
theorem dX6_count_77 : decode cX6_count 77 = .ok (.getfield 19, 3) := by decide +kernel
theorem dX6_count_80 : decode cX6_count 80 = .ok (.getfield 316, 3) := by decide +kernel
theorem dX6_count_83 : decode cX6_count 83 = .ok (.ireturn, 1) := by decide +kernel
theorem dX6_count_84 : decode cX6_count 84 = .ok (.aload_n 0, 1) := by decide +kernel
theorem dX6_count_85 : decode cX6_count 85 = .ok (.getfield 19, 3) := by decide +kernel
theorem dX6_count_88 : decode cX6_count 88 = .ok (.getfield 187, 3) := by decide +kernel
theorem dX6_count_91 : decode cX6_count 91 = .ok (.ireturn, 1) := by decide +kernel
theorem dX6_count_92 : decode cX6_count 92 = .ok (.aload_n 0, 1) := by decide +kernel
theorem dX6_count_93 : decode cX6_count 93 = .ok (.getfield 19, 3) := by decide +kernel
theorem dX6_count_96 : decode cX6_count 96 = .ok (.getfield 161, 3) := by decide +kernel
theorem dX6_count_99 : decode cX6_count 99 = .ok (.ireturn, 1) := by decide +kernel
theorem dX6_count_100 : decode cX6_count 100 = .ok (.aload_n 0, 1) := by decide +kernel
theorem dX6_count_101 : decode cX6_count 101 = .ok (.getfield 19, 3) := by decide +kernel
theorem dX6_count_104 : decode cX6_count 104 = .ok (.getfield 151, 3) := by decide +kernel
theorem dX6_count_107 : decode cX6_count 107 = .ok (.invokestatic 319, 3) := by decide +kernel
theorem dX6_count_110 : decode cX6_count 110 = .ok (.ireturn, 1) := by decide +kernel
theorem dX6_count_111 : decode cX6_count 111 = .ok (.aload_n 0, 1) := by decide +kernel
theorem dX6_count_112 : decode cX6_count 112 = .ok (.getfield 39, 3) := by decide +kernel
theorem dX6_count_115 : decode cX6_count 115 = .ok (.getfield 140, 3) := by decide +kernel
theorem dX6_count_118 : decode cX6_count 118 = .ok (.ireturn, 1) := by decide +kernel
theorem dX6_count_119 : decode cX6_count 119 = .ok (.aload_n 0, 1) := by decide +kernel
theorem dX6_count_120 : decode cX6_count 120 = .ok (.getfield 32, 3) := by decide +kernel
theorem dX6_count_123 : decode cX6_count 123 = .ok (.getfield 105, 3) := by decide +kernel
theorem dX6_count_126 : decode cX6_count 126 = .ok (.ireturn, 1) := by decide +kernel
theorem dX6_count_127 : decode cX6_count 127 = .ok (.ldc 65, 2) := by decide +kernel
theorem dX6_count_129 : decode cX6_count 129 = .ok (.ireturn, 1) := by decide +kernel
theorem dX6_status_0 : decode cX6_status 0 = .ok (.aload_n 0, 1) := by decide +kernel
theorem dX6_status_1 : decode cX6_status 1 = .ok (.getfield 324, 3) := by decide +kernel
theorem dX6_status_4 : decode cX6_status 4 = .ok (.ireturn, 1) := by decide +kernel
theorem dX6_found_0 : decode cX6_found 0 = .ok (.aload_n 0, 1) := by decide +kernel
theorem dX6_found_1 : decode cX6_found 1 = .ok (.iload_n 1, 1) := by decide +kernel
theorem dX6_found_2 : decode cX6_found 2 = .ok (.putfield 324, 3) := by decide +kernel
theorem dX6_found_5 : decode cX6_found 5 = .ok (.ldc_w 327, 3) := by decide +kernel
theorem dX6_found_8 : decode cX6_found 8 = .ok (.iload_n 1, 1) := by decide +kernel
theorem dX6_found_9 : decode cX6_found 9 = .ok (.isub, 1) := by decide +kernel
theorem dX6_found_10 : decode cX6_found 10 = .ok (.ireturn, 1) := by decide +kernel
theorem dX6_unfound_0 : decode cX6_unfound 0 = .ok (.aload_n 0, 1) := by decide +kernel
theorem dX6_unfound_1 : decode cX6_unfound 1 = .ok (.iconst 0, 1) := by decide +kernel
theorem dX6_unfound_2 : decode cX6_unfound 2 = .ok (.putfield 324, 3) := by decide +kernel
theorem dX6_unfound_5 : decode cX6_unfound 5 = .ok (.iload_n 1, 1) := by decide +kernel
theorem dX6_unfound_6 : decode cX6_unfound 6 = .ok (.ireturn, 1) := by decide +kernel
theorem dX6_imageOf_0 : decode cX6_imageOf 0 = .ok (.iload_n 1, 1) := by decide +kernel
theorem dX6_imageOf_1 : decode cX6_imageOf 1 = .ok (.ifCond .ne 10, 3) := by decide +kernel
theorem dX6_imageOf_4 : decode cX6_imageOf 4 = .ok (.aload_n 0, 1) := by decide +kernel
theorem dX6_imageOf_5 : decode cX6_imageOf 5 = .ok (.getfield 23, 3) := by decide +kernel
theorem dX6_imageOf_8 : decode cX6_imageOf 8 = .ok (.goto 7, 3) := by decide +kernel
theorem dX6_imageOf_11 : decode cX6_imageOf 11 = .ok (.aload_n 0, 1) := by decide +kernel
theorem dX6_imageOf_12 : decode cX6_imageOf 12 = .ok (.getfield 26, 3) := by decide +kernel
theorem dX6_imageOf_15 : decode cX6_imageOf 15 = .ok (.areturn, 1) := by decide +kernel
theorem dX6_isHand_0 : decode cX6_isHand 0 = .ok (.iload_n 1, 1) := by decide +kernel
theorem dX6_isHand_1 : decode cX6_isHand 1 = .ok (.aload_n 0, 1) := by decide +kernel
theorem dX6_isHand_2 : decode cX6_isHand 2 = .ok (.getfield 19, 3) := by decide +kernel
theorem dX6_isHand_5 : decode cX6_isHand 5 = .ok (.getfield 137, 3) := by decide +kernel
theorem dX6_isHand_8 : decode cX6_isHand 8 = .ok (.invokestatic 61, 3) := by decide +kernel
theorem dX6_isHand_11 : decode cX6_isHand 11 = .ok (.ireturn, 1) := by decide +kernel
theorem dX6_isCopy_0 : decode cX6_isCopy 0 = .ok (.iload_n 1, 1) := by decide +kernel
theorem dX6_isCopy_1 : decode cX6_isCopy 1 = .ok (.aload_n 0, 1) := by decide +kernel
theorem dX6_isCopy_2 : decode cX6_isCopy 2 = .ok (.getfield 19, 3) := by decide +kernel
theorem dX6_isCopy_5 : decode cX6_isCopy 5 = .ok (.getfield 148, 3) := by decide +kernel
theorem dX6_isCopy_8 : decode cX6_isCopy 8 = .ok (.invokestatic 61, 3) := by decide +kernel
theorem dX6_isCopy_11 : decode cX6_isCopy 11 = .ok (.ireturn, 1) := by decide +kernel
theorem dX6_isDeed_0 : decode cX6_isDeed 0 = .ok (.iload_n 1, 1) := by decide +kernel
theorem dX6_isDeed_1 : decode cX6_isDeed 1 = .ok (.aload_n 0, 1) := by decide +kernel
theorem dX6_isDeed_2 : decode cX6_isDeed 2 = .ok (.getfield 19, 3) := by decide +kernel
theorem dX6_isDeed_5 : decode cX6_isDeed 5 = .ok (.getfield 316, 3) := by decide +kernel
theorem dX6_isDeed_8 : decode cX6_isDeed 8 = .ok (.invokestatic 61, 3) := by decide +kernel
theorem dX6_isDeed_11 : decode cX6_isDeed 11 = .ok (.ireturn, 1) := by decide +kernel
theorem dX6_isHandSet_0 : decode cX6_isHandSet 0 = .ok (.iload_n 1, 1) := by decide +kernel
theorem dX6_isHandSet_1 : decode cX6_isHandSet 1 = .ok (.iconst 1, 1) := by decide +kernel
theorem dX6_isHandSet_2 : decode cX6_isHandSet 2 = .ok (.aload_n 0, 1) := by decide +kernel
theorem dX6_isHandSet_3 : decode cX6_isHandSet 3 = .ok (.getfield 19, 3) := by decide +kernel
theorem dX6_isHandSet_6 : decode cX6_isHandSet 6 = .ok (.getfield 137, 3) := by decide +kernel
theorem dX6_isHandSet_9 : decode cX6_isHandSet 9 = .ok (.ishl, 1) := by decide +kernel
theorem dX6_isHandSet_10 : decode cX6_isHandSet 10 = .ok (.invokestatic 61, 3) := by decide +kernel
theorem dX6_isHandSet_13 : decode cX6_isHandSet 13 = .ok (.ireturn, 1) := by decide +kernel
theorem dX6_isRow_0 : decode cX6_isRow 0 = .ok (.iload_n 0, 1) := by decide +kernel
theorem dX6_isRow_1 : decode cX6_isRow 1 = .ok (.bipush 8, 2) := by decide +kernel
theorem dX6_isRow_3 : decode cX6_isRow 3 = .ok (.invokestatic 61, 3) := by decide +kernel
theorem dX6_isRow_6 : decode cX6_isRow 6 = .ok (.ireturn, 1) := by decide +kernel
theorem dX6_isBelow_0 : decode cX6_isBelow 0 = .ok (.iload_n 0, 1) := by decide +kernel
theorem dX6_isBelow_1 : decode cX6_isBelow 1 = .ok (.ifCond .lt 12, 3) := by decide +kernel
theorem dX6_isBelow_4 : decode cX6_isBelow 4 = .ok (.iload_n 0, 1) := by decide +kernel
theorem dX6_isBelow_5 : decode cX6_isBelow 5 = .ok (.iload_n 1, 1) := by decide +kernel
theorem dX6_isBelow_6 : decode cX6_isBelow 6 = .ok (.if_icmp .ge 7, 3) := by decide +kernel
theorem dX6_isBelow_9 : decode cX6_isBelow 9 = .ok (.iconst 1, 1) := by decide +kernel
theorem dX6_isBelow_10 : decode cX6_isBelow 10 = .ok (.goto 4, 3) := by decide +kernel
theorem dX6_isBelow_13 : decode cX6_isBelow 13 = .ok (.iconst 0, 1) := by decide +kernel
theorem dX6_isBelow_14 : decode cX6_isBelow 14 = .ok (.ireturn, 1) := by decide +kernel
theorem dX6_bitOf_0 : decode cX6_bitOf 0 = .ok (.iload_n 0, 1) := by decide +kernel
theorem dX6_bitOf_1 : decode cX6_bitOf 1 = .ok (.iload_n 1, 1) := by decide +kernel
theorem dX6_bitOf_2 : decode cX6_bitOf 2 = .ok (.ishr, 1) := by decide +kernel
theorem dX6_bitOf_3 : decode cX6_bitOf 3 = .ok (.iconst 1, 1) := by decide +kernel
theorem dX6_bitOf_4 : decode cX6_bitOf 4 = .ok (.iand, 1) := by decide +kernel
theorem dX6_bitOf_5 : decode cX6_bitOf 5 = .ok (.ireturn, 1) := by decide +kernel
theorem dX7_init_0 : decode cX7_init 0 = .ok (.aload_n 0, 1) := by decide +kernel
theorem dX7_init_1 : decode cX7_init 1 = .ok (.invokespecial 1, 3) := by decide +kernel
theorem dX7_init_4 : decode cX7_init 4 = .ok (.aload_n 0, 1) := by decide +kernel
theorem dX7_init_5 : decode cX7_init 5 = .ok (.bipush 8, 2) := by decide +kernel
theorem dX7_init_7 : decode cX7_init 7 = .ok (.newarray .int, 2) := by decide +kernel
theorem dX7_init_9 : decode cX7_init 9 = .ok (.putfield 7, 3) := by decide +kernel
theorem dX7_init_12 : decode cX7_init 12 = .ok (.aload_n 0, 1) := by decide +kernel
theorem dX7_init_13 : decode cX7_init 13 = .ok (.bipush 8, 2) := by decide +kernel
theorem dX7_init_15 : decode cX7_init 15 = .ok (.newarray .int, 2) := by decide +kernel
theorem dX7_init_17 : decode cX7_init 17 = .ok (.putfield 13, 3) := by decide +kernel
theorem dX7_init_20 : decode cX7_init 20 = .ok (.aload_n 0, 1) := by decide +kernel
theorem dX7_init_21 : decode cX7_init 21 = .ok (.sipush 320, 3) := by decide +kernel
theorem dX7_init_24 : decode cX7_init 24 = .ok (.newarray .int, 2) := by decide +kernel
theorem dX7_init_26 : decode cX7_init 26 = .ok (.putfield 16, 3) := by decide +kernel
theorem dX7_init_29 : decode cX7_init 29 = .ok (.aload_n 0, 1) := by decide +kernel
theorem dX7_init_30 : decode cX7_init 30 = .ok (.sipush 140, 3) := by decide +kernel
theorem dX7_init_33 : decode cX7_init 33 = .ok (.newarray .int, 2) := by decide +kernel
theorem dX7_init_35 : decode cX7_init 35 = .ok (.putfield 19, 3) := by decide +kernel
theorem dX7_init_38 : decode cX7_init 38 = .ok (.aload_n 0, 1) := by decide +kernel
theorem dX7_init_39 : decode cX7_init 39 = .ok (.bipush 85, 2) := by decide +kernel
theorem dX7_init_41 : decode cX7_init 41 = .ok (.newarray .int, 2) := by decide +kernel
theorem dX7_init_43 : decode cX7_init 43 = .ok (.putfield 22, 3) := by decide +kernel
theorem dX7_init_46 : decode cX7_init 46 = .ok (.aload_n 0, 1) := by decide +kernel
theorem dX7_init_47 : decode cX7_init 47 = .ok (.sipush 2040, 3) := by decide +kernel
theorem dX7_init_50 : decode cX7_init 50 = .ok (.newarray .int, 2) := by decide +kernel
theorem dX7_init_52 : decode cX7_init 52 = .ok (.putfield 25, 3) := by decide +kernel
theorem dX7_init_55 : decode cX7_init 55 = .ok (.aload_n 0, 1) := by decide +kernel
theorem dX7_init_56 : decode cX7_init 56 = .ok (.sipush 170, 3) := by decide +kernel
theorem dX7_init_59 : decode cX7_init 59 = .ok (.newarray .int, 2) := by decide +kernel
theorem dX7_init_61 : decode cX7_init 61 = .ok (.putfield 28, 3) := by decide +kernel
theorem dX7_init_64 : decode cX7_init 64 = .ok (.aload_n 0, 1) := by decide +kernel
theorem dX7_init_65 : decode cX7_init 65 = .ok (.iconst 2, 1) := by decide +kernel
theorem dX7_init_66 : decode cX7_init 66 = .ok (.newarray .boolean, 2) := by decide +kernel
theorem dX7_init_68 : decode cX7_init 68 = .ok (.putfield 31, 3) := by decide +kernel
theorem dX7_init_71 : decode cX7_init 71 = .ok (.aload_n 0, 1) := by decide +kernel
theorem dX7_init_72 : decode cX7_init 72 = .ok (.bipush 16, 2) := by decide +kernel
theorem dX7_init_74 : decode cX7_init 74 = .ok (.newarray .int, 2) := by decide +kernel
theorem dX7_init_76 : decode cX7_init 76 = .ok (.putfield 35, 3) := by decide +kernel
theorem dX7_init_79 : decode cX7_init 79 = .ok (.aload_n 0, 1) := by decide +kernel
theorem dX7_init_80 : decode cX7_init 80 = .ok (.bipush 85, 2) := by decide +kernel
theorem dX7_init_82 : decode cX7_init 82 = .ok (.newarray .int, 2) := by decide +kernel
theorem dX7_init_84 : decode cX7_init 84 = .ok (.putfield 38, 3) := by decide +kernel
theorem dX7_init_87 : decode cX7_init 87 = .ok (.aload_n 0, 1) := by decide +kernel
theorem dX7_init_88 : decode cX7_init 88 = .ok (.bipush 85, 2) := by decide +kernel
theorem dX7_init_90 : decode cX7_init 90 = .ok (.newarray .int, 2) := by decide +kernel
theorem dX7_init_92 : decode cX7_init 92 = .ok (.putfield 41, 3) := by decide +kernel
theorem dX7_init_95 : decode cX7_init 95 = .ok (.iconst 0, 1) := by decide +kernel
theorem dX7_init_96 : decode cX7_init 96 = .ok (.istore_n 1, 1) := by decide +kernel
theorem dX7_init_97 : decode cX7_init 97 = .ok (.iload_n 1, 1) := by decide +kernel
theorem dX7_init_98 : decode cX7_init 98 = .ok (.bipush 8, 2) := by decide +kernel
theorem dX7_init_100 : decode cX7_init 100 = .ok (.if_icmp .ge 16, 3) := by decide +kernel
theorem dX7_init_103 : decode cX7_init 103 = .ok (.aload_n 0, 1) := by decide +kernel
theorem dX7_init_104 : decode cX7_init 104 = .ok (.getfield 13, 3) := by decide +kernel
theorem dX7_init_107 : decode cX7_init 107 = .ok (.iload_n 1, 1) := by decide +kernel
theorem dX7_init_108 : decode cX7_init 108 = .ok (.iconst (-1), 1) := by decide +kernel
theorem dX7_init_109 : decode cX7_init 109 = .ok (.iastore, 1) := by decide +kernel
theorem dX7_init_110 : decode cX7_init 110 = .ok (.iinc 1 1, 3) := by decide +kernel
theorem dX7_init_113 : decode cX7_init 113 = .ok (.goto (-16), 3) := by decide +kernel
theorem dX7_init_116 : decode cX7_init 116 = .ok (.return_, 1) := by decide +kernel
theorem dX7_in_0 : decode cX7_in 0 = .ok (.lload_n 0, 1) := by decide +kernel
theorem dX7_in_1 : decode cX7_in 1 = .ok (.lload_n 2, 1) := by decide +kernel
theorem dX7_in_2 : decode cX7_in 2 = .ok (.lcmp, 1) := by decide +kernel
theorem dX7_in_3 : decode cX7_in 3 = .ok (.ifCond .lt 14, 3) := by decide +kernel
theorem dX7_in_6 : decode cX7_in 6 = .ok (.lload_n 0, 1) := by decide +kernel
theorem dX7_in_7 : decode cX7_in 7 = .ok (.lload 4, 2) := by decide +kernel
theorem dX7_in_9 : decode cX7_in 9 = .ok (.lcmp, 1) := by decide +kernel
theorem dX7_in_10 : decode cX7_in 10 = .ok (.ifCond .gt 7, 3) := by decide +kernel
theorem dX7_in_13 : decode cX7_in 13 = .ok (.iconst 1, 1) := by decide +kernel
theorem dX7_in_14 : decode cX7_in 14 = .ok (.goto 4, 3) := by decide +kernel
theorem dX7_in_17 : decode cX7_in 17 = .ok (.iconst 0, 1) := by decide +kernel
theorem dX7_in_18 : decode cX7_in 18 = .ok (.ireturn, 1) := by decide +kernel
theorem dX7_found_0 : decode cX7_found 0 = .ok (.aload_n 0, 1) := by decide +kernel
theorem dX7_found_1 : decode cX7_found 1 = .ok (.iload_n 1, 1) := by decide +kernel
theorem dX7_found_2 : decode cX7_found 2 = .ok (.putfield 44, 3) := by decide +kernel
theorem dX7_found_5 : decode cX7_found 5 = .ok (.ldc 48, 2) := by decide +kernel
theorem dX7_found_7 : decode cX7_found 7 = .ok (.iload_n 1, 1) := by decide +kernel
theorem dX7_found_8 : decode cX7_found 8 = .ok (.isub, 1) := by decide +kernel
theorem dX7_found_9 : decode cX7_found 9 = .ok (.ireturn, 1) := by decide +kernel
theorem dX7_well_0 : decode cX7_well 0 = .ok (.aload_n 0, 1) := by decide +kernel
theorem dX7_well_1 : decode cX7_well 1 = .ok (.iconst 0, 1) := by decide +kernel
theorem dX7_well_2 : decode cX7_well 2 = .ok (.putfield 44, 3) := by decide +kernel
theorem dX7_well_5 : decode cX7_well 5 = .ok (.iload_n 1, 1) := by decide +kernel
theorem dX7_well_6 : decode cX7_well 6 = .ok (.ireturn, 1) := by decide +kernel
theorem dX7_isRow_0 : decode cX7_isRow 0 = .ok (.iload_n 0, 1) := by decide +kernel
theorem dX7_isRow_1 : decode cX7_isRow 1 = .ok (.i2l, 1) := by decide +kernel
theorem dX7_isRow_2 : decode cX7_isRow 2 = .ok (.lconst 0, 1) := by decide +kernel
theorem dX7_isRow_3 : decode cX7_isRow 3 = .ok (.ldc2_w 49, 3) := by decide +kernel
theorem dX7_isRow_6 : decode cX7_isRow 6 = .ok (.invokestatic 51, 3) := by decide +kernel
theorem dX7_isRow_9 : decode cX7_isRow 9 = .ok (.ireturn, 1) := by decide +kernel
theorem dX7_row_0 : decode cX7_row 0 = .ok (.iload_n 1, 1) := by decide +kernel
theorem dX7_row_1 : decode cX7_row 1 = .ok (.invokestatic 55, 3) := by decide +kernel
theorem dX7_row_4 : decode cX7_row 4 = .ok (.ifCond .eq 21, 3) := by decide +kernel
theorem dX7_row_7 : decode cX7_row 7 = .ok (.iload_n 2, 1) := by decide +kernel
theorem dX7_row_8 : decode cX7_row 8 = .ok (.i2l, 1) := by decide +kernel
theorem dX7_row_9 : decode cX7_row 9 = .ok (.lconst 0, 1) := by decide +kernel
theorem dX7_row_10 : decode cX7_row 10 = .ok (.ldc2_w 59, 3) := by decide +kernel
theorem dX7_row_13 : decode cX7_row 13 = .ok (.invokestatic 51, 3) := by decide +kernel
theorem dX7_row_16 : decode cX7_row 16 = .ok (.ifCond .eq 9, 3) := by decide +kernel
theorem dX7_row_19 : decode cX7_row 19 = .ok (.iload_n 3, 1) := by decide +kernel
theorem dX7_row_20 : decode cX7_row 20 = .ok (.bipush 40, 2) := by decide +kernel
theorem dX7_row_22 : decode cX7_row 22 = .ok (.if_icmp .le 6, 3) := by decide +kernel
theorem dX7_row_25 : decode cX7_row 25 = .ok (.ldc 61, 2) := by decide +kernel
theorem dX7_row_27 : decode cX7_row 27 = .ok (.ireturn, 1) := by decide +kernel
theorem dX7_row_28 : decode cX7_row 28 = .ok (.iload_n 3, 1) := by decide +kernel
theorem dX7_row_29 : decode cX7_row 29 = .ok (.ifCond .ge 9, 3) := by decide +kernel
theorem dX7_row_32 : decode cX7_row 32 = .ok (.aload_n 0, 1) := by decide +kernel
theorem dX7_row_33 : decode cX7_row 33 = .ok (.iconst 4, 1) := by decide +kernel
theorem dX7_row_34 : decode cX7_row 34 = .ok (.invokevirtual 62, 3) := by decide +kernel
theorem dX7_row_37 : decode cX7_row 37 = .ok (.ireturn, 1) := by decide +kernel
theorem dX7_row_38 : decode cX7_row 38 = .ok (.aload_n 0, 1) := by decide +kernel
theorem dX7_row_39 : decode cX7_row 39 = .ok (.getfield 7, 3) := by decide +kernel
theorem dX7_row_42 : decode cX7_row 42 = .ok (.iload_n 1, 1) := by decide +kernel
theorem dX7_row_43 : decode cX7_row 43 = .ok (.iload_n 2, 1) := by decide +kernel
theorem dX7_row_44 : decode cX7_row 44 = .ok (.iastore, 1) := by decide +kernel
theorem dX7_row_45 : decode cX7_row 45 = .ok (.aload_n 0, 1) := by decide +kernel
theorem dX7_row_46 : decode cX7_row 46 = .ok (.getfield 13, 3) := by decide +kernel
theorem dX7_row_49 : decode cX7_row 49 = .ok (.iload_n 1, 1) := by decide +kernel
theorem dX7_row_50 : decode cX7_row 50 = .ok (.iload_n 3, 1) := by decide +kernel
theorem dX7_row_51 : decode cX7_row 51 = .ok (.iastore, 1) := by decide +kernel
theorem dX7_row_52 : decode cX7_row 52 = .ok (.iconst 0, 1) := by decide +kernel
theorem dX7_row_53 : decode cX7_row 53 = .ok (.istore 4, 2) := by decide +kernel
theorem dX7_row_55 : decode cX7_row 55 = .ok (.iload 4, 2) := by decide +kernel
theorem dX7_row_57 : decode cX7_row 57 = .ok (.bipush 40, 2) := by decide +kernel
theorem dX7_row_59 : decode cX7_row 59 = .ok (.if_icmp .ge 22, 3) := by decide +kernel
theorem dX7_row_62 : decode cX7_row 62 = .ok (.aload_n 0, 1) := by decide +kernel
theorem dX7_row_63 : decode cX7_row 63 = .ok (.getfield 16, 3) := by decide +kernel
theorem dX7_row_66 : decode cX7_row 66 = .ok (.bipush 40, 2) := by decide +kernel
theorem dX7_row_68 : decode cX7_row 68 = .ok (.iload_n 1, 1) := by decide +kernel
theorem dX7_row_69 : decode cX7_row 69 = .ok (.imul, 1) := by decide +kernel
theorem dX7_row_70 : decode cX7_row 70 = .ok (.iload 4, 2) := by decide +kernel
theorem dX7_row_72 : decode cX7_row 72 = .ok (.iadd, 1) := by decide +kernel
theorem dX7_row_73 : decode cX7_row 73 = .ok (.iconst 0, 1) := by decide +kernel
theorem dX7_row_74 : decode cX7_row 74 = .ok (.iastore, 1) := by decide +kernel
theorem dX7_row_75 : decode cX7_row 75 = .ok (.iinc 4 1, 3) := by decide +kernel
theorem dX7_row_78 : decode cX7_row 78 = .ok (.goto (-23), 3) := by decide +kernel
theorem dX7_row_81 : decode cX7_row 81 = .ok (.aload_n 0, 1) := by decide +kernel
theorem dX7_row_82 : decode cX7_row 82 = .ok (.iload_n 3, 1) := by decide +kernel
theorem dX7_row_83 : decode cX7_row 83 = .ok (.invokevirtual 66, 3) := by decide +kernel
theorem dX7_row_86 : decode cX7_row 86 = .ok (.ireturn, 1) := by decide +kernel
theorem dX7_set_0 : decode cX7_set 0 = .ok (.iload_n 1, 1) := by decide +kernel
theorem dX7_set_1 : decode cX7_set 1 = .ok (.invokestatic 55, 3) := by decide +kernel
theorem dX7_set_4 : decode cX7_set 4 = .ok (.ifCond .ne 6, 3) := by decide +kernel
theorem dX7_set_7 : decode cX7_set 7 = .ok (.ldc 61, 2) := by decide +kernel
theorem dX7_set_9 : decode cX7_set 9 = .ok (.ireturn, 1) := by decide +kernel
theorem dX7_set_10 : decode cX7_set 10 = .ok (.aload_n 0, 1) := by decide +kernel
theorem dX7_set_11 : decode cX7_set 11 = .ok (.getfield 13, 3) := by decide +kernel
theorem dX7_set_14 : decode cX7_set 14 = .ok (.iload_n 1, 1) := by decide +kernel
theorem dX7_set_15 : decode cX7_set 15 = .ok (.iaload, 1) := by decide +kernel
theorem dX7_set_16 : decode cX7_set 16 = .ok (.ifCond .ge 9, 3) := by decide +kernel
theorem dX7_set_19 : decode cX7_set 19 = .ok (.aload_n 0, 1) := by decide +kernel
theorem dX7_set_20 : decode cX7_set 20 = .ok (.iconst 1, 1) := by decide +kernel
theorem dX7_set_21 : decode cX7_set 21 = .ok (.invokevirtual 62, 3) := by decide +kernel
theorem dX7_set_24 : decode cX7_set 24 = .ok (.ireturn, 1) := by decide +kernel
theorem dX7_set_25 : decode cX7_set 25 = .ok (.iload_n 2, 1) := by decide +kernel
theorem dX7_set_26 : decode cX7_set 26 = .ok (.i2l, 1) := by decide +kernel
theorem dX7_set_27 : decode cX7_set 27 = .ok (.lconst 0, 1) := by decide +kernel
theorem dX7_set_28 : decode cX7_set 28 = .ok (.aload_n 0, 1) := by decide +kernel
theorem dX7_set_29 : decode cX7_set 29 = .ok (.getfield 13, 3) := by decide +kernel
theorem dX7_set_32 : decode cX7_set 32 = .ok (.iload_n 1, 1) := by decide +kernel
theorem dX7_set_33 : decode cX7_set 33 = .ok (.iaload, 1) := by decide +kernel
theorem dX7_set_34 : decode cX7_set 34 = .ok (.iconst 1, 1) := by decide +kernel
theorem dX7_set_35 : decode cX7_set 35 = .ok (.isub, 1) := by decide +kernel
theorem dX7_set_36 : decode cX7_set 36 = .ok (.i2l, 1) := by decide +kernel
theorem dX7_set_37 : decode cX7_set 37 = .ok (.invokestatic 51, 3) := by decide +kernel
theorem dX7_set_40 : decode cX7_set 40 = .ok (.ifCond .ne 9, 3) := by decide +kernel
theorem dX7_set_43 : decode cX7_set 43 = .ok (.aload_n 0, 1) := by decide +kernel
theorem dX7_set_44 : decode cX7_set 44 = .ok (.iconst 2, 1) := by decide +kernel
theorem dX7_set_45 : decode cX7_set 45 = .ok (.invokevirtual 62, 3) := by decide +kernel
theorem dX7_set_48 : decode cX7_set 48 = .ok (.ireturn, 1) := by decide +kernel
theorem dX7_set_49 : decode cX7_set 49 = .ok (.aload_n 0, 1) := by decide +kernel
theorem dX7_set_50 : decode cX7_set 50 = .ok (.getfield 16, 3) := by decide +kernel
theorem dX7_set_53 : decode cX7_set 53 = .ok (.bipush 40, 2) := by decide +kernel
theorem dX7_set_55 : decode cX7_set 55 = .ok (.iload_n 1, 1) := by decide +kernel
theorem dX7_set_56 : decode cX7_set 56 = .ok (.imul, 1) := by decide +kernel
theorem dX7_set_57 : decode cX7_set 57 = .ok (.iload_n 2, 1) := by decide +kernel
theorem dX7_set_58 : decode cX7_set 58 = .ok (.iadd, 1) := by decide +kernel
theorem dX7_set_59 : decode cX7_set 59 = .ok (.aload_n 0, 1) := by decide +kernel
theorem dX7_set_60 : decode cX7_set 60 = .ok (.getfield 7, 3) := by decide +kernel
theorem dX7_set_63 : decode cX7_set 63 = .ok (.iload_n 1, 1) := by decide +kernel
theorem dX7_set_64 : decode cX7_set 64 = .ok (.iaload, 1) := by decide +kernel
theorem dX7_set_65 : decode cX7_set 65 = .ok (.ifCond .ne 8, 3) := by decide +kernel
theorem dX7_set_68 : decode cX7_set 68 = .ok (.iload_n 3, 1) := by decide +kernel
theorem dX7_set_69 : decode cX7_set 69 = .ok (.i2b, 1) := by decide +kernel
theorem dX7_set_70 : decode cX7_set 70 = .ok (.goto 19, 3) := by decide +kernel
theorem dX7_set_73 : decode cX7_set 73 = .ok (.aload_n 0, 1) := by decide +kernel
theorem dX7_set_74 : decode cX7_set 74 = .ok (.getfield 7, 3) := by decide +kernel
theorem dX7_set_77 : decode cX7_set 77 = .ok (.iload_n 1, 1) := by decide +kernel
theorem dX7_set_78 : decode cX7_set 78 = .ok (.iaload, 1) := by decide +kernel
theorem dX7_set_79 : decode cX7_set 79 = .ok (.iconst 1, 1) := by decide +kernel
theorem dX7_set_80 : decode cX7_set 80 = .ok (.if_icmp .ne 8, 3) := by decide +kernel
theorem dX7_set_83 : decode cX7_set 83 = .ok (.iload_n 3, 1) := by decide +kernel
theorem dX7_set_84 : decode cX7_set 84 = .ok (.i2s, 1) := by decide +kernel
theorem dX7_set_85 : decode cX7_set 85 = .ok (.goto 4, 3) := by decide +kernel
theorem dX7_set_88 : decode cX7_set 88 = .ok (.iload_n 3, 1) := by decide +kernel
theorem dX7_set_89 : decode cX7_set 89 = .ok (.iastore, 1) := by decide +kernel
theorem dX7_set_90 : decode cX7_set 90 = .ok (.aload_n 0, 1) := by decide +kernel
theorem dX7_set_91 : decode cX7_set 91 = .ok (.aload_n 0, 1) := by decide +kernel
theorem dX7_set_92 : decode cX7_set 92 = .ok (.getfield 16, 3) := by decide +kernel
theorem dX7_set_95 : decode cX7_set 95 = .ok (.bipush 40, 2) := by decide +kernel
theorem dX7_set_97 : decode cX7_set 97 = .ok (.iload_n 1, 1) := by decide +kernel
theorem dX7_set_98 : decode cX7_set 98 = .ok (.imul, 1) := by decide +kernel
theorem dX7_set_99 : decode cX7_set 99 = .ok (.iload_n 2, 1) := by decide +kernel
theorem dX7_set_100 : decode cX7_set 100 = .ok (.iadd, 1) := by decide +kernel
theorem dX7_set_101 : decode cX7_set 101 = .ok (.iaload, 1) := by decide +kernel
theorem dX7_set_102 : decode cX7_set 102 = .ok (.invokevirtual 66, 3) := by decide +kernel
theorem dX7_set_105 : decode cX7_set 105 = .ok (.ireturn, 1) := by decide +kernel
theorem dX7_copy_0 : decode cX7_copy 0 = .ok (.iload_n 1, 1) := by decide +kernel
theorem dX7_copy_1 : decode cX7_copy 1 = .ok (.invokestatic 55, 3) := by decide +kernel
theorem dX7_copy_4 : decode cX7_copy 4 = .ok (.ifCond .eq 10, 3) := by decide +kernel
theorem dX7_copy_7 : decode cX7_copy 7 = .ok (.iload_n 3, 1) := by decide +kernel
theorem dX7_copy_8 : decode cX7_copy 8 = .ok (.invokestatic 55, 3) := by decide +kernel
theorem dX7_copy_11 : decode cX7_copy 11 = .ok (.ifCond .ne 6, 3) := by decide +kernel
theorem dX7_copy_14 : decode cX7_copy 14 = .ok (.ldc 61, 2) := by decide +kernel
theorem dX7_copy_16 : decode cX7_copy 16 = .ok (.ireturn, 1) := by decide +kernel
theorem dX7_copy_17 : decode cX7_copy 17 = .ok (.aload_n 0, 1) := by decide +kernel
theorem dX7_copy_18 : decode cX7_copy 18 = .ok (.getfield 13, 3) := by decide +kernel
theorem dX7_copy_21 : decode cX7_copy 21 = .ok (.iload_n 1, 1) := by decide +kernel
theorem dX7_copy_22 : decode cX7_copy 22 = .ok (.iaload, 1) := by decide +kernel
theorem dX7_copy_23 : decode cX7_copy 23 = .ok (.ifCond .lt 12, 3) := by decide +kernel
theorem dX7_copy_26 : decode cX7_copy 26 = .ok (.aload_n 0, 1) := by decide +kernel
theorem dX7_copy_27 : decode cX7_copy 27 = .ok (.getfield 13, 3) := by decide +kernel
theorem dX7_copy_30 : decode cX7_copy 30 = .ok (.iload_n 3, 1) := by decide +kernel
theorem dX7_copy_31 : decode cX7_copy 31 = .ok (.iaload, 1) := by decide +kernel
theorem dX7_copy_32 : decode cX7_copy 32 = .ok (.ifCond .ge 9, 3) := by decide +kernel
theorem dX7_copy_35 : decode cX7_copy 35 = .ok (.aload_n 0, 1) := by decide +kernel
theorem dX7_copy_36 : decode cX7_copy 36 = .ok (.iconst 1, 1) := by decide +kernel
theorem dX7_copy_37 : decode cX7_copy 37 = .ok (.invokevirtual 62, 3) := by decide +kernel
theorem dX7_copy_40 : decode cX7_copy 40 = .ok (.ireturn, 1) := by decide +kernel
theorem dX7_copy_41 : decode cX7_copy 41 = .ok (.aload_n 0, 1) := by decide +kernel
theorem dX7_copy_42 : decode cX7_copy 42 = .ok (.getfield 7, 3) := by decide +kernel
theorem dX7_copy_45 : decode cX7_copy 45 = .ok (.iload_n 1, 1) := by decide +kernel
theorem dX7_copy_46 : decode cX7_copy 46 = .ok (.iaload, 1) := by decide +kernel
theorem dX7_copy_47 : decode cX7_copy 47 = .ok (.aload_n 0, 1) := by decide +kernel
theorem dX7_copy_48 : decode cX7_copy 48 = .ok (.getfield 7, 3) := by decide +kernel
theorem dX7_copy_51 : decode cX7_copy 51 = .ok (.iload_n 3, 1) := by decide +kernel
theorem dX7_copy_52 : decode cX7_copy 52 = .ok (.iaload, 1) := by decide +kernel
theorem dX7_copy_53 : decode cX7_copy 53 = .ok (.if_icmp .eq 9, 3) := by decide +kernel
theorem dX7_copy_56 : decode cX7_copy 56 = .ok (.aload_n 0, 1) := by decide +kernel
theorem dX7_copy_57 : decode cX7_copy 57 = .ok (.iconst 5, 1) := by decide +kernel
theorem dX7_copy_58 : decode cX7_copy 58 = .ok (.invokevirtual 62, 3) := by decide +kernel
theorem dX7_copy_61 : decode cX7_copy 61 = .ok (.ireturn, 1) := by decide +kernel
theorem dX7_copy_62 : decode cX7_copy 62 = .ok (.iload_n 2, 1) := by decide +kernel
theorem dX7_copy_63 : decode cX7_copy 63 = .ok (.ifCond .lt 48, 3) := by decide +kernel
theorem dX7_copy_66 : decode cX7_copy 66 = .ok (.iload 4, 2) := by decide +kernel
theorem dX7_copy_68 : decode cX7_copy 68 = .ok (.ifCond .lt 43, 3) := by decide +kernel
theorem dX7_copy_71 : decode cX7_copy 71 = .ok (.iload 5, 2) := by decide +kernel
theorem dX7_copy_73 : decode cX7_copy 73 = .ok (.ifCond .lt 38, 3) := by decide +kernel
theorem dX7_copy_76 : decode cX7_copy 76 = .ok (.iload_n 2, 1) := by decide +kernel
theorem dX7_copy_77 : decode cX7_copy 77 = .ok (.i2l, 1) := by decide +kernel
theorem dX7_copy_78 : decode cX7_copy 78 = .ok (.iload 5, 2) := by decide +kernel
theorem dX7_copy_80 : decode cX7_copy 80 = .ok (.i2l, 1) := by decide +kernel
theorem dX7_copy_81 : decode cX7_copy 81 = .ok (.ladd, 1) := by decide +kernel
theorem dX7_copy_82 : decode cX7_copy 82 = .ok (.aload_n 0, 1) := by decide +kernel
theorem dX7_copy_83 : decode cX7_copy 83 = .ok (.getfield 13, 3) := by decide +kernel
theorem dX7_copy_86 : decode cX7_copy 86 = .ok (.iload_n 1, 1) := by decide +kernel
theorem dX7_copy_87 : decode cX7_copy 87 = .ok (.iaload, 1) := by decide +kernel
theorem dX7_copy_88 : decode cX7_copy 88 = .ok (.i2l, 1) := by decide +kernel
theorem dX7_copy_89 : decode cX7_copy 89 = .ok (.lcmp, 1) := by decide +kernel
theorem dX7_copy_90 : decode cX7_copy 90 = .ok (.ifCond .gt 21, 3) := by decide +kernel
theorem dX7_copy_93 : decode cX7_copy 93 = .ok (.iload 4, 2) := by decide +kernel
theorem dX7_copy_95 : decode cX7_copy 95 = .ok (.i2l, 1) := by decide +kernel
theorem dX7_copy_96 : decode cX7_copy 96 = .ok (.iload 5, 2) := by decide +kernel
theorem dX7_copy_98 : decode cX7_copy 98 = .ok (.i2l, 1) := by decide +kernel
theorem dX7_copy_99 : decode cX7_copy 99 = .ok (.ladd, 1) := by decide +kernel
theorem dX7_copy_100 : decode cX7_copy 100 = .ok (.aload_n 0, 1) := by decide +kernel
theorem dX7_copy_101 : decode cX7_copy 101 = .ok (.getfield 13, 3) := by decide +kernel
theorem dX7_copy_104 : decode cX7_copy 104 = .ok (.iload_n 3, 1) := by decide +kernel
theorem dX7_copy_105 : decode cX7_copy 105 = .ok (.iaload, 1) := by decide +kernel
theorem dX7_copy_106 : decode cX7_copy 106 = .ok (.i2l, 1) := by decide +kernel
theorem dX7_copy_107 : decode cX7_copy 107 = .ok (.lcmp, 1) := by decide +kernel
theorem dX7_copy_108 : decode cX7_copy 108 = .ok (.ifCond .le 9, 3) := by decide +kernel
theorem dX7_copy_111 : decode cX7_copy 111 = .ok (.aload_n 0, 1) := by decide +kernel
theorem dX7_copy_112 : decode cX7_copy 112 = .ok (.iconst 2, 1) := by decide +kernel
theorem dX7_copy_113 : decode cX7_copy 113 = .ok (.invokevirtual 62, 3) := by decide +kernel
theorem dX7_copy_116 : decode cX7_copy 116 = .ok (.ireturn, 1) := by decide +kernel
theorem dX7_copy_117 : decode cX7_copy 117 = .ok (.iconst 0, 1) := by decide +kernel
theorem dX7_copy_118 : decode cX7_copy 118 = .ok (.istore 6, 2) := by decide +kernel
theorem dX7_copy_120 : decode cX7_copy 120 = .ok (.iload 6, 2) := by decide +kernel
theorem dX7_copy_122 : decode cX7_copy 122 = .ok (.iload 5, 2) := by decide +kernel
theorem dX7_copy_124 : decode cX7_copy 124 = .ok (.if_icmp .ge 58, 3) := by decide +kernel
theorem dX7_copy_127 : decode cX7_copy 127 = .ok (.iload 4, 2) := by decide +kernel
theorem dX7_copy_129 : decode cX7_copy 129 = .ok (.iload_n 2, 1) := by decide +kernel
theorem dX7_copy_130 : decode cX7_copy 130 = .ok (.if_icmp .le 13, 3) := by decide +kernel
theorem dX7_copy_133 : decode cX7_copy 133 = .ok (.iload 5, 2) := by decide +kernel
theorem dX7_copy_135 : decode cX7_copy 135 = .ok (.iconst 1, 1) := by decide +kernel
theorem dX7_copy_136 : decode cX7_copy 136 = .ok (.isub, 1) := by decide +kernel
theorem dX7_copy_137 : decode cX7_copy 137 = .ok (.iload 6, 2) := by decide +kernel
theorem dX7_copy_139 : decode cX7_copy 139 = .ok (.isub, 1) := by decide +kernel
theorem dX7_copy_140 : decode cX7_copy 140 = .ok (.goto 5, 3) := by decide +kernel
theorem dX7_copy_143 : decode cX7_copy 143 = .ok (.iload 6, 2) := by decide +kernel
theorem dX7_copy_145 : decode cX7_copy 145 = .ok (.istore 7, 2) := by decide +kernel
theorem dX7_copy_147 : decode cX7_copy 147 = .ok (.aload_n 0, 1) := by decide +kernel
theorem dX7_copy_148 : decode cX7_copy 148 = .ok (.getfield 16, 3) := by decide +kernel
theorem dX7_copy_151 : decode cX7_copy 151 = .ok (.bipush 40, 2) := by decide +kernel
theorem dX7_copy_153 : decode cX7_copy 153 = .ok (.iload_n 3, 1) := by decide +kernel
theorem dX7_copy_154 : decode cX7_copy 154 = .ok (.imul, 1) := by decide +kernel
theorem dX7_copy_155 : decode cX7_copy 155 = .ok (.iload 4, 2) := by decide +kernel
theorem dX7_copy_157 : decode cX7_copy 157 = .ok (.iadd, 1) := by decide +kernel
theorem dX7_copy_158 : decode cX7_copy 158 = .ok (.iload 7, 2) := by decide +kernel
theorem dX7_copy_160 : decode cX7_copy 160 = .ok (.iadd, 1) := by decide +kernel
theorem dX7_copy_161 : decode cX7_copy 161 = .ok (.aload_n 0, 1) := by decide +kernel
theorem dX7_copy_162 : decode cX7_copy 162 = .ok (.getfield 16, 3) := by decide +kernel
theorem dX7_copy_165 : decode cX7_copy 165 = .ok (.bipush 40, 2) := by decide +kernel
theorem dX7_copy_167 : decode cX7_copy 167 = .ok (.iload_n 1, 1) := by decide +kernel
theorem dX7_copy_168 : decode cX7_copy 168 = .ok (.imul, 1) := by decide +kernel
theorem dX7_copy_169 : decode cX7_copy 169 = .ok (.iload_n 2, 1) := by decide +kernel
theorem dX7_copy_170 : decode cX7_copy 170 = .ok (.iadd, 1) := by decide +kernel
theorem dX7_copy_171 : decode cX7_copy 171 = .ok (.iload 7, 2) := by decide +kernel
theorem dX7_copy_173 : decode cX7_copy 173 = .ok (.iadd, 1) := by decide +kernel
theorem dX7_copy_174 : decode cX7_copy 174 = .ok (.iaload, 1) := by decide +kernel
theorem dX7_copy_175 : decode cX7_copy 175 = .ok (.iastore, 1) := by decide +kernel
theorem dX7_copy_176 : decode cX7_copy 176 = .ok (.iinc 6 1, 3) := by decide +kernel
theorem dX7_copy_179 : decode cX7_copy 179 = .ok (.goto (-59), 3) := by decide +kernel
theorem dX7_copy_182 : decode cX7_copy 182 = .ok (.aload_n 0, 1) := by decide +kernel
theorem dX7_copy_183 : decode cX7_copy 183 = .ok (.iload 5, 2) := by decide +kernel
theorem dX7_copy_185 : decode cX7_copy 185 = .ok (.invokevirtual 66, 3) := by decide +kernel
theorem dX7_copy_188 : decode cX7_copy 188 = .ok (.ireturn, 1) := by decide +kernel
theorem dX7_drop_0 : decode cX7_drop 0 = .ok (.iload_n 1, 1) := by decide +kernel
theorem dX7_drop_1 : decode cX7_drop 1 = .ok (.invokestatic 55, 3) := by decide +kernel
theorem dX7_drop_4 : decode cX7_drop 4 = .ok (.ifCond .ne 6, 3) := by decide +kernel
theorem dX7_drop_7 : decode cX7_drop 7 = .ok (.ldc 61, 2) := by decide +kernel
theorem dX7_drop_9 : decode cX7_drop 9 = .ok (.ireturn, 1) := by decide +kernel
theorem dX7_drop_10 : decode cX7_drop 10 = .ok (.aload_n 0, 1) := by decide +kernel
theorem dX7_drop_11 : decode cX7_drop 11 = .ok (.getfield 13, 3) := by decide +kernel
theorem dX7_drop_14 : decode cX7_drop 14 = .ok (.iload_n 1, 1) := by decide +kernel
theorem dX7_drop_15 : decode cX7_drop 15 = .ok (.iaload, 1) := by decide +kernel
theorem dX7_drop_16 : decode cX7_drop 16 = .ok (.ifCond .ge 9, 3) := by decide +kernel
theorem dX7_drop_19 : decode cX7_drop 19 = .ok (.aload_n 0, 1) := by decide +kernel
theorem dX7_drop_20 : decode cX7_drop 20 = .ok (.iconst 1, 1) := by decide +kernel
theorem dX7_drop_21 : decode cX7_drop 21 = .ok (.invokevirtual 62, 3) := by decide +kernel
theorem dX7_drop_24 : decode cX7_drop 24 = .ok (.ireturn, 1) := by decide +kernel
theorem dX7_drop_25 : decode cX7_drop 25 = .ok (.aload_n 0, 1) := by decide +kernel
theorem dX7_drop_26 : decode cX7_drop 26 = .ok (.getfield 13, 3) := by decide +kernel
theorem dX7_drop_29 : decode cX7_drop 29 = .ok (.iload_n 1, 1) := by decide +kernel
theorem dX7_drop_30 : decode cX7_drop 30 = .ok (.iaload, 1) := by decide +kernel
theorem dX7_drop_31 : decode cX7_drop 31 = .ok (.istore_n 2, 1) := by decide +kernel
theorem dX7_drop_32 : decode cX7_drop 32 = .ok (.aload_n 0, 1) := by decide +kernel
theorem dX7_drop_33 : decode cX7_drop 33 = .ok (.getfield 13, 3) := by decide +kernel
theorem dX7_drop_36 : decode cX7_drop 36 = .ok (.iload_n 1, 1) := by decide +kernel
theorem dX7_drop_37 : decode cX7_drop 37 = .ok (.iconst (-1), 1) := by decide +kernel
theorem dX7_drop_38 : decode cX7_drop 38 = .ok (.iastore, 1) := by decide +kernel
theorem dX7_drop_39 : decode cX7_drop 39 = .ok (.aload_n 0, 1) := by decide +kernel
theorem dX7_drop_40 : decode cX7_drop 40 = .ok (.iload_n 2, 1) := by decide +kernel
theorem dX7_drop_41 : decode cX7_drop 41 = .ok (.invokevirtual 66, 3) := by decide +kernel
theorem dX7_drop_44 : decode cX7_drop 44 = .ok (.ireturn, 1) := by decide +kernel
theorem dX7_feed_0 : decode cX7_feed 0 = .ok (.iload_n 1, 1) := by decide +kernel
theorem dX7_feed_1 : decode cX7_feed 1 = .ok (.i2l, 1) := by decide +kernel
theorem dX7_feed_2 : decode cX7_feed 2 = .ok (.lconst 0, 1) := by decide +kernel
theorem dX7_feed_3 : decode cX7_feed 3 = .ok (.ldc2_w 69, 3) := by decide +kernel
theorem dX7_feed_6 : decode cX7_feed 6 = .ok (.invokestatic 51, 3) := by decide +kernel
theorem dX7_feed_9 : decode cX7_feed 9 = .ok (.ifCond .ne 6, 3) := by decide +kernel
theorem dX7_feed_12 : decode cX7_feed 12 = .ok (.ldc 61, 2) := by decide +kernel
theorem dX7_feed_14 : decode cX7_feed 14 = .ok (.ireturn, 1) := by decide +kernel
theorem dX7_feed_15 : decode cX7_feed 15 = .ok (.aload_n 0, 1) := by decide +kernel
theorem dX7_feed_16 : decode cX7_feed 16 = .ok (.getfield 71, 3) := by decide +kernel
theorem dX7_feed_19 : decode cX7_feed 19 = .ok (.sipush 140, 3) := by decide +kernel
theorem dX7_feed_22 : decode cX7_feed 22 = .ok (.if_icmp .ne 6, 3) := by decide +kernel
theorem dX7_feed_25 : decode cX7_feed 25 = .ok (.ldc 74, 2) := by decide +kernel
theorem dX7_feed_27 : decode cX7_feed 27 = .ok (.ireturn, 1) := by decide +kernel
theorem dX7_feed_28 : decode cX7_feed 28 = .ok (.aload_n 0, 1) := by decide +kernel
theorem dX7_feed_29 : decode cX7_feed 29 = .ok (.getfield 19, 3) := by decide +kernel
theorem dX7_feed_32 : decode cX7_feed 32 = .ok (.aload_n 0, 1) := by decide +kernel
theorem dX7_feed_33 : decode cX7_feed 33 = .ok (.getfield 71, 3) := by decide +kernel
theorem dX7_feed_36 : decode cX7_feed 36 = .ok (.iload_n 1, 1) := by decide +kernel
theorem dX7_feed_37 : decode cX7_feed 37 = .ok (.iastore, 1) := by decide +kernel
theorem dX7_feed_38 : decode cX7_feed 38 = .ok (.aload_n 0, 1) := by decide +kernel
theorem dX7_feed_39 : decode cX7_feed 39 = .ok (.dup, 1) := by decide +kernel
theorem dX7_feed_40 : decode cX7_feed 40 = .ok (.getfield 71, 3) := by decide +kernel
theorem dX7_feed_43 : decode cX7_feed 43 = .ok (.iconst 1, 1) := by decide +kernel
theorem dX7_feed_44 : decode cX7_feed 44 = .ok (.iadd, 1) := by decide +kernel
theorem dX7_feed_45 : decode cX7_feed 45 = .ok (.putfield 71, 3) := by decide +kernel
theorem dX7_feed_48 : decode cX7_feed 48 = .ok (.aload_n 0, 1) := by decide +kernel
theorem dX7_feed_49 : decode cX7_feed 49 = .ok (.getfield 71, 3) := by decide +kernel
theorem dX7_feed_52 : decode cX7_feed 52 = .ok (.ireturn, 1) := by decide +kernel
theorem dX7_isFigure_0 : decode cX7_isFigure 0 = .ok (.iload_n 0, 1) := by decide +kernel
theorem dX7_isFigure_1 : decode cX7_isFigure 1 = .ok (.i2l, 1) := by decide +kernel
theorem dX7_isFigure_2 : decode cX7_isFigure 2 = .ok (.ldc2_w 75, 3) := by decide +kernel
theorem dX7_isFigure_5 : decode cX7_isFigure 5 = .ok (.ldc2_w 77, 3) := by decide +kernel
theorem dX7_isFigure_8 : decode cX7_isFigure 8 = .ok (.invokestatic 51, 3) := by decide +kernel
theorem dX7_isFigure_11 : decode cX7_isFigure 11 = .ok (.ireturn, 1) := by decide +kernel
theorem dX7_next_0 : decode cX7_next 0 = .ok (.aload_n 0, 1) := by decide +kernel
theorem dX7_next_1 : decode cX7_next 1 = .ok (.aload_n 0, 1) := by decide +kernel
theorem dX7_next_2 : decode cX7_next 2 = .ok (.getfield 79, 3) := by decide +kernel
theorem dX7_next_5 : decode cX7_next 5 = .ok (.putfield 82, 3) := by decide +kernel
theorem dX7_next_8 : decode cX7_next 8 = .ok (.aload_n 0, 1) := by decide +kernel
theorem dX7_next_9 : decode cX7_next 9 = .ok (.getfield 79, 3) := by decide +kernel
theorem dX7_next_12 : decode cX7_next 12 = .ok (.aload_n 0, 1) := by decide +kernel
theorem dX7_next_13 : decode cX7_next 13 = .ok (.getfield 85, 3) := by decide +kernel
theorem dX7_next_16 : decode cX7_next 16 = .ok (.if_icmp .ge 15, 3) := by decide +kernel
theorem dX7_next_19 : decode cX7_next 19 = .ok (.aload_n 0, 1) := by decide +kernel
theorem dX7_next_20 : decode cX7_next 20 = .ok (.getfield 19, 3) := by decide +kernel
theorem dX7_next_23 : decode cX7_next 23 = .ok (.aload_n 0, 1) := by decide +kernel
theorem dX7_next_24 : decode cX7_next 24 = .ok (.getfield 79, 3) := by decide +kernel
theorem dX7_next_27 : decode cX7_next 27 = .ok (.iaload, 1) := by decide +kernel
theorem dX7_next_28 : decode cX7_next 28 = .ok (.goto 4, 3) := by decide +kernel
theorem dX7_next_31 : decode cX7_next 31 = .ok (.iconst (-1), 1) := by decide +kernel
theorem dX7_next_32 : decode cX7_next 32 = .ok (.istore_n 1, 1) := by decide +kernel
theorem dX7_next_33 : decode cX7_next 33 = .ok (.aload_n 0, 1) := by decide +kernel
theorem dX7_next_34 : decode cX7_next 34 = .ok (.iload_n 1, 1) := by decide +kernel
theorem dX7_next_35 : decode cX7_next 35 = .ok (.ifCond .ge 7, 3) := by decide +kernel
theorem dX7_next_38 : decode cX7_next 38 = .ok (.iconst 0, 1) := by decide +kernel
theorem dX7_next_39 : decode cX7_next 39 = .ok (.goto 53, 3) := by decide +kernel
theorem dX7_next_42 : decode cX7_next 42 = .ok (.iload_n 1, 1) := by decide +kernel
theorem dX7_next_43 : decode cX7_next 43 = .ok (.i2l, 1) := by decide +kernel
theorem dX7_next_44 : decode cX7_next 44 = .ok (.ldc2_w 88, 3) := by decide +kernel
theorem dX7_next_47 : decode cX7_next 47 = .ok (.ldc2_w 90, 3) := by decide +kernel
theorem dX7_next_50 : decode cX7_next 50 = .ok (.invokestatic 51, 3) := by decide +kernel
theorem dX7_next_53 : decode cX7_next 53 = .ok (.ifCond .eq 7, 3) := by decide +kernel
theorem dX7_next_56 : decode cX7_next 56 = .ok (.iconst 1, 1) := by decide +kernel
theorem dX7_next_57 : decode cX7_next 57 = .ok (.goto 35, 3) := by decide +kernel
theorem dX7_next_60 : decode cX7_next 60 = .ok (.iload_n 1, 1) := by decide +kernel
theorem dX7_next_61 : decode cX7_next 61 = .ok (.invokestatic 92, 3) := by decide +kernel
theorem dX7_next_64 : decode cX7_next 64 = .ok (.ifCond .eq 7, 3) := by decide +kernel
theorem dX7_next_67 : decode cX7_next 67 = .ok (.iconst 2, 1) := by decide +kernel
theorem dX7_next_68 : decode cX7_next 68 = .ok (.goto 24, 3) := by decide +kernel
theorem dX7_next_71 : decode cX7_next 71 = .ok (.iload_n 1, 1) := by decide +kernel
theorem dX7_next_72 : decode cX7_next 72 = .ok (.bipush 44, 2) := by decide +kernel
theorem dX7_next_74 : decode cX7_next 74 = .ok (.if_icmp .ne 7, 3) := by decide +kernel
theorem dX7_next_77 : decode cX7_next 77 = .ok (.iconst 3, 1) := by decide +kernel
theorem dX7_next_78 : decode cX7_next 78 = .ok (.goto 14, 3) := by decide +kernel
theorem dX7_next_81 : decode cX7_next 81 = .ok (.iload_n 1, 1) := by decide +kernel
theorem dX7_next_82 : decode cX7_next 82 = .ok (.bipush 59, 2) := by decide +kernel
theorem dX7_next_84 : decode cX7_next 84 = .ok (.if_icmp .ne 7, 3) := by decide +kernel
theorem dX7_next_87 : decode cX7_next 87 = .ok (.iconst 4, 1) := by decide +kernel
theorem dX7_next_88 : decode cX7_next 88 = .ok (.goto 4, 3) := by decide +kernel
theorem dX7_next_91 : decode cX7_next 91 = .ok (.iconst 5, 1) := by decide +kernel
theorem dX7_next_92 : decode cX7_next 92 = .ok (.putfield 95, 3) := by decide +kernel
theorem dX7_next_95 : decode cX7_next 95 = .ok (.aload_n 0, 1) := by decide +kernel
theorem dX7_next_96 : decode cX7_next 96 = .ok (.aload_n 0, 1) := by decide +kernel
theorem dX7_next_97 : decode cX7_next 97 = .ok (.getfield 95, 3) := by decide +kernel
theorem dX7_next_100 : decode cX7_next 100 = .ok (.iconst 1, 1) := by decide +kernel
theorem dX7_next_101 : decode cX7_next 101 = .ok (.if_icmp .ne 7, 3) := by decide +kernel
theorem dX7_next_104 : decode cX7_next 104 = .ok (.iload_n 1, 1) := by decide +kernel
theorem dX7_next_105 : decode cX7_next 105 = .ok (.goto 4, 3) := by decide +kernel
theorem dX7_next_108 : decode cX7_next 108 = .ok (.iconst 0, 1) := by decide +kernel
theorem dX7_next_109 : decode cX7_next 109 = .ok (.putfield 98, 3) := by decide +kernel
theorem dX7_next_112 : decode cX7_next 112 = .ok (.aload_n 0, 1) := by decide +kernel
theorem dX7_next_113 : decode cX7_next 113 = .ok (.dup, 1) := by decide +kernel
theorem dX7_next_114 : decode cX7_next 114 = .ok (.getfield 79, 3) := by decide +kernel
theorem dX7_next_117 : decode cX7_next 117 = .ok (.aload_n 0, 1) := by decide +kernel
theorem dX7_next_118 : decode cX7_next 118 = .ok (.getfield 95, 3) := by decide +kernel
theorem dX7_next_121 : decode cX7_next 121 = .ok (.ifCond .le 15, 3) := by decide +kernel
theorem dX7_next_124 : decode cX7_next 124 = .ok (.aload_n 0, 1) := by decide +kernel
theorem dX7_next_125 : decode cX7_next 125 = .ok (.getfield 95, 3) := by decide +kernel
theorem dX7_next_128 : decode cX7_next 128 = .ok (.iconst 2, 1) := by decide +kernel
theorem dX7_next_129 : decode cX7_next 129 = .ok (.if_icmp .eq 7, 3) := by decide +kernel
theorem dX7_next_132 : decode cX7_next 132 = .ok (.iconst 1, 1) := by decide +kernel
theorem dX7_next_133 : decode cX7_next 133 = .ok (.goto 4, 3) := by decide +kernel
theorem dX7_next_136 : decode cX7_next 136 = .ok (.iconst 0, 1) := by decide +kernel
theorem dX7_next_137 : decode cX7_next 137 = .ok (.iadd, 1) := by decide +kernel
theorem dX7_next_138 : decode cX7_next 138 = .ok (.putfield 79, 3) := by decide +kernel
theorem dX7_next_141 : decode cX7_next 141 = .ok (.aload_n 0, 1) := by decide +kernel
theorem dX7_next_142 : decode cX7_next 142 = .ok (.getfield 95, 3) := by decide +kernel
theorem dX7_next_145 : decode cX7_next 145 = .ok (.iconst 2, 1) := by decide +kernel
theorem dX7_next_146 : decode cX7_next 146 = .ok (.if_icmp .ne 86, 3) := by decide +kernel
theorem dX7_next_149 : decode cX7_next 149 = .ok (.aload_n 0, 1) := by decide +kernel
theorem dX7_next_150 : decode cX7_next 150 = .ok (.getfield 79, 3) := by decide +kernel
theorem dX7_next_153 : decode cX7_next 153 = .ok (.aload_n 0, 1) := by decide +kernel
theorem dX7_next_154 : decode cX7_next 154 = .ok (.getfield 85, 3) := by decide +kernel
theorem dX7_next_157 : decode cX7_next 157 = .ok (.if_icmp .ge 75, 3) := by decide +kernel
theorem dX7_next_160 : decode cX7_next 160 = .ok (.aload_n 0, 1) := by decide +kernel
theorem dX7_next_161 : decode cX7_next 161 = .ok (.getfield 19, 3) := by decide +kernel
theorem dX7_next_164 : decode cX7_next 164 = .ok (.aload_n 0, 1) := by decide +kernel
theorem dX7_next_165 : decode cX7_next 165 = .ok (.getfield 79, 3) := by decide +kernel
theorem dX7_next_168 : decode cX7_next 168 = .ok (.iaload, 1) := by decide +kernel
theorem dX7_next_169 : decode cX7_next 169 = .ok (.invokestatic 92, 3) := by decide +kernel
theorem dX7_next_172 : decode cX7_next 172 = .ok (.ifCond .eq 60, 3) := by decide +kernel
theorem dX7_next_175 : decode cX7_next 175 = .ok (.aload_n 0, 1) := by decide +kernel
theorem dX7_next_176 : decode cX7_next 176 = .ok (.aload_n 0, 1) := by decide +kernel
theorem dX7_next_177 : decode cX7_next 177 = .ok (.getfield 79, 3) := by decide +kernel
theorem dX7_next_180 : decode cX7_next 180 = .ok (.aload_n 0, 1) := by decide +kernel
theorem dX7_next_181 : decode cX7_next 181 = .ok (.getfield 82, 3) := by decide +kernel
theorem dX7_next_184 : decode cX7_next 184 = .ok (.isub, 1) := by decide +kernel
theorem dX7_next_185 : decode cX7_next 185 = .ok (.iconst 2, 1) := by decide +kernel
theorem dX7_next_186 : decode cX7_next 186 = .ok (.if_icmp .ge 26, 3) := by decide +kernel
theorem dX7_next_189 : decode cX7_next 189 = .ok (.bipush 10, 2) := by decide +kernel
theorem dX7_next_191 : decode cX7_next 191 = .ok (.aload_n 0, 1) := by decide +kernel
theorem dX7_next_192 : decode cX7_next 192 = .ok (.getfield 98, 3) := by decide +kernel
theorem dX7_next_195 : decode cX7_next 195 = .ok (.imul, 1) := by decide +kernel
theorem dX7_next_196 : decode cX7_next 196 = .ok (.aload_n 0, 1) := by decide +kernel
theorem dX7_next_197 : decode cX7_next 197 = .ok (.getfield 19, 3) := by decide +kernel
theorem dX7_next_200 : decode cX7_next 200 = .ok (.aload_n 0, 1) := by decide +kernel
theorem dX7_next_201 : decode cX7_next 201 = .ok (.getfield 79, 3) := by decide +kernel
theorem dX7_next_204 : decode cX7_next 204 = .ok (.iaload, 1) := by decide +kernel
theorem dX7_next_205 : decode cX7_next 205 = .ok (.iadd, 1) := by decide +kernel
theorem dX7_next_206 : decode cX7_next 206 = .ok (.bipush 48, 2) := by decide +kernel
theorem dX7_next_208 : decode cX7_next 208 = .ok (.isub, 1) := by decide +kernel
theorem dX7_next_209 : decode cX7_next 209 = .ok (.goto 7, 3) := by decide +kernel
theorem dX7_next_212 : decode cX7_next 212 = .ok (.aload_n 0, 1) := by decide +kernel
theorem dX7_next_213 : decode cX7_next 213 = .ok (.getfield 98, 3) := by decide +kernel
theorem dX7_next_216 : decode cX7_next 216 = .ok (.putfield 98, 3) := by decide +kernel
theorem dX7_next_219 : decode cX7_next 219 = .ok (.aload_n 0, 1) := by decide +kernel
theorem dX7_next_220 : decode cX7_next 220 = .ok (.dup, 1) := by decide +kernel
theorem dX7_next_221 : decode cX7_next 221 = .ok (.getfield 79, 3) := by decide +kernel
theorem dX7_next_224 : decode cX7_next 224 = .ok (.iconst 1, 1) := by decide +kernel
theorem dX7_next_225 : decode cX7_next 225 = .ok (.iadd, 1) := by decide +kernel
theorem dX7_next_226 : decode cX7_next 226 = .ok (.putfield 79, 3) := by decide +kernel
theorem dX7_next_229 : decode cX7_next 229 = .ok (.goto (-88), 3) := by decide +kernel
theorem dX7_next_232 : decode cX7_next 232 = .ok (.aload_n 0, 1) := by decide +kernel
theorem dX7_next_233 : decode cX7_next 233 = .ok (.aload_n 0, 1) := by decide +kernel
theorem dX7_next_234 : decode cX7_next 234 = .ok (.getfield 95, 3) := by decide +kernel
theorem dX7_next_237 : decode cX7_next 237 = .ok (.iconst 2, 1) := by decide +kernel
theorem dX7_next_238 : decode cX7_next 238 = .ok (.if_icmp .ne 20, 3) := by decide +kernel
theorem dX7_next_241 : decode cX7_next 241 = .ok (.aload_n 0, 1) := by decide +kernel
theorem dX7_next_242 : decode cX7_next 242 = .ok (.getfield 79, 3) := by decide +kernel
theorem dX7_next_245 : decode cX7_next 245 = .ok (.aload_n 0, 1) := by decide +kernel
theorem dX7_next_246 : decode cX7_next 246 = .ok (.getfield 82, 3) := by decide +kernel
theorem dX7_next_249 : decode cX7_next 249 = .ok (.isub, 1) := by decide +kernel
theorem dX7_next_250 : decode cX7_next 250 = .ok (.iconst 2, 1) := by decide +kernel
theorem dX7_next_251 : decode cX7_next 251 = .ok (.if_icmp .le 7, 3) := by decide +kernel
theorem dX7_next_254 : decode cX7_next 254 = .ok (.iconst 5, 1) := by decide +kernel
theorem dX7_next_255 : decode cX7_next 255 = .ok (.goto 7, 3) := by decide +kernel
theorem dX7_next_258 : decode cX7_next 258 = .ok (.aload_n 0, 1) := by decide +kernel
theorem dX7_next_259 : decode cX7_next 259 = .ok (.getfield 95, 3) := by decide +kernel
theorem dX7_next_262 : decode cX7_next 262 = .ok (.putfield 95, 3) := by decide +kernel
theorem dX7_next_265 : decode cX7_next 265 = .ok (.return_, 1) := by decide +kernel
theorem dX7_fails_0 : decode cX7_fails 0 = .ok (.aload_n 0, 1) := by decide +kernel
theorem dX7_fails_1 : decode cX7_fails 1 = .ok (.iload_n 1, 1) := by decide +kernel
theorem dX7_fails_2 : decode cX7_fails 2 = .ok (.putfield 101, 3) := by decide +kernel
theorem dX7_fails_5 : decode cX7_fails 5 = .ok (.iconst 0, 1) := by decide +kernel
theorem dX7_fails_6 : decode cX7_fails 6 = .ok (.ireturn, 1) := by decide +kernel
theorem dX7_number_0 : decode cX7_number 0 = .ok (.aload_n 0, 1) := by decide +kernel
theorem dX7_number_1 : decode cX7_number 1 = .ok (.invokevirtual 104, 3) := by decide +kernel
theorem dX7_number_4 : decode cX7_number 4 = .ok (.aload_n 0, 1) := by decide +kernel
theorem dX7_number_5 : decode cX7_number 5 = .ok (.getfield 95, 3) := by decide +kernel
theorem dX7_number_8 : decode cX7_number 8 = .ok (.iconst 2, 1) := by decide +kernel
theorem dX7_number_9 : decode cX7_number 9 = .ok (.if_icmp .eq 9, 3) := by decide +kernel
theorem dX7_number_12 : decode cX7_number 12 = .ok (.aload_n 0, 1) := by decide +kernel
theorem dX7_number_13 : decode cX7_number 13 = .ok (.iconst 1, 1) := by decide +kernel
theorem dX7_number_14 : decode cX7_number 14 = .ok (.invokevirtual 107, 3) := by decide +kernel
theorem dX7_number_17 : decode cX7_number 17 = .ok (.ireturn, 1) := by decide +kernel
theorem dX7_number_18 : decode cX7_number 18 = .ok (.aload_n 0, 1) := by decide +kernel
theorem dX7_number_19 : decode cX7_number 19 = .ok (.getfield 98, 3) := by decide +kernel
theorem dX7_number_22 : decode cX7_number 22 = .ok (.i2l, 1) := by decide +kernel
theorem dX7_number_23 : decode cX7_number 23 = .ok (.iload_n 2, 1) := by decide +kernel
theorem dX7_number_24 : decode cX7_number 24 = .ok (.i2l, 1) := by decide +kernel
theorem dX7_number_25 : decode cX7_number 25 = .ok (.iload_n 3, 1) := by decide +kernel
theorem dX7_number_26 : decode cX7_number 26 = .ok (.i2l, 1) := by decide +kernel
theorem dX7_number_27 : decode cX7_number 27 = .ok (.invokestatic 51, 3) := by decide +kernel
theorem dX7_number_30 : decode cX7_number 30 = .ok (.ifCond .ne 9, 3) := by decide +kernel
theorem dX7_number_33 : decode cX7_number 33 = .ok (.aload_n 0, 1) := by decide +kernel
theorem dX7_number_34 : decode cX7_number 34 = .ok (.iconst 2, 1) := by decide +kernel
theorem dX7_number_35 : decode cX7_number 35 = .ok (.invokevirtual 107, 3) := by decide +kernel
theorem dX7_number_38 : decode cX7_number 38 = .ok (.ireturn, 1) := by decide +kernel
theorem dX7_number_39 : decode cX7_number 39 = .ok (.aload_n 0, 1) := by decide +kernel
theorem dX7_number_40 : decode cX7_number 40 = .ok (.getfield 38, 3) := by decide +kernel
theorem dX7_number_43 : decode cX7_number 43 = .ok (.iload_n 1, 1) := by decide +kernel
theorem dX7_number_44 : decode cX7_number 44 = .ok (.aload_n 0, 1) := by decide +kernel
theorem dX7_number_45 : decode cX7_number 45 = .ok (.getfield 98, 3) := by decide +kernel
theorem dX7_number_48 : decode cX7_number 48 = .ok (.iastore, 1) := by decide +kernel
theorem dX7_number_49 : decode cX7_number 49 = .ok (.iconst 1, 1) := by decide +kernel
theorem dX7_number_50 : decode cX7_number 50 = .ok (.ireturn, 1) := by decide +kernel
theorem dX7_sign_0 : decode cX7_sign 0 = .ok (.aload_n 0, 1) := by decide +kernel
theorem dX7_sign_1 : decode cX7_sign 1 = .ok (.invokevirtual 104, 3) := by decide +kernel
theorem dX7_sign_4 : decode cX7_sign 4 = .ok (.aload_n 0, 1) := by decide +kernel
theorem dX7_sign_5 : decode cX7_sign 5 = .ok (.getfield 95, 3) := by decide +kernel
theorem dX7_sign_8 : decode cX7_sign 8 = .ok (.iload_n 1, 1) := by decide +kernel
theorem dX7_sign_9 : decode cX7_sign 9 = .ok (.if_icmp .eq 11, 3) := by decide +kernel
theorem dX7_sign_12 : decode cX7_sign 12 = .ok (.aload_n 0, 1) := by decide +kernel
theorem dX7_sign_13 : decode cX7_sign 13 = .ok (.iconst 1, 1) := by decide +kernel
theorem dX7_sign_14 : decode cX7_sign 14 = .ok (.invokevirtual 107, 3) := by decide +kernel
theorem dX7_sign_17 : decode cX7_sign 17 = .ok (.ifCond .eq 7, 3) := by decide +kernel
theorem dX7_sign_20 : decode cX7_sign 20 = .ok (.iconst 1, 1) := by decide +kernel
theorem dX7_sign_21 : decode cX7_sign 21 = .ok (.goto 4, 3) := by decide +kernel
theorem dX7_sign_24 : decode cX7_sign 24 = .ok (.iconst 0, 1) := by decide +kernel
theorem dX7_sign_25 : decode cX7_sign 25 = .ok (.ireturn, 1) := by decide +kernel
theorem dX7_isLetter_0 : decode cX7_isLetter 0 = .ok (.aload_n 0, 1) := by decide +kernel
theorem dX7_isLetter_1 : decode cX7_isLetter 1 = .ok (.getfield 95, 3) := by decide +kernel
theorem dX7_isLetter_4 : decode cX7_isLetter 4 = .ok (.iconst 1, 1) := by decide +kernel
theorem dX7_isLetter_5 : decode cX7_isLetter 5 = .ok (.if_icmp .ne 15, 3) := by decide +kernel
theorem dX7_isLetter_8 : decode cX7_isLetter 8 = .ok (.aload_n 0, 1) := by decide +kernel
theorem dX7_isLetter_9 : decode cX7_isLetter 9 = .ok (.getfield 98, 3) := by decide +kernel
theorem dX7_isLetter_12 : decode cX7_isLetter 12 = .ok (.iload_n 1, 1) := by decide +kernel
theorem dX7_isLetter_13 : decode cX7_isLetter 13 = .ok (.if_icmp .ne 7, 3) := by decide +kernel
theorem dX7_isLetter_16 : decode cX7_isLetter 16 = .ok (.iconst 1, 1) := by decide +kernel
theorem dX7_isLetter_17 : decode cX7_isLetter 17 = .ok (.goto 4, 3) := by decide +kernel
theorem dX7_isLetter_20 : decode cX7_isLetter 20 = .ok (.iconst 0, 1) := by decide +kernel
theorem dX7_isLetter_21 : decode cX7_isLetter 21 = .ok (.ireturn, 1) := by decide +kernel
theorem dX7_readsLaw_0 : decode cX7_readsLaw 0 = .ok (.aload_n 0, 1) := by decide +kernel
theorem dX7_readsLaw_1 : decode cX7_readsLaw 1 = .ok (.invokevirtual 104, 3) := by decide +kernel
theorem dX7_readsLaw_4 : decode cX7_readsLaw 4 = .ok (.aload_n 0, 1) := by decide +kernel
theorem dX7_readsLaw_5 : decode cX7_readsLaw 5 = .ok (.bipush 105, 2) := by decide +kernel
theorem dX7_readsLaw_7 : decode cX7_readsLaw 7 = .ok (.invokevirtual 110, 3) := by decide +kernel
theorem dX7_readsLaw_10 : decode cX7_readsLaw 10 = .ok (.ifCond .ne 9, 3) := by decide +kernel
theorem dX7_readsLaw_13 : decode cX7_readsLaw 13 = .ok (.aload_n 0, 1) := by decide +kernel
theorem dX7_readsLaw_14 : decode cX7_readsLaw 14 = .ok (.iconst 1, 1) := by decide +kernel
theorem dX7_readsLaw_15 : decode cX7_readsLaw 15 = .ok (.invokevirtual 107, 3) := by decide +kernel
theorem dX7_readsLaw_18 : decode cX7_readsLaw 18 = .ok (.ireturn, 1) := by decide +kernel
theorem dX7_readsLaw_19 : decode cX7_readsLaw 19 = .ok (.aload_n 0, 1) := by decide +kernel
theorem dX7_readsLaw_20 : decode cX7_readsLaw 20 = .ok (.iconst 0, 1) := by decide +kernel
theorem dX7_readsLaw_21 : decode cX7_readsLaw 21 = .ok (.iconst 1, 1) := by decide +kernel
theorem dX7_readsLaw_22 : decode cX7_readsLaw 22 = .ok (.bipush 99, 2) := by decide +kernel
theorem dX7_readsLaw_24 : decode cX7_readsLaw 24 = .ok (.invokevirtual 113, 3) := by decide +kernel
theorem dX7_readsLaw_27 : decode cX7_readsLaw 27 = .ok (.ifCond .eq 34, 3) := by decide +kernel
theorem dX7_readsLaw_30 : decode cX7_readsLaw 30 = .ok (.aload_n 0, 1) := by decide +kernel
theorem dX7_readsLaw_31 : decode cX7_readsLaw 31 = .ok (.iconst 3, 1) := by decide +kernel
theorem dX7_readsLaw_32 : decode cX7_readsLaw 32 = .ok (.invokevirtual 117, 3) := by decide +kernel
theorem dX7_readsLaw_35 : decode cX7_readsLaw 35 = .ok (.ifCond .eq 26, 3) := by decide +kernel
theorem dX7_readsLaw_38 : decode cX7_readsLaw 38 = .ok (.aload_n 0, 1) := by decide +kernel
theorem dX7_readsLaw_39 : decode cX7_readsLaw 39 = .ok (.iconst 1, 1) := by decide +kernel
theorem dX7_readsLaw_40 : decode cX7_readsLaw 40 = .ok (.iconst 1, 1) := by decide +kernel
theorem dX7_readsLaw_41 : decode cX7_readsLaw 41 = .ok (.bipush 99, 2) := by decide +kernel
theorem dX7_readsLaw_43 : decode cX7_readsLaw 43 = .ok (.invokevirtual 113, 3) := by decide +kernel
theorem dX7_readsLaw_46 : decode cX7_readsLaw 46 = .ok (.ifCond .eq 15, 3) := by decide +kernel
theorem dX7_readsLaw_49 : decode cX7_readsLaw 49 = .ok (.aload_n 0, 1) := by decide +kernel
theorem dX7_readsLaw_50 : decode cX7_readsLaw 50 = .ok (.iconst 4, 1) := by decide +kernel
theorem dX7_readsLaw_51 : decode cX7_readsLaw 51 = .ok (.invokevirtual 117, 3) := by decide +kernel
theorem dX7_readsLaw_54 : decode cX7_readsLaw 54 = .ok (.ifCond .eq 7, 3) := by decide +kernel
theorem dX7_readsLaw_57 : decode cX7_readsLaw 57 = .ok (.iconst 1, 1) := by decide +kernel
theorem dX7_readsLaw_58 : decode cX7_readsLaw 58 = .ok (.goto 4, 3) := by decide +kernel
theorem dX7_readsLaw_61 : decode cX7_readsLaw 61 = .ok (.iconst 0, 1) := by decide +kernel
theorem dX7_readsLaw_62 : decode cX7_readsLaw 62 = .ok (.ireturn, 1) := by decide +kernel
theorem dX7_sortOf_0 : decode cX7_sortOf 0 = .ok (.iload_n 0, 1) := by decide +kernel
theorem dX7_sortOf_1 : decode cX7_sortOf 1 = .ok (.bipush 115, 2) := by decide +kernel
theorem dX7_sortOf_3 : decode cX7_sortOf 3 = .ok (.if_icmp .ne 7, 3) := by decide +kernel
theorem dX7_sortOf_6 : decode cX7_sortOf 6 = .ok (.iconst 1, 1) := by decide +kernel
theorem dX7_sortOf_7 : decode cX7_sortOf 7 = .ok (.goto 44, 3) := by decide +kernel
theorem dX7_sortOf_10 : decode cX7_sortOf 10 = .ok (.iload_n 0, 1) := by decide +kernel
theorem dX7_sortOf_11 : decode cX7_sortOf 11 = .ok (.bipush 112, 2) := by decide +kernel
theorem dX7_sortOf_13 : decode cX7_sortOf 13 = .ok (.if_icmp .ne 7, 3) := by decide +kernel
theorem dX7_sortOf_16 : decode cX7_sortOf 16 = .ok (.iconst 2, 1) := by decide +kernel
theorem dX7_sortOf_17 : decode cX7_sortOf 17 = .ok (.goto 34, 3) := by decide +kernel
theorem dX7_sortOf_20 : decode cX7_sortOf 20 = .ok (.iload_n 0, 1) := by decide +kernel
theorem dX7_sortOf_21 : decode cX7_sortOf 21 = .ok (.bipush 114, 2) := by decide +kernel
theorem dX7_sortOf_23 : decode cX7_sortOf 23 = .ok (.if_icmp .ne 7, 3) := by decide +kernel
theorem dX7_sortOf_26 : decode cX7_sortOf 26 = .ok (.iconst 3, 1) := by decide +kernel
theorem dX7_sortOf_27 : decode cX7_sortOf 27 = .ok (.goto 24, 3) := by decide +kernel
theorem dX7_sortOf_30 : decode cX7_sortOf 30 = .ok (.iload_n 0, 1) := by decide +kernel
theorem dX7_sortOf_31 : decode cX7_sortOf 31 = .ok (.bipush 104, 2) := by decide +kernel
theorem dX7_sortOf_33 : decode cX7_sortOf 33 = .ok (.if_icmp .ne 7, 3) := by decide +kernel
theorem dX7_sortOf_36 : decode cX7_sortOf 36 = .ok (.iconst 4, 1) := by decide +kernel
theorem dX7_sortOf_37 : decode cX7_sortOf 37 = .ok (.goto 14, 3) := by decide +kernel
theorem dX7_sortOf_40 : decode cX7_sortOf 40 = .ok (.iload_n 0, 1) := by decide +kernel
theorem dX7_sortOf_41 : decode cX7_sortOf 41 = .ok (.bipush 108, 2) := by decide +kernel
theorem dX7_sortOf_43 : decode cX7_sortOf 43 = .ok (.if_icmp .ne 7, 3) := by decide +kernel
theorem dX7_sortOf_46 : decode cX7_sortOf 46 = .ok (.iconst 5, 1) := by decide +kernel
theorem dX7_sortOf_47 : decode cX7_sortOf 47 = .ok (.goto 4, 3) := by decide +kernel
theorem dX7_sortOf_50 : decode cX7_sortOf 50 = .ok (.iconst 0, 1) := by decide +kernel
theorem dX7_sortOf_51 : decode cX7_sortOf 51 = .ok (.ireturn, 1) := by decide +kernel
theorem dX7_readsHand_0 : decode cX7_readsHand 0 = .ok (.aload_n 0, 1) := by decide +kernel
theorem dX7_readsHand_1 : decode cX7_readsHand 1 = .ok (.getfield 38, 3) := by decide +kernel
theorem dX7_readsHand_4 : decode cX7_readsHand 4 = .ok (.iconst 2, 1) := by decide +kernel
theorem dX7_readsHand_5 : decode cX7_readsHand 5 = .ok (.iaload, 1) := by decide +kernel
theorem dX7_readsHand_6 : decode cX7_readsHand 6 = .ok (.istore_n 2, 1) := by decide +kernel
theorem dX7_readsHand_7 : decode cX7_readsHand 7 = .ok (.iload_n 2, 1) := by decide +kernel
theorem dX7_readsHand_8 : decode cX7_readsHand 8 = .ok (.iconst 4, 1) := by decide +kernel
theorem dX7_readsHand_9 : decode cX7_readsHand 9 = .ok (.if_icmp .ne 9, 3) := by decide +kernel
theorem dX7_readsHand_12 : decode cX7_readsHand 12 = .ok (.aload_n 0, 1) := by decide +kernel
theorem dX7_readsHand_13 : decode cX7_readsHand 13 = .ok (.iconst 3, 1) := by decide +kernel
theorem dX7_readsHand_14 : decode cX7_readsHand 14 = .ok (.invokevirtual 107, 3) := by decide +kernel
theorem dX7_readsHand_17 : decode cX7_readsHand 17 = .ok (.ireturn, 1) := by decide +kernel
theorem dX7_readsHand_18 : decode cX7_readsHand 18 = .ok (.aload_n 0, 1) := by decide +kernel
theorem dX7_readsHand_19 : decode cX7_readsHand 19 = .ok (.getfield 38, 3) := by decide +kernel
theorem dX7_readsHand_22 : decode cX7_readsHand 22 = .ok (.bipush 7, 2) := by decide +kernel
theorem dX7_readsHand_24 : decode cX7_readsHand 24 = .ok (.iload_n 2, 1) := by decide +kernel
theorem dX7_readsHand_25 : decode cX7_readsHand 25 = .ok (.iadd, 1) := by decide +kernel
theorem dX7_readsHand_26 : decode cX7_readsHand 26 = .ok (.iload_n 1, 1) := by decide +kernel
theorem dX7_readsHand_27 : decode cX7_readsHand 27 = .ok (.iastore, 1) := by decide +kernel
theorem dX7_readsHand_28 : decode cX7_readsHand 28 = .ok (.aload_n 0, 1) := by decide +kernel
theorem dX7_readsHand_29 : decode cX7_readsHand 29 = .ok (.getfield 38, 3) := by decide +kernel
theorem dX7_readsHand_32 : decode cX7_readsHand 32 = .ok (.iconst 2, 1) := by decide +kernel
theorem dX7_readsHand_33 : decode cX7_readsHand 33 = .ok (.dup2, 1) := by decide +kernel
theorem dX7_readsHand_34 : decode cX7_readsHand 34 = .ok (.iaload, 1) := by decide +kernel
theorem dX7_readsHand_35 : decode cX7_readsHand 35 = .ok (.iconst 1, 1) := by decide +kernel
theorem dX7_readsHand_36 : decode cX7_readsHand 36 = .ok (.iadd, 1) := by decide +kernel
theorem dX7_readsHand_37 : decode cX7_readsHand 37 = .ok (.iastore, 1) := by decide +kernel
theorem dX7_readsHand_38 : decode cX7_readsHand 38 = .ok (.aload_n 0, 1) := by decide +kernel
theorem dX7_readsHand_39 : decode cX7_readsHand 39 = .ok (.bipush 11, 2) := by decide +kernel
theorem dX7_readsHand_41 : decode cX7_readsHand 41 = .ok (.iload_n 2, 1) := by decide +kernel
theorem dX7_readsHand_42 : decode cX7_readsHand 42 = .ok (.iadd, 1) := by decide +kernel
theorem dX7_readsHand_43 : decode cX7_readsHand 43 = .ok (.iconst 0, 1) := by decide +kernel
theorem dX7_readsHand_44 : decode cX7_readsHand 44 = .ok (.bipush 9, 2) := by decide +kernel
theorem dX7_readsHand_46 : decode cX7_readsHand 46 = .ok (.invokevirtual 113, 3) := by decide +kernel
theorem dX7_readsHand_49 : decode cX7_readsHand 49 = .ok (.ifCond .eq 15, 3) := by decide +kernel
theorem dX7_readsHand_52 : decode cX7_readsHand 52 = .ok (.aload_n 0, 1) := by decide +kernel
theorem dX7_readsHand_53 : decode cX7_readsHand 53 = .ok (.iconst 4, 1) := by decide +kernel
theorem dX7_readsHand_54 : decode cX7_readsHand 54 = .ok (.invokevirtual 117, 3) := by decide +kernel
theorem dX7_readsHand_57 : decode cX7_readsHand 57 = .ok (.ifCond .eq 7, 3) := by decide +kernel
theorem dX7_readsHand_60 : decode cX7_readsHand 60 = .ok (.iconst 1, 1) := by decide +kernel
theorem dX7_readsHand_61 : decode cX7_readsHand 61 = .ok (.goto 4, 3) := by decide +kernel
theorem dX7_readsHand_64 : decode cX7_readsHand 64 = .ok (.iconst 0, 1) := by decide +kernel
theorem dX7_readsHand_65 : decode cX7_readsHand 65 = .ok (.ireturn, 1) := by decide +kernel
theorem dX7_readsCopy_0 : decode cX7_readsCopy 0 = .ok (.aload_n 0, 1) := by decide +kernel
theorem dX7_readsCopy_1 : decode cX7_readsCopy 1 = .ok (.getfield 38, 3) := by decide +kernel
theorem dX7_readsCopy_4 : decode cX7_readsCopy 4 = .ok (.iconst 3, 1) := by decide +kernel
theorem dX7_readsCopy_5 : decode cX7_readsCopy 5 = .ok (.iaload, 1) := by decide +kernel
theorem dX7_readsCopy_6 : decode cX7_readsCopy 6 = .ok (.istore_n 1, 1) := by decide +kernel
theorem dX7_readsCopy_7 : decode cX7_readsCopy 7 = .ok (.iload_n 1, 1) := by decide +kernel
theorem dX7_readsCopy_8 : decode cX7_readsCopy 8 = .ok (.bipush 10, 2) := by decide +kernel
theorem dX7_readsCopy_10 : decode cX7_readsCopy 10 = .ok (.if_icmp .ne 9, 3) := by decide +kernel
theorem dX7_readsCopy_13 : decode cX7_readsCopy 13 = .ok (.aload_n 0, 1) := by decide +kernel
theorem dX7_readsCopy_14 : decode cX7_readsCopy 14 = .ok (.iconst 3, 1) := by decide +kernel
theorem dX7_readsCopy_15 : decode cX7_readsCopy 15 = .ok (.invokevirtual 107, 3) := by decide +kernel
theorem dX7_readsCopy_18 : decode cX7_readsCopy 18 = .ok (.ireturn, 1) := by decide +kernel
theorem dX7_readsCopy_19 : decode cX7_readsCopy 19 = .ok (.aload_n 0, 1) := by decide +kernel
theorem dX7_readsCopy_20 : decode cX7_readsCopy 20 = .ok (.getfield 38, 3) := by decide +kernel
theorem dX7_readsCopy_23 : decode cX7_readsCopy 23 = .ok (.iconst 3, 1) := by decide +kernel
theorem dX7_readsCopy_24 : decode cX7_readsCopy 24 = .ok (.dup2, 1) := by decide +kernel
theorem dX7_readsCopy_25 : decode cX7_readsCopy 25 = .ok (.iaload, 1) := by decide +kernel
theorem dX7_readsCopy_26 : decode cX7_readsCopy 26 = .ok (.iconst 1, 1) := by decide +kernel
theorem dX7_readsCopy_27 : decode cX7_readsCopy 27 = .ok (.iadd, 1) := by decide +kernel
theorem dX7_readsCopy_28 : decode cX7_readsCopy 28 = .ok (.iastore, 1) := by decide +kernel
theorem dX7_readsCopy_29 : decode cX7_readsCopy 29 = .ok (.aload_n 0, 1) := by decide +kernel
theorem dX7_readsCopy_30 : decode cX7_readsCopy 30 = .ok (.bipush 15, 2) := by decide +kernel
theorem dX7_readsCopy_32 : decode cX7_readsCopy 32 = .ok (.iload_n 1, 1) := by decide +kernel
theorem dX7_readsCopy_33 : decode cX7_readsCopy 33 = .ok (.iadd, 1) := by decide +kernel
theorem dX7_readsCopy_34 : decode cX7_readsCopy 34 = .ok (.iconst 0, 1) := by decide +kernel
theorem dX7_readsCopy_35 : decode cX7_readsCopy 35 = .ok (.iconst 5, 1) := by decide +kernel
theorem dX7_readsCopy_36 : decode cX7_readsCopy 36 = .ok (.invokevirtual 113, 3) := by decide +kernel
theorem dX7_readsCopy_39 : decode cX7_readsCopy 39 = .ok (.ifCond .eq 65, 3) := by decide +kernel
theorem dX7_readsCopy_42 : decode cX7_readsCopy 42 = .ok (.aload_n 0, 1) := by decide +kernel
theorem dX7_readsCopy_43 : decode cX7_readsCopy 43 = .ok (.iconst 3, 1) := by decide +kernel
theorem dX7_readsCopy_44 : decode cX7_readsCopy 44 = .ok (.invokevirtual 117, 3) := by decide +kernel
theorem dX7_readsCopy_47 : decode cX7_readsCopy 47 = .ok (.ifCond .eq 57, 3) := by decide +kernel
theorem dX7_readsCopy_50 : decode cX7_readsCopy 50 = .ok (.aload_n 0, 1) := by decide +kernel
theorem dX7_readsCopy_51 : decode cX7_readsCopy 51 = .ok (.bipush 25, 2) := by decide +kernel
theorem dX7_readsCopy_53 : decode cX7_readsCopy 53 = .ok (.iload_n 1, 1) := by decide +kernel
theorem dX7_readsCopy_54 : decode cX7_readsCopy 54 = .ok (.iadd, 1) := by decide +kernel
theorem dX7_readsCopy_55 : decode cX7_readsCopy 55 = .ok (.iconst 0, 1) := by decide +kernel
theorem dX7_readsCopy_56 : decode cX7_readsCopy 56 = .ok (.aload_n 0, 1) := by decide +kernel
theorem dX7_readsCopy_57 : decode cX7_readsCopy 57 = .ok (.getfield 38, 3) := by decide +kernel
theorem dX7_readsCopy_60 : decode cX7_readsCopy 60 = .ok (.iconst 2, 1) := by decide +kernel
theorem dX7_readsCopy_61 : decode cX7_readsCopy 61 = .ok (.iaload, 1) := by decide +kernel
theorem dX7_readsCopy_62 : decode cX7_readsCopy 62 = .ok (.iconst 1, 1) := by decide +kernel
theorem dX7_readsCopy_63 : decode cX7_readsCopy 63 = .ok (.isub, 1) := by decide +kernel
theorem dX7_readsCopy_64 : decode cX7_readsCopy 64 = .ok (.invokevirtual 113, 3) := by decide +kernel
theorem dX7_readsCopy_67 : decode cX7_readsCopy 67 = .ok (.ifCond .eq 37, 3) := by decide +kernel
theorem dX7_readsCopy_70 : decode cX7_readsCopy 70 = .ok (.aload_n 0, 1) := by decide +kernel
theorem dX7_readsCopy_71 : decode cX7_readsCopy 71 = .ok (.iconst 3, 1) := by decide +kernel
theorem dX7_readsCopy_72 : decode cX7_readsCopy 72 = .ok (.invokevirtual 117, 3) := by decide +kernel
theorem dX7_readsCopy_75 : decode cX7_readsCopy 75 = .ok (.ifCond .eq 29, 3) := by decide +kernel
theorem dX7_readsCopy_78 : decode cX7_readsCopy 78 = .ok (.aload_n 0, 1) := by decide +kernel
theorem dX7_readsCopy_79 : decode cX7_readsCopy 79 = .ok (.bipush 35, 2) := by decide +kernel
theorem dX7_readsCopy_81 : decode cX7_readsCopy 81 = .ok (.iload_n 1, 1) := by decide +kernel
theorem dX7_readsCopy_82 : decode cX7_readsCopy 82 = .ok (.iadd, 1) := by decide +kernel
theorem dX7_readsCopy_83 : decode cX7_readsCopy 83 = .ok (.iconst 1, 1) := by decide +kernel
theorem dX7_readsCopy_84 : decode cX7_readsCopy 84 = .ok (.bipush 9, 2) := by decide +kernel
theorem dX7_readsCopy_86 : decode cX7_readsCopy 86 = .ok (.invokevirtual 113, 3) := by decide +kernel
theorem dX7_readsCopy_89 : decode cX7_readsCopy 89 = .ok (.ifCond .eq 15, 3) := by decide +kernel
theorem dX7_readsCopy_92 : decode cX7_readsCopy 92 = .ok (.aload_n 0, 1) := by decide +kernel
theorem dX7_readsCopy_93 : decode cX7_readsCopy 93 = .ok (.iconst 4, 1) := by decide +kernel
theorem dX7_readsCopy_94 : decode cX7_readsCopy 94 = .ok (.invokevirtual 117, 3) := by decide +kernel
theorem dX7_readsCopy_97 : decode cX7_readsCopy 97 = .ok (.ifCond .eq 7, 3) := by decide +kernel
theorem dX7_readsCopy_100 : decode cX7_readsCopy 100 = .ok (.iconst 1, 1) := by decide +kernel
theorem dX7_readsCopy_101 : decode cX7_readsCopy 101 = .ok (.goto 4, 3) := by decide +kernel
theorem dX7_readsCopy_104 : decode cX7_readsCopy 104 = .ok (.iconst 0, 1) := by decide +kernel
theorem dX7_readsCopy_105 : decode cX7_readsCopy 105 = .ok (.ireturn, 1) := by decide +kernel
theorem dX7_readsDeed_0 : decode cX7_readsDeed 0 = .ok (.aload_n 0, 1) := by decide +kernel
theorem dX7_readsDeed_1 : decode cX7_readsDeed 1 = .ok (.getfield 38, 3) := by decide +kernel
theorem dX7_readsDeed_4 : decode cX7_readsDeed 4 = .ok (.iconst 4, 1) := by decide +kernel
theorem dX7_readsDeed_5 : decode cX7_readsDeed 5 = .ok (.iaload, 1) := by decide +kernel
theorem dX7_readsDeed_6 : decode cX7_readsDeed 6 = .ok (.istore_n 1, 1) := by decide +kernel
theorem dX7_readsDeed_7 : decode cX7_readsDeed 7 = .ok (.iload_n 1, 1) := by decide +kernel
theorem dX7_readsDeed_8 : decode cX7_readsDeed 8 = .ok (.iconst 5, 1) := by decide +kernel
theorem dX7_readsDeed_9 : decode cX7_readsDeed 9 = .ok (.if_icmp .ne 9, 3) := by decide +kernel
theorem dX7_readsDeed_12 : decode cX7_readsDeed 12 = .ok (.aload_n 0, 1) := by decide +kernel
theorem dX7_readsDeed_13 : decode cX7_readsDeed 13 = .ok (.iconst 3, 1) := by decide +kernel
theorem dX7_readsDeed_14 : decode cX7_readsDeed 14 = .ok (.invokevirtual 107, 3) := by decide +kernel
theorem dX7_readsDeed_17 : decode cX7_readsDeed 17 = .ok (.ireturn, 1) := by decide +kernel
theorem dX7_readsDeed_18 : decode cX7_readsDeed 18 = .ok (.aload_n 0, 1) := by decide +kernel
theorem dX7_readsDeed_19 : decode cX7_readsDeed 19 = .ok (.getfield 38, 3) := by decide +kernel
theorem dX7_readsDeed_22 : decode cX7_readsDeed 22 = .ok (.bipush 70, 2) := by decide +kernel
theorem dX7_readsDeed_24 : decode cX7_readsDeed 24 = .ok (.iload_n 1, 1) := by decide +kernel
theorem dX7_readsDeed_25 : decode cX7_readsDeed 25 = .ok (.iadd, 1) := by decide +kernel
theorem dX7_readsDeed_26 : decode cX7_readsDeed 26 = .ok (.aload_n 0, 1) := by decide +kernel
theorem dX7_readsDeed_27 : decode cX7_readsDeed 27 = .ok (.bipush 97, 2) := by decide +kernel
theorem dX7_readsDeed_29 : decode cX7_readsDeed 29 = .ok (.invokevirtual 110, 3) := by decide +kernel
theorem dX7_readsDeed_32 : decode cX7_readsDeed 32 = .ok (.ifCond .eq 7, 3) := by decide +kernel
theorem dX7_readsDeed_35 : decode cX7_readsDeed 35 = .ok (.iconst 1, 1) := by decide +kernel
theorem dX7_readsDeed_36 : decode cX7_readsDeed 36 = .ok (.goto 4, 3) := by decide +kernel
theorem dX7_readsDeed_39 : decode cX7_readsDeed 39 = .ok (.iconst 0, 1) := by decide +kernel
theorem dX7_readsDeed_40 : decode cX7_readsDeed 40 = .ok (.iastore, 1) := by decide +kernel
theorem dX7_readsDeed_41 : decode cX7_readsDeed 41 = .ok (.aload_n 0, 1) := by decide +kernel
theorem dX7_readsDeed_42 : decode cX7_readsDeed 42 = .ok (.bipush 65, 2) := by decide +kernel
theorem dX7_readsDeed_44 : decode cX7_readsDeed 44 = .ok (.iload_n 1, 1) := by decide +kernel
theorem dX7_readsDeed_45 : decode cX7_readsDeed 45 = .ok (.iadd, 1) := by decide +kernel
theorem dX7_readsDeed_46 : decode cX7_readsDeed 46 = .ok (.iconst 1, 1) := by decide +kernel
theorem dX7_readsDeed_47 : decode cX7_readsDeed 47 = .ok (.bipush 63, 2) := by decide +kernel
theorem dX7_readsDeed_49 : decode cX7_readsDeed 49 = .ok (.invokevirtual 113, 3) := by decide +kernel
theorem dX7_readsDeed_52 : decode cX7_readsDeed 52 = .ok (.ifCond .eq 46, 3) := by decide +kernel
theorem dX7_readsDeed_55 : decode cX7_readsDeed 55 = .ok (.aload_n 0, 1) := by decide +kernel
theorem dX7_readsDeed_56 : decode cX7_readsDeed 56 = .ok (.iconst 3, 1) := by decide +kernel
theorem dX7_readsDeed_57 : decode cX7_readsDeed 57 = .ok (.invokevirtual 117, 3) := by decide +kernel
theorem dX7_readsDeed_60 : decode cX7_readsDeed 60 = .ok (.ifCond .eq 38, 3) := by decide +kernel
theorem dX7_readsDeed_63 : decode cX7_readsDeed 63 = .ok (.aload_n 0, 1) := by decide +kernel
theorem dX7_readsDeed_64 : decode cX7_readsDeed 64 = .ok (.bipush 75, 2) := by decide +kernel
theorem dX7_readsDeed_66 : decode cX7_readsDeed 66 = .ok (.iload_n 1, 1) := by decide +kernel
theorem dX7_readsDeed_67 : decode cX7_readsDeed 67 = .ok (.iadd, 1) := by decide +kernel
theorem dX7_readsDeed_68 : decode cX7_readsDeed 68 = .ok (.iconst 0, 1) := by decide +kernel
theorem dX7_readsDeed_69 : decode cX7_readsDeed 69 = .ok (.iload_n 1, 1) := by decide +kernel
theorem dX7_readsDeed_70 : decode cX7_readsDeed 70 = .ok (.invokevirtual 113, 3) := by decide +kernel
theorem dX7_readsDeed_73 : decode cX7_readsDeed 73 = .ok (.ifCond .eq 25, 3) := by decide +kernel
theorem dX7_readsDeed_76 : decode cX7_readsDeed 76 = .ok (.aload_n 0, 1) := by decide +kernel
theorem dX7_readsDeed_77 : decode cX7_readsDeed 77 = .ok (.iconst 3, 1) := by decide +kernel
theorem dX7_readsDeed_78 : decode cX7_readsDeed 78 = .ok (.invokevirtual 117, 3) := by decide +kernel
theorem dX7_readsDeed_81 : decode cX7_readsDeed 81 = .ok (.ifCond .eq 17, 3) := by decide +kernel
theorem dX7_readsDeed_84 : decode cX7_readsDeed 84 = .ok (.aload_n 0, 1) := by decide +kernel
theorem dX7_readsDeed_85 : decode cX7_readsDeed 85 = .ok (.bipush 80, 2) := by decide +kernel
theorem dX7_readsDeed_87 : decode cX7_readsDeed 87 = .ok (.iload_n 1, 1) := by decide +kernel
theorem dX7_readsDeed_88 : decode cX7_readsDeed 88 = .ok (.iadd, 1) := by decide +kernel
theorem dX7_readsDeed_89 : decode cX7_readsDeed 89 = .ok (.iconst 0, 1) := by decide +kernel
theorem dX7_readsDeed_90 : decode cX7_readsDeed 90 = .ok (.bipush 20, 2) := by decide +kernel
theorem dX7_readsDeed_92 : decode cX7_readsDeed 92 = .ok (.invokevirtual 113, 3) := by decide +kernel
theorem dX7_readsDeed_95 : decode cX7_readsDeed 95 = .ok (.ifCond .ne 5, 3) := by decide +kernel
theorem dX7_readsDeed_98 : decode cX7_readsDeed 98 = .ok (.iconst 0, 1) := by decide +kernel
theorem dX7_readsDeed_99 : decode cX7_readsDeed 99 = .ok (.ireturn, 1) := by decide +kernel
theorem dX7_readsDeed_100 : decode cX7_readsDeed 100 = .ok (.aload_n 0, 1) := by decide +kernel
theorem dX7_readsDeed_101 : decode cX7_readsDeed 101 = .ok (.getfield 38, 3) := by decide +kernel
theorem dX7_readsDeed_104 : decode cX7_readsDeed 104 = .ok (.iconst 4, 1) := by decide +kernel
theorem dX7_readsDeed_105 : decode cX7_readsDeed 105 = .ok (.dup2, 1) := by decide +kernel
theorem dX7_readsDeed_106 : decode cX7_readsDeed 106 = .ok (.iaload, 1) := by decide +kernel
theorem dX7_readsDeed_107 : decode cX7_readsDeed 107 = .ok (.iconst 1, 1) := by decide +kernel
theorem dX7_readsDeed_108 : decode cX7_readsDeed 108 = .ok (.iadd, 1) := by decide +kernel
theorem dX7_readsDeed_109 : decode cX7_readsDeed 109 = .ok (.iastore, 1) := by decide +kernel
theorem dX7_readsDeed_110 : decode cX7_readsDeed 110 = .ok (.aload_n 0, 1) := by decide +kernel
theorem dX7_readsDeed_111 : decode cX7_readsDeed 111 = .ok (.iconst 4, 1) := by decide +kernel
theorem dX7_readsDeed_112 : decode cX7_readsDeed 112 = .ok (.invokevirtual 117, 3) := by decide +kernel
theorem dX7_readsDeed_115 : decode cX7_readsDeed 115 = .ok (.ireturn, 1) := by decide +kernel
theorem dX7_readsOne_0 : decode cX7_readsOne 0 = .ok (.aload_n 0, 1) := by decide +kernel
theorem dX7_readsOne_1 : decode cX7_readsOne 1 = .ok (.getfield 95, 3) := by decide +kernel
theorem dX7_readsOne_4 : decode cX7_readsOne 4 = .ok (.iconst 1, 1) := by decide +kernel
theorem dX7_readsOne_5 : decode cX7_readsOne 5 = .ok (.if_icmp .ne 13, 3) := by decide +kernel
theorem dX7_readsOne_8 : decode cX7_readsOne 8 = .ok (.aload_n 0, 1) := by decide +kernel
theorem dX7_readsOne_9 : decode cX7_readsOne 9 = .ok (.getfield 98, 3) := by decide +kernel
theorem dX7_readsOne_12 : decode cX7_readsOne 12 = .ok (.invokestatic 120, 3) := by decide +kernel
theorem dX7_readsOne_15 : decode cX7_readsOne 15 = .ok (.goto 4, 3) := by decide +kernel
theorem dX7_readsOne_18 : decode cX7_readsOne 18 = .ok (.iconst 0, 1) := by decide +kernel
theorem dX7_readsOne_19 : decode cX7_readsOne 19 = .ok (.istore_n 1, 1) := by decide +kernel
theorem dX7_readsOne_20 : decode cX7_readsOne 20 = .ok (.iload_n 1, 1) := by decide +kernel
theorem dX7_readsOne_21 : decode cX7_readsOne 21 = .ok (.ifCond .le 27, 3) := by decide +kernel
theorem dX7_readsOne_24 : decode cX7_readsOne 24 = .ok (.aload_n 0, 1) := by decide +kernel
theorem dX7_readsOne_25 : decode cX7_readsOne 25 = .ok (.getfield 38, 3) := by decide +kernel
theorem dX7_readsOne_28 : decode cX7_readsOne 28 = .ok (.iconst 3, 1) := by decide +kernel
theorem dX7_readsOne_29 : decode cX7_readsOne 29 = .ok (.iaload, 1) := by decide +kernel
theorem dX7_readsOne_30 : decode cX7_readsOne 30 = .ok (.ifCond .ne 18, 3) := by decide +kernel
theorem dX7_readsOne_33 : decode cX7_readsOne 33 = .ok (.aload_n 0, 1) := by decide +kernel
theorem dX7_readsOne_34 : decode cX7_readsOne 34 = .ok (.getfield 38, 3) := by decide +kernel
theorem dX7_readsOne_37 : decode cX7_readsOne 37 = .ok (.iconst 4, 1) := by decide +kernel
theorem dX7_readsOne_38 : decode cX7_readsOne 38 = .ok (.iaload, 1) := by decide +kernel
theorem dX7_readsOne_39 : decode cX7_readsOne 39 = .ok (.ifCond .ne 9, 3) := by decide +kernel
theorem dX7_readsOne_42 : decode cX7_readsOne 42 = .ok (.aload_n 0, 1) := by decide +kernel
theorem dX7_readsOne_43 : decode cX7_readsOne 43 = .ok (.iload_n 1, 1) := by decide +kernel
theorem dX7_readsOne_44 : decode cX7_readsOne 44 = .ok (.invokevirtual 123, 3) := by decide +kernel
theorem dX7_readsOne_47 : decode cX7_readsOne 47 = .ok (.ireturn, 1) := by decide +kernel
theorem dX7_readsOne_48 : decode cX7_readsOne 48 = .ok (.aload_n 0, 1) := by decide +kernel
theorem dX7_readsOne_49 : decode cX7_readsOne 49 = .ok (.bipush 119, 2) := by decide +kernel
theorem dX7_readsOne_51 : decode cX7_readsOne 51 = .ok (.invokevirtual 110, 3) := by decide +kernel
theorem dX7_readsOne_54 : decode cX7_readsOne 54 = .ok (.ifCond .eq 26, 3) := by decide +kernel
theorem dX7_readsOne_57 : decode cX7_readsOne 57 = .ok (.aload_n 0, 1) := by decide +kernel
theorem dX7_readsOne_58 : decode cX7_readsOne 58 = .ok (.getfield 38, 3) := by decide +kernel
theorem dX7_readsOne_61 : decode cX7_readsOne 61 = .ok (.iconst 2, 1) := by decide +kernel
theorem dX7_readsOne_62 : decode cX7_readsOne 62 = .ok (.iaload, 1) := by decide +kernel
theorem dX7_readsOne_63 : decode cX7_readsOne 63 = .ok (.ifCond .le 17, 3) := by decide +kernel
theorem dX7_readsOne_66 : decode cX7_readsOne 66 = .ok (.aload_n 0, 1) := by decide +kernel
theorem dX7_readsOne_67 : decode cX7_readsOne 67 = .ok (.getfield 38, 3) := by decide +kernel
theorem dX7_readsOne_70 : decode cX7_readsOne 70 = .ok (.iconst 4, 1) := by decide +kernel
theorem dX7_readsOne_71 : decode cX7_readsOne 71 = .ok (.iaload, 1) := by decide +kernel
theorem dX7_readsOne_72 : decode cX7_readsOne 72 = .ok (.ifCond .ne 8, 3) := by decide +kernel
theorem dX7_readsOne_75 : decode cX7_readsOne 75 = .ok (.aload_n 0, 1) := by decide +kernel
theorem dX7_readsOne_76 : decode cX7_readsOne 76 = .ok (.invokevirtual 126, 3) := by decide +kernel
theorem dX7_readsOne_79 : decode cX7_readsOne 79 = .ok (.ireturn, 1) := by decide +kernel
theorem dX7_readsOne_80 : decode cX7_readsOne 80 = .ok (.aload_n 0, 1) := by decide +kernel
theorem dX7_readsOne_81 : decode cX7_readsOne 81 = .ok (.bipush 97, 2) := by decide +kernel
theorem dX7_readsOne_83 : decode cX7_readsOne 83 = .ok (.invokevirtual 110, 3) := by decide +kernel
theorem dX7_readsOne_86 : decode cX7_readsOne 86 = .ok (.ifCond .ne 12, 3) := by decide +kernel
theorem dX7_readsOne_89 : decode cX7_readsOne 89 = .ok (.aload_n 0, 1) := by decide +kernel
theorem dX7_readsOne_90 : decode cX7_readsOne 90 = .ok (.bipush 121, 2) := by decide +kernel
theorem dX7_readsOne_92 : decode cX7_readsOne 92 = .ok (.invokevirtual 110, 3) := by decide +kernel
theorem dX7_readsOne_95 : decode cX7_readsOne 95 = .ok (.ifCond .eq 19, 3) := by decide +kernel
theorem dX7_readsOne_98 : decode cX7_readsOne 98 = .ok (.aload_n 0, 1) := by decide +kernel
theorem dX7_readsOne_99 : decode cX7_readsOne 99 = .ok (.getfield 38, 3) := by decide +kernel
theorem dX7_readsOne_102 : decode cX7_readsOne 102 = .ok (.iconst 2, 1) := by decide +kernel
theorem dX7_readsOne_103 : decode cX7_readsOne 103 = .ok (.iaload, 1) := by decide +kernel
theorem dX7_readsOne_104 : decode cX7_readsOne 104 = .ok (.ifCond .le 10, 3) := by decide +kernel
theorem dX7_readsOne_107 : decode cX7_readsOne 107 = .ok (.aload_n 0, 1) := by decide +kernel
theorem dX7_readsOne_108 : decode cX7_readsOne 108 = .ok (.invokevirtual 130, 3) := by decide +kernel
theorem dX7_readsOne_111 : decode cX7_readsOne 111 = .ok (.goto 8, 3) := by decide +kernel
theorem dX7_readsOne_114 : decode cX7_readsOne 114 = .ok (.aload_n 0, 1) := by decide +kernel
theorem dX7_readsOne_115 : decode cX7_readsOne 115 = .ok (.iconst 1, 1) := by decide +kernel
theorem dX7_readsOne_116 : decode cX7_readsOne 116 = .ok (.invokevirtual 107, 3) := by decide +kernel
theorem dX7_readsOne_119 : decode cX7_readsOne 119 = .ok (.ireturn, 1) := by decide +kernel
theorem dX7_reads_0 : decode cX7_reads 0 = .ok (.iconst 0, 1) := by decide +kernel
theorem dX7_reads_1 : decode cX7_reads 1 = .ok (.istore_n 1, 1) := by decide +kernel
theorem dX7_reads_2 : decode cX7_reads 2 = .ok (.iload_n 1, 1) := by decide +kernel
theorem dX7_reads_3 : decode cX7_reads 3 = .ok (.bipush 85, 2) := by decide +kernel
theorem dX7_reads_5 : decode cX7_reads 5 = .ok (.if_icmp .ge 16, 3) := by decide +kernel
theorem dX7_reads_8 : decode cX7_reads 8 = .ok (.aload_n 0, 1) := by decide +kernel
theorem dX7_reads_9 : decode cX7_reads 9 = .ok (.getfield 38, 3) := by decide +kernel
theorem dX7_reads_12 : decode cX7_reads 12 = .ok (.iload_n 1, 1) := by decide +kernel
theorem dX7_reads_13 : decode cX7_reads 13 = .ok (.iconst 0, 1) := by decide +kernel
theorem dX7_reads_14 : decode cX7_reads 14 = .ok (.iastore, 1) := by decide +kernel
theorem dX7_reads_15 : decode cX7_reads 15 = .ok (.iinc 1 1, 3) := by decide +kernel
theorem dX7_reads_18 : decode cX7_reads 18 = .ok (.goto (-16), 3) := by decide +kernel
theorem dX7_reads_21 : decode cX7_reads 21 = .ok (.aload_n 0, 1) := by decide +kernel
theorem dX7_reads_22 : decode cX7_reads 22 = .ok (.iconst 0, 1) := by decide +kernel
theorem dX7_reads_23 : decode cX7_reads 23 = .ok (.putfield 79, 3) := by decide +kernel
theorem dX7_reads_26 : decode cX7_reads 26 = .ok (.aload_n 0, 1) := by decide +kernel
theorem dX7_reads_27 : decode cX7_reads 27 = .ok (.invokevirtual 133, 3) := by decide +kernel
theorem dX7_reads_30 : decode cX7_reads 30 = .ok (.ifCond .ne 5, 3) := by decide +kernel
theorem dX7_reads_33 : decode cX7_reads 33 = .ok (.iconst 0, 1) := by decide +kernel
theorem dX7_reads_34 : decode cX7_reads 34 = .ok (.ireturn, 1) := by decide +kernel
theorem dX7_reads_35 : decode cX7_reads 35 = .ok (.aload_n 0, 1) := by decide +kernel
theorem dX7_reads_36 : decode cX7_reads 36 = .ok (.invokevirtual 104, 3) := by decide +kernel
theorem dX7_reads_39 : decode cX7_reads 39 = .ok (.aload_n 0, 1) := by decide +kernel
theorem dX7_reads_40 : decode cX7_reads 40 = .ok (.getfield 95, 3) := by decide +kernel
theorem dX7_reads_43 : decode cX7_reads 43 = .ok (.ifCond .eq 19, 3) := by decide +kernel
theorem dX7_reads_46 : decode cX7_reads 46 = .ok (.aload_n 0, 1) := by decide +kernel
theorem dX7_reads_47 : decode cX7_reads 47 = .ok (.invokevirtual 136, 3) := by decide +kernel
theorem dX7_reads_50 : decode cX7_reads 50 = .ok (.ifCond .ne 5, 3) := by decide +kernel
theorem dX7_reads_53 : decode cX7_reads 53 = .ok (.iconst 0, 1) := by decide +kernel
theorem dX7_reads_54 : decode cX7_reads 54 = .ok (.ireturn, 1) := by decide +kernel
theorem dX7_reads_55 : decode cX7_reads 55 = .ok (.aload_n 0, 1) := by decide +kernel
theorem dX7_reads_56 : decode cX7_reads 56 = .ok (.invokevirtual 104, 3) := by decide +kernel
theorem dX7_reads_59 : decode cX7_reads 59 = .ok (.goto (-20), 3) := by decide +kernel
theorem dX7_reads_62 : decode cX7_reads 62 = .ok (.aload_n 0, 1) := by decide +kernel
theorem dX7_reads_63 : decode cX7_reads 63 = .ok (.getfield 38, 3) := by decide +kernel
theorem dX7_reads_66 : decode cX7_reads 66 = .ok (.iconst 2, 1) := by decide +kernel
theorem dX7_reads_67 : decode cX7_reads 67 = .ok (.iaload, 1) := by decide +kernel
theorem dX7_reads_68 : decode cX7_reads 68 = .ok (.ifCond .gt 11, 3) := by decide +kernel
theorem dX7_reads_71 : decode cX7_reads 71 = .ok (.aload_n 0, 1) := by decide +kernel
theorem dX7_reads_72 : decode cX7_reads 72 = .ok (.iconst 1, 1) := by decide +kernel
theorem dX7_reads_73 : decode cX7_reads 73 = .ok (.invokevirtual 107, 3) := by decide +kernel
theorem dX7_reads_76 : decode cX7_reads 76 = .ok (.ifCond .eq 7, 3) := by decide +kernel
theorem dX7_reads_79 : decode cX7_reads 79 = .ok (.iconst 1, 1) := by decide +kernel
theorem dX7_reads_80 : decode cX7_reads 80 = .ok (.goto 4, 3) := by decide +kernel
theorem dX7_reads_83 : decode cX7_reads 83 = .ok (.iconst 0, 1) := by decide +kernel
theorem dX7_reads_84 : decode cX7_reads 84 = .ok (.ireturn, 1) := by decide +kernel
theorem dX7_archive_0 : decode cX7_archive 0 = .ok (.aload_n 0, 1) := by decide +kernel
theorem dX7_archive_1 : decode cX7_archive 1 = .ok (.aload_n 0, 1) := by decide +kernel
theorem dX7_archive_2 : decode cX7_archive 2 = .ok (.getfield 71, 3) := by decide +kernel
theorem dX7_archive_5 : decode cX7_archive 5 = .ok (.putfield 85, 3) := by decide +kernel
theorem dX7_archive_8 : decode cX7_archive 8 = .ok (.aload_n 0, 1) := by decide +kernel
theorem dX7_archive_9 : decode cX7_archive 9 = .ok (.iconst 0, 1) := by decide +kernel
theorem dX7_archive_10 : decode cX7_archive 10 = .ok (.putfield 71, 3) := by decide +kernel
theorem dX7_archive_13 : decode cX7_archive 13 = .ok (.aload_n 0, 1) := by decide +kernel
theorem dX7_archive_14 : decode cX7_archive 14 = .ok (.invokevirtual 139, 3) := by decide +kernel
theorem dX7_archive_17 : decode cX7_archive 17 = .ok (.ifCond .ne 11, 3) := by decide +kernel
theorem dX7_archive_20 : decode cX7_archive 20 = .ok (.ldc 142, 2) := by decide +kernel
theorem dX7_archive_22 : decode cX7_archive 22 = .ok (.aload_n 0, 1) := by decide +kernel
theorem dX7_archive_23 : decode cX7_archive 23 = .ok (.getfield 82, 3) := by decide +kernel
theorem dX7_archive_26 : decode cX7_archive 26 = .ok (.isub, 1) := by decide +kernel
theorem dX7_archive_27 : decode cX7_archive 27 = .ok (.ireturn, 1) := by decide +kernel
theorem dX7_archive_28 : decode cX7_archive 28 = .ok (.aload_n 0, 1) := by decide +kernel
theorem dX7_archive_29 : decode cX7_archive 29 = .ok (.iconst 1, 1) := by decide +kernel
theorem dX7_archive_30 : decode cX7_archive 30 = .ok (.putfield 143, 3) := by decide +kernel
theorem dX7_archive_33 : decode cX7_archive 33 = .ok (.aload_n 0, 1) := by decide +kernel
theorem dX7_archive_34 : decode cX7_archive 34 = .ok (.iconst 0, 1) := by decide +kernel
theorem dX7_archive_35 : decode cX7_archive 35 = .ok (.putfield 147, 3) := by decide +kernel
theorem dX7_archive_38 : decode cX7_archive 38 = .ok (.aload_n 0, 1) := by decide +kernel
theorem dX7_archive_39 : decode cX7_archive 39 = .ok (.getfield 38, 3) := by decide +kernel
theorem dX7_archive_42 : decode cX7_archive 42 = .ok (.iconst 0, 1) := by decide +kernel
theorem dX7_archive_43 : decode cX7_archive 43 = .ok (.aload_n 0, 1) := by decide +kernel
theorem dX7_archive_44 : decode cX7_archive 44 = .ok (.getfield 22, 3) := by decide +kernel
theorem dX7_archive_47 : decode cX7_archive 47 = .ok (.iconst 0, 1) := by decide +kernel
theorem dX7_archive_48 : decode cX7_archive 48 = .ok (.invokestatic 150, 3) := by decide +kernel
theorem dX7_archive_51 : decode cX7_archive 51 = .ok (.aload_n 0, 1) := by decide +kernel
theorem dX7_archive_52 : decode cX7_archive 52 = .ok (.getfield 22, 3) := by decide +kernel
theorem dX7_archive_55 : decode cX7_archive 55 = .ok (.iconst 2, 1) := by decide +kernel
theorem dX7_archive_56 : decode cX7_archive 56 = .ok (.iaload, 1) := by decide +kernel
theorem dX7_archive_57 : decode cX7_archive 57 = .ok (.ireturn, 1) := by decide +kernel
theorem dX7_fault_0 : decode cX7_fault 0 = .ok (.aload_n 0, 1) := by decide +kernel
theorem dX7_fault_1 : decode cX7_fault 1 = .ok (.getfield 101, 3) := by decide +kernel
theorem dX7_fault_4 : decode cX7_fault 4 = .ok (.ireturn, 1) := by decide +kernel
theorem dX7_copies_0 : decode cX7_copies 0 = .ok (.iconst 0, 1) := by decide +kernel
theorem dX7_copies_1 : decode cX7_copies 1 = .ok (.istore 4, 2) := by decide +kernel
theorem dX7_copies_3 : decode cX7_copies 3 = .ok (.iload 4, 2) := by decide +kernel
theorem dX7_copies_5 : decode cX7_copies 5 = .ok (.bipush 85, 2) := by decide +kernel
theorem dX7_copies_7 : decode cX7_copies 7 = .ok (.if_icmp .ge 21, 3) := by decide +kernel
theorem dX7_copies_10 : decode cX7_copies 10 = .ok (.aload_n 2, 1) := by decide +kernel
theorem dX7_copies_11 : decode cX7_copies 11 = .ok (.iload_n 3, 1) := by decide +kernel
theorem dX7_copies_12 : decode cX7_copies 12 = .ok (.iload 4, 2) := by decide +kernel
theorem dX7_copies_14 : decode cX7_copies 14 = .ok (.iadd, 1) := by decide +kernel
theorem dX7_copies_15 : decode cX7_copies 15 = .ok (.aload_n 0, 1) := by decide +kernel
theorem dX7_copies_16 : decode cX7_copies 16 = .ok (.iload_n 1, 1) := by decide +kernel
theorem dX7_copies_17 : decode cX7_copies 17 = .ok (.iload 4, 2) := by decide +kernel
theorem dX7_copies_19 : decode cX7_copies 19 = .ok (.iadd, 1) := by decide +kernel
theorem dX7_copies_20 : decode cX7_copies 20 = .ok (.iaload, 1) := by decide +kernel
theorem dX7_copies_21 : decode cX7_copies 21 = .ok (.iastore, 1) := by decide +kernel
theorem dX7_copies_22 : decode cX7_copies 22 = .ok (.iinc 4 1, 3) := by decide +kernel
theorem dX7_copies_25 : decode cX7_copies 25 = .ok (.goto (-22), 3) := by decide +kernel
theorem dX7_copies_28 : decode cX7_copies 28 = .ok (.return_, 1) := by decide +kernel
theorem dX7_isHand_0 : decode cX7_isHand 0 = .ok (.iload_n 1, 1) := by decide +kernel
theorem dX7_isHand_1 : decode cX7_isHand 1 = .ok (.i2l, 1) := by decide +kernel
theorem dX7_isHand_2 : decode cX7_isHand 2 = .ok (.lconst 0, 1) := by decide +kernel
theorem dX7_isHand_3 : decode cX7_isHand 3 = .ok (.aload_n 0, 1) := by decide +kernel
theorem dX7_isHand_4 : decode cX7_isHand 4 = .ok (.getfield 22, 3) := by decide +kernel
theorem dX7_isHand_7 : decode cX7_isHand 7 = .ok (.iconst 2, 1) := by decide +kernel
theorem dX7_isHand_8 : decode cX7_isHand 8 = .ok (.iaload, 1) := by decide +kernel
theorem dX7_isHand_9 : decode cX7_isHand 9 = .ok (.iconst 1, 1) := by decide +kernel
theorem dX7_isHand_10 : decode cX7_isHand 10 = .ok (.isub, 1) := by decide +kernel
theorem dX7_isHand_11 : decode cX7_isHand 11 = .ok (.i2l, 1) := by decide +kernel
theorem dX7_isHand_12 : decode cX7_isHand 12 = .ok (.invokestatic 51, 3) := by decide +kernel
theorem dX7_isHand_15 : decode cX7_isHand 15 = .ok (.ireturn, 1) := by decide +kernel
theorem dX7_isCopy_0 : decode cX7_isCopy 0 = .ok (.iload_n 1, 1) := by decide +kernel
theorem dX7_isCopy_1 : decode cX7_isCopy 1 = .ok (.i2l, 1) := by decide +kernel
theorem dX7_isCopy_2 : decode cX7_isCopy 2 = .ok (.lconst 0, 1) := by decide +kernel
theorem dX7_isCopy_3 : decode cX7_isCopy 3 = .ok (.aload_n 0, 1) := by decide +kernel
theorem dX7_isCopy_4 : decode cX7_isCopy 4 = .ok (.getfield 22, 3) := by decide +kernel
theorem dX7_isCopy_7 : decode cX7_isCopy 7 = .ok (.iconst 3, 1) := by decide +kernel
theorem dX7_isCopy_8 : decode cX7_isCopy 8 = .ok (.iaload, 1) := by decide +kernel
theorem dX7_isCopy_9 : decode cX7_isCopy 9 = .ok (.iconst 1, 1) := by decide +kernel
theorem dX7_isCopy_10 : decode cX7_isCopy 10 = .ok (.isub, 1) := by decide +kernel
theorem dX7_isCopy_11 : decode cX7_isCopy 11 = .ok (.i2l, 1) := by decide +kernel
theorem dX7_isCopy_12 : decode cX7_isCopy 12 = .ok (.invokestatic 51, 3) := by decide +kernel
theorem dX7_isCopy_15 : decode cX7_isCopy 15 = .ok (.ireturn, 1) := by decide +kernel
theorem dX7_isDeed_0 : decode cX7_isDeed 0 = .ok (.iload_n 1, 1) := by decide +kernel
theorem dX7_isDeed_1 : decode cX7_isDeed 1 = .ok (.i2l, 1) := by decide +kernel
theorem dX7_isDeed_2 : decode cX7_isDeed 2 = .ok (.lconst 0, 1) := by decide +kernel
theorem dX7_isDeed_3 : decode cX7_isDeed 3 = .ok (.aload_n 0, 1) := by decide +kernel
theorem dX7_isDeed_4 : decode cX7_isDeed 4 = .ok (.getfield 22, 3) := by decide +kernel
theorem dX7_isDeed_7 : decode cX7_isDeed 7 = .ok (.iconst 4, 1) := by decide +kernel
theorem dX7_isDeed_8 : decode cX7_isDeed 8 = .ok (.iaload, 1) := by decide +kernel
theorem dX7_isDeed_9 : decode cX7_isDeed 9 = .ok (.iconst 1, 1) := by decide +kernel
theorem dX7_isDeed_10 : decode cX7_isDeed 10 = .ok (.isub, 1) := by decide +kernel
theorem dX7_isDeed_11 : decode cX7_isDeed 11 = .ok (.i2l, 1) := by decide +kernel
theorem dX7_isDeed_12 : decode cX7_isDeed 12 = .ok (.invokestatic 51, 3) := by decide +kernel
theorem dX7_isDeed_15 : decode cX7_isDeed 15 = .ok (.ireturn, 1) := by decide +kernel
theorem dX7_areHands_0 : decode cX7_areHands 0 = .ok (.iload_n 1, 1) := by decide +kernel
theorem dX7_areHands_1 : decode cX7_areHands 1 = .ok (.i2l, 1) := by decide +kernel
theorem dX7_areHands_2 : decode cX7_areHands 2 = .ok (.lconst 0, 1) := by decide +kernel
theorem dX7_areHands_3 : decode cX7_areHands 3 = .ok (.iconst 1, 1) := by decide +kernel
theorem dX7_areHands_4 : decode cX7_areHands 4 = .ok (.aload_n 0, 1) := by decide +kernel
theorem dX7_areHands_5 : decode cX7_areHands 5 = .ok (.getfield 22, 3) := by decide +kernel
theorem dX7_areHands_8 : decode cX7_areHands 8 = .ok (.iconst 2, 1) := by decide +kernel
theorem dX7_areHands_9 : decode cX7_areHands 9 = .ok (.iaload, 1) := by decide +kernel
theorem dX7_areHands_10 : decode cX7_areHands 10 = .ok (.ishl, 1) := by decide +kernel
theorem dX7_areHands_11 : decode cX7_areHands 11 = .ok (.iconst 1, 1) := by decide +kernel
theorem dX7_areHands_12 : decode cX7_areHands 12 = .ok (.isub, 1) := by decide +kernel
theorem dX7_areHands_13 : decode cX7_areHands 13 = .ok (.i2l, 1) := by decide +kernel
theorem dX7_areHands_14 : decode cX7_areHands 14 = .ok (.invokestatic 51, 3) := by decide +kernel
theorem dX7_areHands_17 : decode cX7_areHands 17 = .ok (.ireturn, 1) := by decide +kernel
theorem dX7_isTwo_0 : decode cX7_isTwo 0 = .ok (.iload_n 0, 1) := by decide +kernel
theorem dX7_isTwo_1 : decode cX7_isTwo 1 = .ok (.i2l, 1) := by decide +kernel
theorem dX7_isTwo_2 : decode cX7_isTwo 2 = .ok (.lconst 0, 1) := by decide +kernel
theorem dX7_isTwo_3 : decode cX7_isTwo 3 = .ok (.lconst 1, 1) := by decide +kernel
theorem dX7_isTwo_4 : decode cX7_isTwo 4 = .ok (.invokestatic 51, 3) := by decide +kernel
theorem dX7_isTwo_7 : decode cX7_isTwo 7 = .ok (.ireturn, 1) := by decide +kernel
theorem dX7_limit_0 : decode cX7_limit 0 = .ok (.aload_n 0, 1) := by decide +kernel
theorem dX7_limit_1 : decode cX7_limit 1 = .ok (.bipush 7, 2) := by decide +kernel
theorem dX7_limit_3 : decode cX7_limit 3 = .ok (.iload_n 1, 1) := by decide +kernel
theorem dX7_limit_4 : decode cX7_limit 4 = .ok (.iadd, 1) := by decide +kernel
theorem dX7_limit_5 : decode cX7_limit 5 = .ok (.iaload, 1) := by decide +kernel
theorem dX7_limit_6 : decode cX7_limit 6 = .ok (.tableswitch 44 2 5 #[30, 44, 36, 42], 30) := by decide +kernel
theorem dX7_limit_36 : decode cX7_limit 36 = .ok (.aload_n 0, 1) := by decide +kernel
theorem dX7_limit_37 : decode cX7_limit 37 = .ok (.iconst 0, 1) := by decide +kernel
theorem dX7_limit_38 : decode cX7_limit 38 = .ok (.iaload, 1) := by decide +kernel
theorem dX7_limit_39 : decode cX7_limit 39 = .ok (.iconst 2, 1) := by decide +kernel
theorem dX7_limit_40 : decode cX7_limit 40 = .ok (.idiv, 1) := by decide +kernel
theorem dX7_limit_41 : decode cX7_limit 41 = .ok (.ireturn, 1) := by decide +kernel
theorem dX7_limit_42 : decode cX7_limit 42 = .ok (.iconst 2, 1) := by decide +kernel
theorem dX7_limit_43 : decode cX7_limit 43 = .ok (.aload_n 0, 1) := by decide +kernel
theorem dX7_limit_44 : decode cX7_limit 44 = .ok (.iconst 0, 1) := by decide +kernel
theorem dX7_limit_45 : decode cX7_limit 45 = .ok (.iaload, 1) := by decide +kernel
theorem dX7_limit_46 : decode cX7_limit 46 = .ok (.imul, 1) := by decide +kernel
theorem dX7_limit_47 : decode cX7_limit 47 = .ok (.ireturn, 1) := by decide +kernel
theorem dX7_limit_48 : decode cX7_limit 48 = .ok (.iconst (-1), 1) := by decide +kernel
theorem dX7_limit_49 : decode cX7_limit 49 = .ok (.ireturn, 1) := by decide +kernel
theorem dX7_limit_50 : decode cX7_limit 50 = .ok (.aload_n 0, 1) := by decide +kernel
theorem dX7_limit_51 : decode cX7_limit 51 = .ok (.iconst 0, 1) := by decide +kernel
theorem dX7_limit_52 : decode cX7_limit 52 = .ok (.iaload, 1) := by decide +kernel
theorem dX7_limit_53 : decode cX7_limit 53 = .ok (.ireturn, 1) := by decide +kernel
theorem dX7_mayRecall_0 : decode cX7_mayRecall 0 = .ok (.aload_n 0, 1) := by decide +kernel
theorem dX7_mayRecall_1 : decode cX7_mayRecall 1 = .ok (.bipush 55, 2) := by decide +kernel
theorem dX7_mayRecall_3 : decode cX7_mayRecall 3 = .ok (.iload_n 1, 1) := by decide +kernel
theorem dX7_mayRecall_4 : decode cX7_mayRecall 4 = .ok (.iadd, 1) := by decide +kernel
theorem dX7_mayRecall_5 : decode cX7_mayRecall 5 = .ok (.iaload, 1) := by decide +kernel
theorem dX7_mayRecall_6 : decode cX7_mayRecall 6 = .ok (.ifCond .ne 30, 3) := by decide +kernel
theorem dX7_mayRecall_9 : decode cX7_mayRecall 9 = .ok (.aload_n 0, 1) := by decide +kernel
theorem dX7_mayRecall_10 : decode cX7_mayRecall 10 = .ok (.iconst 5, 1) := by decide +kernel
theorem dX7_mayRecall_11 : decode cX7_mayRecall 11 = .ok (.iaload, 1) := by decide +kernel
theorem dX7_mayRecall_12 : decode cX7_mayRecall 12 = .ok (.aload_n 0, 1) := by decide +kernel
theorem dX7_mayRecall_13 : decode cX7_mayRecall 13 = .ok (.bipush 45, 2) := by decide +kernel
theorem dX7_mayRecall_15 : decode cX7_mayRecall 15 = .ok (.iload_n 1, 1) := by decide +kernel
theorem dX7_mayRecall_16 : decode cX7_mayRecall 16 = .ok (.iadd, 1) := by decide +kernel
theorem dX7_mayRecall_17 : decode cX7_mayRecall 17 = .ok (.iaload, 1) := by decide +kernel
theorem dX7_mayRecall_18 : decode cX7_mayRecall 18 = .ok (.isub, 1) := by decide +kernel
theorem dX7_mayRecall_19 : decode cX7_mayRecall 19 = .ok (.aload_n 0, 1) := by decide +kernel
theorem dX7_mayRecall_20 : decode cX7_mayRecall 20 = .ok (.aload_n 0, 1) := by decide +kernel
theorem dX7_mayRecall_21 : decode cX7_mayRecall 21 = .ok (.bipush 25, 2) := by decide +kernel
theorem dX7_mayRecall_23 : decode cX7_mayRecall 23 = .ok (.iload_n 1, 1) := by decide +kernel
theorem dX7_mayRecall_24 : decode cX7_mayRecall 24 = .ok (.iadd, 1) := by decide +kernel
theorem dX7_mayRecall_25 : decode cX7_mayRecall 25 = .ok (.iaload, 1) := by decide +kernel
theorem dX7_mayRecall_26 : decode cX7_mayRecall 26 = .ok (.invokestatic 154, 3) := by decide +kernel
theorem dX7_mayRecall_29 : decode cX7_mayRecall 29 = .ok (.if_icmp .gt 7, 3) := by decide +kernel
theorem dX7_mayRecall_32 : decode cX7_mayRecall 32 = .ok (.iconst 1, 1) := by decide +kernel
theorem dX7_mayRecall_33 : decode cX7_mayRecall 33 = .ok (.goto 4, 3) := by decide +kernel
theorem dX7_mayRecall_36 : decode cX7_mayRecall 36 = .ok (.iconst 0, 1) := by decide +kernel
theorem dX7_mayRecall_37 : decode cX7_mayRecall 37 = .ok (.ireturn, 1) := by decide +kernel
theorem dX7_recalls_0 : decode cX7_recalls 0 = .ok (.iconst 0, 1) := by decide +kernel
theorem dX7_recalls_1 : decode cX7_recalls 1 = .ok (.istore_n 2, 1) := by decide +kernel
theorem dX7_recalls_2 : decode cX7_recalls 2 = .ok (.iload_n 2, 1) := by decide +kernel
theorem dX7_recalls_3 : decode cX7_recalls 3 = .ok (.aload_n 0, 1) := by decide +kernel
theorem dX7_recalls_4 : decode cX7_recalls 4 = .ok (.iconst 3, 1) := by decide +kernel
theorem dX7_recalls_5 : decode cX7_recalls 5 = .ok (.iaload, 1) := by decide +kernel
theorem dX7_recalls_6 : decode cX7_recalls 6 = .ok (.if_icmp .ge 57, 3) := by decide +kernel
theorem dX7_recalls_9 : decode cX7_recalls 9 = .ok (.iload_n 1, 1) := by decide +kernel
theorem dX7_recalls_10 : decode cX7_recalls 10 = .ok (.aload_n 0, 1) := by decide +kernel
theorem dX7_recalls_11 : decode cX7_recalls 11 = .ok (.bipush 25, 2) := by decide +kernel
theorem dX7_recalls_13 : decode cX7_recalls 13 = .ok (.iload_n 2, 1) := by decide +kernel
theorem dX7_recalls_14 : decode cX7_recalls 14 = .ok (.iadd, 1) := by decide +kernel
theorem dX7_recalls_15 : decode cX7_recalls 15 = .ok (.iaload, 1) := by decide +kernel
theorem dX7_recalls_16 : decode cX7_recalls 16 = .ok (.ishr, 1) := by decide +kernel
theorem dX7_recalls_17 : decode cX7_recalls 17 = .ok (.iconst 1, 1) := by decide +kernel
theorem dX7_recalls_18 : decode cX7_recalls 18 = .ok (.iand, 1) := by decide +kernel
theorem dX7_recalls_19 : decode cX7_recalls 19 = .ok (.iconst 1, 1) := by decide +kernel
theorem dX7_recalls_20 : decode cX7_recalls 20 = .ok (.if_icmp .ne 15, 3) := by decide +kernel
theorem dX7_recalls_23 : decode cX7_recalls 23 = .ok (.aload_n 0, 1) := by decide +kernel
theorem dX7_recalls_24 : decode cX7_recalls 24 = .ok (.iload_n 2, 1) := by decide +kernel
theorem dX7_recalls_25 : decode cX7_recalls 25 = .ok (.invokestatic 158, 3) := by decide +kernel
theorem dX7_recalls_28 : decode cX7_recalls 28 = .ok (.ifCond .eq 7, 3) := by decide +kernel
theorem dX7_recalls_31 : decode cX7_recalls 31 = .ok (.iconst 1, 1) := by decide +kernel
theorem dX7_recalls_32 : decode cX7_recalls 32 = .ok (.goto 4, 3) := by decide +kernel
theorem dX7_recalls_35 : decode cX7_recalls 35 = .ok (.iconst 0, 1) := by decide +kernel
theorem dX7_recalls_36 : decode cX7_recalls 36 = .ok (.istore_n 3, 1) := by decide +kernel
theorem dX7_recalls_37 : decode cX7_recalls 37 = .ok (.aload_n 0, 1) := by decide +kernel
theorem dX7_recalls_38 : decode cX7_recalls 38 = .ok (.bipush 55, 2) := by decide +kernel
theorem dX7_recalls_40 : decode cX7_recalls 40 = .ok (.iload_n 2, 1) := by decide +kernel
theorem dX7_recalls_41 : decode cX7_recalls 41 = .ok (.iadd, 1) := by decide +kernel
theorem dX7_recalls_42 : decode cX7_recalls 42 = .ok (.iload_n 3, 1) := by decide +kernel
theorem dX7_recalls_43 : decode cX7_recalls 43 = .ok (.ifCond .eq 7, 3) := by decide +kernel
theorem dX7_recalls_46 : decode cX7_recalls 46 = .ok (.iconst 1, 1) := by decide +kernel
theorem dX7_recalls_47 : decode cX7_recalls 47 = .ok (.goto 9, 3) := by decide +kernel
theorem dX7_recalls_50 : decode cX7_recalls 50 = .ok (.aload_n 0, 1) := by decide +kernel
theorem dX7_recalls_51 : decode cX7_recalls 51 = .ok (.bipush 55, 2) := by decide +kernel
theorem dX7_recalls_53 : decode cX7_recalls 53 = .ok (.iload_n 2, 1) := by decide +kernel
theorem dX7_recalls_54 : decode cX7_recalls 54 = .ok (.iadd, 1) := by decide +kernel
theorem dX7_recalls_55 : decode cX7_recalls 55 = .ok (.iaload, 1) := by decide +kernel
theorem dX7_recalls_56 : decode cX7_recalls 56 = .ok (.iastore, 1) := by decide +kernel
theorem dX7_recalls_57 : decode cX7_recalls 57 = .ok (.iinc 2 1, 3) := by decide +kernel
theorem dX7_recalls_60 : decode cX7_recalls 60 = .ok (.goto (-58), 3) := by decide +kernel
theorem dX7_recalls_63 : decode cX7_recalls 63 = .ok (.return_, 1) := by decide +kernel
theorem dX7_dayGoes_0 : decode cX7_dayGoes 0 = .ok (.aload_n 0, 1) := by decide +kernel
theorem dX7_dayGoes_1 : decode cX7_dayGoes 1 = .ok (.iconst 5, 1) := by decide +kernel
theorem dX7_dayGoes_2 : decode cX7_dayGoes 2 = .ok (.dup2, 1) := by decide +kernel
theorem dX7_dayGoes_3 : decode cX7_dayGoes 3 = .ok (.iaload, 1) := by decide +kernel
theorem dX7_dayGoes_4 : decode cX7_dayGoes 4 = .ok (.iconst 1, 1) := by decide +kernel
theorem dX7_dayGoes_5 : decode cX7_dayGoes 5 = .ok (.iadd, 1) := by decide +kernel
theorem dX7_dayGoes_6 : decode cX7_dayGoes 6 = .ok (.iastore, 1) := by decide +kernel
theorem dX7_dayGoes_7 : decode cX7_dayGoes 7 = .ok (.iconst 0, 1) := by decide +kernel
theorem dX7_dayGoes_8 : decode cX7_dayGoes 8 = .ok (.istore_n 1, 1) := by decide +kernel
theorem dX7_dayGoes_9 : decode cX7_dayGoes 9 = .ok (.iload_n 1, 1) := by decide +kernel
theorem dX7_dayGoes_10 : decode cX7_dayGoes 10 = .ok (.aload_n 0, 1) := by decide +kernel
theorem dX7_dayGoes_11 : decode cX7_dayGoes 11 = .ok (.iconst 3, 1) := by decide +kernel
theorem dX7_dayGoes_12 : decode cX7_dayGoes 12 = .ok (.iaload, 1) := by decide +kernel
theorem dX7_dayGoes_13 : decode cX7_dayGoes 13 = .ok (.if_icmp .ge 66, 3) := by decide +kernel
theorem dX7_dayGoes_16 : decode cX7_dayGoes 16 = .ok (.aload_n 0, 1) := by decide +kernel
theorem dX7_dayGoes_17 : decode cX7_dayGoes 17 = .ok (.bipush 7, 2) := by decide +kernel
theorem dX7_dayGoes_19 : decode cX7_dayGoes 19 = .ok (.aload_n 0, 1) := by decide +kernel
theorem dX7_dayGoes_20 : decode cX7_dayGoes 20 = .ok (.bipush 25, 2) := by decide +kernel
theorem dX7_dayGoes_22 : decode cX7_dayGoes 22 = .ok (.iload_n 1, 1) := by decide +kernel
theorem dX7_dayGoes_23 : decode cX7_dayGoes 23 = .ok (.iadd, 1) := by decide +kernel
theorem dX7_dayGoes_24 : decode cX7_dayGoes 24 = .ok (.iaload, 1) := by decide +kernel
theorem dX7_dayGoes_25 : decode cX7_dayGoes 25 = .ok (.iadd, 1) := by decide +kernel
theorem dX7_dayGoes_26 : decode cX7_dayGoes 26 = .ok (.iaload, 1) := by decide +kernel
theorem dX7_dayGoes_27 : decode cX7_dayGoes 27 = .ok (.iconst 3, 1) := by decide +kernel
theorem dX7_dayGoes_28 : decode cX7_dayGoes 28 = .ok (.if_icmp .ne 23, 3) := by decide +kernel
theorem dX7_dayGoes_31 : decode cX7_dayGoes 31 = .ok (.aload_n 0, 1) := by decide +kernel
theorem dX7_dayGoes_32 : decode cX7_dayGoes 32 = .ok (.iconst 5, 1) := by decide +kernel
theorem dX7_dayGoes_33 : decode cX7_dayGoes 33 = .ok (.iaload, 1) := by decide +kernel
theorem dX7_dayGoes_34 : decode cX7_dayGoes 34 = .ok (.aload_n 0, 1) := by decide +kernel
theorem dX7_dayGoes_35 : decode cX7_dayGoes 35 = .ok (.bipush 45, 2) := by decide +kernel
theorem dX7_dayGoes_37 : decode cX7_dayGoes 37 = .ok (.iload_n 1, 1) := by decide +kernel
theorem dX7_dayGoes_38 : decode cX7_dayGoes 38 = .ok (.iadd, 1) := by decide +kernel
theorem dX7_dayGoes_39 : decode cX7_dayGoes 39 = .ok (.iaload, 1) := by decide +kernel
theorem dX7_dayGoes_40 : decode cX7_dayGoes 40 = .ok (.isub, 1) := by decide +kernel
theorem dX7_dayGoes_41 : decode cX7_dayGoes 41 = .ok (.aload_n 0, 1) := by decide +kernel
theorem dX7_dayGoes_42 : decode cX7_dayGoes 42 = .ok (.iconst 1, 1) := by decide +kernel
theorem dX7_dayGoes_43 : decode cX7_dayGoes 43 = .ok (.iaload, 1) := by decide +kernel
theorem dX7_dayGoes_44 : decode cX7_dayGoes 44 = .ok (.if_icmp .lt 7, 3) := by decide +kernel
theorem dX7_dayGoes_47 : decode cX7_dayGoes 47 = .ok (.iconst 1, 1) := by decide +kernel
theorem dX7_dayGoes_48 : decode cX7_dayGoes 48 = .ok (.goto 4, 3) := by decide +kernel
theorem dX7_dayGoes_51 : decode cX7_dayGoes 51 = .ok (.iconst 0, 1) := by decide +kernel
theorem dX7_dayGoes_52 : decode cX7_dayGoes 52 = .ok (.istore_n 2, 1) := by decide +kernel
theorem dX7_dayGoes_53 : decode cX7_dayGoes 53 = .ok (.aload_n 0, 1) := by decide +kernel
theorem dX7_dayGoes_54 : decode cX7_dayGoes 54 = .ok (.bipush 55, 2) := by decide +kernel
theorem dX7_dayGoes_56 : decode cX7_dayGoes 56 = .ok (.iload_n 1, 1) := by decide +kernel
theorem dX7_dayGoes_57 : decode cX7_dayGoes 57 = .ok (.iadd, 1) := by decide +kernel
theorem dX7_dayGoes_58 : decode cX7_dayGoes 58 = .ok (.iload_n 2, 1) := by decide +kernel
theorem dX7_dayGoes_59 : decode cX7_dayGoes 59 = .ok (.ifCond .eq 7, 3) := by decide +kernel
theorem dX7_dayGoes_62 : decode cX7_dayGoes 62 = .ok (.iconst 1, 1) := by decide +kernel
theorem dX7_dayGoes_63 : decode cX7_dayGoes 63 = .ok (.goto 9, 3) := by decide +kernel
theorem dX7_dayGoes_66 : decode cX7_dayGoes 66 = .ok (.aload_n 0, 1) := by decide +kernel
theorem dX7_dayGoes_67 : decode cX7_dayGoes 67 = .ok (.bipush 55, 2) := by decide +kernel
theorem dX7_dayGoes_69 : decode cX7_dayGoes 69 = .ok (.iload_n 1, 1) := by decide +kernel
theorem dX7_dayGoes_70 : decode cX7_dayGoes 70 = .ok (.iadd, 1) := by decide +kernel
theorem dX7_dayGoes_71 : decode cX7_dayGoes 71 = .ok (.iaload, 1) := by decide +kernel
theorem dX7_dayGoes_72 : decode cX7_dayGoes 72 = .ok (.iastore, 1) := by decide +kernel
theorem dX7_dayGoes_73 : decode cX7_dayGoes 73 = .ok (.iinc 1 1, 3) := by decide +kernel
theorem dX7_dayGoes_76 : decode cX7_dayGoes 76 = .ok (.goto (-67), 3) := by decide +kernel
theorem dX7_dayGoes_79 : decode cX7_dayGoes 79 = .ok (.return_, 1) := by decide +kernel
theorem dX7_black_0 : decode cX7_black 0 = .ok (.iconst 0, 1) := by decide +kernel
theorem dX7_black_1 : decode cX7_black 1 = .ok (.istore_n 1, 1) := by decide +kernel
theorem dX7_black_2 : decode cX7_black 2 = .ok (.iconst 0, 1) := by decide +kernel
theorem dX7_black_3 : decode cX7_black 3 = .ok (.istore_n 2, 1) := by decide +kernel
theorem dX7_black_4 : decode cX7_black 4 = .ok (.iload_n 2, 1) := by decide +kernel
theorem dX7_black_5 : decode cX7_black 5 = .ok (.aload_n 0, 1) := by decide +kernel
theorem dX7_black_6 : decode cX7_black 6 = .ok (.iconst 3, 1) := by decide +kernel
theorem dX7_black_7 : decode cX7_black 7 = .ok (.iaload, 1) := by decide +kernel
theorem dX7_black_8 : decode cX7_black 8 = .ok (.if_icmp .ge 33, 3) := by decide +kernel
theorem dX7_black_11 : decode cX7_black 11 = .ok (.iload_n 1, 1) := by decide +kernel
theorem dX7_black_12 : decode cX7_black 12 = .ok (.aload_n 0, 1) := by decide +kernel
theorem dX7_black_13 : decode cX7_black 13 = .ok (.bipush 55, 2) := by decide +kernel
theorem dX7_black_15 : decode cX7_black 15 = .ok (.iload_n 2, 1) := by decide +kernel
theorem dX7_black_16 : decode cX7_black 16 = .ok (.iadd, 1) := by decide +kernel
theorem dX7_black_17 : decode cX7_black 17 = .ok (.iaload, 1) := by decide +kernel
theorem dX7_black_18 : decode cX7_black 18 = .ok (.ifCond .ne 14, 3) := by decide +kernel
theorem dX7_black_21 : decode cX7_black 21 = .ok (.iconst 1, 1) := by decide +kernel
theorem dX7_black_22 : decode cX7_black 22 = .ok (.aload_n 0, 1) := by decide +kernel
theorem dX7_black_23 : decode cX7_black 23 = .ok (.bipush 15, 2) := by decide +kernel
theorem dX7_black_25 : decode cX7_black 25 = .ok (.iload_n 2, 1) := by decide +kernel
theorem dX7_black_26 : decode cX7_black 26 = .ok (.iadd, 1) := by decide +kernel
theorem dX7_black_27 : decode cX7_black 27 = .ok (.iaload, 1) := by decide +kernel
theorem dX7_black_28 : decode cX7_black 28 = .ok (.ishl, 1) := by decide +kernel
theorem dX7_black_29 : decode cX7_black 29 = .ok (.goto 4, 3) := by decide +kernel
theorem dX7_black_32 : decode cX7_black 32 = .ok (.iconst 0, 1) := by decide +kernel
theorem dX7_black_33 : decode cX7_black 33 = .ok (.ior, 1) := by decide +kernel
theorem dX7_black_34 : decode cX7_black 34 = .ok (.istore_n 1, 1) := by decide +kernel
theorem dX7_black_35 : decode cX7_black 35 = .ok (.iinc 2 1, 3) := by decide +kernel
theorem dX7_black_38 : decode cX7_black 38 = .ok (.goto (-34), 3) := by decide +kernel
theorem dX7_black_41 : decode cX7_black 41 = .ok (.iload_n 1, 1) := by decide +kernel
theorem dX7_black_42 : decode cX7_black 42 = .ok (.ireturn, 1) := by decide +kernel
theorem dX7_standBy_0 : decode cX7_standBy 0 = .ok (.iconst 0, 1) := by decide +kernel
theorem dX7_standBy_1 : decode cX7_standBy 1 = .ok (.istore_n 2, 1) := by decide +kernel
theorem dX7_standBy_2 : decode cX7_standBy 2 = .ok (.iconst 0, 1) := by decide +kernel
theorem dX7_standBy_3 : decode cX7_standBy 3 = .ok (.istore_n 3, 1) := by decide +kernel
theorem dX7_standBy_4 : decode cX7_standBy 4 = .ok (.iload_n 3, 1) := by decide +kernel
theorem dX7_standBy_5 : decode cX7_standBy 5 = .ok (.aload_n 0, 1) := by decide +kernel
theorem dX7_standBy_6 : decode cX7_standBy 6 = .ok (.iconst 4, 1) := by decide +kernel
theorem dX7_standBy_7 : decode cX7_standBy 7 = .ok (.iaload, 1) := by decide +kernel
theorem dX7_standBy_8 : decode cX7_standBy 8 = .ok (.if_icmp .ge 112, 3) := by decide +kernel
theorem dX7_standBy_11 : decode cX7_standBy 11 = .ok (.aload_n 0, 1) := by decide +kernel
theorem dX7_standBy_12 : decode cX7_standBy 12 = .ok (.bipush 65, 2) := by decide +kernel
theorem dX7_standBy_14 : decode cX7_standBy 14 = .ok (.iload_n 3, 1) := by decide +kernel
theorem dX7_standBy_15 : decode cX7_standBy 15 = .ok (.iadd, 1) := by decide +kernel
theorem dX7_standBy_16 : decode cX7_standBy 16 = .ok (.iaload, 1) := by decide +kernel
theorem dX7_standBy_17 : decode cX7_standBy 17 = .ok (.iload_n 1, 1) := by decide +kernel
theorem dX7_standBy_18 : decode cX7_standBy 18 = .ok (.iand, 1) := by decide +kernel
theorem dX7_standBy_19 : decode cX7_standBy 19 = .ok (.istore 4, 2) := by decide +kernel
theorem dX7_standBy_21 : decode cX7_standBy 21 = .ok (.aload_n 0, 1) := by decide +kernel
theorem dX7_standBy_22 : decode cX7_standBy 22 = .ok (.bipush 75, 2) := by decide +kernel
theorem dX7_standBy_24 : decode cX7_standBy 24 = .ok (.iload_n 3, 1) := by decide +kernel
theorem dX7_standBy_25 : decode cX7_standBy 25 = .ok (.iadd, 1) := by decide +kernel
theorem dX7_standBy_26 : decode cX7_standBy 26 = .ok (.iaload, 1) := by decide +kernel
theorem dX7_standBy_27 : decode cX7_standBy 27 = .ok (.ifCond .eq 19, 3) := by decide +kernel
theorem dX7_standBy_30 : decode cX7_standBy 30 = .ok (.iload_n 2, 1) := by decide +kernel
theorem dX7_standBy_31 : decode cX7_standBy 31 = .ok (.aload_n 0, 1) := by decide +kernel
theorem dX7_standBy_32 : decode cX7_standBy 32 = .ok (.bipush 75, 2) := by decide +kernel
theorem dX7_standBy_34 : decode cX7_standBy 34 = .ok (.iload_n 3, 1) := by decide +kernel
theorem dX7_standBy_35 : decode cX7_standBy 35 = .ok (.iadd, 1) := by decide +kernel
theorem dX7_standBy_36 : decode cX7_standBy 36 = .ok (.iaload, 1) := by decide +kernel
theorem dX7_standBy_37 : decode cX7_standBy 37 = .ok (.iconst 1, 1) := by decide +kernel
theorem dX7_standBy_38 : decode cX7_standBy 38 = .ok (.isub, 1) := by decide +kernel
theorem dX7_standBy_39 : decode cX7_standBy 39 = .ok (.ishr, 1) := by decide +kernel
theorem dX7_standBy_40 : decode cX7_standBy 40 = .ok (.iconst 1, 1) := by decide +kernel
theorem dX7_standBy_41 : decode cX7_standBy 41 = .ok (.iand, 1) := by decide +kernel
theorem dX7_standBy_42 : decode cX7_standBy 42 = .ok (.iconst 1, 1) := by decide +kernel
theorem dX7_standBy_43 : decode cX7_standBy 43 = .ok (.if_icmp .ne 7, 3) := by decide +kernel
theorem dX7_standBy_46 : decode cX7_standBy 46 = .ok (.iconst 1, 1) := by decide +kernel
theorem dX7_standBy_47 : decode cX7_standBy 47 = .ok (.goto 4, 3) := by decide +kernel
theorem dX7_standBy_50 : decode cX7_standBy 50 = .ok (.iconst 0, 1) := by decide +kernel
theorem dX7_standBy_51 : decode cX7_standBy 51 = .ok (.istore 5, 2) := by decide +kernel
theorem dX7_standBy_53 : decode cX7_standBy 53 = .ok (.aload_n 0, 1) := by decide +kernel
theorem dX7_standBy_54 : decode cX7_standBy 54 = .ok (.bipush 70, 2) := by decide +kernel
theorem dX7_standBy_56 : decode cX7_standBy 56 = .ok (.iload_n 3, 1) := by decide +kernel
theorem dX7_standBy_57 : decode cX7_standBy 57 = .ok (.iadd, 1) := by decide +kernel
theorem dX7_standBy_58 : decode cX7_standBy 58 = .ok (.iaload, 1) := by decide +kernel
theorem dX7_standBy_59 : decode cX7_standBy 59 = .ok (.iconst 1, 1) := by decide +kernel
theorem dX7_standBy_60 : decode cX7_standBy 60 = .ok (.if_icmp .ne 22, 3) := by decide +kernel
theorem dX7_standBy_63 : decode cX7_standBy 63 = .ok (.iload 4, 2) := by decide +kernel
theorem dX7_standBy_65 : decode cX7_standBy 65 = .ok (.aload_n 0, 1) := by decide +kernel
theorem dX7_standBy_66 : decode cX7_standBy 66 = .ok (.bipush 65, 2) := by decide +kernel
theorem dX7_standBy_68 : decode cX7_standBy 68 = .ok (.iload_n 3, 1) := by decide +kernel
theorem dX7_standBy_69 : decode cX7_standBy 69 = .ok (.iadd, 1) := by decide +kernel
theorem dX7_standBy_70 : decode cX7_standBy 70 = .ok (.iaload, 1) := by decide +kernel
theorem dX7_standBy_71 : decode cX7_standBy 71 = .ok (.if_icmp .ne 7, 3) := by decide +kernel
theorem dX7_standBy_74 : decode cX7_standBy 74 = .ok (.iconst 1, 1) := by decide +kernel
theorem dX7_standBy_75 : decode cX7_standBy 75 = .ok (.goto 17, 3) := by decide +kernel
theorem dX7_standBy_78 : decode cX7_standBy 78 = .ok (.iconst 0, 1) := by decide +kernel
theorem dX7_standBy_79 : decode cX7_standBy 79 = .ok (.goto 13, 3) := by decide +kernel
theorem dX7_standBy_82 : decode cX7_standBy 82 = .ok (.iload 4, 2) := by decide +kernel
theorem dX7_standBy_84 : decode cX7_standBy 84 = .ok (.ifCond .eq 7, 3) := by decide +kernel
theorem dX7_standBy_87 : decode cX7_standBy 87 = .ok (.iconst 1, 1) := by decide +kernel
theorem dX7_standBy_88 : decode cX7_standBy 88 = .ok (.goto 4, 3) := by decide +kernel
theorem dX7_standBy_91 : decode cX7_standBy 91 = .ok (.iconst 0, 1) := by decide +kernel
theorem dX7_standBy_92 : decode cX7_standBy 92 = .ok (.istore 6, 2) := by decide +kernel
theorem dX7_standBy_94 : decode cX7_standBy 94 = .ok (.iload_n 2, 1) := by decide +kernel
theorem dX7_standBy_95 : decode cX7_standBy 95 = .ok (.iload 5, 2) := by decide +kernel
theorem dX7_standBy_97 : decode cX7_standBy 97 = .ok (.ifCond .eq 14, 3) := by decide +kernel
theorem dX7_standBy_100 : decode cX7_standBy 100 = .ok (.iload 6, 2) := by decide +kernel
theorem dX7_standBy_102 : decode cX7_standBy 102 = .ok (.ifCond .eq 9, 3) := by decide +kernel
theorem dX7_standBy_105 : decode cX7_standBy 105 = .ok (.iconst 1, 1) := by decide +kernel
theorem dX7_standBy_106 : decode cX7_standBy 106 = .ok (.iload_n 3, 1) := by decide +kernel
theorem dX7_standBy_107 : decode cX7_standBy 107 = .ok (.ishl, 1) := by decide +kernel
theorem dX7_standBy_108 : decode cX7_standBy 108 = .ok (.goto 4, 3) := by decide +kernel
theorem dX7_standBy_111 : decode cX7_standBy 111 = .ok (.iconst 0, 1) := by decide +kernel
theorem dX7_standBy_112 : decode cX7_standBy 112 = .ok (.ior, 1) := by decide +kernel
theorem dX7_standBy_113 : decode cX7_standBy 113 = .ok (.istore_n 2, 1) := by decide +kernel
theorem dX7_standBy_114 : decode cX7_standBy 114 = .ok (.iinc 3 1, 3) := by decide +kernel
theorem dX7_standBy_117 : decode cX7_standBy 117 = .ok (.goto (-113), 3) := by decide +kernel
theorem dX7_standBy_120 : decode cX7_standBy 120 = .ok (.iload_n 2, 1) := by decide +kernel
theorem dX7_standBy_121 : decode cX7_standBy 121 = .ok (.ireturn, 1) := by decide +kernel
theorem dX7_stand_0 : decode cX7_stand 0 = .ok (.aload_n 0, 1) := by decide +kernel
theorem dX7_stand_1 : decode cX7_stand 1 = .ok (.aload_n 0, 1) := by decide +kernel
theorem dX7_stand_2 : decode cX7_stand 2 = .ok (.invokestatic 162, 3) := by decide +kernel
theorem dX7_stand_5 : decode cX7_stand 5 = .ok (.invokestatic 166, 3) := by decide +kernel
theorem dX7_stand_8 : decode cX7_stand 8 = .ok (.ireturn, 1) := by decide +kernel
theorem dX7_whites_0 : decode cX7_whites 0 = .ok (.iconst 0, 1) := by decide +kernel
theorem dX7_whites_1 : decode cX7_whites 1 = .ok (.istore_n 1, 1) := by decide +kernel
theorem dX7_whites_2 : decode cX7_whites 2 = .ok (.iconst 0, 1) := by decide +kernel
theorem dX7_whites_3 : decode cX7_whites 3 = .ok (.istore_n 2, 1) := by decide +kernel
theorem dX7_whites_4 : decode cX7_whites 4 = .ok (.iload_n 2, 1) := by decide +kernel
theorem dX7_whites_5 : decode cX7_whites 5 = .ok (.aload_n 0, 1) := by decide +kernel
theorem dX7_whites_6 : decode cX7_whites 6 = .ok (.iconst 3, 1) := by decide +kernel
theorem dX7_whites_7 : decode cX7_whites 7 = .ok (.iaload, 1) := by decide +kernel
