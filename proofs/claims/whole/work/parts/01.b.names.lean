theorem dX0_init_0 : decode cX0_init 0 = .ok (.aload_n 0, 1) := by decide +kernel
theorem dX0_init_1 : decode cX0_init 1 = .ok (.invokespecial 3, 3) := by decide +kernel
theorem dX0_init_4 : decode cX0_init 4 = .ok (.aload_n 0, 1) := by decide +kernel
theorem dX0_init_5 : decode cX0_init 5 = .ok (.bipush 24, 2) := by decide +kernel
theorem dX0_init_7 : decode cX0_init 7 = .ok (.newarray .int, 2) := by decide +kernel
theorem dX0_init_9 : decode cX0_init 9 = .ok (.putfield 9, 3) := by decide +kernel
theorem dX0_init_12 : decode cX0_init 12 = .ok (.aload_n 0, 1) := by decide +kernel
theorem dX0_init_13 : decode cX0_init 13 = .ok (.bipush 24, 2) := by decide +kernel
theorem dX0_init_15 : decode cX0_init 15 = .ok (.newarray .int, 2) := by decide +kernel
theorem dX0_init_17 : decode cX0_init 17 = .ok (.putfield 15, 3) := by decide +kernel
theorem dX0_init_20 : decode cX0_init 20 = .ok (.return_, 1) := by decide +kernel
theorem dX0_forget_0 : decode cX0_forget 0 = .ok (.aload_n 0, 1) := by decide +kernel
theorem dX0_forget_1 : decode cX0_forget 1 = .ok (.iconst 0, 1) := by decide +kernel
theorem dX0_forget_2 : decode cX0_forget 2 = .ok (.putfield 18, 3) := by decide +kernel
theorem dX0_forget_5 : decode cX0_forget 5 = .ok (.return_, 1) := by decide +kernel
theorem dX0_keep_0 : decode cX0_keep 0 = .ok (.aload_n 0, 1) := by decide +kernel
theorem dX0_keep_1 : decode cX0_keep 1 = .ok (.getfield 18, 3) := by decide +kernel
theorem dX0_keep_4 : decode cX0_keep 4 = .ok (.bipush 24, 2) := by decide +kernel
theorem dX0_keep_6 : decode cX0_keep 6 = .ok (.if_icmp .lt 39, 3) := by decide +kernel
theorem dX0_keep_9 : decode cX0_keep 9 = .ok (.aload_n 0, 1) := by decide +kernel
theorem dX0_keep_10 : decode cX0_keep 10 = .ok (.getfield 9, 3) := by decide +kernel
theorem dX0_keep_13 : decode cX0_keep 13 = .ok (.iconst 1, 1) := by decide +kernel
theorem dX0_keep_14 : decode cX0_keep 14 = .ok (.aload_n 0, 1) := by decide +kernel
theorem dX0_keep_15 : decode cX0_keep 15 = .ok (.getfield 9, 3) := by decide +kernel
theorem dX0_keep_18 : decode cX0_keep 18 = .ok (.iconst 0, 1) := by decide +kernel
theorem dX0_keep_19 : decode cX0_keep 19 = .ok (.bipush 23, 2) := by decide +kernel
theorem dX0_keep_21 : decode cX0_keep 21 = .ok (.invokestatic 22, 3) := by decide +kernel
theorem dX0_keep_24 : decode cX0_keep 24 = .ok (.aload_n 0, 1) := by decide +kernel
theorem dX0_keep_25 : decode cX0_keep 25 = .ok (.getfield 15, 3) := by decide +kernel
theorem dX0_keep_28 : decode cX0_keep 28 = .ok (.iconst 1, 1) := by decide +kernel
theorem dX0_keep_29 : decode cX0_keep 29 = .ok (.aload_n 0, 1) := by decide +kernel
theorem dX0_keep_30 : decode cX0_keep 30 = .ok (.getfield 15, 3) := by decide +kernel
theorem dX0_keep_33 : decode cX0_keep 33 = .ok (.iconst 0, 1) := by decide +kernel
theorem dX0_keep_34 : decode cX0_keep 34 = .ok (.bipush 23, 2) := by decide +kernel
theorem dX0_keep_36 : decode cX0_keep 36 = .ok (.invokestatic 22, 3) := by decide +kernel
theorem dX0_keep_39 : decode cX0_keep 39 = .ok (.aload_n 0, 1) := by decide +kernel
theorem dX0_keep_40 : decode cX0_keep 40 = .ok (.bipush 23, 2) := by decide +kernel
theorem dX0_keep_42 : decode cX0_keep 42 = .ok (.putfield 18, 3) := by decide +kernel
theorem dX0_keep_45 : decode cX0_keep 45 = .ok (.aload_n 0, 1) := by decide +kernel
theorem dX0_keep_46 : decode cX0_keep 46 = .ok (.getfield 9, 3) := by decide +kernel
theorem dX0_keep_49 : decode cX0_keep 49 = .ok (.aload_n 0, 1) := by decide +kernel
theorem dX0_keep_50 : decode cX0_keep 50 = .ok (.getfield 18, 3) := by decide +kernel
theorem dX0_keep_53 : decode cX0_keep 53 = .ok (.iload_n 1, 1) := by decide +kernel
theorem dX0_keep_54 : decode cX0_keep 54 = .ok (.iastore, 1) := by decide +kernel
theorem dX0_keep_55 : decode cX0_keep 55 = .ok (.aload_n 0, 1) := by decide +kernel
theorem dX0_keep_56 : decode cX0_keep 56 = .ok (.getfield 15, 3) := by decide +kernel
theorem dX0_keep_59 : decode cX0_keep 59 = .ok (.aload_n 0, 1) := by decide +kernel
theorem dX0_keep_60 : decode cX0_keep 60 = .ok (.getfield 18, 3) := by decide +kernel
theorem dX0_keep_63 : decode cX0_keep 63 = .ok (.iload_n 2, 1) := by decide +kernel
theorem dX0_keep_64 : decode cX0_keep 64 = .ok (.iastore, 1) := by decide +kernel
theorem dX0_keep_65 : decode cX0_keep 65 = .ok (.aload_n 0, 1) := by decide +kernel
theorem dX0_keep_66 : decode cX0_keep 66 = .ok (.dup, 1) := by decide +kernel
theorem dX0_keep_67 : decode cX0_keep 67 = .ok (.getfield 18, 3) := by decide +kernel
theorem dX0_keep_70 : decode cX0_keep 70 = .ok (.iconst 1, 1) := by decide +kernel
theorem dX0_keep_71 : decode cX0_keep 71 = .ok (.iadd, 1) := by decide +kernel
theorem dX0_keep_72 : decode cX0_keep 72 = .ok (.putfield 18, 3) := by decide +kernel
theorem dX0_keep_75 : decode cX0_keep 75 = .ok (.return_, 1) := by decide +kernel
theorem dX0_undoLatest_0 : decode cX0_undoLatest 0 = .ok (.aload_n 0, 1) := by decide +kernel
theorem dX0_undoLatest_1 : decode cX0_undoLatest 1 = .ok (.getfield 18, 3) := by decide +kernel
theorem dX0_undoLatest_4 : decode cX0_undoLatest 4 = .ok (.ifCond .gt 4, 3) := by decide +kernel
theorem dX0_undoLatest_7 : decode cX0_undoLatest 7 = .ok (.return_, 1) := by decide +kernel
theorem dX0_undoLatest_8 : decode cX0_undoLatest 8 = .ok (.aload_n 0, 1) := by decide +kernel
theorem dX0_undoLatest_9 : decode cX0_undoLatest 9 = .ok (.dup, 1) := by decide +kernel
theorem dX0_undoLatest_10 : decode cX0_undoLatest 10 = .ok (.getfield 18, 3) := by decide +kernel
theorem dX0_undoLatest_13 : decode cX0_undoLatest 13 = .ok (.iconst 1, 1) := by decide +kernel
theorem dX0_undoLatest_14 : decode cX0_undoLatest 14 = .ok (.isub, 1) := by decide +kernel
theorem dX0_undoLatest_15 : decode cX0_undoLatest 15 = .ok (.putfield 18, 3) := by decide +kernel
theorem dX0_undoLatest_18 : decode cX0_undoLatest 18 = .ok (.aload_n 1, 1) := by decide +kernel
theorem dX0_undoLatest_19 : decode cX0_undoLatest 19 = .ok (.aload_n 0, 1) := by decide +kernel
theorem dX0_undoLatest_20 : decode cX0_undoLatest 20 = .ok (.getfield 15, 3) := by decide +kernel
theorem dX0_undoLatest_23 : decode cX0_undoLatest 23 = .ok (.aload_n 0, 1) := by decide +kernel
theorem dX0_undoLatest_24 : decode cX0_undoLatest 24 = .ok (.getfield 18, 3) := by decide +kernel
theorem dX0_undoLatest_27 : decode cX0_undoLatest 27 = .ok (.iaload, 1) := by decide +kernel
theorem dX0_undoLatest_28 : decode cX0_undoLatest 28 = .ok (.putfield 28, 3) := by decide +kernel
theorem dX0_undoLatest_31 : decode cX0_undoLatest 31 = .ok (.aload_n 0, 1) := by decide +kernel
theorem dX0_undoLatest_32 : decode cX0_undoLatest 32 = .ok (.getfield 9, 3) := by decide +kernel
theorem dX0_undoLatest_35 : decode cX0_undoLatest 35 = .ok (.aload_n 0, 1) := by decide +kernel
theorem dX0_undoLatest_36 : decode cX0_undoLatest 36 = .ok (.getfield 18, 3) := by decide +kernel
theorem dX0_undoLatest_39 : decode cX0_undoLatest 39 = .ok (.iaload, 1) := by decide +kernel
theorem dX0_undoLatest_40 : decode cX0_undoLatest 40 = .ok (.iconst 2, 1) := by decide +kernel
theorem dX0_undoLatest_41 : decode cX0_undoLatest 41 = .ok (.if_icmp .ne 13, 3) := by decide +kernel
theorem dX0_undoLatest_44 : decode cX0_undoLatest 44 = .ok (.aload_n 1, 1) := by decide +kernel
theorem dX0_undoLatest_45 : decode cX0_undoLatest 45 = .ok (.dup, 1) := by decide +kernel
theorem dX0_undoLatest_46 : decode cX0_undoLatest 46 = .ok (.getfield 33, 3) := by decide +kernel
theorem dX0_undoLatest_49 : decode cX0_undoLatest 49 = .ok (.iconst 1, 1) := by decide +kernel
theorem dX0_undoLatest_50 : decode cX0_undoLatest 50 = .ok (.isub, 1) := by decide +kernel
theorem dX0_undoLatest_51 : decode cX0_undoLatest 51 = .ok (.putfield 33, 3) := by decide +kernel
theorem dX0_undoLatest_54 : decode cX0_undoLatest 54 = .ok (.aload_n 0, 1) := by decide +kernel
theorem dX0_undoLatest_55 : decode cX0_undoLatest 55 = .ok (.getfield 9, 3) := by decide +kernel
theorem dX0_undoLatest_58 : decode cX0_undoLatest 58 = .ok (.aload_n 0, 1) := by decide +kernel
theorem dX0_undoLatest_59 : decode cX0_undoLatest 59 = .ok (.getfield 18, 3) := by decide +kernel
theorem dX0_undoLatest_62 : decode cX0_undoLatest 62 = .ok (.iaload, 1) := by decide +kernel
theorem dX0_undoLatest_63 : decode cX0_undoLatest 63 = .ok (.ifCond .ne 43, 3) := by decide +kernel
theorem dX0_undoLatest_66 : decode cX0_undoLatest 66 = .ok (.aload_n 1, 1) := by decide +kernel
theorem dX0_undoLatest_67 : decode cX0_undoLatest 67 = .ok (.getfield 36, 3) := by decide +kernel
theorem dX0_undoLatest_70 : decode cX0_undoLatest 70 = .ok (.ifCond .le 36, 3) := by decide +kernel
theorem dX0_undoLatest_73 : decode cX0_undoLatest 73 = .ok (.aload_n 1, 1) := by decide +kernel
theorem dX0_undoLatest_74 : decode cX0_undoLatest 74 = .ok (.dup, 1) := by decide +kernel
theorem dX0_undoLatest_75 : decode cX0_undoLatest 75 = .ok (.getfield 36, 3) := by decide +kernel
theorem dX0_undoLatest_78 : decode cX0_undoLatest 78 = .ok (.iconst 1, 1) := by decide +kernel
theorem dX0_undoLatest_79 : decode cX0_undoLatest 79 = .ok (.isub, 1) := by decide +kernel
theorem dX0_undoLatest_80 : decode cX0_undoLatest 80 = .ok (.putfield 36, 3) := by decide +kernel
theorem dX0_undoLatest_83 : decode cX0_undoLatest 83 = .ok (.aload_n 1, 1) := by decide +kernel
theorem dX0_undoLatest_84 : decode cX0_undoLatest 84 = .ok (.dup, 1) := by decide +kernel
theorem dX0_undoLatest_85 : decode cX0_undoLatest 85 = .ok (.getfield 39, 3) := by decide +kernel
theorem dX0_undoLatest_88 : decode cX0_undoLatest 88 = .ok (.aload_n 1, 1) := by decide +kernel
theorem dX0_undoLatest_89 : decode cX0_undoLatest 89 = .ok (.getfield 42, 3) := by decide +kernel
theorem dX0_undoLatest_92 : decode cX0_undoLatest 92 = .ok (.aload_n 1, 1) := by decide +kernel
theorem dX0_undoLatest_93 : decode cX0_undoLatest 93 = .ok (.getfield 45, 3) := by decide +kernel
theorem dX0_undoLatest_96 : decode cX0_undoLatest 96 = .ok (.aload_n 1, 1) := by decide +kernel
theorem dX0_undoLatest_97 : decode cX0_undoLatest 97 = .ok (.getfield 36, 3) := by decide +kernel
theorem dX0_undoLatest_100 : decode cX0_undoLatest 100 = .ok (.iaload, 1) := by decide +kernel
theorem dX0_undoLatest_101 : decode cX0_undoLatest 101 = .ok (.iaload, 1) := by decide +kernel
theorem dX0_undoLatest_102 : decode cX0_undoLatest 102 = .ok (.isub, 1) := by decide +kernel
theorem dX0_undoLatest_103 : decode cX0_undoLatest 103 = .ok (.putfield 39, 3) := by decide +kernel
theorem dX0_undoLatest_106 : decode cX0_undoLatest 106 = .ok (.return_, 1) := by decide +kernel
theorem dX1_init_0 : decode cX1_init 0 = .ok (.aload_n 0, 1) := by decide +kernel
theorem dX1_init_1 : decode cX1_init 1 = .ok (.invokespecial 3, 3) := by decide +kernel
theorem dX1_init_4 : decode cX1_init 4 = .ok (.aload_n 0, 1) := by decide +kernel
theorem dX1_init_5 : decode cX1_init 5 = .ok (.iconst 4, 1) := by decide +kernel
theorem dX1_init_6 : decode cX1_init 6 = .ok (.newarray .int, 2) := by decide +kernel
theorem dX1_init_8 : decode cX1_init 8 = .ok (.putfield 9, 3) := by decide +kernel
theorem dX1_init_11 : decode cX1_init 11 = .ok (.aload_n 0, 1) := by decide +kernel
theorem dX1_init_12 : decode cX1_init 12 = .ok (.iconst 4, 1) := by decide +kernel
theorem dX1_init_13 : decode cX1_init 13 = .ok (.newarray .int, 2) := by decide +kernel
theorem dX1_init_15 : decode cX1_init 15 = .ok (.putfield 15, 3) := by decide +kernel
theorem dX1_init_18 : decode cX1_init 18 = .ok (.aload_n 0, 1) := by decide +kernel
theorem dX1_init_19 : decode cX1_init 19 = .ok (.bipush 10, 2) := by decide +kernel
theorem dX1_init_21 : decode cX1_init 21 = .ok (.newarray .int, 2) := by decide +kernel
theorem dX1_init_23 : decode cX1_init 23 = .ok (.putfield 18, 3) := by decide +kernel
theorem dX1_init_26 : decode cX1_init 26 = .ok (.aload_n 0, 1) := by decide +kernel
theorem dX1_init_27 : decode cX1_init 27 = .ok (.bipush 10, 2) := by decide +kernel
theorem dX1_init_29 : decode cX1_init 29 = .ok (.newarray .int, 2) := by decide +kernel
theorem dX1_init_31 : decode cX1_init 31 = .ok (.putfield 21, 3) := by decide +kernel
theorem dX1_init_34 : decode cX1_init 34 = .ok (.aload_n 0, 1) := by decide +kernel
theorem dX1_init_35 : decode cX1_init 35 = .ok (.bipush 10, 2) := by decide +kernel
theorem dX1_init_37 : decode cX1_init 37 = .ok (.newarray .int, 2) := by decide +kernel
theorem dX1_init_39 : decode cX1_init 39 = .ok (.putfield 24, 3) := by decide +kernel
theorem dX1_init_42 : decode cX1_init 42 = .ok (.aload_n 0, 1) := by decide +kernel
theorem dX1_init_43 : decode cX1_init 43 = .ok (.bipush 10, 2) := by decide +kernel
theorem dX1_init_45 : decode cX1_init 45 = .ok (.newarray .int, 2) := by decide +kernel
theorem dX1_init_47 : decode cX1_init 47 = .ok (.putfield 27, 3) := by decide +kernel
theorem dX1_init_50 : decode cX1_init 50 = .ok (.aload_n 0, 1) := by decide +kernel
theorem dX1_init_51 : decode cX1_init 51 = .ok (.iconst 5, 1) := by decide +kernel
theorem dX1_init_52 : decode cX1_init 52 = .ok (.newarray .int, 2) := by decide +kernel
theorem dX1_init_54 : decode cX1_init 54 = .ok (.putfield 30, 3) := by decide +kernel
theorem dX1_init_57 : decode cX1_init 57 = .ok (.aload_n 0, 1) := by decide +kernel
theorem dX1_init_58 : decode cX1_init 58 = .ok (.iconst 5, 1) := by decide +kernel
theorem dX1_init_59 : decode cX1_init 59 = .ok (.newarray .int, 2) := by decide +kernel
theorem dX1_init_61 : decode cX1_init 61 = .ok (.putfield 33, 3) := by decide +kernel
theorem dX1_init_64 : decode cX1_init 64 = .ok (.aload_n 0, 1) := by decide +kernel
theorem dX1_init_65 : decode cX1_init 65 = .ok (.iconst 5, 1) := by decide +kernel
theorem dX1_init_66 : decode cX1_init 66 = .ok (.newarray .int, 2) := by decide +kernel
theorem dX1_init_68 : decode cX1_init 68 = .ok (.putfield 36, 3) := by decide +kernel
theorem dX1_init_71 : decode cX1_init 71 = .ok (.aload_n 0, 1) := by decide +kernel
theorem dX1_init_72 : decode cX1_init 72 = .ok (.iconst 5, 1) := by decide +kernel
theorem dX1_init_73 : decode cX1_init 73 = .ok (.newarray .int, 2) := by decide +kernel
theorem dX1_init_75 : decode cX1_init 75 = .ok (.putfield 39, 3) := by decide +kernel
theorem dX1_init_78 : decode cX1_init 78 = .ok (.return_, 1) := by decide +kernel
theorem dX1_begin_0 : decode cX1_begin 0 = .ok (.aload_n 0, 1) := by decide +kernel
theorem dX1_begin_1 : decode cX1_begin 1 = .ok (.iconst 1, 1) := by decide +kernel
theorem dX1_begin_2 : decode cX1_begin 2 = .ok (.putfield 42, 3) := by decide +kernel
theorem dX1_begin_5 : decode cX1_begin 5 = .ok (.aload_n 0, 1) := by decide +kernel
theorem dX1_begin_6 : decode cX1_begin 6 = .ok (.iconst 0, 1) := by decide +kernel
theorem dX1_begin_7 : decode cX1_begin 7 = .ok (.putfield 46, 3) := by decide +kernel
theorem dX1_begin_10 : decode cX1_begin 10 = .ok (.aload_n 0, 1) := by decide +kernel
theorem dX1_begin_11 : decode cX1_begin 11 = .ok (.iconst 0, 1) := by decide +kernel
theorem dX1_begin_12 : decode cX1_begin 12 = .ok (.putfield 50, 3) := by decide +kernel
theorem dX1_begin_15 : decode cX1_begin 15 = .ok (.aload_n 0, 1) := by decide +kernel
theorem dX1_begin_16 : decode cX1_begin 16 = .ok (.iconst 0, 1) := by decide +kernel
theorem dX1_begin_17 : decode cX1_begin 17 = .ok (.putfield 53, 3) := by decide +kernel
theorem dX1_begin_20 : decode cX1_begin 20 = .ok (.aload_n 0, 1) := by decide +kernel
theorem dX1_begin_21 : decode cX1_begin 21 = .ok (.iconst 0, 1) := by decide +kernel
theorem dX1_begin_22 : decode cX1_begin 22 = .ok (.putfield 56, 3) := by decide +kernel
theorem dX1_begin_25 : decode cX1_begin 25 = .ok (.aload_n 0, 1) := by decide +kernel
theorem dX1_begin_26 : decode cX1_begin 26 = .ok (.iconst 0, 1) := by decide +kernel
theorem dX1_begin_27 : decode cX1_begin 27 = .ok (.putfield 59, 3) := by decide +kernel
theorem dX1_begin_30 : decode cX1_begin 30 = .ok (.aload_n 0, 1) := by decide +kernel
theorem dX1_begin_31 : decode cX1_begin 31 = .ok (.iconst 0, 1) := by decide +kernel
theorem dX1_begin_32 : decode cX1_begin 32 = .ok (.putfield 62, 3) := by decide +kernel
theorem dX1_begin_35 : decode cX1_begin 35 = .ok (.return_, 1) := by decide +kernel
theorem dX1_become_0 : decode cX1_become 0 = .ok (.aload_n 0, 1) := by decide +kernel
theorem dX1_become_1 : decode cX1_become 1 = .ok (.aload_n 1, 1) := by decide +kernel
theorem dX1_become_2 : decode cX1_become 2 = .ok (.getfield 42, 3) := by decide +kernel
theorem dX1_become_5 : decode cX1_become 5 = .ok (.putfield 42, 3) := by decide +kernel
theorem dX1_become_8 : decode cX1_become 8 = .ok (.aload_n 0, 1) := by decide +kernel
theorem dX1_become_9 : decode cX1_become 9 = .ok (.aload_n 1, 1) := by decide +kernel
theorem dX1_become_10 : decode cX1_become 10 = .ok (.getfield 65, 3) := by decide +kernel
theorem dX1_become_13 : decode cX1_become 13 = .ok (.putfield 65, 3) := by decide +kernel
theorem dX1_become_16 : decode cX1_become 16 = .ok (.aload_n 0, 1) := by decide +kernel
theorem dX1_become_17 : decode cX1_become 17 = .ok (.aload_n 1, 1) := by decide +kernel
theorem dX1_become_18 : decode cX1_become 18 = .ok (.getfield 68, 3) := by decide +kernel
theorem dX1_become_21 : decode cX1_become 21 = .ok (.putfield 68, 3) := by decide +kernel
theorem dX1_become_24 : decode cX1_become 24 = .ok (.aload_n 0, 1) := by decide +kernel
theorem dX1_become_25 : decode cX1_become 25 = .ok (.aload_n 1, 1) := by decide +kernel
theorem dX1_become_26 : decode cX1_become 26 = .ok (.getfield 46, 3) := by decide +kernel
theorem dX1_become_29 : decode cX1_become 29 = .ok (.putfield 46, 3) := by decide +kernel
theorem dX1_become_32 : decode cX1_become 32 = .ok (.aload_n 0, 1) := by decide +kernel
theorem dX1_become_33 : decode cX1_become 33 = .ok (.aload_n 1, 1) := by decide +kernel
theorem dX1_become_34 : decode cX1_become 34 = .ok (.getfield 50, 3) := by decide +kernel
theorem dX1_become_37 : decode cX1_become 37 = .ok (.putfield 50, 3) := by decide +kernel
theorem dX1_become_40 : decode cX1_become 40 = .ok (.aload_n 0, 1) := by decide +kernel
theorem dX1_become_41 : decode cX1_become 41 = .ok (.aload_n 1, 1) := by decide +kernel
theorem dX1_become_42 : decode cX1_become 42 = .ok (.getfield 53, 3) := by decide +kernel
theorem dX1_become_45 : decode cX1_become 45 = .ok (.putfield 53, 3) := by decide +kernel
theorem dX1_become_48 : decode cX1_become 48 = .ok (.aload_n 0, 1) := by decide +kernel
theorem dX1_become_49 : decode cX1_become 49 = .ok (.aload_n 1, 1) := by decide +kernel
theorem dX1_become_50 : decode cX1_become 50 = .ok (.getfield 56, 3) := by decide +kernel
theorem dX1_become_53 : decode cX1_become 53 = .ok (.putfield 56, 3) := by decide +kernel
theorem dX1_become_56 : decode cX1_become 56 = .ok (.aload_n 0, 1) := by decide +kernel
theorem dX1_become_57 : decode cX1_become 57 = .ok (.aload_n 1, 1) := by decide +kernel
theorem dX1_become_58 : decode cX1_become 58 = .ok (.getfield 59, 3) := by decide +kernel
theorem dX1_become_61 : decode cX1_become 61 = .ok (.putfield 59, 3) := by decide +kernel
theorem dX1_become_64 : decode cX1_become 64 = .ok (.aload_n 0, 1) := by decide +kernel
theorem dX1_become_65 : decode cX1_become 65 = .ok (.aload_n 1, 1) := by decide +kernel
theorem dX1_become_66 : decode cX1_become 66 = .ok (.getfield 62, 3) := by decide +kernel
theorem dX1_become_69 : decode cX1_become 69 = .ok (.putfield 62, 3) := by decide +kernel
theorem dX1_become_72 : decode cX1_become 72 = .ok (.aload_n 1, 1) := by decide +kernel
theorem dX1_become_73 : decode cX1_become 73 = .ok (.getfield 9, 3) := by decide +kernel
theorem dX1_become_76 : decode cX1_become 76 = .ok (.iconst 0, 1) := by decide +kernel
theorem dX1_become_77 : decode cX1_become 77 = .ok (.aload_n 0, 1) := by decide +kernel
theorem dX1_become_78 : decode cX1_become 78 = .ok (.getfield 9, 3) := by decide +kernel
theorem dX1_become_81 : decode cX1_become 81 = .ok (.iconst 0, 1) := by decide +kernel
theorem dX1_become_82 : decode cX1_become 82 = .ok (.iconst 4, 1) := by decide +kernel
theorem dX1_become_83 : decode cX1_become 83 = .ok (.invokestatic 71, 3) := by decide +kernel
theorem dX1_become_86 : decode cX1_become 86 = .ok (.aload_n 1, 1) := by decide +kernel
theorem dX1_become_87 : decode cX1_become 87 = .ok (.getfield 15, 3) := by decide +kernel
theorem dX1_become_90 : decode cX1_become 90 = .ok (.iconst 0, 1) := by decide +kernel
theorem dX1_become_91 : decode cX1_become 91 = .ok (.aload_n 0, 1) := by decide +kernel
theorem dX1_become_92 : decode cX1_become 92 = .ok (.getfield 15, 3) := by decide +kernel
theorem dX1_become_95 : decode cX1_become 95 = .ok (.iconst 0, 1) := by decide +kernel
theorem dX1_become_96 : decode cX1_become 96 = .ok (.iconst 4, 1) := by decide +kernel
theorem dX1_become_97 : decode cX1_become 97 = .ok (.invokestatic 71, 3) := by decide +kernel
theorem dX1_become_100 : decode cX1_become 100 = .ok (.aload_n 1, 1) := by decide +kernel
theorem dX1_become_101 : decode cX1_become 101 = .ok (.getfield 18, 3) := by decide +kernel
theorem dX1_become_104 : decode cX1_become 104 = .ok (.iconst 0, 1) := by decide +kernel
theorem dX1_become_105 : decode cX1_become 105 = .ok (.aload_n 0, 1) := by decide +kernel
theorem dX1_become_106 : decode cX1_become 106 = .ok (.getfield 18, 3) := by decide +kernel
theorem dX1_become_109 : decode cX1_become 109 = .ok (.iconst 0, 1) := by decide +kernel
theorem dX1_become_110 : decode cX1_become 110 = .ok (.bipush 10, 2) := by decide +kernel
theorem dX1_become_112 : decode cX1_become 112 = .ok (.invokestatic 71, 3) := by decide +kernel
theorem dX1_become_115 : decode cX1_become 115 = .ok (.aload_n 1, 1) := by decide +kernel
theorem dX1_become_116 : decode cX1_become 116 = .ok (.getfield 21, 3) := by decide +kernel
theorem dX1_become_119 : decode cX1_become 119 = .ok (.iconst 0, 1) := by decide +kernel
theorem dX1_become_120 : decode cX1_become 120 = .ok (.aload_n 0, 1) := by decide +kernel
theorem dX1_become_121 : decode cX1_become 121 = .ok (.getfield 21, 3) := by decide +kernel
theorem dX1_become_124 : decode cX1_become 124 = .ok (.iconst 0, 1) := by decide +kernel
theorem dX1_become_125 : decode cX1_become 125 = .ok (.bipush 10, 2) := by decide +kernel
theorem dX1_become_127 : decode cX1_become 127 = .ok (.invokestatic 71, 3) := by decide +kernel
theorem dX1_become_130 : decode cX1_become 130 = .ok (.aload_n 1, 1) := by decide +kernel
theorem dX1_become_131 : decode cX1_become 131 = .ok (.getfield 24, 3) := by decide +kernel
theorem dX1_become_134 : decode cX1_become 134 = .ok (.iconst 0, 1) := by decide +kernel
theorem dX1_become_135 : decode cX1_become 135 = .ok (.aload_n 0, 1) := by decide +kernel
theorem dX1_become_136 : decode cX1_become 136 = .ok (.getfield 24, 3) := by decide +kernel
theorem dX1_become_139 : decode cX1_become 139 = .ok (.iconst 0, 1) := by decide +kernel
theorem dX1_become_140 : decode cX1_become 140 = .ok (.bipush 10, 2) := by decide +kernel
theorem dX1_become_142 : decode cX1_become 142 = .ok (.invokestatic 71, 3) := by decide +kernel
theorem dX1_become_145 : decode cX1_become 145 = .ok (.aload_n 1, 1) := by decide +kernel
theorem dX1_become_146 : decode cX1_become 146 = .ok (.getfield 27, 3) := by decide +kernel
theorem dX1_become_149 : decode cX1_become 149 = .ok (.iconst 0, 1) := by decide +kernel
theorem dX1_become_150 : decode cX1_become 150 = .ok (.aload_n 0, 1) := by decide +kernel
theorem dX1_become_151 : decode cX1_become 151 = .ok (.getfield 27, 3) := by decide +kernel
theorem dX1_become_154 : decode cX1_become 154 = .ok (.iconst 0, 1) := by decide +kernel
theorem dX1_become_155 : decode cX1_become 155 = .ok (.bipush 10, 2) := by decide +kernel
theorem dX1_become_157 : decode cX1_become 157 = .ok (.invokestatic 71, 3) := by decide +kernel
theorem dX1_become_160 : decode cX1_become 160 = .ok (.aload_n 1, 1) := by decide +kernel
theorem dX1_become_161 : decode cX1_become 161 = .ok (.getfield 30, 3) := by decide +kernel
theorem dX1_become_164 : decode cX1_become 164 = .ok (.iconst 0, 1) := by decide +kernel
theorem dX1_become_165 : decode cX1_become 165 = .ok (.aload_n 0, 1) := by decide +kernel
theorem dX1_become_166 : decode cX1_become 166 = .ok (.getfield 30, 3) := by decide +kernel
theorem dX1_become_169 : decode cX1_become 169 = .ok (.iconst 0, 1) := by decide +kernel
theorem dX1_become_170 : decode cX1_become 170 = .ok (.iconst 5, 1) := by decide +kernel
theorem dX1_become_171 : decode cX1_become 171 = .ok (.invokestatic 71, 3) := by decide +kernel
theorem dX1_become_174 : decode cX1_become 174 = .ok (.aload_n 1, 1) := by decide +kernel
theorem dX1_become_175 : decode cX1_become 175 = .ok (.getfield 33, 3) := by decide +kernel
theorem dX1_become_178 : decode cX1_become 178 = .ok (.iconst 0, 1) := by decide +kernel
theorem dX1_become_179 : decode cX1_become 179 = .ok (.aload_n 0, 1) := by decide +kernel
theorem dX1_become_180 : decode cX1_become 180 = .ok (.getfield 33, 3) := by decide +kernel
theorem dX1_become_183 : decode cX1_become 183 = .ok (.iconst 0, 1) := by decide +kernel
theorem dX1_become_184 : decode cX1_become 184 = .ok (.iconst 5, 1) := by decide +kernel
theorem dX1_become_185 : decode cX1_become 185 = .ok (.invokestatic 71, 3) := by decide +kernel
theorem dX1_become_188 : decode cX1_become 188 = .ok (.aload_n 1, 1) := by decide +kernel
theorem dX1_become_189 : decode cX1_become 189 = .ok (.getfield 36, 3) := by decide +kernel
theorem dX1_become_192 : decode cX1_become 192 = .ok (.iconst 0, 1) := by decide +kernel
theorem dX1_become_193 : decode cX1_become 193 = .ok (.aload_n 0, 1) := by decide +kernel
theorem dX1_become_194 : decode cX1_become 194 = .ok (.getfield 36, 3) := by decide +kernel
theorem dX1_become_197 : decode cX1_become 197 = .ok (.iconst 0, 1) := by decide +kernel
theorem dX1_become_198 : decode cX1_become 198 = .ok (.iconst 5, 1) := by decide +kernel
theorem dX1_become_199 : decode cX1_become 199 = .ok (.invokestatic 71, 3) := by decide +kernel
theorem dX1_become_202 : decode cX1_become 202 = .ok (.aload_n 1, 1) := by decide +kernel
theorem dX1_become_203 : decode cX1_become 203 = .ok (.getfield 39, 3) := by decide +kernel
theorem dX1_become_206 : decode cX1_become 206 = .ok (.iconst 0, 1) := by decide +kernel
theorem dX1_become_207 : decode cX1_become 207 = .ok (.aload_n 0, 1) := by decide +kernel
theorem dX1_become_208 : decode cX1_become 208 = .ok (.getfield 39, 3) := by decide +kernel
theorem dX1_become_211 : decode cX1_become 211 = .ok (.iconst 0, 1) := by decide +kernel
theorem dX1_become_212 : decode cX1_become 212 = .ok (.iconst 5, 1) := by decide +kernel
theorem dX1_become_213 : decode cX1_become 213 = .ok (.invokestatic 71, 3) := by decide +kernel
theorem dX1_become_216 : decode cX1_become 216 = .ok (.return_, 1) := by decide +kernel
theorem dX1_addHand_0 : decode cX1_addHand 0 = .ok (.aload_n 0, 1) := by decide +kernel
theorem dX1_addHand_1 : decode cX1_addHand 1 = .ok (.getfield 56, 3) := by decide +kernel
theorem dX1_addHand_4 : decode cX1_addHand 4 = .ok (.iconst 4, 1) := by decide +kernel
theorem dX1_addHand_5 : decode cX1_addHand 5 = .ok (.if_icmp .lt 4, 3) := by decide +kernel
theorem dX1_addHand_8 : decode cX1_addHand 8 = .ok (.return_, 1) := by decide +kernel
theorem dX1_addHand_9 : decode cX1_addHand 9 = .ok (.aload_n 0, 1) := by decide +kernel
theorem dX1_addHand_10 : decode cX1_addHand 10 = .ok (.getfield 9, 3) := by decide +kernel
theorem dX1_addHand_13 : decode cX1_addHand 13 = .ok (.aload_n 0, 1) := by decide +kernel
theorem dX1_addHand_14 : decode cX1_addHand 14 = .ok (.getfield 56, 3) := by decide +kernel
theorem dX1_addHand_17 : decode cX1_addHand 17 = .ok (.iload_n 1, 1) := by decide +kernel
theorem dX1_addHand_18 : decode cX1_addHand 18 = .ok (.iastore, 1) := by decide +kernel
theorem dX1_addHand_19 : decode cX1_addHand 19 = .ok (.aload_n 0, 1) := by decide +kernel
theorem dX1_addHand_20 : decode cX1_addHand 20 = .ok (.getfield 15, 3) := by decide +kernel
theorem dX1_addHand_23 : decode cX1_addHand 23 = .ok (.aload_n 0, 1) := by decide +kernel
theorem dX1_addHand_24 : decode cX1_addHand 24 = .ok (.getfield 56, 3) := by decide +kernel
theorem dX1_addHand_27 : decode cX1_addHand 27 = .ok (.iload_n 2, 1) := by decide +kernel
theorem dX1_addHand_28 : decode cX1_addHand 28 = .ok (.iastore, 1) := by decide +kernel
theorem dX1_addHand_29 : decode cX1_addHand 29 = .ok (.aload_n 0, 1) := by decide +kernel
theorem dX1_addHand_30 : decode cX1_addHand 30 = .ok (.dup, 1) := by decide +kernel
theorem dX1_addHand_31 : decode cX1_addHand 31 = .ok (.getfield 56, 3) := by decide +kernel
theorem dX1_addHand_34 : decode cX1_addHand 34 = .ok (.iconst 1, 1) := by decide +kernel
theorem dX1_addHand_35 : decode cX1_addHand 35 = .ok (.iadd, 1) := by decide +kernel
theorem dX1_addHand_36 : decode cX1_addHand 36 = .ok (.putfield 56, 3) := by decide +kernel
theorem dX1_addHand_39 : decode cX1_addHand 39 = .ok (.return_, 1) := by decide +kernel
theorem dX1_addCopy_0 : decode cX1_addCopy 0 = .ok (.aload_n 0, 1) := by decide +kernel
theorem dX1_addCopy_1 : decode cX1_addCopy 1 = .ok (.getfield 59, 3) := by decide +kernel
theorem dX1_addCopy_4 : decode cX1_addCopy 4 = .ok (.bipush 10, 2) := by decide +kernel
theorem dX1_addCopy_6 : decode cX1_addCopy 6 = .ok (.if_icmp .lt 4, 3) := by decide +kernel
theorem dX1_addCopy_9 : decode cX1_addCopy 9 = .ok (.return_, 1) := by decide +kernel
theorem dX1_addCopy_10 : decode cX1_addCopy 10 = .ok (.aload_n 0, 1) := by decide +kernel
theorem dX1_addCopy_11 : decode cX1_addCopy 11 = .ok (.getfield 18, 3) := by decide +kernel
theorem dX1_addCopy_14 : decode cX1_addCopy 14 = .ok (.aload_n 0, 1) := by decide +kernel
theorem dX1_addCopy_15 : decode cX1_addCopy 15 = .ok (.getfield 59, 3) := by decide +kernel
theorem dX1_addCopy_18 : decode cX1_addCopy 18 = .ok (.iload_n 1, 1) := by decide +kernel
theorem dX1_addCopy_19 : decode cX1_addCopy 19 = .ok (.iastore, 1) := by decide +kernel
theorem dX1_addCopy_20 : decode cX1_addCopy 20 = .ok (.aload_n 0, 1) := by decide +kernel
theorem dX1_addCopy_21 : decode cX1_addCopy 21 = .ok (.getfield 21, 3) := by decide +kernel
theorem dX1_addCopy_24 : decode cX1_addCopy 24 = .ok (.aload_n 0, 1) := by decide +kernel
theorem dX1_addCopy_25 : decode cX1_addCopy 25 = .ok (.getfield 59, 3) := by decide +kernel
theorem dX1_addCopy_28 : decode cX1_addCopy 28 = .ok (.iload_n 2, 1) := by decide +kernel
theorem dX1_addCopy_29 : decode cX1_addCopy 29 = .ok (.iastore, 1) := by decide +kernel
theorem dX1_addCopy_30 : decode cX1_addCopy 30 = .ok (.aload_n 0, 1) := by decide +kernel
theorem dX1_addCopy_31 : decode cX1_addCopy 31 = .ok (.getfield 24, 3) := by decide +kernel
theorem dX1_addCopy_34 : decode cX1_addCopy 34 = .ok (.aload_n 0, 1) := by decide +kernel
theorem dX1_addCopy_35 : decode cX1_addCopy 35 = .ok (.getfield 59, 3) := by decide +kernel
theorem dX1_addCopy_38 : decode cX1_addCopy 38 = .ok (.iload_n 3, 1) := by decide +kernel
theorem dX1_addCopy_39 : decode cX1_addCopy 39 = .ok (.iastore, 1) := by decide +kernel
theorem dX1_addCopy_40 : decode cX1_addCopy 40 = .ok (.aload_n 0, 1) := by decide +kernel
theorem dX1_addCopy_41 : decode cX1_addCopy 41 = .ok (.getfield 27, 3) := by decide +kernel
theorem dX1_addCopy_44 : decode cX1_addCopy 44 = .ok (.aload_n 0, 1) := by decide +kernel
theorem dX1_addCopy_45 : decode cX1_addCopy 45 = .ok (.getfield 59, 3) := by decide +kernel
theorem dX1_addCopy_48 : decode cX1_addCopy 48 = .ok (.aload_n 0, 1) := by decide +kernel
theorem dX1_addCopy_49 : decode cX1_addCopy 49 = .ok (.getfield 46, 3) := by decide +kernel
theorem dX1_addCopy_52 : decode cX1_addCopy 52 = .ok (.iastore, 1) := by decide +kernel
theorem dX1_addCopy_53 : decode cX1_addCopy 53 = .ok (.aload_n 0, 1) := by decide +kernel
theorem dX1_addCopy_54 : decode cX1_addCopy 54 = .ok (.dup, 1) := by decide +kernel
theorem dX1_addCopy_55 : decode cX1_addCopy 55 = .ok (.getfield 59, 3) := by decide +kernel
theorem dX1_addCopy_58 : decode cX1_addCopy 58 = .ok (.iconst 1, 1) := by decide +kernel
theorem dX1_addCopy_59 : decode cX1_addCopy 59 = .ok (.iadd, 1) := by decide +kernel
theorem dX1_addCopy_60 : decode cX1_addCopy 60 = .ok (.putfield 59, 3) := by decide +kernel
theorem dX1_addCopy_63 : decode cX1_addCopy 63 = .ok (.return_, 1) := by decide +kernel
theorem dX1_addDeed_0 : decode cX1_addDeed 0 = .ok (.aload_n 0, 1) := by decide +kernel
theorem dX1_addDeed_1 : decode cX1_addDeed 1 = .ok (.getfield 62, 3) := by decide +kernel
theorem dX1_addDeed_4 : decode cX1_addDeed 4 = .ok (.iconst 5, 1) := by decide +kernel
theorem dX1_addDeed_5 : decode cX1_addDeed 5 = .ok (.if_icmp .lt 4, 3) := by decide +kernel
theorem dX1_addDeed_8 : decode cX1_addDeed 8 = .ok (.return_, 1) := by decide +kernel
theorem dX1_addDeed_9 : decode cX1_addDeed 9 = .ok (.aload_n 0, 1) := by decide +kernel
theorem dX1_addDeed_10 : decode cX1_addDeed 10 = .ok (.getfield 33, 3) := by decide +kernel
theorem dX1_addDeed_13 : decode cX1_addDeed 13 = .ok (.aload_n 0, 1) := by decide +kernel
theorem dX1_addDeed_14 : decode cX1_addDeed 14 = .ok (.getfield 62, 3) := by decide +kernel
theorem dX1_addDeed_17 : decode cX1_addDeed 17 = .ok (.iload_n 1, 1) := by decide +kernel
theorem dX1_addDeed_18 : decode cX1_addDeed 18 = .ok (.iastore, 1) := by decide +kernel
theorem dX1_addDeed_19 : decode cX1_addDeed 19 = .ok (.aload_n 0, 1) := by decide +kernel
theorem dX1_addDeed_20 : decode cX1_addDeed 20 = .ok (.getfield 30, 3) := by decide +kernel
theorem dX1_addDeed_23 : decode cX1_addDeed 23 = .ok (.aload_n 0, 1) := by decide +kernel
theorem dX1_addDeed_24 : decode cX1_addDeed 24 = .ok (.getfield 62, 3) := by decide +kernel
theorem dX1_addDeed_27 : decode cX1_addDeed 27 = .ok (.iload_n 2, 1) := by decide +kernel
theorem dX1_addDeed_28 : decode cX1_addDeed 28 = .ok (.iastore, 1) := by decide +kernel
theorem dX1_addDeed_29 : decode cX1_addDeed 29 = .ok (.aload_n 0, 1) := by decide +kernel
theorem dX1_addDeed_30 : decode cX1_addDeed 30 = .ok (.getfield 36, 3) := by decide +kernel
theorem dX1_addDeed_33 : decode cX1_addDeed 33 = .ok (.aload_n 0, 1) := by decide +kernel
theorem dX1_addDeed_34 : decode cX1_addDeed 34 = .ok (.getfield 62, 3) := by decide +kernel
theorem dX1_addDeed_37 : decode cX1_addDeed 37 = .ok (.iload_n 3, 1) := by decide +kernel
theorem dX1_addDeed_38 : decode cX1_addDeed 38 = .ok (.iastore, 1) := by decide +kernel
theorem dX1_addDeed_39 : decode cX1_addDeed 39 = .ok (.aload_n 0, 1) := by decide +kernel
theorem dX1_addDeed_40 : decode cX1_addDeed 40 = .ok (.getfield 39, 3) := by decide +kernel
theorem dX1_addDeed_43 : decode cX1_addDeed 43 = .ok (.aload_n 0, 1) := by decide +kernel
theorem dX1_addDeed_44 : decode cX1_addDeed 44 = .ok (.getfield 62, 3) := by decide +kernel
theorem dX1_addDeed_47 : decode cX1_addDeed 47 = .ok (.iload 4, 2) := by decide +kernel
theorem dX1_addDeed_49 : decode cX1_addDeed 49 = .ok (.iastore, 1) := by decide +kernel
theorem dX1_addDeed_50 : decode cX1_addDeed 50 = .ok (.aload_n 0, 1) := by decide +kernel
theorem dX1_addDeed_51 : decode cX1_addDeed 51 = .ok (.dup, 1) := by decide +kernel
theorem dX1_addDeed_52 : decode cX1_addDeed 52 = .ok (.getfield 62, 3) := by decide +kernel
theorem dX1_addDeed_55 : decode cX1_addDeed 55 = .ok (.iconst 1, 1) := by decide +kernel
theorem dX1_addDeed_56 : decode cX1_addDeed 56 = .ok (.iadd, 1) := by decide +kernel
theorem dX1_addDeed_57 : decode cX1_addDeed 57 = .ok (.putfield 62, 3) := by decide +kernel
theorem dX1_addDeed_60 : decode cX1_addDeed 60 = .ok (.return_, 1) := by decide +kernel
theorem dX1_limitOf_0 : decode cX1_limitOf 0 = .ok (.aload_n 0, 1) := by decide +kernel
theorem dX1_limitOf_1 : decode cX1_limitOf 1 = .ok (.getfield 9, 3) := by decide +kernel
theorem dX1_limitOf_4 : decode cX1_limitOf 4 = .ok (.iload_n 1, 1) := by decide +kernel
theorem dX1_limitOf_5 : decode cX1_limitOf 5 = .ok (.iaload, 1) := by decide +kernel
theorem dX1_limitOf_6 : decode cX1_limitOf 6 = .ok (.tableswitch 40 2 5 #[30, 40, 34, 38], 30) := by decide +kernel
theorem dX1_limitOf_36 : decode cX1_limitOf 36 = .ok (.iload_n 2, 1) := by decide +kernel
theorem dX1_limitOf_37 : decode cX1_limitOf 37 = .ok (.iconst 2, 1) := by decide +kernel
theorem dX1_limitOf_38 : decode cX1_limitOf 38 = .ok (.idiv, 1) := by decide +kernel
theorem dX1_limitOf_39 : decode cX1_limitOf 39 = .ok (.ireturn, 1) := by decide +kernel
theorem dX1_limitOf_40 : decode cX1_limitOf 40 = .ok (.iload_n 2, 1) := by decide +kernel
theorem dX1_limitOf_41 : decode cX1_limitOf 41 = .ok (.iconst 2, 1) := by decide +kernel
theorem dX1_limitOf_42 : decode cX1_limitOf 42 = .ok (.imul, 1) := by decide +kernel
theorem dX1_limitOf_43 : decode cX1_limitOf 43 = .ok (.ireturn, 1) := by decide +kernel
theorem dX1_limitOf_44 : decode cX1_limitOf 44 = .ok (.iconst (-1), 1) := by decide +kernel
theorem dX1_limitOf_45 : decode cX1_limitOf 45 = .ok (.ireturn, 1) := by decide +kernel
theorem dX1_limitOf_46 : decode cX1_limitOf 46 = .ok (.iload_n 2, 1) := by decide +kernel
theorem dX1_limitOf_47 : decode cX1_limitOf 47 = .ok (.ireturn, 1) := by decide +kernel
theorem dX1_isDrunk_0 : decode cX1_isDrunk 0 = .ok (.aload_n 0, 1) := by decide +kernel
theorem dX1_isDrunk_1 : decode cX1_isDrunk 1 = .ok (.getfield 9, 3) := by decide +kernel
theorem dX1_isDrunk_4 : decode cX1_isDrunk 4 = .ok (.iload_n 1, 1) := by decide +kernel
theorem dX1_isDrunk_5 : decode cX1_isDrunk 5 = .ok (.iaload, 1) := by decide +kernel
theorem dX1_isDrunk_6 : decode cX1_isDrunk 6 = .ok (.iconst 3, 1) := by decide +kernel
theorem dX1_isDrunk_7 : decode cX1_isDrunk 7 = .ok (.if_icmp .ne 7, 3) := by decide +kernel
theorem dX1_isDrunk_10 : decode cX1_isDrunk 10 = .ok (.iconst 1, 1) := by decide +kernel
theorem dX1_isDrunk_11 : decode cX1_isDrunk 11 = .ok (.goto 4, 3) := by decide +kernel
theorem dX1_isDrunk_14 : decode cX1_isDrunk 14 = .ok (.iconst 0, 1) := by decide +kernel
theorem dX1_isDrunk_15 : decode cX1_isDrunk 15 = .ok (.ireturn, 1) := by decide +kernel
theorem dX1_isInLimit_0 : decode cX1_isInLimit 0 = .ok (.iload_n 2, 1) := by decide +kernel
theorem dX1_isInLimit_1 : decode cX1_isInLimit 1 = .ok (.aload_n 0, 1) := by decide +kernel
theorem dX1_isInLimit_2 : decode cX1_isInLimit 2 = .ok (.getfield 27, 3) := by decide +kernel
theorem dX1_isInLimit_5 : decode cX1_isInLimit 5 = .ok (.iload_n 1, 1) := by decide +kernel
theorem dX1_isInLimit_6 : decode cX1_isInLimit 6 = .ok (.iaload, 1) := by decide +kernel
theorem dX1_isInLimit_7 : decode cX1_isInLimit 7 = .ok (.isub, 1) := by decide +kernel
theorem dX1_isInLimit_8 : decode cX1_isInLimit 8 = .ok (.aload_n 0, 1) := by decide +kernel
theorem dX1_isInLimit_9 : decode cX1_isInLimit 9 = .ok (.aload_n 0, 1) := by decide +kernel
theorem dX1_isInLimit_10 : decode cX1_isInLimit 10 = .ok (.getfield 21, 3) := by decide +kernel
theorem dX1_isInLimit_13 : decode cX1_isInLimit 13 = .ok (.iload_n 1, 1) := by decide +kernel
theorem dX1_isInLimit_14 : decode cX1_isInLimit 14 = .ok (.iaload, 1) := by decide +kernel
theorem dX1_isInLimit_15 : decode cX1_isInLimit 15 = .ok (.aload_n 0, 1) := by decide +kernel
theorem dX1_isInLimit_16 : decode cX1_isInLimit 16 = .ok (.getfield 65, 3) := by decide +kernel
theorem dX1_isInLimit_19 : decode cX1_isInLimit 19 = .ok (.invokevirtual 77, 3) := by decide +kernel
theorem dX1_isInLimit_22 : decode cX1_isInLimit 22 = .ok (.if_icmp .gt 7, 3) := by decide +kernel
theorem dX1_isInLimit_25 : decode cX1_isInLimit 25 = .ok (.iconst 1, 1) := by decide +kernel
theorem dX1_isInLimit_26 : decode cX1_isInLimit 26 = .ok (.goto 4, 3) := by decide +kernel
theorem dX1_isInLimit_29 : decode cX1_isInLimit 29 = .ok (.iconst 0, 1) := by decide +kernel
theorem dX1_isInLimit_30 : decode cX1_isInLimit 30 = .ok (.ireturn, 1) := by decide +kernel
theorem dX1_mayRecall_0 : decode cX1_mayRecall 0 = .ok (.iload_n 2, 1) := by decide +kernel
theorem dX1_mayRecall_1 : decode cX1_mayRecall 1 = .ok (.iload_n 1, 1) := by decide +kernel
theorem dX1_mayRecall_2 : decode cX1_mayRecall 2 = .ok (.invokestatic 81, 3) := by decide +kernel
theorem dX1_mayRecall_5 : decode cX1_mayRecall 5 = .ok (.ifCond .ne 16, 3) := by decide +kernel
theorem dX1_mayRecall_8 : decode cX1_mayRecall 8 = .ok (.aload_n 0, 1) := by decide +kernel
theorem dX1_mayRecall_9 : decode cX1_mayRecall 9 = .ok (.iload_n 1, 1) := by decide +kernel
theorem dX1_mayRecall_10 : decode cX1_mayRecall 10 = .ok (.iload_n 3, 1) := by decide +kernel
theorem dX1_mayRecall_11 : decode cX1_mayRecall 11 = .ok (.invokevirtual 84, 3) := by decide +kernel
theorem dX1_mayRecall_14 : decode cX1_mayRecall 14 = .ok (.ifCond .eq 7, 3) := by decide +kernel
theorem dX1_mayRecall_17 : decode cX1_mayRecall 17 = .ok (.iconst 1, 1) := by decide +kernel
theorem dX1_mayRecall_18 : decode cX1_mayRecall 18 = .ok (.goto 4, 3) := by decide +kernel
theorem dX1_mayRecall_21 : decode cX1_mayRecall 21 = .ok (.iconst 0, 1) := by decide +kernel
theorem dX1_mayRecall_22 : decode cX1_mayRecall 22 = .ok (.ireturn, 1) := by decide +kernel
theorem dX1_mayRecallNow_0 : decode cX1_mayRecallNow 0 = .ok (.aload_n 0, 1) := by decide +kernel
theorem dX1_mayRecallNow_1 : decode cX1_mayRecallNow 1 = .ok (.iload_n 1, 1) := by decide +kernel
theorem dX1_mayRecallNow_2 : decode cX1_mayRecallNow 2 = .ok (.aload_n 0, 1) := by decide +kernel
theorem dX1_mayRecallNow_3 : decode cX1_mayRecallNow 3 = .ok (.getfield 53, 3) := by decide +kernel
theorem dX1_mayRecallNow_6 : decode cX1_mayRecallNow 6 = .ok (.aload_n 0, 1) := by decide +kernel
theorem dX1_mayRecallNow_7 : decode cX1_mayRecallNow 7 = .ok (.getfield 46, 3) := by decide +kernel
theorem dX1_mayRecallNow_10 : decode cX1_mayRecallNow 10 = .ok (.invokevirtual 88, 3) := by decide +kernel
theorem dX1_mayRecallNow_13 : decode cX1_mayRecallNow 13 = .ok (.ireturn, 1) := by decide +kernel
theorem dX1_recallableBy_0 : decode cX1_recallableBy 0 = .ok (.iconst 0, 1) := by decide +kernel
theorem dX1_recallableBy_1 : decode cX1_recallableBy 1 = .ok (.istore_n 3, 1) := by decide +kernel
theorem dX1_recallableBy_2 : decode cX1_recallableBy 2 = .ok (.iconst 0, 1) := by decide +kernel
theorem dX1_recallableBy_3 : decode cX1_recallableBy 3 = .ok (.istore 4, 2) := by decide +kernel
theorem dX1_recallableBy_5 : decode cX1_recallableBy 5 = .ok (.iload 4, 2) := by decide +kernel
theorem dX1_recallableBy_7 : decode cX1_recallableBy 7 = .ok (.aload_n 0, 1) := by decide +kernel
theorem dX1_recallableBy_8 : decode cX1_recallableBy 8 = .ok (.getfield 59, 3) := by decide +kernel
theorem dX1_recallableBy_11 : decode cX1_recallableBy 11 = .ok (.if_icmp .ge 81, 3) := by decide +kernel
theorem dX1_recallableBy_14 : decode cX1_recallableBy 14 = .ok (.aload_n 0, 1) := by decide +kernel
theorem dX1_recallableBy_15 : decode cX1_recallableBy 15 = .ok (.getfield 21, 3) := by decide +kernel
theorem dX1_recallableBy_18 : decode cX1_recallableBy 18 = .ok (.iload 4, 2) := by decide +kernel
theorem dX1_recallableBy_20 : decode cX1_recallableBy 20 = .ok (.iaload, 1) := by decide +kernel
theorem dX1_recallableBy_21 : decode cX1_recallableBy 21 = .ok (.istore 5, 2) := by decide +kernel
theorem dX1_recallableBy_23 : decode cX1_recallableBy 23 = .ok (.iload_n 1, 1) := by decide +kernel
theorem dX1_recallableBy_24 : decode cX1_recallableBy 24 = .ok (.iload 5, 2) := by decide +kernel
theorem dX1_recallableBy_26 : decode cX1_recallableBy 26 = .ok (.invokestatic 81, 3) := by decide +kernel
theorem dX1_recallableBy_29 : decode cX1_recallableBy 29 = .ok (.iconst 1, 1) := by decide +kernel
theorem dX1_recallableBy_30 : decode cX1_recallableBy 30 = .ok (.if_icmp .ne 19, 3) := by decide +kernel
theorem dX1_recallableBy_33 : decode cX1_recallableBy 33 = .ok (.aload_n 0, 1) := by decide +kernel
theorem dX1_recallableBy_34 : decode cX1_recallableBy 34 = .ok (.getfield 53, 3) := by decide +kernel
theorem dX1_recallableBy_37 : decode cX1_recallableBy 37 = .ok (.iload 4, 2) := by decide +kernel
theorem dX1_recallableBy_39 : decode cX1_recallableBy 39 = .ok (.invokestatic 81, 3) := by decide +kernel
theorem dX1_recallableBy_42 : decode cX1_recallableBy 42 = .ok (.ifCond .ne 7, 3) := by decide +kernel
theorem dX1_recallableBy_45 : decode cX1_recallableBy 45 = .ok (.iconst 1, 1) := by decide +kernel
theorem dX1_recallableBy_46 : decode cX1_recallableBy 46 = .ok (.goto 4, 3) := by decide +kernel
theorem dX1_recallableBy_49 : decode cX1_recallableBy 49 = .ok (.iconst 0, 1) := by decide +kernel
theorem dX1_recallableBy_50 : decode cX1_recallableBy 50 = .ok (.istore 6, 2) := by decide +kernel
theorem dX1_recallableBy_52 : decode cX1_recallableBy 52 = .ok (.iload 6, 2) := by decide +kernel
theorem dX1_recallableBy_54 : decode cX1_recallableBy 54 = .ok (.ifCond .eq 32, 3) := by decide +kernel
theorem dX1_recallableBy_57 : decode cX1_recallableBy 57 = .ok (.aload_n 0, 1) := by decide +kernel
theorem dX1_recallableBy_58 : decode cX1_recallableBy 58 = .ok (.getfield 46, 3) := by decide +kernel
theorem dX1_recallableBy_61 : decode cX1_recallableBy 61 = .ok (.aload_n 0, 1) := by decide +kernel
theorem dX1_recallableBy_62 : decode cX1_recallableBy 62 = .ok (.getfield 27, 3) := by decide +kernel
theorem dX1_recallableBy_65 : decode cX1_recallableBy 65 = .ok (.iload 4, 2) := by decide +kernel
theorem dX1_recallableBy_67 : decode cX1_recallableBy 67 = .ok (.iaload, 1) := by decide +kernel
theorem dX1_recallableBy_68 : decode cX1_recallableBy 68 = .ok (.isub, 1) := by decide +kernel
theorem dX1_recallableBy_69 : decode cX1_recallableBy 69 = .ok (.aload_n 0, 1) := by decide +kernel
theorem dX1_recallableBy_70 : decode cX1_recallableBy 70 = .ok (.iload 5, 2) := by decide +kernel
theorem dX1_recallableBy_72 : decode cX1_recallableBy 72 = .ok (.iload_n 2, 1) := by decide +kernel
theorem dX1_recallableBy_73 : decode cX1_recallableBy 73 = .ok (.invokevirtual 77, 3) := by decide +kernel
theorem dX1_recallableBy_76 : decode cX1_recallableBy 76 = .ok (.if_icmp .gt 10, 3) := by decide +kernel
theorem dX1_recallableBy_79 : decode cX1_recallableBy 79 = .ok (.iload_n 3, 1) := by decide +kernel
theorem dX1_recallableBy_80 : decode cX1_recallableBy 80 = .ok (.iconst 1, 1) := by decide +kernel
theorem dX1_recallableBy_81 : decode cX1_recallableBy 81 = .ok (.iload 4, 2) := by decide +kernel
theorem dX1_recallableBy_83 : decode cX1_recallableBy 83 = .ok (.ishl, 1) := by decide +kernel
theorem dX1_recallableBy_84 : decode cX1_recallableBy 84 = .ok (.ior, 1) := by decide +kernel
theorem dX1_recallableBy_85 : decode cX1_recallableBy 85 = .ok (.istore_n 3, 1) := by decide +kernel
theorem dX1_recallableBy_86 : decode cX1_recallableBy 86 = .ok (.iinc 4 1, 3) := by decide +kernel
theorem dX1_recallableBy_89 : decode cX1_recallableBy 89 = .ok (.goto (-84), 3) := by decide +kernel
theorem dX1_recallableBy_92 : decode cX1_recallableBy 92 = .ok (.iload_n 3, 1) := by decide +kernel
theorem dX1_recallableBy_93 : decode cX1_recallableBy 93 = .ok (.ireturn, 1) := by decide +kernel
theorem dX1_whiteAfter_0 : decode cX1_whiteAfter 0 = .ok (.aload_n 0, 1) := by decide +kernel
theorem dX1_whiteAfter_1 : decode cX1_whiteAfter 1 = .ok (.getfield 53, 3) := by decide +kernel
theorem dX1_whiteAfter_4 : decode cX1_whiteAfter 4 = .ok (.aload_n 0, 1) := by decide +kernel
theorem dX1_whiteAfter_5 : decode cX1_whiteAfter 5 = .ok (.iload_n 1, 1) := by decide +kernel
theorem dX1_whiteAfter_6 : decode cX1_whiteAfter 6 = .ok (.iload_n 2, 1) := by decide +kernel
theorem dX1_whiteAfter_7 : decode cX1_whiteAfter 7 = .ok (.invokevirtual 92, 3) := by decide +kernel
theorem dX1_whiteAfter_10 : decode cX1_whiteAfter 10 = .ok (.ior, 1) := by decide +kernel
theorem dX1_whiteAfter_11 : decode cX1_whiteAfter 11 = .ok (.ireturn, 1) := by decide +kernel
theorem dX1_copiesBy_0 : decode cX1_copiesBy 0 = .ok (.iconst 0, 1) := by decide +kernel
theorem dX1_copiesBy_1 : decode cX1_copiesBy 1 = .ok (.istore_n 2, 1) := by decide +kernel
theorem dX1_copiesBy_2 : decode cX1_copiesBy 2 = .ok (.iconst 0, 1) := by decide +kernel
theorem dX1_copiesBy_3 : decode cX1_copiesBy 3 = .ok (.istore_n 3, 1) := by decide +kernel
theorem dX1_copiesBy_4 : decode cX1_copiesBy 4 = .ok (.iload_n 3, 1) := by decide +kernel
theorem dX1_copiesBy_5 : decode cX1_copiesBy 5 = .ok (.aload_n 0, 1) := by decide +kernel
theorem dX1_copiesBy_6 : decode cX1_copiesBy 6 = .ok (.getfield 59, 3) := by decide +kernel
theorem dX1_copiesBy_9 : decode cX1_copiesBy 9 = .ok (.if_icmp .ge 25, 3) := by decide +kernel
theorem dX1_copiesBy_12 : decode cX1_copiesBy 12 = .ok (.aload_n 0, 1) := by decide +kernel
theorem dX1_copiesBy_13 : decode cX1_copiesBy 13 = .ok (.getfield 21, 3) := by decide +kernel
theorem dX1_copiesBy_16 : decode cX1_copiesBy 16 = .ok (.iload_n 3, 1) := by decide +kernel
theorem dX1_copiesBy_17 : decode cX1_copiesBy 17 = .ok (.iaload, 1) := by decide +kernel
theorem dX1_copiesBy_18 : decode cX1_copiesBy 18 = .ok (.iload_n 1, 1) := by decide +kernel
theorem dX1_copiesBy_19 : decode cX1_copiesBy 19 = .ok (.if_icmp .ne 9, 3) := by decide +kernel
theorem dX1_copiesBy_22 : decode cX1_copiesBy 22 = .ok (.iload_n 2, 1) := by decide +kernel
theorem dX1_copiesBy_23 : decode cX1_copiesBy 23 = .ok (.iconst 1, 1) := by decide +kernel
theorem dX1_copiesBy_24 : decode cX1_copiesBy 24 = .ok (.iload_n 3, 1) := by decide +kernel
theorem dX1_copiesBy_25 : decode cX1_copiesBy 25 = .ok (.ishl, 1) := by decide +kernel
theorem dX1_copiesBy_26 : decode cX1_copiesBy 26 = .ok (.ior, 1) := by decide +kernel
theorem dX1_copiesBy_27 : decode cX1_copiesBy 27 = .ok (.istore_n 2, 1) := by decide +kernel
theorem dX1_copiesBy_28 : decode cX1_copiesBy 28 = .ok (.iinc 3 1, 3) := by decide +kernel
theorem dX1_copiesBy_31 : decode cX1_copiesBy 31 = .ok (.goto (-27), 3) := by decide +kernel
theorem dX1_copiesBy_34 : decode cX1_copiesBy 34 = .ok (.iload_n 2, 1) := by decide +kernel
theorem dX1_copiesBy_35 : decode cX1_copiesBy 35 = .ok (.ireturn, 1) := by decide +kernel
theorem dX1_unwhiteBy_0 : decode cX1_unwhiteBy 0 = .ok (.aload_n 0, 1) := by decide +kernel
theorem dX1_unwhiteBy_1 : decode cX1_unwhiteBy 1 = .ok (.iload_n 1, 1) := by decide +kernel
theorem dX1_unwhiteBy_2 : decode cX1_unwhiteBy 2 = .ok (.invokevirtual 95, 3) := by decide +kernel
theorem dX1_unwhiteBy_5 : decode cX1_unwhiteBy 5 = .ok (.aload_n 0, 1) := by decide +kernel
theorem dX1_unwhiteBy_6 : decode cX1_unwhiteBy 6 = .ok (.getfield 53, 3) := by decide +kernel
theorem dX1_unwhiteBy_9 : decode cX1_unwhiteBy 9 = .ok (.iconst (-1), 1) := by decide +kernel
theorem dX1_unwhiteBy_10 : decode cX1_unwhiteBy 10 = .ok (.ixor, 1) := by decide +kernel
theorem dX1_unwhiteBy_11 : decode cX1_unwhiteBy 11 = .ok (.iand, 1) := by decide +kernel
theorem dX1_unwhiteBy_12 : decode cX1_unwhiteBy 12 = .ok (.invokestatic 99, 3) := by decide +kernel
theorem dX1_unwhiteBy_15 : decode cX1_unwhiteBy 15 = .ok (.ireturn, 1) := by decide +kernel
theorem dX1_copiesAt_0 : decode cX1_copiesAt 0 = .ok (.iconst 0, 1) := by decide +kernel
theorem dX1_copiesAt_1 : decode cX1_copiesAt 1 = .ok (.istore_n 2, 1) := by decide +kernel
theorem dX1_copiesAt_2 : decode cX1_copiesAt 2 = .ok (.iconst 0, 1) := by decide +kernel
theorem dX1_copiesAt_3 : decode cX1_copiesAt 3 = .ok (.istore_n 3, 1) := by decide +kernel
theorem dX1_copiesAt_4 : decode cX1_copiesAt 4 = .ok (.iload_n 3, 1) := by decide +kernel
theorem dX1_copiesAt_5 : decode cX1_copiesAt 5 = .ok (.aload_n 0, 1) := by decide +kernel
theorem dX1_copiesAt_6 : decode cX1_copiesAt 6 = .ok (.getfield 59, 3) := by decide +kernel
theorem dX1_copiesAt_9 : decode cX1_copiesAt 9 = .ok (.if_icmp .ge 25, 3) := by decide +kernel
theorem dX1_copiesAt_12 : decode cX1_copiesAt 12 = .ok (.aload_n 0, 1) := by decide +kernel
theorem dX1_copiesAt_13 : decode cX1_copiesAt 13 = .ok (.getfield 18, 3) := by decide +kernel
theorem dX1_copiesAt_16 : decode cX1_copiesAt 16 = .ok (.iload_n 3, 1) := by decide +kernel
theorem dX1_copiesAt_17 : decode cX1_copiesAt 17 = .ok (.iaload, 1) := by decide +kernel
theorem dX1_copiesAt_18 : decode cX1_copiesAt 18 = .ok (.iload_n 1, 1) := by decide +kernel
theorem dX1_copiesAt_19 : decode cX1_copiesAt 19 = .ok (.if_icmp .ne 9, 3) := by decide +kernel
theorem dX1_copiesAt_22 : decode cX1_copiesAt 22 = .ok (.iload_n 2, 1) := by decide +kernel
theorem dX1_copiesAt_23 : decode cX1_copiesAt 23 = .ok (.iconst 1, 1) := by decide +kernel
theorem dX1_copiesAt_24 : decode cX1_copiesAt 24 = .ok (.iload_n 3, 1) := by decide +kernel
theorem dX1_copiesAt_25 : decode cX1_copiesAt 25 = .ok (.ishl, 1) := by decide +kernel
theorem dX1_copiesAt_26 : decode cX1_copiesAt 26 = .ok (.ior, 1) := by decide +kernel
theorem dX1_copiesAt_27 : decode cX1_copiesAt 27 = .ok (.istore_n 2, 1) := by decide +kernel
theorem dX1_copiesAt_28 : decode cX1_copiesAt 28 = .ok (.iinc 3 1, 3) := by decide +kernel
theorem dX1_copiesAt_31 : decode cX1_copiesAt 31 = .ok (.goto (-27), 3) := by decide +kernel
theorem dX1_copiesAt_34 : decode cX1_copiesAt 34 = .ok (.iload_n 2, 1) := by decide +kernel
theorem dX1_copiesAt_35 : decode cX1_copiesAt 35 = .ok (.ireturn, 1) := by decide +kernel
theorem dX1_blackBy_0 : decode cX1_blackBy 0 = .ok (.iconst 0, 1) := by decide +kernel
theorem dX1_blackBy_1 : decode cX1_blackBy 1 = .ok (.istore_n 2, 1) := by decide +kernel
theorem dX1_blackBy_2 : decode cX1_blackBy 2 = .ok (.iconst 0, 1) := by decide +kernel
theorem dX1_blackBy_3 : decode cX1_blackBy 3 = .ok (.istore_n 3, 1) := by decide +kernel
theorem dX1_blackBy_4 : decode cX1_blackBy 4 = .ok (.iload_n 3, 1) := by decide +kernel
theorem dX1_blackBy_5 : decode cX1_blackBy 5 = .ok (.aload_n 0, 1) := by decide +kernel
theorem dX1_blackBy_6 : decode cX1_blackBy 6 = .ok (.getfield 59, 3) := by decide +kernel
theorem dX1_blackBy_9 : decode cX1_blackBy 9 = .ok (.if_icmp .ge 28, 3) := by decide +kernel
theorem dX1_blackBy_12 : decode cX1_blackBy 12 = .ok (.iload_n 1, 1) := by decide +kernel
theorem dX1_blackBy_13 : decode cX1_blackBy 13 = .ok (.iload_n 3, 1) := by decide +kernel
theorem dX1_blackBy_14 : decode cX1_blackBy 14 = .ok (.invokestatic 81, 3) := by decide +kernel
theorem dX1_blackBy_17 : decode cX1_blackBy 17 = .ok (.ifCond .ne 14, 3) := by decide +kernel
theorem dX1_blackBy_20 : decode cX1_blackBy 20 = .ok (.iload_n 2, 1) := by decide +kernel
theorem dX1_blackBy_21 : decode cX1_blackBy 21 = .ok (.iconst 1, 1) := by decide +kernel
theorem dX1_blackBy_22 : decode cX1_blackBy 22 = .ok (.aload_n 0, 1) := by decide +kernel
theorem dX1_blackBy_23 : decode cX1_blackBy 23 = .ok (.getfield 18, 3) := by decide +kernel
theorem dX1_blackBy_26 : decode cX1_blackBy 26 = .ok (.iload_n 3, 1) := by decide +kernel
theorem dX1_blackBy_27 : decode cX1_blackBy 27 = .ok (.iaload, 1) := by decide +kernel
theorem dX1_blackBy_28 : decode cX1_blackBy 28 = .ok (.ishl, 1) := by decide +kernel
theorem dX1_blackBy_29 : decode cX1_blackBy 29 = .ok (.ior, 1) := by decide +kernel
theorem dX1_blackBy_30 : decode cX1_blackBy 30 = .ok (.istore_n 2, 1) := by decide +kernel
theorem dX1_blackBy_31 : decode cX1_blackBy 31 = .ok (.iinc 3 1, 3) := by decide +kernel
theorem dX1_blackBy_34 : decode cX1_blackBy 34 = .ok (.goto (-30), 3) := by decide +kernel
theorem dX1_blackBy_37 : decode cX1_blackBy 37 = .ok (.iload_n 2, 1) := by decide +kernel
theorem dX1_blackBy_38 : decode cX1_blackBy 38 = .ok (.ireturn, 1) := by decide +kernel
theorem dX1_standingOn_0 : decode cX1_standingOn 0 = .ok (.iconst 0, 1) := by decide +kernel
theorem dX1_standingOn_1 : decode cX1_standingOn 1 = .ok (.istore_n 2, 1) := by decide +kernel
theorem dX1_standingOn_2 : decode cX1_standingOn 2 = .ok (.iconst 0, 1) := by decide +kernel
theorem dX1_standingOn_3 : decode cX1_standingOn 3 = .ok (.istore_n 3, 1) := by decide +kernel
theorem dX1_standingOn_4 : decode cX1_standingOn 4 = .ok (.iload_n 3, 1) := by decide +kernel
theorem dX1_standingOn_5 : decode cX1_standingOn 5 = .ok (.aload_n 0, 1) := by decide +kernel
theorem dX1_standingOn_6 : decode cX1_standingOn 6 = .ok (.getfield 62, 3) := by decide +kernel
theorem dX1_standingOn_9 : decode cX1_standingOn 9 = .ok (.if_icmp .ge 104, 3) := by decide +kernel
theorem dX1_standingOn_12 : decode cX1_standingOn 12 = .ok (.aload_n 0, 1) := by decide +kernel
theorem dX1_standingOn_13 : decode cX1_standingOn 13 = .ok (.getfield 33, 3) := by decide +kernel
theorem dX1_standingOn_16 : decode cX1_standingOn 16 = .ok (.iload_n 3, 1) := by decide +kernel
theorem dX1_standingOn_17 : decode cX1_standingOn 17 = .ok (.iaload, 1) := by decide +kernel
theorem dX1_standingOn_18 : decode cX1_standingOn 18 = .ok (.iconst 1, 1) := by decide +kernel
theorem dX1_standingOn_19 : decode cX1_standingOn 19 = .ok (.if_icmp .ne 24, 3) := by decide +kernel
theorem dX1_standingOn_22 : decode cX1_standingOn 22 = .ok (.aload_n 0, 1) := by decide +kernel
theorem dX1_standingOn_23 : decode cX1_standingOn 23 = .ok (.getfield 30, 3) := by decide +kernel
theorem dX1_standingOn_26 : decode cX1_standingOn 26 = .ok (.iload_n 3, 1) := by decide +kernel
theorem dX1_standingOn_27 : decode cX1_standingOn 27 = .ok (.iaload, 1) := by decide +kernel
theorem dX1_standingOn_28 : decode cX1_standingOn 28 = .ok (.iload_n 1, 1) := by decide +kernel
theorem dX1_standingOn_29 : decode cX1_standingOn 29 = .ok (.iconst (-1), 1) := by decide +kernel
theorem dX1_standingOn_30 : decode cX1_standingOn 30 = .ok (.ixor, 1) := by decide +kernel
theorem dX1_standingOn_31 : decode cX1_standingOn 31 = .ok (.iand, 1) := by decide +kernel
theorem dX1_standingOn_32 : decode cX1_standingOn 32 = .ok (.ifCond .ne 7, 3) := by decide +kernel
theorem dX1_standingOn_35 : decode cX1_standingOn 35 = .ok (.iconst 1, 1) := by decide +kernel
theorem dX1_standingOn_36 : decode cX1_standingOn 36 = .ok (.goto 23, 3) := by decide +kernel
theorem dX1_standingOn_39 : decode cX1_standingOn 39 = .ok (.iconst 0, 1) := by decide +kernel
theorem dX1_standingOn_40 : decode cX1_standingOn 40 = .ok (.goto 19, 3) := by decide +kernel
theorem dX1_standingOn_43 : decode cX1_standingOn 43 = .ok (.aload_n 0, 1) := by decide +kernel
theorem dX1_standingOn_44 : decode cX1_standingOn 44 = .ok (.getfield 30, 3) := by decide +kernel
theorem dX1_standingOn_47 : decode cX1_standingOn 47 = .ok (.iload_n 3, 1) := by decide +kernel
theorem dX1_standingOn_48 : decode cX1_standingOn 48 = .ok (.iaload, 1) := by decide +kernel
theorem dX1_standingOn_49 : decode cX1_standingOn 49 = .ok (.iload_n 1, 1) := by decide +kernel
theorem dX1_standingOn_50 : decode cX1_standingOn 50 = .ok (.iand, 1) := by decide +kernel
theorem dX1_standingOn_51 : decode cX1_standingOn 51 = .ok (.ifCond .eq 7, 3) := by decide +kernel
theorem dX1_standingOn_54 : decode cX1_standingOn 54 = .ok (.iconst 1, 1) := by decide +kernel
theorem dX1_standingOn_55 : decode cX1_standingOn 55 = .ok (.goto 4, 3) := by decide +kernel
theorem dX1_standingOn_58 : decode cX1_standingOn 58 = .ok (.iconst 0, 1) := by decide +kernel
theorem dX1_standingOn_59 : decode cX1_standingOn 59 = .ok (.istore 4, 2) := by decide +kernel
theorem dX1_standingOn_61 : decode cX1_standingOn 61 = .ok (.aload_n 0, 1) := by decide +kernel
theorem dX1_standingOn_62 : decode cX1_standingOn 62 = .ok (.getfield 36, 3) := by decide +kernel
theorem dX1_standingOn_65 : decode cX1_standingOn 65 = .ok (.iload_n 3, 1) := by decide +kernel
theorem dX1_standingOn_66 : decode cX1_standingOn 66 = .ok (.iaload, 1) := by decide +kernel
theorem dX1_standingOn_67 : decode cX1_standingOn 67 = .ok (.ifCond .lt 17, 3) := by decide +kernel
theorem dX1_standingOn_70 : decode cX1_standingOn 70 = .ok (.iload_n 2, 1) := by decide +kernel
theorem dX1_standingOn_71 : decode cX1_standingOn 71 = .ok (.aload_n 0, 1) := by decide +kernel
theorem dX1_standingOn_72 : decode cX1_standingOn 72 = .ok (.getfield 36, 3) := by decide +kernel
theorem dX1_standingOn_75 : decode cX1_standingOn 75 = .ok (.iload_n 3, 1) := by decide +kernel
theorem dX1_standingOn_76 : decode cX1_standingOn 76 = .ok (.iaload, 1) := by decide +kernel
theorem dX1_standingOn_77 : decode cX1_standingOn 77 = .ok (.invokestatic 81, 3) := by decide +kernel
theorem dX1_standingOn_80 : decode cX1_standingOn 80 = .ok (.iconst 1, 1) := by decide +kernel
theorem dX1_standingOn_81 : decode cX1_standingOn 81 = .ok (.if_icmp .ne 7, 3) := by decide +kernel
theorem dX1_standingOn_84 : decode cX1_standingOn 84 = .ok (.iconst 1, 1) := by decide +kernel
theorem dX1_standingOn_85 : decode cX1_standingOn 85 = .ok (.goto 4, 3) := by decide +kernel
theorem dX1_standingOn_88 : decode cX1_standingOn 88 = .ok (.iconst 0, 1) := by decide +kernel
theorem dX1_standingOn_89 : decode cX1_standingOn 89 = .ok (.istore 5, 2) := by decide +kernel
theorem dX1_standingOn_91 : decode cX1_standingOn 91 = .ok (.iload 4, 2) := by decide +kernel
theorem dX1_standingOn_93 : decode cX1_standingOn 93 = .ok (.ifCond .eq 14, 3) := by decide +kernel
theorem dX1_standingOn_96 : decode cX1_standingOn 96 = .ok (.iload 5, 2) := by decide +kernel
theorem dX1_standingOn_98 : decode cX1_standingOn 98 = .ok (.ifCond .eq 9, 3) := by decide +kernel
theorem dX1_standingOn_101 : decode cX1_standingOn 101 = .ok (.iload_n 2, 1) := by decide +kernel
theorem dX1_standingOn_102 : decode cX1_standingOn 102 = .ok (.iconst 1, 1) := by decide +kernel
theorem dX1_standingOn_103 : decode cX1_standingOn 103 = .ok (.iload_n 3, 1) := by decide +kernel
theorem dX1_standingOn_104 : decode cX1_standingOn 104 = .ok (.ishl, 1) := by decide +kernel
theorem dX1_standingOn_105 : decode cX1_standingOn 105 = .ok (.ior, 1) := by decide +kernel
theorem dX1_standingOn_106 : decode cX1_standingOn 106 = .ok (.istore_n 2, 1) := by decide +kernel
theorem dX1_standingOn_107 : decode cX1_standingOn 107 = .ok (.iinc 3 1, 3) := by decide +kernel
theorem dX1_standingOn_110 : decode cX1_standingOn 110 = .ok (.goto (-106), 3) := by decide +kernel
theorem dX1_standingOn_113 : decode cX1_standingOn 113 = .ok (.iload_n 2, 1) := by decide +kernel
theorem dX1_standingOn_114 : decode cX1_standingOn 114 = .ok (.ireturn, 1) := by decide +kernel
theorem dX1_standingBy_0 : decode cX1_standingBy 0 = .ok (.aload_n 0, 1) := by decide +kernel
theorem dX1_standingBy_1 : decode cX1_standingBy 1 = .ok (.aload_n 0, 1) := by decide +kernel
theorem dX1_standingBy_2 : decode cX1_standingBy 2 = .ok (.iload_n 1, 1) := by decide +kernel
theorem dX1_standingBy_3 : decode cX1_standingBy 3 = .ok (.invokevirtual 104, 3) := by decide +kernel
theorem dX1_standingBy_6 : decode cX1_standingBy 6 = .ok (.invokevirtual 107, 3) := by decide +kernel
theorem dX1_standingBy_9 : decode cX1_standingBy 9 = .ok (.ireturn, 1) := by decide +kernel
theorem dX1_whiteOn_0 : decode cX1_whiteOn 0 = .ok (.iload_n 1, 1) := by decide +kernel
theorem dX1_whiteOn_1 : decode cX1_whiteOn 1 = .ok (.istore_n 3, 1) := by decide +kernel
theorem dX1_whiteOn_2 : decode cX1_whiteOn 2 = .ok (.iconst 0, 1) := by decide +kernel
theorem dX1_whiteOn_3 : decode cX1_whiteOn 3 = .ok (.istore 4, 2) := by decide +kernel
theorem dX1_whiteOn_5 : decode cX1_whiteOn 5 = .ok (.iload 4, 2) := by decide +kernel
theorem dX1_whiteOn_7 : decode cX1_whiteOn 7 = .ok (.aload_n 0, 1) := by decide +kernel
theorem dX1_whiteOn_8 : decode cX1_whiteOn 8 = .ok (.getfield 59, 3) := by decide +kernel
theorem dX1_whiteOn_11 : decode cX1_whiteOn 11 = .ok (.if_icmp .ge 46, 3) := by decide +kernel
theorem dX1_whiteOn_14 : decode cX1_whiteOn 14 = .ok (.aload_n 0, 1) := by decide +kernel
theorem dX1_whiteOn_15 : decode cX1_whiteOn 15 = .ok (.aload_n 0, 1) := by decide +kernel
theorem dX1_whiteOn_16 : decode cX1_whiteOn 16 = .ok (.getfield 21, 3) := by decide +kernel
theorem dX1_whiteOn_19 : decode cX1_whiteOn 19 = .ok (.iload 4, 2) := by decide +kernel
theorem dX1_whiteOn_21 : decode cX1_whiteOn 21 = .ok (.iaload, 1) := by decide +kernel
theorem dX1_whiteOn_22 : decode cX1_whiteOn 22 = .ok (.invokevirtual 110, 3) := by decide +kernel
theorem dX1_whiteOn_25 : decode cX1_whiteOn 25 = .ok (.ifCond .eq 26, 3) := by decide +kernel
theorem dX1_whiteOn_28 : decode cX1_whiteOn 28 = .ok (.iload_n 2, 1) := by decide +kernel
theorem dX1_whiteOn_29 : decode cX1_whiteOn 29 = .ok (.aload_n 0, 1) := by decide +kernel
theorem dX1_whiteOn_30 : decode cX1_whiteOn 30 = .ok (.getfield 27, 3) := by decide +kernel
theorem dX1_whiteOn_33 : decode cX1_whiteOn 33 = .ok (.iload 4, 2) := by decide +kernel
theorem dX1_whiteOn_35 : decode cX1_whiteOn 35 = .ok (.iaload, 1) := by decide +kernel
theorem dX1_whiteOn_36 : decode cX1_whiteOn 36 = .ok (.isub, 1) := by decide +kernel
theorem dX1_whiteOn_37 : decode cX1_whiteOn 37 = .ok (.aload_n 0, 1) := by decide +kernel
theorem dX1_whiteOn_38 : decode cX1_whiteOn 38 = .ok (.getfield 68, 3) := by decide +kernel
theorem dX1_whiteOn_41 : decode cX1_whiteOn 41 = .ok (.if_icmp .lt 10, 3) := by decide +kernel
theorem dX1_whiteOn_44 : decode cX1_whiteOn 44 = .ok (.iload_n 3, 1) := by decide +kernel
theorem dX1_whiteOn_45 : decode cX1_whiteOn 45 = .ok (.iconst 1, 1) := by decide +kernel
theorem dX1_whiteOn_46 : decode cX1_whiteOn 46 = .ok (.iload 4, 2) := by decide +kernel
theorem dX1_whiteOn_48 : decode cX1_whiteOn 48 = .ok (.ishl, 1) := by decide +kernel
theorem dX1_whiteOn_49 : decode cX1_whiteOn 49 = .ok (.ior, 1) := by decide +kernel
theorem dX1_whiteOn_50 : decode cX1_whiteOn 50 = .ok (.istore_n 3, 1) := by decide +kernel
theorem dX1_whiteOn_51 : decode cX1_whiteOn 51 = .ok (.iinc 4 1, 3) := by decide +kernel
theorem dX1_whiteOn_54 : decode cX1_whiteOn 54 = .ok (.goto (-49), 3) := by decide +kernel
theorem dX1_whiteOn_57 : decode cX1_whiteOn 57 = .ok (.iload_n 3, 1) := by decide +kernel
theorem dX1_whiteOn_58 : decode cX1_whiteOn 58 = .ok (.ireturn, 1) := by decide +kernel
theorem dX1_passDay_0 : decode cX1_passDay 0 = .ok (.aload_n 0, 1) := by decide +kernel
theorem dX1_passDay_1 : decode cX1_passDay 1 = .ok (.dup, 1) := by decide +kernel
theorem dX1_passDay_2 : decode cX1_passDay 2 = .ok (.getfield 46, 3) := by decide +kernel
theorem dX1_passDay_5 : decode cX1_passDay 5 = .ok (.iconst 1, 1) := by decide +kernel
theorem dX1_passDay_6 : decode cX1_passDay 6 = .ok (.iadd, 1) := by decide +kernel
theorem dX1_passDay_7 : decode cX1_passDay 7 = .ok (.putfield 46, 3) := by decide +kernel
theorem dX1_passDay_10 : decode cX1_passDay 10 = .ok (.aload_n 0, 1) := by decide +kernel
theorem dX1_passDay_11 : decode cX1_passDay 11 = .ok (.aload_n 0, 1) := by decide +kernel
theorem dX1_passDay_12 : decode cX1_passDay 12 = .ok (.aload_n 0, 1) := by decide +kernel
theorem dX1_passDay_13 : decode cX1_passDay 13 = .ok (.getfield 53, 3) := by decide +kernel
theorem dX1_passDay_16 : decode cX1_passDay 16 = .ok (.aload_n 0, 1) := by decide +kernel
theorem dX1_passDay_17 : decode cX1_passDay 17 = .ok (.getfield 46, 3) := by decide +kernel
theorem dX1_passDay_20 : decode cX1_passDay 20 = .ok (.invokevirtual 114, 3) := by decide +kernel
theorem dX1_passDay_23 : decode cX1_passDay 23 = .ok (.putfield 53, 3) := by decide +kernel
theorem dX1_passDay_26 : decode cX1_passDay 26 = .ok (.return_, 1) := by decide +kernel
theorem dX2_init_0 : decode cX2_init 0 = .ok (.aload_n 0, 1) := by decide +kernel
theorem dX2_init_1 : decode cX2_init 1 = .ok (.invokespecial 3, 3) := by decide +kernel
theorem dX2_init_4 : decode cX2_init 4 = .ok (.aload_n 0, 1) := by decide +kernel
theorem dX2_init_5 : decode cX2_init 5 = .ok (.bipush 16, 2) := by decide +kernel
theorem dX2_init_7 : decode cX2_init 7 = .ok (.newarray .int, 2) := by decide +kernel
theorem dX2_init_9 : decode cX2_init 9 = .ok (.putfield 11, 3) := by decide +kernel
theorem dX2_init_12 : decode cX2_init 12 = .ok (.return_, 1) := by decide +kernel
theorem dX2_isKindOf_0 : decode cX2_isKindOf 0 = .ok (.iload_n 0, 1) := by decide +kernel
theorem dX2_isKindOf_1 : decode cX2_isKindOf 1 = .ok (.istore_n 2, 1) := by decide +kernel
theorem dX2_isKindOf_2 : decode cX2_isKindOf 2 = .ok (.iconst 0, 1) := by decide +kernel
theorem dX2_isKindOf_3 : decode cX2_isKindOf 3 = .ok (.istore_n 3, 1) := by decide +kernel
theorem dX2_isKindOf_4 : decode cX2_isKindOf 4 = .ok (.iload_n 3, 1) := by decide +kernel
theorem dX2_isKindOf_5 : decode cX2_isKindOf 5 = .ok (.bipush 6, 2) := by decide +kernel
theorem dX2_isKindOf_7 : decode cX2_isKindOf 7 = .ok (.if_icmp .ge 32, 3) := by decide +kernel
theorem dX2_isKindOf_10 : decode cX2_isKindOf 10 = .ok (.iload_n 2, 1) := by decide +kernel
theorem dX2_isKindOf_11 : decode cX2_isKindOf 11 = .ok (.ifCond .lt 28, 3) := by decide +kernel
theorem dX2_isKindOf_14 : decode cX2_isKindOf 14 = .ok (.iload_n 2, 1) := by decide +kernel
theorem dX2_isKindOf_15 : decode cX2_isKindOf 15 = .ok (.bipush 6, 2) := by decide +kernel
theorem dX2_isKindOf_17 : decode cX2_isKindOf 17 = .ok (.if_icmp .ge 22, 3) := by decide +kernel
theorem dX2_isKindOf_20 : decode cX2_isKindOf 20 = .ok (.iload_n 2, 1) := by decide +kernel
theorem dX2_isKindOf_21 : decode cX2_isKindOf 21 = .ok (.iload_n 1, 1) := by decide +kernel
theorem dX2_isKindOf_22 : decode cX2_isKindOf 22 = .ok (.if_icmp .ne 5, 3) := by decide +kernel
theorem dX2_isKindOf_25 : decode cX2_isKindOf 25 = .ok (.iconst 1, 1) := by decide +kernel
theorem dX2_isKindOf_26 : decode cX2_isKindOf 26 = .ok (.ireturn, 1) := by decide +kernel
theorem dX2_isKindOf_27 : decode cX2_isKindOf 27 = .ok (.getstatic 15, 3) := by decide +kernel
theorem dX2_isKindOf_30 : decode cX2_isKindOf 30 = .ok (.iload_n 2, 1) := by decide +kernel
theorem dX2_isKindOf_31 : decode cX2_isKindOf 31 = .ok (.iaload, 1) := by decide +kernel
theorem dX2_isKindOf_32 : decode cX2_isKindOf 32 = .ok (.istore_n 2, 1) := by decide +kernel
theorem dX2_isKindOf_33 : decode cX2_isKindOf 33 = .ok (.iinc 3 1, 3) := by decide +kernel
theorem dX2_isKindOf_36 : decode cX2_isKindOf 36 = .ok (.goto (-32), 3) := by decide +kernel
theorem dX2_isKindOf_39 : decode cX2_isKindOf 39 = .ok (.iconst 0, 1) := by decide +kernel
theorem dX2_isKindOf_40 : decode cX2_isKindOf 40 = .ok (.ireturn, 1) := by decide +kernel
theorem dX2_answerOf_0 : decode cX2_answerOf 0 = .ok (.aload_n 0, 1) := by decide +kernel
theorem dX2_answerOf_1 : decode cX2_answerOf 1 = .ok (.iconst 0, 1) := by decide +kernel
theorem dX2_answerOf_2 : decode cX2_answerOf 2 = .ok (.putfield 18, 3) := by decide +kernel
theorem dX2_answerOf_5 : decode cX2_answerOf 5 = .ok (.aload_n 0, 1) := by decide +kernel
theorem dX2_answerOf_6 : decode cX2_answerOf 6 = .ok (.aload_n 1, 1) := by decide +kernel
theorem dX2_answerOf_7 : decode cX2_answerOf 7 = .ok (.iload_n 2, 1) := by decide +kernel
theorem dX2_answerOf_8 : decode cX2_answerOf 8 = .ok (.iload_n 3, 1) := by decide +kernel
theorem dX2_answerOf_9 : decode cX2_answerOf 9 = .ok (.iconst 0, 1) := by decide +kernel
theorem dX2_answerOf_10 : decode cX2_answerOf 10 = .ok (.invokevirtual 22, 3) := by decide +kernel
theorem dX2_answerOf_13 : decode cX2_answerOf 13 = .ok (.ireturn, 1) := by decide +kernel
theorem dX2_askAnew_0 : decode cX2_askAnew 0 = .ok (.iload_n 3, 1) := by decide +kernel
theorem dX2_askAnew_1 : decode cX2_askAnew 1 = .ok (.ifCond .ne 9, 3) := by decide +kernel
theorem dX2_askAnew_4 : decode cX2_askAnew 4 = .ok (.getstatic 26, 3) := by decide +kernel
theorem dX2_askAnew_7 : decode cX2_askAnew 7 = .ok (.goto 6, 3) := by decide +kernel
theorem dX2_askAnew_10 : decode cX2_askAnew 10 = .ok (.getstatic 29, 3) := by decide +kernel
theorem dX2_askAnew_13 : decode cX2_askAnew 13 = .ok (.astore 5, 2) := by decide +kernel
theorem dX2_askAnew_15 : decode cX2_askAnew 15 = .ok (.aload_n 0, 1) := by decide +kernel
theorem dX2_askAnew_16 : decode cX2_askAnew 16 = .ok (.aload_n 1, 1) := by decide +kernel
theorem dX2_askAnew_17 : decode cX2_askAnew 17 = .ok (.aload 5, 2) := by decide +kernel
theorem dX2_askAnew_19 : decode cX2_askAnew 19 = .ok (.aload_n 1, 1) := by decide +kernel
theorem dX2_askAnew_20 : decode cX2_askAnew 20 = .ok (.getfield 32, 3) := by decide +kernel
theorem dX2_askAnew_23 : decode cX2_askAnew 23 = .ok (.iload_n 2, 1) := by decide +kernel
theorem dX2_askAnew_24 : decode cX2_askAnew 24 = .ok (.iaload, 1) := by decide +kernel
theorem dX2_askAnew_25 : decode cX2_askAnew 25 = .ok (.invokestatic 37, 3) := by decide +kernel
theorem dX2_askAnew_28 : decode cX2_askAnew 28 = .ok (.iload_n 2, 1) := by decide +kernel
theorem dX2_askAnew_29 : decode cX2_askAnew 29 = .ok (.iload 4, 2) := by decide +kernel
theorem dX2_askAnew_31 : decode cX2_askAnew 31 = .ok (.invokevirtual 41, 3) := by decide +kernel
theorem dX2_askAnew_34 : decode cX2_askAnew 34 = .ok (.ireturn, 1) := by decide +kernel
theorem dX2_nearest_0 : decode cX2_nearest 0 = .ok (.iload_n 1, 1) := by decide +kernel
theorem dX2_nearest_1 : decode cX2_nearest 1 = .ok (.istore_n 2, 1) := by decide +kernel
theorem dX2_nearest_2 : decode cX2_nearest 2 = .ok (.iconst 0, 1) := by decide +kernel
theorem dX2_nearest_3 : decode cX2_nearest 3 = .ok (.istore_n 3, 1) := by decide +kernel
theorem dX2_nearest_4 : decode cX2_nearest 4 = .ok (.iload_n 3, 1) := by decide +kernel
theorem dX2_nearest_5 : decode cX2_nearest 5 = .ok (.bipush 6, 2) := by decide +kernel
theorem dX2_nearest_7 : decode cX2_nearest 7 = .ok (.if_icmp .ge 35, 3) := by decide +kernel
theorem dX2_nearest_10 : decode cX2_nearest 10 = .ok (.iload_n 2, 1) := by decide +kernel
theorem dX2_nearest_11 : decode cX2_nearest 11 = .ok (.ifCond .lt 31, 3) := by decide +kernel
theorem dX2_nearest_14 : decode cX2_nearest 14 = .ok (.iload_n 2, 1) := by decide +kernel
theorem dX2_nearest_15 : decode cX2_nearest 15 = .ok (.bipush 6, 2) := by decide +kernel
theorem dX2_nearest_17 : decode cX2_nearest 17 = .ok (.if_icmp .ge 25, 3) := by decide +kernel
theorem dX2_nearest_20 : decode cX2_nearest 20 = .ok (.aload_n 0, 1) := by decide +kernel
theorem dX2_nearest_21 : decode cX2_nearest 21 = .ok (.iload_n 2, 1) := by decide +kernel
theorem dX2_nearest_22 : decode cX2_nearest 22 = .ok (.iaload, 1) := by decide +kernel
theorem dX2_nearest_23 : decode cX2_nearest 23 = .ok (.ifCond .eq 7, 3) := by decide +kernel
theorem dX2_nearest_26 : decode cX2_nearest 26 = .ok (.aload_n 0, 1) := by decide +kernel
theorem dX2_nearest_27 : decode cX2_nearest 27 = .ok (.iload_n 2, 1) := by decide +kernel
theorem dX2_nearest_28 : decode cX2_nearest 28 = .ok (.iaload, 1) := by decide +kernel
theorem dX2_nearest_29 : decode cX2_nearest 29 = .ok (.ireturn, 1) := by decide +kernel
theorem dX2_nearest_30 : decode cX2_nearest 30 = .ok (.getstatic 15, 3) := by decide +kernel
theorem dX2_nearest_33 : decode cX2_nearest 33 = .ok (.iload_n 2, 1) := by decide +kernel
theorem dX2_nearest_34 : decode cX2_nearest 34 = .ok (.iaload, 1) := by decide +kernel
theorem dX2_nearest_35 : decode cX2_nearest 35 = .ok (.istore_n 2, 1) := by decide +kernel
theorem dX2_nearest_36 : decode cX2_nearest 36 = .ok (.iinc 3 1, 3) := by decide +kernel
theorem dX2_nearest_39 : decode cX2_nearest 39 = .ok (.goto (-35), 3) := by decide +kernel
theorem dX2_nearest_42 : decode cX2_nearest 42 = .ok (.aload_n 0, 1) := by decide +kernel
theorem dX2_nearest_43 : decode cX2_nearest 43 = .ok (.iconst 0, 1) := by decide +kernel
theorem dX2_nearest_44 : decode cX2_nearest 44 = .ok (.iaload, 1) := by decide +kernel
theorem dX2_nearest_45 : decode cX2_nearest 45 = .ok (.ireturn, 1) := by decide +kernel
theorem dX2_runBody_0 : decode cX2_runBody 0 = .ok (.iload 4, 2) := by decide +kernel
theorem dX2_runBody_2 : decode cX2_runBody 2 = .ok (.bipush 20, 2) := by decide +kernel
theorem dX2_runBody_4 : decode cX2_runBody 4 = .ok (.if_icmp .le 5, 3) := by decide +kernel
theorem dX2_runBody_7 : decode cX2_runBody 7 = .ok (.iconst 0, 1) := by decide +kernel
theorem dX2_runBody_8 : decode cX2_runBody 8 = .ok (.ireturn, 1) := by decide +kernel
theorem dX2_runBody_9 : decode cX2_runBody 9 = .ok (.aload_n 0, 1) := by decide +kernel
theorem dX2_runBody_10 : decode cX2_runBody 10 = .ok (.iload_n 2, 1) := by decide +kernel
theorem dX2_runBody_11 : decode cX2_runBody 11 = .ok (.invokevirtual 44, 3) := by decide +kernel
theorem dX2_runBody_14 : decode cX2_runBody 14 = .ok (.iload 4, 2) := by decide +kernel
theorem dX2_runBody_16 : decode cX2_runBody 16 = .ok (.iconst 1, 1) := by decide +kernel
theorem dX2_runBody_17 : decode cX2_runBody 17 = .ok (.iadd, 1) := by decide +kernel
theorem dX2_runBody_18 : decode cX2_runBody 18 = .ok (.istore 5, 2) := by decide +kernel
theorem dX2_runBody_20 : decode cX2_runBody 20 = .ok (.iload_n 2, 1) := by decide +kernel
theorem dX2_runBody_21 : decode cX2_runBody 21 = .ok (.tableswitch 210 10 24 #[75, 82, 103, 115, 129, 210, 210, 210, 210, 210, 142, 144, 161, 176, 197], 75) := by decide +kernel
theorem dX2_runBody_96 : decode cX2_runBody 96 = .ok (.aload_n 1, 1) := by decide +kernel
theorem dX2_runBody_97 : decode cX2_runBody 97 = .ok (.getfield 48, 3) := by decide +kernel
theorem dX2_runBody_100 : decode cX2_runBody 100 = .ok (.iload_n 3, 1) := by decide +kernel
theorem dX2_runBody_101 : decode cX2_runBody 101 = .ok (.iaload, 1) := by decide +kernel
theorem dX2_runBody_102 : decode cX2_runBody 102 = .ok (.ireturn, 1) := by decide +kernel
theorem dX2_runBody_103 : decode cX2_runBody 103 = .ok (.aload_n 0, 1) := by decide +kernel
theorem dX2_runBody_104 : decode cX2_runBody 104 = .ok (.aload_n 1, 1) := by decide +kernel
theorem dX2_runBody_105 : decode cX2_runBody 105 = .ok (.bipush 10, 2) := by decide +kernel
theorem dX2_runBody_107 : decode cX2_runBody 107 = .ok (.iload_n 3, 1) := by decide +kernel
theorem dX2_runBody_108 : decode cX2_runBody 108 = .ok (.iload 5, 2) := by decide +kernel
theorem dX2_runBody_110 : decode cX2_runBody 110 = .ok (.invokevirtual 41, 3) := by decide +kernel
theorem dX2_runBody_113 : decode cX2_runBody 113 = .ok (.aload_n 0, 1) := by decide +kernel
theorem dX2_runBody_114 : decode cX2_runBody 114 = .ok (.aload_n 1, 1) := by decide +kernel
theorem dX2_runBody_115 : decode cX2_runBody 115 = .ok (.iload_n 3, 1) := by decide +kernel
theorem dX2_runBody_116 : decode cX2_runBody 116 = .ok (.iconst 1, 1) := by decide +kernel
theorem dX2_runBody_117 : decode cX2_runBody 117 = .ok (.iload 5, 2) := by decide +kernel
theorem dX2_runBody_119 : decode cX2_runBody 119 = .ok (.invokevirtual 22, 3) := by decide +kernel
theorem dX2_runBody_122 : decode cX2_runBody 122 = .ok (.iadd, 1) := by decide +kernel
theorem dX2_runBody_123 : decode cX2_runBody 123 = .ok (.ireturn, 1) := by decide +kernel
theorem dX2_runBody_124 : decode cX2_runBody 124 = .ok (.aload_n 0, 1) := by decide +kernel
theorem dX2_runBody_125 : decode cX2_runBody 125 = .ok (.aload_n 1, 1) := by decide +kernel
theorem dX2_runBody_126 : decode cX2_runBody 126 = .ok (.bipush 11, 2) := by decide +kernel
theorem dX2_runBody_128 : decode cX2_runBody 128 = .ok (.iload_n 3, 1) := by decide +kernel
theorem dX2_runBody_129 : decode cX2_runBody 129 = .ok (.iload 5, 2) := by decide +kernel
theorem dX2_runBody_131 : decode cX2_runBody 131 = .ok (.invokevirtual 41, 3) := by decide +kernel
theorem dX2_runBody_134 : decode cX2_runBody 134 = .ok (.ineg, 1) := by decide +kernel
theorem dX2_runBody_135 : decode cX2_runBody 135 = .ok (.ireturn, 1) := by decide +kernel
theorem dX2_runBody_136 : decode cX2_runBody 136 = .ok (.aload_n 0, 1) := by decide +kernel
theorem dX2_runBody_137 : decode cX2_runBody 137 = .ok (.aload_n 1, 1) := by decide +kernel
theorem dX2_runBody_138 : decode cX2_runBody 138 = .ok (.bipush 10, 2) := by decide +kernel
theorem dX2_runBody_140 : decode cX2_runBody 140 = .ok (.iload_n 3, 1) := by decide +kernel
theorem dX2_runBody_141 : decode cX2_runBody 141 = .ok (.iload 5, 2) := by decide +kernel
theorem dX2_runBody_143 : decode cX2_runBody 143 = .ok (.invokevirtual 41, 3) := by decide +kernel
theorem dX2_runBody_146 : decode cX2_runBody 146 = .ok (.bipush 100, 2) := by decide +kernel
theorem dX2_runBody_148 : decode cX2_runBody 148 = .ok (.isub, 1) := by decide +kernel
theorem dX2_runBody_149 : decode cX2_runBody 149 = .ok (.ireturn, 1) := by decide +kernel
theorem dX2_runBody_150 : decode cX2_runBody 150 = .ok (.iconst 2, 1) := by decide +kernel
theorem dX2_runBody_151 : decode cX2_runBody 151 = .ok (.aload_n 0, 1) := by decide +kernel
theorem dX2_runBody_152 : decode cX2_runBody 152 = .ok (.aload_n 1, 1) := by decide +kernel
theorem dX2_runBody_153 : decode cX2_runBody 153 = .ok (.bipush 13, 2) := by decide +kernel
theorem dX2_runBody_155 : decode cX2_runBody 155 = .ok (.iload_n 3, 1) := by decide +kernel
theorem dX2_runBody_156 : decode cX2_runBody 156 = .ok (.iload 5, 2) := by decide +kernel
theorem dX2_runBody_158 : decode cX2_runBody 158 = .ok (.invokevirtual 41, 3) := by decide +kernel
theorem dX2_runBody_161 : decode cX2_runBody 161 = .ok (.imul, 1) := by decide +kernel
theorem dX2_runBody_162 : decode cX2_runBody 162 = .ok (.ireturn, 1) := by decide +kernel
theorem dX2_runBody_163 : decode cX2_runBody 163 = .ok (.iload_n 3, 1) := by decide +kernel
theorem dX2_runBody_164 : decode cX2_runBody 164 = .ok (.ireturn, 1) := by decide +kernel
theorem dX2_runBody_165 : decode cX2_runBody 165 = .ok (.aload_n 0, 1) := by decide +kernel
theorem dX2_runBody_166 : decode cX2_runBody 166 = .ok (.aload_n 1, 1) := by decide +kernel
theorem dX2_runBody_167 : decode cX2_runBody 167 = .ok (.bipush 20, 2) := by decide +kernel
theorem dX2_runBody_169 : decode cX2_runBody 169 = .ok (.iload_n 3, 1) := by decide +kernel
theorem dX2_runBody_170 : decode cX2_runBody 170 = .ok (.iload 5, 2) := by decide +kernel
theorem dX2_runBody_172 : decode cX2_runBody 172 = .ok (.invokevirtual 41, 3) := by decide +kernel
theorem dX2_runBody_175 : decode cX2_runBody 175 = .ok (.aload_n 1, 1) := by decide +kernel
theorem dX2_runBody_176 : decode cX2_runBody 176 = .ok (.iload_n 3, 1) := by decide +kernel
theorem dX2_runBody_177 : decode cX2_runBody 177 = .ok (.invokevirtual 51, 3) := by decide +kernel
theorem dX2_runBody_180 : decode cX2_runBody 180 = .ok (.iadd, 1) := by decide +kernel
theorem dX2_runBody_181 : decode cX2_runBody 181 = .ok (.ireturn, 1) := by decide +kernel
theorem dX2_runBody_182 : decode cX2_runBody 182 = .ok (.aload_n 0, 1) := by decide +kernel
theorem dX2_runBody_183 : decode cX2_runBody 183 = .ok (.aload_n 1, 1) := by decide +kernel
theorem dX2_runBody_184 : decode cX2_runBody 184 = .ok (.bipush 21, 2) := by decide +kernel
theorem dX2_runBody_186 : decode cX2_runBody 186 = .ok (.iload_n 3, 1) := by decide +kernel
theorem dX2_runBody_187 : decode cX2_runBody 187 = .ok (.iload 5, 2) := by decide +kernel
theorem dX2_runBody_189 : decode cX2_runBody 189 = .ok (.invokevirtual 41, 3) := by decide +kernel
theorem dX2_runBody_192 : decode cX2_runBody 192 = .ok (.sipush 1000, 3) := by decide +kernel
theorem dX2_runBody_195 : decode cX2_runBody 195 = .ok (.isub, 1) := by decide +kernel
theorem dX2_runBody_196 : decode cX2_runBody 196 = .ok (.ireturn, 1) := by decide +kernel
theorem dX2_runBody_197 : decode cX2_runBody 197 = .ok (.aload_n 0, 1) := by decide +kernel
theorem dX2_runBody_198 : decode cX2_runBody 198 = .ok (.aload_n 1, 1) := by decide +kernel
theorem dX2_runBody_199 : decode cX2_runBody 199 = .ok (.bipush 20, 2) := by decide +kernel
theorem dX2_runBody_201 : decode cX2_runBody 201 = .ok (.iload_n 3, 1) := by decide +kernel
theorem dX2_runBody_202 : decode cX2_runBody 202 = .ok (.iload 5, 2) := by decide +kernel
theorem dX2_runBody_204 : decode cX2_runBody 204 = .ok (.invokevirtual 41, 3) := by decide +kernel
theorem dX2_runBody_207 : decode cX2_runBody 207 = .ok (.aload_n 0, 1) := by decide +kernel
theorem dX2_runBody_208 : decode cX2_runBody 208 = .ok (.aload_n 1, 1) := by decide +kernel
theorem dX2_runBody_209 : decode cX2_runBody 209 = .ok (.iload_n 3, 1) := by decide +kernel
theorem dX2_runBody_210 : decode cX2_runBody 210 = .ok (.iconst 0, 1) := by decide +kernel
theorem dX2_runBody_211 : decode cX2_runBody 211 = .ok (.iload 5, 2) := by decide +kernel
theorem dX2_runBody_213 : decode cX2_runBody 213 = .ok (.invokevirtual 22, 3) := by decide +kernel
theorem dX2_runBody_216 : decode cX2_runBody 216 = .ok (.isub, 1) := by decide +kernel
theorem dX2_runBody_217 : decode cX2_runBody 217 = .ok (.ireturn, 1) := by decide +kernel
theorem dX2_runBody_218 : decode cX2_runBody 218 = .ok (.iconst 2, 1) := by decide +kernel
theorem dX2_runBody_219 : decode cX2_runBody 219 = .ok (.aload_n 0, 1) := by decide +kernel
theorem dX2_runBody_220 : decode cX2_runBody 220 = .ok (.aload_n 1, 1) := by decide +kernel
theorem dX2_runBody_221 : decode cX2_runBody 221 = .ok (.bipush 21, 2) := by decide +kernel
theorem dX2_runBody_223 : decode cX2_runBody 223 = .ok (.iload_n 3, 1) := by decide +kernel
theorem dX2_runBody_224 : decode cX2_runBody 224 = .ok (.iload 5, 2) := by decide +kernel
theorem dX2_runBody_226 : decode cX2_runBody 226 = .ok (.invokevirtual 41, 3) := by decide +kernel
theorem dX2_runBody_229 : decode cX2_runBody 229 = .ok (.imul, 1) := by decide +kernel
theorem dX2_runBody_230 : decode cX2_runBody 230 = .ok (.ireturn, 1) := by decide +kernel
theorem dX2_runBody_231 : decode cX2_runBody 231 = .ok (.iconst 0, 1) := by decide +kernel
theorem dX2_runBody_232 : decode cX2_runBody 232 = .ok (.ireturn, 1) := by decide +kernel
theorem dX2_leave_0 : decode cX2_leave 0 = .ok (.aload_n 0, 1) := by decide +kernel
theorem dX2_leave_1 : decode cX2_leave 1 = .ok (.getfield 18, 3) := by decide +kernel
theorem dX2_leave_4 : decode cX2_leave 4 = .ok (.bipush 16, 2) := by decide +kernel
theorem dX2_leave_6 : decode cX2_leave 6 = .ok (.if_icmp .ge 23, 3) := by decide +kernel
theorem dX2_leave_9 : decode cX2_leave 9 = .ok (.aload_n 0, 1) := by decide +kernel
theorem dX2_leave_10 : decode cX2_leave 10 = .ok (.getfield 11, 3) := by decide +kernel
theorem dX2_leave_13 : decode cX2_leave 13 = .ok (.aload_n 0, 1) := by decide +kernel
theorem dX2_leave_14 : decode cX2_leave 14 = .ok (.getfield 18, 3) := by decide +kernel
theorem dX2_leave_17 : decode cX2_leave 17 = .ok (.iload_n 1, 1) := by decide +kernel
theorem dX2_leave_18 : decode cX2_leave 18 = .ok (.iastore, 1) := by decide +kernel
theorem dX2_leave_19 : decode cX2_leave 19 = .ok (.aload_n 0, 1) := by decide +kernel
theorem dX2_leave_20 : decode cX2_leave 20 = .ok (.dup, 1) := by decide +kernel
theorem dX2_leave_21 : decode cX2_leave 21 = .ok (.getfield 18, 3) := by decide +kernel
theorem dX2_leave_24 : decode cX2_leave 24 = .ok (.iconst 1, 1) := by decide +kernel
theorem dX2_leave_25 : decode cX2_leave 25 = .ok (.iadd, 1) := by decide +kernel
theorem dX2_leave_26 : decode cX2_leave 26 = .ok (.putfield 18, 3) := by decide +kernel
theorem dX2_leave_29 : decode cX2_leave 29 = .ok (.return_, 1) := by decide +kernel
theorem dX3_init_0 : decode cX3_init 0 = .ok (.aload_n 0, 1) := by decide +kernel
theorem dX3_init_1 : decode cX3_init 1 = .ok (.invokespecial 3, 3) := by decide +kernel
theorem dX3_init_4 : decode cX3_init 4 = .ok (.aload_n 0, 1) := by decide +kernel
theorem dX3_init_5 : decode cX3_init 5 = .ok (.bipush 16, 2) := by decide +kernel
theorem dX3_init_7 : decode cX3_init 7 = .ok (.newarray .int, 2) := by decide +kernel
theorem dX3_init_9 : decode cX3_init 9 = .ok (.putfield 9, 3) := by decide +kernel
theorem dX3_init_12 : decode cX3_init 12 = .ok (.aload_n 0, 1) := by decide +kernel
theorem dX3_init_13 : decode cX3_init 13 = .ok (.bipush 91, 2) := by decide +kernel
theorem dX3_init_15 : decode cX3_init 15 = .ok (.newarray .int, 2) := by decide +kernel
theorem dX3_init_17 : decode cX3_init 17 = .ok (.putfield 15, 3) := by decide +kernel
theorem dX3_init_20 : decode cX3_init 20 = .ok (.aload_n 0, 1) := by decide +kernel
theorem dX3_init_21 : decode cX3_init 21 = .ok (.bipush 91, 2) := by decide +kernel
theorem dX3_init_23 : decode cX3_init 23 = .ok (.newarray .int, 2) := by decide +kernel
theorem dX3_init_25 : decode cX3_init 25 = .ok (.putfield 18, 3) := by decide +kernel
theorem dX3_init_28 : decode cX3_init 28 = .ok (.return_, 1) := by decide +kernel
theorem dX3_fallenBy_0 : decode cX3_fallenBy 0 = .ok (.aload_n 1, 1) := by decide +kernel
theorem dX3_fallenBy_1 : decode cX3_fallenBy 1 = .ok (.aload_n 1, 1) := by decide +kernel
theorem dX3_fallenBy_2 : decode cX3_fallenBy 2 = .ok (.iload_n 2, 1) := by decide +kernel
theorem dX3_fallenBy_3 : decode cX3_fallenBy 3 = .ok (.aload_n 1, 1) := by decide +kernel
theorem dX3_fallenBy_4 : decode cX3_fallenBy 4 = .ok (.getfield 21, 3) := by decide +kernel
theorem dX3_fallenBy_7 : decode cX3_fallenBy 7 = .ok (.invokevirtual 27, 3) := by decide +kernel
theorem dX3_fallenBy_10 : decode cX3_fallenBy 10 = .ok (.invokevirtual 31, 3) := by decide +kernel
theorem dX3_fallenBy_13 : decode cX3_fallenBy 13 = .ok (.istore_n 3, 1) := by decide +kernel
theorem dX3_fallenBy_14 : decode cX3_fallenBy 14 = .ok (.aload_n 1, 1) := by decide +kernel
theorem dX3_fallenBy_15 : decode cX3_fallenBy 15 = .ok (.aload_n 1, 1) := by decide +kernel
theorem dX3_fallenBy_16 : decode cX3_fallenBy 16 = .ok (.getfield 35, 3) := by decide +kernel
theorem dX3_fallenBy_19 : decode cX3_fallenBy 19 = .ok (.invokevirtual 31, 3) := by decide +kernel
theorem dX3_fallenBy_22 : decode cX3_fallenBy 22 = .ok (.iload_n 3, 1) := by decide +kernel
theorem dX3_fallenBy_23 : decode cX3_fallenBy 23 = .ok (.iconst (-1), 1) := by decide +kernel
theorem dX3_fallenBy_24 : decode cX3_fallenBy 24 = .ok (.ixor, 1) := by decide +kernel
theorem dX3_fallenBy_25 : decode cX3_fallenBy 25 = .ok (.iand, 1) := by decide +kernel
theorem dX3_fallenBy_26 : decode cX3_fallenBy 26 = .ok (.ireturn, 1) := by decide +kernel
theorem dX3_lossBy_0 : decode cX3_lossBy 0 = .ok (.aload_n 0, 1) := by decide +kernel
theorem dX3_lossBy_1 : decode cX3_lossBy 1 = .ok (.aload_n 1, 1) := by decide +kernel
theorem dX3_lossBy_2 : decode cX3_lossBy 2 = .ok (.iload_n 2, 1) := by decide +kernel
theorem dX3_lossBy_3 : decode cX3_lossBy 3 = .ok (.invokevirtual 38, 3) := by decide +kernel
theorem dX3_lossBy_6 : decode cX3_lossBy 6 = .ok (.istore_n 3, 1) := by decide +kernel
theorem dX3_lossBy_7 : decode cX3_lossBy 7 = .ok (.iconst 0, 1) := by decide +kernel
theorem dX3_lossBy_8 : decode cX3_lossBy 8 = .ok (.istore 4, 2) := by decide +kernel
theorem dX3_lossBy_10 : decode cX3_lossBy 10 = .ok (.iconst 0, 1) := by decide +kernel
theorem dX3_lossBy_11 : decode cX3_lossBy 11 = .ok (.istore 5, 2) := by decide +kernel
theorem dX3_lossBy_13 : decode cX3_lossBy 13 = .ok (.iload 5, 2) := by decide +kernel
theorem dX3_lossBy_15 : decode cX3_lossBy 15 = .ok (.aload_n 1, 1) := by decide +kernel
theorem dX3_lossBy_16 : decode cX3_lossBy 16 = .ok (.getfield 42, 3) := by decide +kernel
theorem dX3_lossBy_19 : decode cX3_lossBy 19 = .ok (.if_icmp .ge 31, 3) := by decide +kernel
theorem dX3_lossBy_22 : decode cX3_lossBy 22 = .ok (.iload_n 3, 1) := by decide +kernel
theorem dX3_lossBy_23 : decode cX3_lossBy 23 = .ok (.iload 5, 2) := by decide +kernel
theorem dX3_lossBy_25 : decode cX3_lossBy 25 = .ok (.invokestatic 45, 3) := by decide +kernel
theorem dX3_lossBy_28 : decode cX3_lossBy 28 = .ok (.iconst 1, 1) := by decide +kernel
theorem dX3_lossBy_29 : decode cX3_lossBy 29 = .ok (.if_icmp .ne 15, 3) := by decide +kernel
theorem dX3_lossBy_32 : decode cX3_lossBy 32 = .ok (.iload 4, 2) := by decide +kernel
theorem dX3_lossBy_34 : decode cX3_lossBy 34 = .ok (.aload_n 1, 1) := by decide +kernel
theorem dX3_lossBy_35 : decode cX3_lossBy 35 = .ok (.getfield 48, 3) := by decide +kernel
theorem dX3_lossBy_38 : decode cX3_lossBy 38 = .ok (.iload 5, 2) := by decide +kernel
theorem dX3_lossBy_40 : decode cX3_lossBy 40 = .ok (.iaload, 1) := by decide +kernel
theorem dX3_lossBy_41 : decode cX3_lossBy 41 = .ok (.iadd, 1) := by decide +kernel
theorem dX3_lossBy_42 : decode cX3_lossBy 42 = .ok (.istore 4, 2) := by decide +kernel
theorem dX3_lossBy_44 : decode cX3_lossBy 44 = .ok (.iinc 5 1, 3) := by decide +kernel
theorem dX3_lossBy_47 : decode cX3_lossBy 47 = .ok (.goto (-34), 3) := by decide +kernel
theorem dX3_lossBy_50 : decode cX3_lossBy 50 = .ok (.iload 4, 2) := by decide +kernel
theorem dX3_lossBy_52 : decode cX3_lossBy 52 = .ok (.ireturn, 1) := by decide +kernel
theorem dX3_weighAll_0 : decode cX3_weighAll 0 = .ok (.iconst 0, 1) := by decide +kernel
theorem dX3_weighAll_1 : decode cX3_weighAll 1 = .ok (.istore_n 2, 1) := by decide +kernel
theorem dX3_weighAll_2 : decode cX3_weighAll 2 = .ok (.iload_n 2, 1) := by decide +kernel
theorem dX3_weighAll_3 : decode cX3_weighAll 3 = .ok (.iconst 1, 1) := by decide +kernel
theorem dX3_weighAll_4 : decode cX3_weighAll 4 = .ok (.aload_n 1, 1) := by decide +kernel
theorem dX3_weighAll_5 : decode cX3_weighAll 5 = .ok (.getfield 51, 3) := by decide +kernel
theorem dX3_weighAll_8 : decode cX3_weighAll 8 = .ok (.ishl, 1) := by decide +kernel
theorem dX3_weighAll_9 : decode cX3_weighAll 9 = .ok (.if_icmp .ge 21, 3) := by decide +kernel
theorem dX3_weighAll_12 : decode cX3_weighAll 12 = .ok (.aload_n 0, 1) := by decide +kernel
theorem dX3_weighAll_13 : decode cX3_weighAll 13 = .ok (.getfield 9, 3) := by decide +kernel
theorem dX3_weighAll_16 : decode cX3_weighAll 16 = .ok (.iload_n 2, 1) := by decide +kernel
theorem dX3_weighAll_17 : decode cX3_weighAll 17 = .ok (.aload_n 0, 1) := by decide +kernel
theorem dX3_weighAll_18 : decode cX3_weighAll 18 = .ok (.aload_n 1, 1) := by decide +kernel
theorem dX3_weighAll_19 : decode cX3_weighAll 19 = .ok (.iload_n 2, 1) := by decide +kernel
theorem dX3_weighAll_20 : decode cX3_weighAll 20 = .ok (.invokevirtual 54, 3) := by decide +kernel
theorem dX3_weighAll_23 : decode cX3_weighAll 23 = .ok (.iastore, 1) := by decide +kernel
theorem dX3_weighAll_24 : decode cX3_weighAll 24 = .ok (.iinc 2 1, 3) := by decide +kernel
theorem dX3_weighAll_27 : decode cX3_weighAll 27 = .ok (.goto (-25), 3) := by decide +kernel
theorem dX3_weighAll_30 : decode cX3_weighAll 30 = .ok (.return_, 1) := by decide +kernel
theorem dX3_gainOf_0 : decode cX3_gainOf 0 = .ok (.aload_n 0, 1) := by decide +kernel
theorem dX3_gainOf_1 : decode cX3_gainOf 1 = .ok (.getfield 9, 3) := by decide +kernel
theorem dX3_gainOf_4 : decode cX3_gainOf 4 = .ok (.iconst 1, 1) := by decide +kernel
theorem dX3_gainOf_5 : decode cX3_gainOf 5 = .ok (.iload_n 1, 1) := by decide +kernel
theorem dX3_gainOf_6 : decode cX3_gainOf 6 = .ok (.ishl, 1) := by decide +kernel
theorem dX3_gainOf_7 : decode cX3_gainOf 7 = .ok (.iconst 1, 1) := by decide +kernel
theorem dX3_gainOf_8 : decode cX3_gainOf 8 = .ok (.iload_n 2, 1) := by decide +kernel
theorem dX3_gainOf_9 : decode cX3_gainOf 9 = .ok (.ishl, 1) := by decide +kernel
theorem dX3_gainOf_10 : decode cX3_gainOf 10 = .ok (.ior, 1) := by decide +kernel
theorem dX3_gainOf_11 : decode cX3_gainOf 11 = .ok (.iaload, 1) := by decide +kernel
theorem dX3_gainOf_12 : decode cX3_gainOf 12 = .ok (.aload_n 0, 1) := by decide +kernel
theorem dX3_gainOf_13 : decode cX3_gainOf 13 = .ok (.getfield 9, 3) := by decide +kernel
theorem dX3_gainOf_16 : decode cX3_gainOf 16 = .ok (.iconst 1, 1) := by decide +kernel
theorem dX3_gainOf_17 : decode cX3_gainOf 17 = .ok (.iload_n 1, 1) := by decide +kernel
theorem dX3_gainOf_18 : decode cX3_gainOf 18 = .ok (.ishl, 1) := by decide +kernel
theorem dX3_gainOf_19 : decode cX3_gainOf 19 = .ok (.iaload, 1) := by decide +kernel
theorem dX3_gainOf_20 : decode cX3_gainOf 20 = .ok (.isub, 1) := by decide +kernel
theorem dX3_gainOf_21 : decode cX3_gainOf 21 = .ok (.aload_n 0, 1) := by decide +kernel
theorem dX3_gainOf_22 : decode cX3_gainOf 22 = .ok (.getfield 9, 3) := by decide +kernel
theorem dX3_gainOf_25 : decode cX3_gainOf 25 = .ok (.iconst 1, 1) := by decide +kernel
theorem dX3_gainOf_26 : decode cX3_gainOf 26 = .ok (.iload_n 2, 1) := by decide +kernel
theorem dX3_gainOf_27 : decode cX3_gainOf 27 = .ok (.ishl, 1) := by decide +kernel
theorem dX3_gainOf_28 : decode cX3_gainOf 28 = .ok (.iaload, 1) := by decide +kernel
theorem dX3_gainOf_29 : decode cX3_gainOf 29 = .ok (.isub, 1) := by decide +kernel
theorem dX3_gainOf_30 : decode cX3_gainOf 30 = .ok (.ireturn, 1) := by decide +kernel
theorem dX3_bestPair_0 : decode cX3_bestPair 0 = .ok (.ldc 57, 2) := by decide +kernel
theorem dX3_bestPair_2 : decode cX3_bestPair 2 = .ok (.istore_n 2, 1) := by decide +kernel
theorem dX3_bestPair_3 : decode cX3_bestPair 3 = .ok (.iconst 0, 1) := by decide +kernel
theorem dX3_bestPair_4 : decode cX3_bestPair 4 = .ok (.istore_n 3, 1) := by decide +kernel
theorem dX3_bestPair_5 : decode cX3_bestPair 5 = .ok (.iconst 0, 1) := by decide +kernel
theorem dX3_bestPair_6 : decode cX3_bestPair 6 = .ok (.istore 4, 2) := by decide +kernel
theorem dX3_bestPair_8 : decode cX3_bestPair 8 = .ok (.iload 4, 2) := by decide +kernel
theorem dX3_bestPair_10 : decode cX3_bestPair 10 = .ok (.aload_n 1, 1) := by decide +kernel
theorem dX3_bestPair_11 : decode cX3_bestPair 11 = .ok (.getfield 51, 3) := by decide +kernel
theorem dX3_bestPair_14 : decode cX3_bestPair 14 = .ok (.if_icmp .ge 63, 3) := by decide +kernel
theorem dX3_bestPair_17 : decode cX3_bestPair 17 = .ok (.iload 4, 2) := by decide +kernel
theorem dX3_bestPair_19 : decode cX3_bestPair 19 = .ok (.iconst 1, 1) := by decide +kernel
theorem dX3_bestPair_20 : decode cX3_bestPair 20 = .ok (.iadd, 1) := by decide +kernel
theorem dX3_bestPair_21 : decode cX3_bestPair 21 = .ok (.istore 5, 2) := by decide +kernel
theorem dX3_bestPair_23 : decode cX3_bestPair 23 = .ok (.iload 5, 2) := by decide +kernel
theorem dX3_bestPair_25 : decode cX3_bestPair 25 = .ok (.aload_n 1, 1) := by decide +kernel
theorem dX3_bestPair_26 : decode cX3_bestPair 26 = .ok (.getfield 51, 3) := by decide +kernel
theorem dX3_bestPair_29 : decode cX3_bestPair 29 = .ok (.if_icmp .ge 42, 3) := by decide +kernel
theorem dX3_bestPair_32 : decode cX3_bestPair 32 = .ok (.aload_n 0, 1) := by decide +kernel
theorem dX3_bestPair_33 : decode cX3_bestPair 33 = .ok (.iload 4, 2) := by decide +kernel
theorem dX3_bestPair_35 : decode cX3_bestPair 35 = .ok (.iload 5, 2) := by decide +kernel
theorem dX3_bestPair_37 : decode cX3_bestPair 37 = .ok (.invokevirtual 58, 3) := by decide +kernel
theorem dX3_bestPair_40 : decode cX3_bestPair 40 = .ok (.istore 6, 2) := by decide +kernel
theorem dX3_bestPair_42 : decode cX3_bestPair 42 = .ok (.iload_n 2, 1) := by decide +kernel
theorem dX3_bestPair_43 : decode cX3_bestPair 43 = .ok (.ldc 57, 2) := by decide +kernel
theorem dX3_bestPair_45 : decode cX3_bestPair 45 = .ok (.if_icmp .eq 9, 3) := by decide +kernel
theorem dX3_bestPair_48 : decode cX3_bestPair 48 = .ok (.iload 6, 2) := by decide +kernel
theorem dX3_bestPair_50 : decode cX3_bestPair 50 = .ok (.iload_n 3, 1) := by decide +kernel
theorem dX3_bestPair_51 : decode cX3_bestPair 51 = .ok (.if_icmp .le 14, 3) := by decide +kernel
theorem dX3_bestPair_54 : decode cX3_bestPair 54 = .ok (.iconst 4, 1) := by decide +kernel
theorem dX3_bestPair_55 : decode cX3_bestPair 55 = .ok (.iload 4, 2) := by decide +kernel
theorem dX3_bestPair_57 : decode cX3_bestPair 57 = .ok (.imul, 1) := by decide +kernel
theorem dX3_bestPair_58 : decode cX3_bestPair 58 = .ok (.iload 5, 2) := by decide +kernel
theorem dX3_bestPair_60 : decode cX3_bestPair 60 = .ok (.iadd, 1) := by decide +kernel
theorem dX3_bestPair_61 : decode cX3_bestPair 61 = .ok (.istore_n 2, 1) := by decide +kernel
theorem dX3_bestPair_62 : decode cX3_bestPair 62 = .ok (.iload 6, 2) := by decide +kernel
theorem dX3_bestPair_64 : decode cX3_bestPair 64 = .ok (.istore_n 3, 1) := by decide +kernel
theorem dX3_bestPair_65 : decode cX3_bestPair 65 = .ok (.iinc 5 1, 3) := by decide +kernel
theorem dX3_bestPair_68 : decode cX3_bestPair 68 = .ok (.goto (-45), 3) := by decide +kernel
theorem dX3_bestPair_71 : decode cX3_bestPair 71 = .ok (.iinc 4 1, 3) := by decide +kernel
theorem dX3_bestPair_74 : decode cX3_bestPair 74 = .ok (.goto (-66), 3) := by decide +kernel
theorem dX3_bestPair_77 : decode cX3_bestPair 77 = .ok (.iload_n 2, 1) := by decide +kernel
theorem dX3_bestPair_78 : decode cX3_bestPair 78 = .ok (.ireturn, 1) := by decide +kernel
theorem dX3_firstFall_0 : decode cX3_firstFall 0 = .ok (.iconst 0, 1) := by decide +kernel
theorem dX3_firstFall_1 : decode cX3_firstFall 1 = .ok (.istore 4, 2) := by decide +kernel
theorem dX3_firstFall_3 : decode cX3_firstFall 3 = .ok (.iload 4, 2) := by decide +kernel
theorem dX3_firstFall_5 : decode cX3_firstFall 5 = .ok (.iload_n 3, 1) := by decide +kernel
theorem dX3_firstFall_6 : decode cX3_firstFall 6 = .ok (.if_icmp .ge 44, 3) := by decide +kernel
theorem dX3_firstFall_9 : decode cX3_firstFall 9 = .ok (.aload_n 1, 1) := by decide +kernel
theorem dX3_firstFall_10 : decode cX3_firstFall 10 = .ok (.aload_n 1, 1) := by decide +kernel
theorem dX3_firstFall_11 : decode cX3_firstFall 11 = .ok (.getfield 35, 3) := by decide +kernel
theorem dX3_firstFall_14 : decode cX3_firstFall 14 = .ok (.aload_n 1, 1) := by decide +kernel
theorem dX3_firstFall_15 : decode cX3_firstFall 15 = .ok (.getfield 61, 3) := by decide +kernel
theorem dX3_firstFall_18 : decode cX3_firstFall 18 = .ok (.iload 4, 2) := by decide +kernel
theorem dX3_firstFall_20 : decode cX3_firstFall 20 = .ok (.iadd, 1) := by decide +kernel
theorem dX3_firstFall_21 : decode cX3_firstFall 21 = .ok (.iconst 1, 1) := by decide +kernel
theorem dX3_firstFall_22 : decode cX3_firstFall 22 = .ok (.iadd, 1) := by decide +kernel
theorem dX3_firstFall_23 : decode cX3_firstFall 23 = .ok (.invokevirtual 64, 3) := by decide +kernel
theorem dX3_firstFall_26 : decode cX3_firstFall 26 = .ok (.istore 5, 2) := by decide +kernel
theorem dX3_firstFall_28 : decode cX3_firstFall 28 = .ok (.aload_n 1, 1) := by decide +kernel
theorem dX3_firstFall_29 : decode cX3_firstFall 29 = .ok (.iload 5, 2) := by decide +kernel
theorem dX3_firstFall_31 : decode cX3_firstFall 31 = .ok (.invokevirtual 31, 3) := by decide +kernel
theorem dX3_firstFall_34 : decode cX3_firstFall 34 = .ok (.iload_n 2, 1) := by decide +kernel
theorem dX3_firstFall_35 : decode cX3_firstFall 35 = .ok (.invokestatic 45, 3) := by decide +kernel
theorem dX3_firstFall_38 : decode cX3_firstFall 38 = .ok (.ifCond .ne 6, 3) := by decide +kernel
theorem dX3_firstFall_41 : decode cX3_firstFall 41 = .ok (.iload 4, 2) := by decide +kernel
theorem dX3_firstFall_43 : decode cX3_firstFall 43 = .ok (.ireturn, 1) := by decide +kernel
theorem dX3_firstFall_44 : decode cX3_firstFall 44 = .ok (.iinc 4 1, 3) := by decide +kernel
theorem dX3_firstFall_47 : decode cX3_firstFall 47 = .ok (.goto (-44), 3) := by decide +kernel
theorem dX3_firstFall_50 : decode cX3_firstFall 50 = .ok (.ldc 57, 2) := by decide +kernel
theorem dX3_firstFall_52 : decode cX3_firstFall 52 = .ok (.ireturn, 1) := by decide +kernel
theorem dX3_safeFrom_0 : decode cX3_safeFrom 0 = .ok (.aload_n 1, 1) := by decide +kernel
theorem dX3_safeFrom_1 : decode cX3_safeFrom 1 = .ok (.getfield 67, 3) := by decide +kernel
theorem dX3_safeFrom_4 : decode cX3_safeFrom 4 = .ok (.iload_n 2, 1) := by decide +kernel
theorem dX3_safeFrom_5 : decode cX3_safeFrom 5 = .ok (.iaload, 1) := by decide +kernel
theorem dX3_safeFrom_6 : decode cX3_safeFrom 6 = .ok (.istore_n 3, 1) := by decide +kernel
theorem dX3_safeFrom_7 : decode cX3_safeFrom 7 = .ok (.aload_n 1, 1) := by decide +kernel
theorem dX3_safeFrom_8 : decode cX3_safeFrom 8 = .ok (.getfield 35, 3) := by decide +kernel
theorem dX3_safeFrom_11 : decode cX3_safeFrom 11 = .ok (.iload_n 2, 1) := by decide +kernel
theorem dX3_safeFrom_12 : decode cX3_safeFrom 12 = .ok (.invokestatic 45, 3) := by decide +kernel
theorem dX3_safeFrom_15 : decode cX3_safeFrom 15 = .ok (.iconst 1, 1) := by decide +kernel
theorem dX3_safeFrom_16 : decode cX3_safeFrom 16 = .ok (.if_icmp .eq 11, 3) := by decide +kernel
theorem dX3_safeFrom_19 : decode cX3_safeFrom 19 = .ok (.aload_n 1, 1) := by decide +kernel
theorem dX3_safeFrom_20 : decode cX3_safeFrom 20 = .ok (.iload_n 3, 1) := by decide +kernel
theorem dX3_safeFrom_21 : decode cX3_safeFrom 21 = .ok (.invokevirtual 70, 3) := by decide +kernel
theorem dX3_safeFrom_24 : decode cX3_safeFrom 24 = .ok (.ifCond .eq 6, 3) := by decide +kernel
theorem dX3_safeFrom_27 : decode cX3_safeFrom 27 = .ok (.ldc 57, 2) := by decide +kernel
theorem dX3_safeFrom_29 : decode cX3_safeFrom 29 = .ok (.ireturn, 1) := by decide +kernel
theorem dX3_safeFrom_30 : decode cX3_safeFrom 30 = .ok (.aload_n 1, 1) := by decide +kernel
theorem dX3_safeFrom_31 : decode cX3_safeFrom 31 = .ok (.getfield 61, 3) := by decide +kernel
theorem dX3_safeFrom_34 : decode cX3_safeFrom 34 = .ok (.aload_n 1, 1) := by decide +kernel
theorem dX3_safeFrom_35 : decode cX3_safeFrom 35 = .ok (.getfield 74, 3) := by decide +kernel
theorem dX3_safeFrom_38 : decode cX3_safeFrom 38 = .ok (.iload_n 2, 1) := by decide +kernel
theorem dX3_safeFrom_39 : decode cX3_safeFrom 39 = .ok (.iaload, 1) := by decide +kernel
theorem dX3_safeFrom_40 : decode cX3_safeFrom 40 = .ok (.aload_n 1, 1) := by decide +kernel
theorem dX3_safeFrom_41 : decode cX3_safeFrom 41 = .ok (.iload_n 3, 1) := by decide +kernel
theorem dX3_safeFrom_42 : decode cX3_safeFrom 42 = .ok (.aload_n 1, 1) := by decide +kernel
theorem dX3_safeFrom_43 : decode cX3_safeFrom 43 = .ok (.getfield 21, 3) := by decide +kernel
theorem dX3_safeFrom_46 : decode cX3_safeFrom 46 = .ok (.invokevirtual 77, 3) := by decide +kernel
theorem dX3_safeFrom_49 : decode cX3_safeFrom 49 = .ok (.iadd, 1) := by decide +kernel
theorem dX3_safeFrom_50 : decode cX3_safeFrom 50 = .ok (.iconst 1, 1) := by decide +kernel
theorem dX3_safeFrom_51 : decode cX3_safeFrom 51 = .ok (.iadd, 1) := by decide +kernel
theorem dX3_safeFrom_52 : decode cX3_safeFrom 52 = .ok (.invokestatic 80, 3) := by decide +kernel
theorem dX3_safeFrom_55 : decode cX3_safeFrom 55 = .ok (.ireturn, 1) := by decide +kernel
theorem dX3_doublesFor_0 : decode cX3_doublesFor 0 = .ok (.aload_n 0, 1) := by decide +kernel
theorem dX3_doublesFor_1 : decode cX3_doublesFor 1 = .ok (.aload_n 1, 1) := by decide +kernel
theorem dX3_doublesFor_2 : decode cX3_doublesFor 2 = .ok (.iload_n 2, 1) := by decide +kernel
theorem dX3_doublesFor_3 : decode cX3_doublesFor 3 = .ok (.aload_n 1, 1) := by decide +kernel
theorem dX3_doublesFor_4 : decode cX3_doublesFor 4 = .ok (.aload_n 1, 1) := by decide +kernel
theorem dX3_doublesFor_5 : decode cX3_doublesFor 5 = .ok (.iload_n 3, 1) := by decide +kernel
theorem dX3_doublesFor_6 : decode cX3_doublesFor 6 = .ok (.aload_n 1, 1) := by decide +kernel
theorem dX3_doublesFor_7 : decode cX3_doublesFor 7 = .ok (.getfield 21, 3) := by decide +kernel
theorem dX3_doublesFor_10 : decode cX3_doublesFor 10 = .ok (.invokevirtual 27, 3) := by decide +kernel
theorem dX3_doublesFor_13 : decode cX3_doublesFor 13 = .ok (.invokevirtual 85, 3) := by decide +kernel
theorem dX3_doublesFor_16 : decode cX3_doublesFor 16 = .ok (.invokevirtual 88, 3) := by decide +kernel
theorem dX3_doublesFor_19 : decode cX3_doublesFor 19 = .ok (.istore 5, 2) := by decide +kernel
theorem dX3_doublesFor_21 : decode cX3_doublesFor 21 = .ok (.iload 5, 2) := by decide +kernel
theorem dX3_doublesFor_23 : decode cX3_doublesFor 23 = .ok (.ifCond .ne 5, 3) := by decide +kernel
theorem dX3_doublesFor_26 : decode cX3_doublesFor 26 = .ok (.iconst 0, 1) := by decide +kernel
theorem dX3_doublesFor_27 : decode cX3_doublesFor 27 = .ok (.ireturn, 1) := by decide +kernel
theorem dX3_doublesFor_28 : decode cX3_doublesFor 28 = .ok (.aload_n 0, 1) := by decide +kernel
theorem dX3_doublesFor_29 : decode cX3_doublesFor 29 = .ok (.aload_n 1, 1) := by decide +kernel
theorem dX3_doublesFor_30 : decode cX3_doublesFor 30 = .ok (.iload_n 3, 1) := by decide +kernel
theorem dX3_doublesFor_31 : decode cX3_doublesFor 31 = .ok (.invokevirtual 92, 3) := by decide +kernel
theorem dX3_doublesFor_34 : decode cX3_doublesFor 34 = .ok (.istore 6, 2) := by decide +kernel
theorem dX3_doublesFor_36 : decode cX3_doublesFor 36 = .ok (.iload 6, 2) := by decide +kernel
theorem dX3_doublesFor_38 : decode cX3_doublesFor 38 = .ok (.ldc 57, 2) := by decide +kernel
theorem dX3_doublesFor_40 : decode cX3_doublesFor 40 = .ok (.if_icmp .ne 6, 3) := by decide +kernel
theorem dX3_doublesFor_43 : decode cX3_doublesFor 43 = .ok (.ldc 57, 2) := by decide +kernel
theorem dX3_doublesFor_45 : decode cX3_doublesFor 45 = .ok (.ireturn, 1) := by decide +kernel
theorem dX3_doublesFor_46 : decode cX3_doublesFor 46 = .ok (.iload 4, 2) := by decide +kernel
theorem dX3_doublesFor_48 : decode cX3_doublesFor 48 = .ok (.lookupswitch 43 #[(0, 28), (1, 34)], 28) := by decide +kernel
theorem dX3_doublesFor_76 : decode cX3_doublesFor 76 = .ok (.iload 5, 2) := by decide +kernel
theorem dX3_doublesFor_78 : decode cX3_doublesFor 78 = .ok (.invokestatic 95, 3) := by decide +kernel
theorem dX3_doublesFor_81 : decode cX3_doublesFor 81 = .ok (.ireturn, 1) := by decide +kernel
theorem dX3_doublesFor_82 : decode cX3_doublesFor 82 = .ok (.iload 5, 2) := by decide +kernel
theorem dX3_doublesFor_84 : decode cX3_doublesFor 84 = .ok (.invokestatic 95, 3) := by decide +kernel
theorem dX3_doublesFor_87 : decode cX3_doublesFor 87 = .ok (.iload 6, 2) := by decide +kernel
theorem dX3_doublesFor_89 : decode cX3_doublesFor 89 = .ok (.imul, 1) := by decide +kernel
theorem dX3_doublesFor_90 : decode cX3_doublesFor 90 = .ok (.ireturn, 1) := by decide +kernel
theorem dX3_doublesFor_91 : decode cX3_doublesFor 91 = .ok (.iload 5, 2) := by decide +kernel
theorem dX3_doublesFor_93 : decode cX3_doublesFor 93 = .ok (.ireturn, 1) := by decide +kernel
theorem dX3_fewestPlaces_0 : decode cX3_fewestPlaces 0 = .ok (.bipush 63, 2) := by decide +kernel
theorem dX3_fewestPlaces_2 : decode cX3_fewestPlaces 2 = .ok (.istore 4, 2) := by decide +kernel
theorem dX3_fewestPlaces_4 : decode cX3_fewestPlaces 4 = .ok (.iconst 0, 1) := by decide +kernel
theorem dX3_fewestPlaces_5 : decode cX3_fewestPlaces 5 = .ok (.istore 5, 2) := by decide +kernel
theorem dX3_fewestPlaces_7 : decode cX3_fewestPlaces 7 = .ok (.iload 5, 2) := by decide +kernel
theorem dX3_fewestPlaces_9 : decode cX3_fewestPlaces 9 = .ok (.bipush 64, 2) := by decide +kernel
theorem dX3_fewestPlaces_11 : decode cX3_fewestPlaces 11 = .ok (.if_icmp .ge 54, 3) := by decide +kernel
theorem dX3_fewestPlaces_14 : decode cX3_fewestPlaces 14 = .ok (.iload 5, 2) := by decide +kernel
theorem dX3_fewestPlaces_16 : decode cX3_fewestPlaces 16 = .ok (.invokestatic 95, 3) := by decide +kernel
theorem dX3_fewestPlaces_19 : decode cX3_fewestPlaces 19 = .ok (.iload 4, 2) := by decide +kernel
theorem dX3_fewestPlaces_21 : decode cX3_fewestPlaces 21 = .ok (.invokestatic 95, 3) := by decide +kernel
theorem dX3_fewestPlaces_24 : decode cX3_fewestPlaces 24 = .ok (.if_icmp .ge 7, 3) := by decide +kernel
theorem dX3_fewestPlaces_27 : decode cX3_fewestPlaces 27 = .ok (.iconst 1, 1) := by decide +kernel
theorem dX3_fewestPlaces_28 : decode cX3_fewestPlaces 28 = .ok (.goto 4, 3) := by decide +kernel
theorem dX3_fewestPlaces_31 : decode cX3_fewestPlaces 31 = .ok (.iconst 0, 1) := by decide +kernel
theorem dX3_fewestPlaces_32 : decode cX3_fewestPlaces 32 = .ok (.istore 6, 2) := by decide +kernel
theorem dX3_fewestPlaces_34 : decode cX3_fewestPlaces 34 = .ok (.iload 6, 2) := by decide +kernel
theorem dX3_fewestPlaces_36 : decode cX3_fewestPlaces 36 = .ok (.ifCond .eq 23, 3) := by decide +kernel
theorem dX3_fewestPlaces_39 : decode cX3_fewestPlaces 39 = .ok (.aload_n 1, 1) := by decide +kernel
theorem dX3_fewestPlaces_40 : decode cX3_fewestPlaces 40 = .ok (.iload_n 3, 1) := by decide +kernel
theorem dX3_fewestPlaces_41 : decode cX3_fewestPlaces 41 = .ok (.iload 5, 2) := by decide +kernel
theorem dX3_fewestPlaces_43 : decode cX3_fewestPlaces 43 = .ok (.ior, 1) := by decide +kernel
theorem dX3_fewestPlaces_44 : decode cX3_fewestPlaces 44 = .ok (.invokevirtual 100, 3) := by decide +kernel
theorem dX3_fewestPlaces_47 : decode cX3_fewestPlaces 47 = .ok (.iload_n 2, 1) := by decide +kernel
theorem dX3_fewestPlaces_48 : decode cX3_fewestPlaces 48 = .ok (.invokestatic 45, 3) := by decide +kernel
theorem dX3_fewestPlaces_51 : decode cX3_fewestPlaces 51 = .ok (.iconst 1, 1) := by decide +kernel
theorem dX3_fewestPlaces_52 : decode cX3_fewestPlaces 52 = .ok (.if_icmp .ne 7, 3) := by decide +kernel
theorem dX3_fewestPlaces_55 : decode cX3_fewestPlaces 55 = .ok (.iload 5, 2) := by decide +kernel
theorem dX3_fewestPlaces_57 : decode cX3_fewestPlaces 57 = .ok (.istore 4, 2) := by decide +kernel
theorem dX3_fewestPlaces_59 : decode cX3_fewestPlaces 59 = .ok (.iinc 5 1, 3) := by decide +kernel
theorem dX3_fewestPlaces_62 : decode cX3_fewestPlaces 62 = .ok (.goto (-55), 3) := by decide +kernel
theorem dX3_fewestPlaces_65 : decode cX3_fewestPlaces 65 = .ok (.iload 4, 2) := by decide +kernel
theorem dX3_fewestPlaces_67 : decode cX3_fewestPlaces 67 = .ok (.ireturn, 1) := by decide +kernel
theorem dX3_cheapestBeside_0 : decode cX3_cheapestBeside 0 = .ok (.ldc 57, 2) := by decide +kernel
theorem dX3_cheapestBeside_2 : decode cX3_cheapestBeside 2 = .ok (.istore_n 3, 1) := by decide +kernel
theorem dX3_cheapestBeside_3 : decode cX3_cheapestBeside 3 = .ok (.iconst 0, 1) := by decide +kernel
theorem dX3_cheapestBeside_4 : decode cX3_cheapestBeside 4 = .ok (.istore 4, 2) := by decide +kernel
theorem dX3_cheapestBeside_6 : decode cX3_cheapestBeside 6 = .ok (.iload 4, 2) := by decide +kernel
theorem dX3_cheapestBeside_8 : decode cX3_cheapestBeside 8 = .ok (.aload_n 1, 1) := by decide +kernel
theorem dX3_cheapestBeside_9 : decode cX3_cheapestBeside 9 = .ok (.getfield 51, 3) := by decide +kernel
theorem dX3_cheapestBeside_12 : decode cX3_cheapestBeside 12 = .ok (.if_icmp .ge 64, 3) := by decide +kernel
theorem dX3_cheapestBeside_15 : decode cX3_cheapestBeside 15 = .ok (.iload_n 2, 1) := by decide +kernel
theorem dX3_cheapestBeside_16 : decode cX3_cheapestBeside 16 = .ok (.iload 4, 2) := by decide +kernel
theorem dX3_cheapestBeside_18 : decode cX3_cheapestBeside 18 = .ok (.invokestatic 45, 3) := by decide +kernel
theorem dX3_cheapestBeside_21 : decode cX3_cheapestBeside 21 = .ok (.ifCond .ne 16, 3) := by decide +kernel
theorem dX3_cheapestBeside_24 : decode cX3_cheapestBeside 24 = .ok (.aload_n 1, 1) := by decide +kernel
theorem dX3_cheapestBeside_25 : decode cX3_cheapestBeside 25 = .ok (.iload 4, 2) := by decide +kernel
theorem dX3_cheapestBeside_27 : decode cX3_cheapestBeside 27 = .ok (.invokevirtual 70, 3) := by decide +kernel
theorem dX3_cheapestBeside_30 : decode cX3_cheapestBeside 30 = .ok (.ifCond .ne 7, 3) := by decide +kernel
theorem dX3_cheapestBeside_33 : decode cX3_cheapestBeside 33 = .ok (.iconst 1, 1) := by decide +kernel
theorem dX3_cheapestBeside_34 : decode cX3_cheapestBeside 34 = .ok (.goto 4, 3) := by decide +kernel
theorem dX3_cheapestBeside_37 : decode cX3_cheapestBeside 37 = .ok (.iconst 0, 1) := by decide +kernel
theorem dX3_cheapestBeside_38 : decode cX3_cheapestBeside 38 = .ok (.istore 5, 2) := by decide +kernel
theorem dX3_cheapestBeside_40 : decode cX3_cheapestBeside 40 = .ok (.iload 5, 2) := by decide +kernel
theorem dX3_cheapestBeside_42 : decode cX3_cheapestBeside 42 = .ok (.ifCond .eq 28, 3) := by decide +kernel
theorem dX3_cheapestBeside_45 : decode cX3_cheapestBeside 45 = .ok (.iload_n 3, 1) := by decide +kernel
theorem dX3_cheapestBeside_46 : decode cX3_cheapestBeside 46 = .ok (.ldc 57, 2) := by decide +kernel
theorem dX3_cheapestBeside_48 : decode cX3_cheapestBeside 48 = .ok (.if_icmp .eq 14, 3) := by decide +kernel
theorem dX3_cheapestBeside_51 : decode cX3_cheapestBeside 51 = .ok (.aload_n 1, 1) := by decide +kernel
theorem dX3_cheapestBeside_52 : decode cX3_cheapestBeside 52 = .ok (.getfield 103, 3) := by decide +kernel
theorem dX3_cheapestBeside_55 : decode cX3_cheapestBeside 55 = .ok (.iload 4, 2) := by decide +kernel
theorem dX3_cheapestBeside_57 : decode cX3_cheapestBeside 57 = .ok (.iaload, 1) := by decide +kernel
theorem dX3_cheapestBeside_58 : decode cX3_cheapestBeside 58 = .ok (.iload_n 3, 1) := by decide +kernel
theorem dX3_cheapestBeside_59 : decode cX3_cheapestBeside 59 = .ok (.if_icmp .ge 11, 3) := by decide +kernel
theorem dX3_cheapestBeside_62 : decode cX3_cheapestBeside 62 = .ok (.aload_n 1, 1) := by decide +kernel
theorem dX3_cheapestBeside_63 : decode cX3_cheapestBeside 63 = .ok (.getfield 103, 3) := by decide +kernel
theorem dX3_cheapestBeside_66 : decode cX3_cheapestBeside 66 = .ok (.iload 4, 2) := by decide +kernel
theorem dX3_cheapestBeside_68 : decode cX3_cheapestBeside 68 = .ok (.iaload, 1) := by decide +kernel
theorem dX3_cheapestBeside_69 : decode cX3_cheapestBeside 69 = .ok (.istore_n 3, 1) := by decide +kernel
theorem dX3_cheapestBeside_70 : decode cX3_cheapestBeside 70 = .ok (.iinc 4 1, 3) := by decide +kernel
theorem dX3_cheapestBeside_73 : decode cX3_cheapestBeside 73 = .ok (.goto (-67), 3) := by decide +kernel
theorem dX3_cheapestBeside_76 : decode cX3_cheapestBeside 76 = .ok (.iload_n 3, 1) := by decide +kernel
theorem dX3_cheapestBeside_77 : decode cX3_cheapestBeside 77 = .ok (.ireturn, 1) := by decide +kernel
theorem dX3_leastYear_0 : decode cX3_leastYear 0 = .ok (.iconst 1, 1) := by decide +kernel
theorem dX3_leastYear_1 : decode cX3_leastYear 1 = .ok (.istore 4, 2) := by decide +kernel
theorem dX3_leastYear_3 : decode cX3_leastYear 3 = .ok (.iload 4, 2) := by decide +kernel
theorem dX3_leastYear_5 : decode cX3_leastYear 5 = .ok (.bipush 99, 2) := by decide +kernel
theorem dX3_leastYear_7 : decode cX3_leastYear 7 = .ok (.if_icmp .gt 30, 3) := by decide +kernel
theorem dX3_leastYear_10 : decode cX3_leastYear 10 = .ok (.aload_n 1, 1) := by decide +kernel
theorem dX3_leastYear_11 : decode cX3_leastYear 11 = .ok (.aload_n 1, 1) := by decide +kernel
theorem dX3_leastYear_12 : decode cX3_leastYear 12 = .ok (.iload_n 3, 1) := by decide +kernel
theorem dX3_leastYear_13 : decode cX3_leastYear 13 = .ok (.iload 4, 2) := by decide +kernel
theorem dX3_leastYear_15 : decode cX3_leastYear 15 = .ok (.invokevirtual 27, 3) := by decide +kernel
theorem dX3_leastYear_18 : decode cX3_leastYear 18 = .ok (.invokevirtual 31, 3) := by decide +kernel
theorem dX3_leastYear_21 : decode cX3_leastYear 21 = .ok (.iload_n 2, 1) := by decide +kernel
theorem dX3_leastYear_22 : decode cX3_leastYear 22 = .ok (.invokestatic 45, 3) := by decide +kernel
theorem dX3_leastYear_25 : decode cX3_leastYear 25 = .ok (.ifCond .ne 6, 3) := by decide +kernel
theorem dX3_leastYear_28 : decode cX3_leastYear 28 = .ok (.iload 4, 2) := by decide +kernel
theorem dX3_leastYear_30 : decode cX3_leastYear 30 = .ok (.ireturn, 1) := by decide +kernel
theorem dX3_leastYear_31 : decode cX3_leastYear 31 = .ok (.iinc 4 1, 3) := by decide +kernel
theorem dX3_leastYear_34 : decode cX3_leastYear 34 = .ok (.goto (-31), 3) := by decide +kernel
theorem dX3_leastYear_37 : decode cX3_leastYear 37 = .ok (.ldc 57, 2) := by decide +kernel
theorem dX3_leastYear_39 : decode cX3_leastYear 39 = .ok (.ireturn, 1) := by decide +kernel
theorem dX3_bestOrder_0 : decode cX3_bestOrder 0 = .ok (.iconst 0, 1) := by decide +kernel
theorem dX3_bestOrder_1 : decode cX3_bestOrder 1 = .ok (.istore_n 2, 1) := by decide +kernel
theorem dX3_bestOrder_2 : decode cX3_bestOrder 2 = .ok (.iconst (-1), 1) := by decide +kernel
theorem dX3_bestOrder_3 : decode cX3_bestOrder 3 = .ok (.istore_n 3, 1) := by decide +kernel
theorem dX3_bestOrder_4 : decode cX3_bestOrder 4 = .ok (.iconst 0, 1) := by decide +kernel
theorem dX3_bestOrder_5 : decode cX3_bestOrder 5 = .ok (.istore 4, 2) := by decide +kernel
theorem dX3_bestOrder_7 : decode cX3_bestOrder 7 = .ok (.iload 4, 2) := by decide +kernel
theorem dX3_bestOrder_9 : decode cX3_bestOrder 9 = .ok (.iconst 1, 1) := by decide +kernel
theorem dX3_bestOrder_10 : decode cX3_bestOrder 10 = .ok (.iconst 2, 1) := by decide +kernel
theorem dX3_bestOrder_11 : decode cX3_bestOrder 11 = .ok (.aload_n 1, 1) := by decide +kernel
theorem dX3_bestOrder_12 : decode cX3_bestOrder 12 = .ok (.getfield 51, 3) := by decide +kernel
theorem dX3_bestOrder_15 : decode cX3_bestOrder 15 = .ok (.imul, 1) := by decide +kernel
theorem dX3_bestOrder_16 : decode cX3_bestOrder 16 = .ok (.ishl, 1) := by decide +kernel
theorem dX3_bestOrder_17 : decode cX3_bestOrder 17 = .ok (.if_icmp .ge 30, 3) := by decide +kernel
theorem dX3_bestOrder_20 : decode cX3_bestOrder 20 = .ok (.aload_n 0, 1) := by decide +kernel
theorem dX3_bestOrder_21 : decode cX3_bestOrder 21 = .ok (.aload_n 1, 1) := by decide +kernel
theorem dX3_bestOrder_22 : decode cX3_bestOrder 22 = .ok (.iload 4, 2) := by decide +kernel
theorem dX3_bestOrder_24 : decode cX3_bestOrder 24 = .ok (.invokevirtual 106, 3) := by decide +kernel
theorem dX3_bestOrder_27 : decode cX3_bestOrder 27 = .ok (.istore 5, 2) := by decide +kernel
theorem dX3_bestOrder_29 : decode cX3_bestOrder 29 = .ok (.iload 5, 2) := by decide +kernel
theorem dX3_bestOrder_31 : decode cX3_bestOrder 31 = .ok (.iload_n 3, 1) := by decide +kernel
theorem dX3_bestOrder_32 : decode cX3_bestOrder 32 = .ok (.if_icmp .le 9, 3) := by decide +kernel
theorem dX3_bestOrder_35 : decode cX3_bestOrder 35 = .ok (.iload 4, 2) := by decide +kernel
theorem dX3_bestOrder_37 : decode cX3_bestOrder 37 = .ok (.istore_n 2, 1) := by decide +kernel
theorem dX3_bestOrder_38 : decode cX3_bestOrder 38 = .ok (.iload 5, 2) := by decide +kernel
theorem dX3_bestOrder_40 : decode cX3_bestOrder 40 = .ok (.istore_n 3, 1) := by decide +kernel
theorem dX3_bestOrder_41 : decode cX3_bestOrder 41 = .ok (.iinc 4 1, 3) := by decide +kernel
theorem dX3_bestOrder_44 : decode cX3_bestOrder 44 = .ok (.goto (-37), 3) := by decide +kernel
theorem dX3_bestOrder_47 : decode cX3_bestOrder 47 = .ok (.iload_n 2, 1) := by decide +kernel
theorem dX3_bestOrder_48 : decode cX3_bestOrder 48 = .ok (.ireturn, 1) := by decide +kernel
theorem dX3_handInOrder_0 : decode cX3_handInOrder 0 = .ok (.iload_n 2, 1) := by decide +kernel
theorem dX3_handInOrder_1 : decode cX3_handInOrder 1 = .ok (.iconst 2, 1) := by decide +kernel
theorem dX3_handInOrder_2 : decode cX3_handInOrder 2 = .ok (.aload_n 1, 1) := by decide +kernel
theorem dX3_handInOrder_3 : decode cX3_handInOrder 3 = .ok (.getfield 51, 3) := by decide +kernel
theorem dX3_handInOrder_6 : decode cX3_handInOrder 6 = .ok (.iconst 1, 1) := by decide +kernel
theorem dX3_handInOrder_7 : decode cX3_handInOrder 7 = .ok (.isub, 1) := by decide +kernel
theorem dX3_handInOrder_8 : decode cX3_handInOrder 8 = .ok (.iload_n 3, 1) := by decide +kernel
theorem dX3_handInOrder_9 : decode cX3_handInOrder 9 = .ok (.isub, 1) := by decide +kernel
theorem dX3_handInOrder_10 : decode cX3_handInOrder 10 = .ok (.imul, 1) := by decide +kernel
theorem dX3_handInOrder_11 : decode cX3_handInOrder 11 = .ok (.ishr, 1) := by decide +kernel
theorem dX3_handInOrder_12 : decode cX3_handInOrder 12 = .ok (.iconst 3, 1) := by decide +kernel
theorem dX3_handInOrder_13 : decode cX3_handInOrder 13 = .ok (.iand, 1) := by decide +kernel
theorem dX3_handInOrder_14 : decode cX3_handInOrder 14 = .ok (.ireturn, 1) := by decide +kernel
theorem dX3_sumOfOrder_0 : decode cX3_sumOfOrder 0 = .ok (.iconst 0, 1) := by decide +kernel
theorem dX3_sumOfOrder_1 : decode cX3_sumOfOrder 1 = .ok (.istore_n 3, 1) := by decide +kernel
theorem dX3_sumOfOrder_2 : decode cX3_sumOfOrder 2 = .ok (.iconst 0, 1) := by decide +kernel
theorem dX3_sumOfOrder_3 : decode cX3_sumOfOrder 3 = .ok (.istore 4, 2) := by decide +kernel
theorem dX3_sumOfOrder_5 : decode cX3_sumOfOrder 5 = .ok (.iconst 0, 1) := by decide +kernel
theorem dX3_sumOfOrder_6 : decode cX3_sumOfOrder 6 = .ok (.istore 5, 2) := by decide +kernel
theorem dX3_sumOfOrder_8 : decode cX3_sumOfOrder 8 = .ok (.iload 5, 2) := by decide +kernel
theorem dX3_sumOfOrder_10 : decode cX3_sumOfOrder 10 = .ok (.aload_n 1, 1) := by decide +kernel
theorem dX3_sumOfOrder_11 : decode cX3_sumOfOrder 11 = .ok (.getfield 51, 3) := by decide +kernel
theorem dX3_sumOfOrder_14 : decode cX3_sumOfOrder 14 = .ok (.if_icmp .ge 58, 3) := by decide +kernel
theorem dX3_sumOfOrder_17 : decode cX3_sumOfOrder 17 = .ok (.aload_n 0, 1) := by decide +kernel
theorem dX3_sumOfOrder_18 : decode cX3_sumOfOrder 18 = .ok (.aload_n 1, 1) := by decide +kernel
theorem dX3_sumOfOrder_19 : decode cX3_sumOfOrder 19 = .ok (.iload_n 2, 1) := by decide +kernel
theorem dX3_sumOfOrder_20 : decode cX3_sumOfOrder 20 = .ok (.iload 5, 2) := by decide +kernel
theorem dX3_sumOfOrder_22 : decode cX3_sumOfOrder 22 = .ok (.invokevirtual 109, 3) := by decide +kernel
theorem dX3_sumOfOrder_25 : decode cX3_sumOfOrder 25 = .ok (.istore 6, 2) := by decide +kernel
theorem dX3_sumOfOrder_27 : decode cX3_sumOfOrder 27 = .ok (.iload 6, 2) := by decide +kernel
theorem dX3_sumOfOrder_29 : decode cX3_sumOfOrder 29 = .ok (.aload_n 1, 1) := by decide +kernel
theorem dX3_sumOfOrder_30 : decode cX3_sumOfOrder 30 = .ok (.getfield 51, 3) := by decide +kernel
theorem dX3_sumOfOrder_33 : decode cX3_sumOfOrder 33 = .ok (.if_icmp .ge 13, 3) := by decide +kernel
theorem dX3_sumOfOrder_36 : decode cX3_sumOfOrder 36 = .ok (.iload_n 3, 1) := by decide +kernel
theorem dX3_sumOfOrder_37 : decode cX3_sumOfOrder 37 = .ok (.iload 6, 2) := by decide +kernel
theorem dX3_sumOfOrder_39 : decode cX3_sumOfOrder 39 = .ok (.invokestatic 45, 3) := by decide +kernel
theorem dX3_sumOfOrder_42 : decode cX3_sumOfOrder 42 = .ok (.iconst 1, 1) := by decide +kernel
theorem dX3_sumOfOrder_43 : decode cX3_sumOfOrder 43 = .ok (.if_icmp .ne 5, 3) := by decide +kernel
theorem dX3_sumOfOrder_46 : decode cX3_sumOfOrder 46 = .ok (.iconst (-1), 1) := by decide +kernel
theorem dX3_sumOfOrder_47 : decode cX3_sumOfOrder 47 = .ok (.ireturn, 1) := by decide +kernel
theorem dX3_sumOfOrder_48 : decode cX3_sumOfOrder 48 = .ok (.iload_n 3, 1) := by decide +kernel
theorem dX3_sumOfOrder_49 : decode cX3_sumOfOrder 49 = .ok (.iconst 1, 1) := by decide +kernel
theorem dX3_sumOfOrder_50 : decode cX3_sumOfOrder 50 = .ok (.iload 6, 2) := by decide +kernel
theorem dX3_sumOfOrder_52 : decode cX3_sumOfOrder 52 = .ok (.ishl, 1) := by decide +kernel
theorem dX3_sumOfOrder_53 : decode cX3_sumOfOrder 53 = .ok (.ior, 1) := by decide +kernel
theorem dX3_sumOfOrder_54 : decode cX3_sumOfOrder 54 = .ok (.istore_n 3, 1) := by decide +kernel
theorem dX3_sumOfOrder_55 : decode cX3_sumOfOrder 55 = .ok (.iload 4, 2) := by decide +kernel
theorem dX3_sumOfOrder_57 : decode cX3_sumOfOrder 57 = .ok (.aload_n 0, 1) := by decide +kernel
theorem dX3_sumOfOrder_58 : decode cX3_sumOfOrder 58 = .ok (.getfield 9, 3) := by decide +kernel
theorem dX3_sumOfOrder_61 : decode cX3_sumOfOrder 61 = .ok (.iload_n 3, 1) := by decide +kernel
theorem dX3_sumOfOrder_62 : decode cX3_sumOfOrder 62 = .ok (.iaload, 1) := by decide +kernel
theorem dX3_sumOfOrder_63 : decode cX3_sumOfOrder 63 = .ok (.iadd, 1) := by decide +kernel
theorem dX3_sumOfOrder_64 : decode cX3_sumOfOrder 64 = .ok (.istore 4, 2) := by decide +kernel
theorem dX3_sumOfOrder_66 : decode cX3_sumOfOrder 66 = .ok (.iinc 5 1, 3) := by decide +kernel
theorem dX3_sumOfOrder_69 : decode cX3_sumOfOrder 69 = .ok (.goto (-61), 3) := by decide +kernel
theorem dX3_sumOfOrder_72 : decode cX3_sumOfOrder 72 = .ok (.iload 4, 2) := by decide +kernel
theorem dX3_sumOfOrder_74 : decode cX3_sumOfOrder 74 = .ok (.ireturn, 1) := by decide +kernel
theorem dX3_blanksOf_0 : decode cX3_blanksOf 0 = .ok (.aload_n 0, 1) := by decide +kernel
theorem dX3_blanksOf_1 : decode cX3_blanksOf 1 = .ok (.getfield 15, 3) := by decide +kernel
theorem dX3_blanksOf_4 : decode cX3_blanksOf 4 = .ok (.iconst 0, 1) := by decide +kernel
theorem dX3_blanksOf_5 : decode cX3_blanksOf 5 = .ok (.invokestatic 112, 3) := by decide +kernel
theorem dX3_blanksOf_8 : decode cX3_blanksOf 8 = .ok (.aload_n 0, 1) := by decide +kernel
theorem dX3_blanksOf_9 : decode cX3_blanksOf 9 = .ok (.getfield 18, 3) := by decide +kernel
theorem dX3_blanksOf_12 : decode cX3_blanksOf 12 = .ok (.iconst 0, 1) := by decide +kernel
theorem dX3_blanksOf_13 : decode cX3_blanksOf 13 = .ok (.invokestatic 112, 3) := by decide +kernel
theorem dX3_blanksOf_16 : decode cX3_blanksOf 16 = .ok (.aload_n 0, 1) := by decide +kernel
theorem dX3_blanksOf_17 : decode cX3_blanksOf 17 = .ok (.getfield 15, 3) := by decide +kernel
theorem dX3_blanksOf_20 : decode cX3_blanksOf 20 = .ok (.iconst 0, 1) := by decide +kernel
theorem dX3_blanksOf_21 : decode cX3_blanksOf 21 = .ok (.iconst 1, 1) := by decide +kernel
theorem dX3_blanksOf_22 : decode cX3_blanksOf 22 = .ok (.iastore, 1) := by decide +kernel
theorem dX3_blanksOf_23 : decode cX3_blanksOf 23 = .ok (.aload_n 1, 1) := by decide +kernel
theorem dX3_blanksOf_24 : decode cX3_blanksOf 24 = .ok (.bipush 15, 2) := by decide +kernel
theorem dX3_blanksOf_26 : decode cX3_blanksOf 26 = .ok (.aload_n 1, 1) := by decide +kernel
theorem dX3_blanksOf_27 : decode cX3_blanksOf 27 = .ok (.getfield 21, 3) := by decide +kernel
theorem dX3_blanksOf_30 : decode cX3_blanksOf 30 = .ok (.invokevirtual 118, 3) := by decide +kernel
theorem dX3_blanksOf_33 : decode cX3_blanksOf 33 = .ok (.istore 4, 2) := by decide +kernel
theorem dX3_blanksOf_35 : decode cX3_blanksOf 35 = .ok (.iconst 0, 1) := by decide +kernel
theorem dX3_blanksOf_36 : decode cX3_blanksOf 36 = .ok (.istore 5, 2) := by decide +kernel
theorem dX3_blanksOf_38 : decode cX3_blanksOf 38 = .ok (.iload 5, 2) := by decide +kernel
theorem dX3_blanksOf_40 : decode cX3_blanksOf 40 = .ok (.aload_n 1, 1) := by decide +kernel
theorem dX3_blanksOf_41 : decode cX3_blanksOf 41 = .ok (.getfield 121, 3) := by decide +kernel
theorem dX3_blanksOf_44 : decode cX3_blanksOf 44 = .ok (.if_icmp .ge 28, 3) := by decide +kernel
theorem dX3_blanksOf_47 : decode cX3_blanksOf 47 = .ok (.iload 4, 2) := by decide +kernel
theorem dX3_blanksOf_49 : decode cX3_blanksOf 49 = .ok (.iload 5, 2) := by decide +kernel
theorem dX3_blanksOf_51 : decode cX3_blanksOf 51 = .ok (.invokestatic 45, 3) := by decide +kernel
theorem dX3_blanksOf_54 : decode cX3_blanksOf 54 = .ok (.iconst 1, 1) := by decide +kernel
theorem dX3_blanksOf_55 : decode cX3_blanksOf 55 = .ok (.if_icmp .ne 11, 3) := by decide +kernel
theorem dX3_blanksOf_58 : decode cX3_blanksOf 58 = .ok (.aload_n 0, 1) := by decide +kernel
theorem dX3_blanksOf_59 : decode cX3_blanksOf 59 = .ok (.aload_n 1, 1) := by decide +kernel
theorem dX3_blanksOf_60 : decode cX3_blanksOf 60 = .ok (.iload 5, 2) := by decide +kernel
theorem dX3_blanksOf_62 : decode cX3_blanksOf 62 = .ok (.iload_n 2, 1) := by decide +kernel
theorem dX3_blanksOf_63 : decode cX3_blanksOf 63 = .ok (.invokevirtual 124, 3) := by decide +kernel
theorem dX3_blanksOf_66 : decode cX3_blanksOf 66 = .ok (.iinc 5 1, 3) := by decide +kernel
theorem dX3_blanksOf_69 : decode cX3_blanksOf 69 = .ok (.goto (-31), 3) := by decide +kernel
theorem dX3_blanksOf_72 : decode cX3_blanksOf 72 = .ok (.iload_n 3, 1) := by decide +kernel
theorem dX3_blanksOf_73 : decode cX3_blanksOf 73 = .ok (.ifCond .ne 10, 3) := by decide +kernel
theorem dX3_blanksOf_76 : decode cX3_blanksOf 76 = .ok (.aload_n 0, 1) := by decide +kernel
theorem dX3_blanksOf_77 : decode cX3_blanksOf 77 = .ok (.getfield 15, 3) := by decide +kernel
theorem dX3_blanksOf_80 : decode cX3_blanksOf 80 = .ok (.iload_n 2, 1) := by decide +kernel
theorem dX3_blanksOf_81 : decode cX3_blanksOf 81 = .ok (.iaload, 1) := by decide +kernel
theorem dX3_blanksOf_82 : decode cX3_blanksOf 82 = .ok (.ireturn, 1) := by decide +kernel
theorem dX3_blanksOf_83 : decode cX3_blanksOf 83 = .ok (.aload_n 0, 1) := by decide +kernel
theorem dX3_blanksOf_84 : decode cX3_blanksOf 84 = .ok (.getfield 15, 3) := by decide +kernel
theorem dX3_blanksOf_87 : decode cX3_blanksOf 87 = .ok (.iload_n 2, 1) := by decide +kernel
theorem dX3_blanksOf_88 : decode cX3_blanksOf 88 = .ok (.iaload, 1) := by decide +kernel
theorem dX3_blanksOf_89 : decode cX3_blanksOf 89 = .ok (.ifCond .le 12, 3) := by decide +kernel
theorem dX3_blanksOf_92 : decode cX3_blanksOf 92 = .ok (.aload_n 0, 1) := by decide +kernel
theorem dX3_blanksOf_93 : decode cX3_blanksOf 93 = .ok (.getfield 18, 3) := by decide +kernel
theorem dX3_blanksOf_96 : decode cX3_blanksOf 96 = .ok (.iload_n 2, 1) := by decide +kernel
theorem dX3_blanksOf_97 : decode cX3_blanksOf 97 = .ok (.iaload, 1) := by decide +kernel
theorem dX3_blanksOf_98 : decode cX3_blanksOf 98 = .ok (.goto 5, 3) := by decide +kernel
theorem dX3_blanksOf_101 : decode cX3_blanksOf 101 = .ok (.ldc 57, 2) := by decide +kernel
theorem dX3_blanksOf_103 : decode cX3_blanksOf 103 = .ok (.ireturn, 1) := by decide +kernel
theorem dX3_widenBy_0 : decode cX3_widenBy 0 = .ok (.aload_n 1, 1) := by decide +kernel
theorem dX3_widenBy_1 : decode cX3_widenBy 1 = .ok (.getfield 128, 3) := by decide +kernel
theorem dX3_widenBy_4 : decode cX3_widenBy 4 = .ok (.iload_n 2, 1) := by decide +kernel
theorem dX3_widenBy_5 : decode cX3_widenBy 5 = .ok (.iaload, 1) := by decide +kernel
theorem dX3_widenBy_6 : decode cX3_widenBy 6 = .ok (.istore 4, 2) := by decide +kernel
theorem dX3_widenBy_8 : decode cX3_widenBy 8 = .ok (.iload_n 3, 1) := by decide +kernel
theorem dX3_widenBy_9 : decode cX3_widenBy 9 = .ok (.istore 5, 2) := by decide +kernel
theorem dX3_widenBy_11 : decode cX3_widenBy 11 = .ok (.iload 5, 2) := by decide +kernel
theorem dX3_widenBy_13 : decode cX3_widenBy 13 = .ok (.iload 4, 2) := by decide +kernel
theorem dX3_widenBy_15 : decode cX3_widenBy 15 = .ok (.if_icmp .lt 73, 3) := by decide +kernel
theorem dX3_widenBy_18 : decode cX3_widenBy 18 = .ok (.aload_n 0, 1) := by decide +kernel
theorem dX3_widenBy_19 : decode cX3_widenBy 19 = .ok (.getfield 15, 3) := by decide +kernel
theorem dX3_widenBy_22 : decode cX3_widenBy 22 = .ok (.iload 5, 2) := by decide +kernel
theorem dX3_widenBy_24 : decode cX3_widenBy 24 = .ok (.iaload, 1) := by decide +kernel
theorem dX3_widenBy_25 : decode cX3_widenBy 25 = .ok (.ifCond .ne 37, 3) := by decide +kernel
theorem dX3_widenBy_28 : decode cX3_widenBy 28 = .ok (.aload_n 0, 1) := by decide +kernel
theorem dX3_widenBy_29 : decode cX3_widenBy 29 = .ok (.getfield 15, 3) := by decide +kernel
theorem dX3_widenBy_32 : decode cX3_widenBy 32 = .ok (.iload 5, 2) := by decide +kernel
theorem dX3_widenBy_34 : decode cX3_widenBy 34 = .ok (.iload 4, 2) := by decide +kernel
theorem dX3_widenBy_36 : decode cX3_widenBy 36 = .ok (.isub, 1) := by decide +kernel
theorem dX3_widenBy_37 : decode cX3_widenBy 37 = .ok (.iaload, 1) := by decide +kernel
theorem dX3_widenBy_38 : decode cX3_widenBy 38 = .ok (.ifCond .le 24, 3) := by decide +kernel
theorem dX3_widenBy_41 : decode cX3_widenBy 41 = .ok (.aload_n 0, 1) := by decide +kernel
theorem dX3_widenBy_42 : decode cX3_widenBy 42 = .ok (.getfield 18, 3) := by decide +kernel
theorem dX3_widenBy_45 : decode cX3_widenBy 45 = .ok (.iload 5, 2) := by decide +kernel
theorem dX3_widenBy_47 : decode cX3_widenBy 47 = .ok (.aload_n 0, 1) := by decide +kernel
theorem dX3_widenBy_48 : decode cX3_widenBy 48 = .ok (.getfield 18, 3) := by decide +kernel
theorem dX3_widenBy_51 : decode cX3_widenBy 51 = .ok (.iload 5, 2) := by decide +kernel
theorem dX3_widenBy_53 : decode cX3_widenBy 53 = .ok (.iload 4, 2) := by decide +kernel
theorem dX3_widenBy_55 : decode cX3_widenBy 55 = .ok (.isub, 1) := by decide +kernel
theorem dX3_widenBy_56 : decode cX3_widenBy 56 = .ok (.iaload, 1) := by decide +kernel
theorem dX3_widenBy_57 : decode cX3_widenBy 57 = .ok (.iconst 1, 1) := by decide +kernel
theorem dX3_widenBy_58 : decode cX3_widenBy 58 = .ok (.iload_n 2, 1) := by decide +kernel
theorem dX3_widenBy_59 : decode cX3_widenBy 59 = .ok (.ishl, 1) := by decide +kernel
theorem dX3_widenBy_60 : decode cX3_widenBy 60 = .ok (.ior, 1) := by decide +kernel
theorem dX3_widenBy_61 : decode cX3_widenBy 61 = .ok (.iastore, 1) := by decide +kernel
theorem dX3_widenBy_62 : decode cX3_widenBy 62 = .ok (.aload_n 0, 1) := by decide +kernel
theorem dX3_widenBy_63 : decode cX3_widenBy 63 = .ok (.getfield 15, 3) := by decide +kernel
theorem dX3_widenBy_66 : decode cX3_widenBy 66 = .ok (.iload 5, 2) := by decide +kernel
theorem dX3_widenBy_68 : decode cX3_widenBy 68 = .ok (.dup2, 1) := by decide +kernel
theorem dX3_widenBy_69 : decode cX3_widenBy 69 = .ok (.iaload, 1) := by decide +kernel
theorem dX3_widenBy_70 : decode cX3_widenBy 70 = .ok (.aload_n 0, 1) := by decide +kernel
theorem dX3_widenBy_71 : decode cX3_widenBy 71 = .ok (.getfield 15, 3) := by decide +kernel
theorem dX3_widenBy_74 : decode cX3_widenBy 74 = .ok (.iload 5, 2) := by decide +kernel
theorem dX3_widenBy_76 : decode cX3_widenBy 76 = .ok (.iload 4, 2) := by decide +kernel
theorem dX3_widenBy_78 : decode cX3_widenBy 78 = .ok (.isub, 1) := by decide +kernel
theorem dX3_widenBy_79 : decode cX3_widenBy 79 = .ok (.iaload, 1) := by decide +kernel
theorem dX3_widenBy_80 : decode cX3_widenBy 80 = .ok (.iadd, 1) := by decide +kernel
theorem dX3_widenBy_81 : decode cX3_widenBy 81 = .ok (.iastore, 1) := by decide +kernel
theorem dX3_widenBy_82 : decode cX3_widenBy 82 = .ok (.iinc 5 (-1), 3) := by decide +kernel
theorem dX3_widenBy_85 : decode cX3_widenBy 85 = .ok (.goto (-74), 3) := by decide +kernel
theorem dX3_widenBy_88 : decode cX3_widenBy 88 = .ok (.return_, 1) := by decide +kernel
theorem dX3_forgedBy_0 : decode cX3_forgedBy 0 = .ok (.iconst 0, 1) := by decide +kernel
theorem dX3_forgedBy_1 : decode cX3_forgedBy 1 = .ok (.istore 4, 2) := by decide +kernel
theorem dX3_forgedBy_3 : decode cX3_forgedBy 3 = .ok (.iconst 0, 1) := by decide +kernel
theorem dX3_forgedBy_4 : decode cX3_forgedBy 4 = .ok (.istore 5, 2) := by decide +kernel
theorem dX3_forgedBy_6 : decode cX3_forgedBy 6 = .ok (.iload 5, 2) := by decide +kernel
theorem dX3_forgedBy_8 : decode cX3_forgedBy 8 = .ok (.aload_n 1, 1) := by decide +kernel
theorem dX3_forgedBy_9 : decode cX3_forgedBy 9 = .ok (.getfield 121, 3) := by decide +kernel
theorem dX3_forgedBy_12 : decode cX3_forgedBy 12 = .ok (.if_icmp .ge 53, 3) := by decide +kernel
theorem dX3_forgedBy_15 : decode cX3_forgedBy 15 = .ok (.iload_n 3, 1) := by decide +kernel
theorem dX3_forgedBy_16 : decode cX3_forgedBy 16 = .ok (.iload 5, 2) := by decide +kernel
theorem dX3_forgedBy_18 : decode cX3_forgedBy 18 = .ok (.iadd, 1) := by decide +kernel
theorem dX3_forgedBy_19 : decode cX3_forgedBy 19 = .ok (.aload_n 2, 1) := by decide +kernel
theorem dX3_forgedBy_20 : decode cX3_forgedBy 20 = .ok (.arraylength, 1) := by decide +kernel
theorem dX3_forgedBy_21 : decode cX3_forgedBy 21 = .ok (.if_icmp .ge 44, 3) := by decide +kernel
theorem dX3_forgedBy_24 : decode cX3_forgedBy 24 = .ok (.aload_n 2, 1) := by decide +kernel
theorem dX3_forgedBy_25 : decode cX3_forgedBy 25 = .ok (.iload_n 3, 1) := by decide +kernel
theorem dX3_forgedBy_26 : decode cX3_forgedBy 26 = .ok (.iload 5, 2) := by decide +kernel
theorem dX3_forgedBy_28 : decode cX3_forgedBy 28 = .ok (.iadd, 1) := by decide +kernel
theorem dX3_forgedBy_29 : decode cX3_forgedBy 29 = .ok (.iaload, 1) := by decide +kernel
theorem dX3_forgedBy_30 : decode cX3_forgedBy 30 = .ok (.istore 6, 2) := by decide +kernel
theorem dX3_forgedBy_32 : decode cX3_forgedBy 32 = .ok (.iload 6, 2) := by decide +kernel
theorem dX3_forgedBy_34 : decode cX3_forgedBy 34 = .ok (.iconst (-1), 1) := by decide +kernel
theorem dX3_forgedBy_35 : decode cX3_forgedBy 35 = .ok (.if_icmp .eq 24, 3) := by decide +kernel
theorem dX3_forgedBy_38 : decode cX3_forgedBy 38 = .ok (.aload_n 0, 1) := by decide +kernel
theorem dX3_forgedBy_39 : decode cX3_forgedBy 39 = .ok (.aload_n 1, 1) := by decide +kernel
theorem dX3_forgedBy_40 : decode cX3_forgedBy 40 = .ok (.iload 5, 2) := by decide +kernel
theorem dX3_forgedBy_42 : decode cX3_forgedBy 42 = .ok (.iload 6, 2) := by decide +kernel
theorem dX3_forgedBy_44 : decode cX3_forgedBy 44 = .ok (.invokevirtual 131, 3) := by decide +kernel
theorem dX3_forgedBy_47 : decode cX3_forgedBy 47 = .ok (.ifCond .ne 12, 3) := by decide +kernel
theorem dX3_forgedBy_50 : decode cX3_forgedBy 50 = .ok (.iload 4, 2) := by decide +kernel
theorem dX3_forgedBy_52 : decode cX3_forgedBy 52 = .ok (.iconst 1, 1) := by decide +kernel
theorem dX3_forgedBy_53 : decode cX3_forgedBy 53 = .ok (.iload 5, 2) := by decide +kernel
theorem dX3_forgedBy_55 : decode cX3_forgedBy 55 = .ok (.ishl, 1) := by decide +kernel
theorem dX3_forgedBy_56 : decode cX3_forgedBy 56 = .ok (.ior, 1) := by decide +kernel
theorem dX3_forgedBy_57 : decode cX3_forgedBy 57 = .ok (.istore 4, 2) := by decide +kernel
theorem dX3_forgedBy_59 : decode cX3_forgedBy 59 = .ok (.iinc 5 1, 3) := by decide +kernel
theorem dX3_forgedBy_62 : decode cX3_forgedBy 62 = .ok (.goto (-56), 3) := by decide +kernel
theorem dX3_forgedBy_65 : decode cX3_forgedBy 65 = .ok (.iload 4, 2) := by decide +kernel
theorem dX3_forgedBy_67 : decode cX3_forgedBy 67 = .ok (.ireturn, 1) := by decide +kernel
theorem dX3_couldWhiten_0 : decode cX3_couldWhiten 0 = .ok (.iload_n 3, 1) := by decide +kernel
theorem dX3_couldWhiten_1 : decode cX3_couldWhiten 1 = .ok (.aload_n 1, 1) := by decide +kernel
theorem dX3_couldWhiten_2 : decode cX3_couldWhiten 2 = .ok (.getfield 74, 3) := by decide +kernel
theorem dX3_couldWhiten_5 : decode cX3_couldWhiten 5 = .ok (.iload_n 2, 1) := by decide +kernel
theorem dX3_couldWhiten_6 : decode cX3_couldWhiten 6 = .ok (.iaload, 1) := by decide +kernel
theorem dX3_couldWhiten_7 : decode cX3_couldWhiten 7 = .ok (.if_icmp .lt 11, 3) := by decide +kernel
theorem dX3_couldWhiten_10 : decode cX3_couldWhiten 10 = .ok (.iload_n 3, 1) := by decide +kernel
theorem dX3_couldWhiten_11 : decode cX3_couldWhiten 11 = .ok (.aload_n 1, 1) := by decide +kernel
theorem dX3_couldWhiten_12 : decode cX3_couldWhiten 12 = .ok (.getfield 61, 3) := by decide +kernel
theorem dX3_couldWhiten_15 : decode cX3_couldWhiten 15 = .ok (.if_icmp .le 5, 3) := by decide +kernel
theorem dX3_couldWhiten_18 : decode cX3_couldWhiten 18 = .ok (.iconst 0, 1) := by decide +kernel
theorem dX3_couldWhiten_19 : decode cX3_couldWhiten 19 = .ok (.ireturn, 1) := by decide +kernel
theorem dX3_couldWhiten_20 : decode cX3_couldWhiten 20 = .ok (.aload_n 1, 1) := by decide +kernel
theorem dX3_couldWhiten_21 : decode cX3_couldWhiten 21 = .ok (.iload_n 2, 1) := by decide +kernel
theorem dX3_couldWhiten_22 : decode cX3_couldWhiten 22 = .ok (.iload_n 3, 1) := by decide +kernel
theorem dX3_couldWhiten_23 : decode cX3_couldWhiten 23 = .ok (.invokevirtual 135, 3) := by decide +kernel
theorem dX3_couldWhiten_26 : decode cX3_couldWhiten 26 = .ok (.istore 4, 2) := by decide +kernel
theorem dX3_couldWhiten_28 : decode cX3_couldWhiten 28 = .ok (.aload_n 1, 1) := by decide +kernel
theorem dX3_couldWhiten_29 : decode cX3_couldWhiten 29 = .ok (.aload_n 1, 1) := by decide +kernel
theorem dX3_couldWhiten_30 : decode cX3_couldWhiten 30 = .ok (.getfield 67, 3) := by decide +kernel
theorem dX3_couldWhiten_33 : decode cX3_couldWhiten 33 = .ok (.iload_n 2, 1) := by decide +kernel
theorem dX3_couldWhiten_34 : decode cX3_couldWhiten 34 = .ok (.iaload, 1) := by decide +kernel
theorem dX3_couldWhiten_35 : decode cX3_couldWhiten 35 = .ok (.invokevirtual 70, 3) := by decide +kernel
theorem dX3_couldWhiten_38 : decode cX3_couldWhiten 38 = .ok (.ifCond .ne 6, 3) := by decide +kernel
theorem dX3_couldWhiten_41 : decode cX3_couldWhiten 41 = .ok (.iload 4, 2) := by decide +kernel
theorem dX3_couldWhiten_43 : decode cX3_couldWhiten 43 = .ok (.ireturn, 1) := by decide +kernel
theorem dX3_couldWhiten_44 : decode cX3_couldWhiten 44 = .ok (.iload_n 3, 1) := by decide +kernel
theorem dX3_couldWhiten_45 : decode cX3_couldWhiten 45 = .ok (.aload_n 1, 1) := by decide +kernel
theorem dX3_couldWhiten_46 : decode cX3_couldWhiten 46 = .ok (.getfield 74, 3) := by decide +kernel
theorem dX3_couldWhiten_49 : decode cX3_couldWhiten 49 = .ok (.iload_n 2, 1) := by decide +kernel
theorem dX3_couldWhiten_50 : decode cX3_couldWhiten 50 = .ok (.iaload, 1) := by decide +kernel
theorem dX3_couldWhiten_51 : decode cX3_couldWhiten 51 = .ok (.isub, 1) := by decide +kernel
theorem dX3_couldWhiten_52 : decode cX3_couldWhiten 52 = .ok (.istore 5, 2) := by decide +kernel
theorem dX3_couldWhiten_54 : decode cX3_couldWhiten 54 = .ok (.iload 5, 2) := by decide +kernel
theorem dX3_couldWhiten_56 : decode cX3_couldWhiten 56 = .ok (.aload_n 1, 1) := by decide +kernel
theorem dX3_couldWhiten_57 : decode cX3_couldWhiten 57 = .ok (.getfield 139, 3) := by decide +kernel
theorem dX3_couldWhiten_60 : decode cX3_couldWhiten 60 = .ok (.if_icmp .eq 17, 3) := by decide +kernel
theorem dX3_couldWhiten_63 : decode cX3_couldWhiten 63 = .ok (.iload 5, 2) := by decide +kernel
theorem dX3_couldWhiten_65 : decode cX3_couldWhiten 65 = .ok (.aload_n 1, 1) := by decide +kernel
theorem dX3_couldWhiten_66 : decode cX3_couldWhiten 66 = .ok (.getfield 139, 3) := by decide +kernel
theorem dX3_couldWhiten_69 : decode cX3_couldWhiten 69 = .ok (.if_icmp .ge 12, 3) := by decide +kernel
theorem dX3_couldWhiten_72 : decode cX3_couldWhiten 72 = .ok (.iload 4, 2) := by decide +kernel
theorem dX3_couldWhiten_74 : decode cX3_couldWhiten 74 = .ok (.ifCond .eq 7, 3) := by decide +kernel
theorem dX3_couldWhiten_77 : decode cX3_couldWhiten 77 = .ok (.iconst 1, 1) := by decide +kernel
theorem dX3_couldWhiten_78 : decode cX3_couldWhiten 78 = .ok (.goto 4, 3) := by decide +kernel
theorem dX3_couldWhiten_81 : decode cX3_couldWhiten 81 = .ok (.iconst 0, 1) := by decide +kernel
theorem dX3_couldWhiten_82 : decode cX3_couldWhiten 82 = .ok (.ireturn, 1) := by decide +kernel
theorem dX3_selfOf_0 : decode cX3_selfOf 0 = .ok (.aload_n 1, 1) := by decide +kernel
theorem dX3_selfOf_1 : decode cX3_selfOf 1 = .ok (.aload_n 1, 1) := by decide +kernel
theorem dX3_selfOf_2 : decode cX3_selfOf 2 = .ok (.getfield 35, 3) := by decide +kernel
theorem dX3_selfOf_5 : decode cX3_selfOf 5 = .ok (.invokevirtual 85, 3) := by decide +kernel
theorem dX3_selfOf_8 : decode cX3_selfOf 8 = .ok (.istore 5, 2) := by decide +kernel
theorem dX3_selfOf_10 : decode cX3_selfOf 10 = .ok (.aload_n 1, 1) := by decide +kernel
theorem dX3_selfOf_11 : decode cX3_selfOf 11 = .ok (.iload 5, 2) := by decide +kernel
theorem dX3_selfOf_13 : decode cX3_selfOf 13 = .ok (.iconst 1, 1) := by decide +kernel
theorem dX3_selfOf_14 : decode cX3_selfOf 14 = .ok (.iload_n 3, 1) := by decide +kernel
theorem dX3_selfOf_15 : decode cX3_selfOf 15 = .ok (.ishl, 1) := by decide +kernel
theorem dX3_selfOf_16 : decode cX3_selfOf 16 = .ok (.iconst (-1), 1) := by decide +kernel
theorem dX3_selfOf_17 : decode cX3_selfOf 17 = .ok (.ixor, 1) := by decide +kernel
theorem dX3_selfOf_18 : decode cX3_selfOf 18 = .ok (.iand, 1) := by decide +kernel
theorem dX3_selfOf_19 : decode cX3_selfOf 19 = .ok (.invokevirtual 100, 3) := by decide +kernel
theorem dX3_selfOf_22 : decode cX3_selfOf 22 = .ok (.iload_n 2, 1) := by decide +kernel
theorem dX3_selfOf_23 : decode cX3_selfOf 23 = .ok (.invokestatic 45, 3) := by decide +kernel
theorem dX3_selfOf_26 : decode cX3_selfOf 26 = .ok (.iconst 1, 1) := by decide +kernel
theorem dX3_selfOf_27 : decode cX3_selfOf 27 = .ok (.if_icmp .ne 7, 3) := by decide +kernel
theorem dX3_selfOf_30 : decode cX3_selfOf 30 = .ok (.iconst 1, 1) := by decide +kernel
theorem dX3_selfOf_31 : decode cX3_selfOf 31 = .ok (.goto 4, 3) := by decide +kernel
theorem dX3_selfOf_34 : decode cX3_selfOf 34 = .ok (.iconst 0, 1) := by decide +kernel
theorem dX3_selfOf_35 : decode cX3_selfOf 35 = .ok (.istore 6, 2) := by decide +kernel
theorem dX3_selfOf_37 : decode cX3_selfOf 37 = .ok (.aload_n 1, 1) := by decide +kernel
theorem dX3_selfOf_38 : decode cX3_selfOf 38 = .ok (.iload 5, 2) := by decide +kernel
theorem dX3_selfOf_40 : decode cX3_selfOf 40 = .ok (.invokevirtual 100, 3) := by decide +kernel
theorem dX3_selfOf_43 : decode cX3_selfOf 43 = .ok (.iload_n 2, 1) := by decide +kernel
theorem dX3_selfOf_44 : decode cX3_selfOf 44 = .ok (.invokestatic 45, 3) := by decide +kernel
theorem dX3_selfOf_47 : decode cX3_selfOf 47 = .ok (.ifCond .ne 7, 3) := by decide +kernel
theorem dX3_selfOf_50 : decode cX3_selfOf 50 = .ok (.iconst 1, 1) := by decide +kernel
theorem dX3_selfOf_51 : decode cX3_selfOf 51 = .ok (.goto 4, 3) := by decide +kernel
theorem dX3_selfOf_54 : decode cX3_selfOf 54 = .ok (.iconst 0, 1) := by decide +kernel
theorem dX3_selfOf_55 : decode cX3_selfOf 55 = .ok (.istore 7, 2) := by decide +kernel
theorem dX3_selfOf_57 : decode cX3_selfOf 57 = .ok (.iload 4, 2) := by decide +kernel
theorem dX3_selfOf_59 : decode cX3_selfOf 59 = .ok (.ifCond .ne 25, 3) := by decide +kernel
theorem dX3_selfOf_62 : decode cX3_selfOf 62 = .ok (.iload 6, 2) := by decide +kernel
theorem dX3_selfOf_64 : decode cX3_selfOf 64 = .ok (.ifCond .eq 7, 3) := by decide +kernel
theorem dX3_selfOf_67 : decode cX3_selfOf 67 = .ok (.iconst 1, 1) := by decide +kernel
theorem dX3_selfOf_68 : decode cX3_selfOf 68 = .ok (.goto 4, 3) := by decide +kernel
