set_option maxHeartbeats 4000000 in
set_option maxRecDepth 100000 in
theorem c_X7_restore {l : Launch} {D : va_G} {cs : ClassId × ClassId × ClassId} {ad : Nat → Nat} (σ : Mem) (fuel : Nat)  (x1 : Int32) {z : Int32 × Mem} (hf : f_X7_restore fuel σ x1 = some z) : CtI l (mW D cs ad) 2 yX7_restore cX7_restore 2 (some .int) [.ref (ad 0), .int x1] σ z.1 z.2 := by
  refine ct_I RX7 [(0, .ref (ad 0)), (1, .int x1)] (by decide +kernel) rfl rfl (Nat.le_of_ble_eq_true rfl) ?_
  intro P M hl0 hX
  unfold f_X7_restore at hf
  refine v_iload_n 1 1 hX dX7_restore_0 rfl rfl ?_
  obtain ⟨v1, hc, hf⟩ := opt_b hf
  refine v_callSi (rest := []) (As := [.int x1]) hX dX7_restore_1 (c_X7_isTwo σ x1 hc) rfl rfl mw_1087 mw_64 mw_1086 mw_1088 gAll ds_X7_isTwo rfl ⟨Nat.le_of_ble_eq_true rfl, Nat.le_of_ble_eq_true rfl⟩ (Nat.le_of_ble_eq_true rfl) ?_
  refine v_if_ne 10 hX dX7_restore_4 (by decide) (fun c => ?_) (fun c => ?_)
  · have hf := opt_f c hf
    refine v_aload_n 0 0 hX dX7_restore_10 rfl rfl ?_
    refine v_get (C := RX7) (T := TX7) (N := 22) (ci := 7) (v := .ref (ad 8)) 0 12 hX dX7_restore_11 mw_848 rfl inlX7 rfl (lt_b rfl) (lt_b rfl) rfl rfl ?_
    refine v_iload_n 1 1 hX dX7_restore_14 rfl rfl ?_
    obtain ⟨hi2, hf⟩ := gd_some hf
    refine v_zald (v := σ 8 x1.toNatClampNeg) 8 hX dX7_restore_15 (lt_b rfl) ((fun _ => rfl) _) hi2 rfl ?_
    refine v_if_ne 22 hX dX7_restore_16 (by decide) (fun c => ?_) (fun c => ?_)
    · have hf := opt_f c hf
      refine v_aload_n 0 0 hX dX7_restore_22 rfl rfl ?_
      refine v_get (C := RX7) (T := TX7) (N := 22) (ci := 7) (v := .ref (ad 7)) 0 11 hX dX7_restore_23 mw_847 rfl inlX7 rfl (lt_b rfl) (lt_b rfl) rfl rfl ?_
      refine v_bipush 85 hX dX7_restore_26 (by decide) ?_
      refine v_iload_n 1 1 hX dX7_restore_28 rfl rfl ?_
      refine v_imul hX dX7_restore_29 ?_
      refine v_aload_n 0 0 hX dX7_restore_30 rfl rfl ?_
      refine v_get (C := RX7) (T := TX7) (N := 22) (ci := 7) (v := .ref (ad 5)) 0 8 hX dX7_restore_31 mw_844 rfl inlX7 rfl (lt_b rfl) (lt_b rfl) rfl rfl ?_
      refine v_iconst 0 hX dX7_restore_34 (by decide) ?_
      obtain ⟨v3, hc, hf⟩ := opt_b hf
      refine v_callSv (rest := []) (As := [.ref (ad 7), .int (85 * x1), .ref (ad 5), .int 0]) hX dX7_restore_35 (c_X7_copies_7_5 σ fuel (85 * x1) 0 hc) rfl rfl mw_1004 mw_64 mw_1003 mw_1005 gAll ds_X7_copies rfl ⟨Nat.le_of_ble_eq_true rfl, Nat.le_of_ble_eq_true rfl⟩ (Nat.le_of_ble_eq_true rfl) ?_
      refine v_aload_n 0 0 hX dX7_restore_38 rfl rfl ?_
      refine v_iconst 0 hX dX7_restore_39 (by decide) ?_
      refine v_put (C := RX7) (T := TX7) (N := 22) (ci := 7) (ty := .int) tyX7 0 9 hX dX7_restore_40 mw_845 rfl inlX7 tyX7_ok nmX7 rfl (lt_b rfl) (lt_b rfl) rfl (tyX7_ok 9 (lt_b rfl)) rfl rfl rfl (lt_b rfl) rfl ?_
      refine v_iconst 1 hX dX7_restore_43 (by decide) ?_
      obtain rfl := Option.some.inj hf
      exact v_iret (r := 1) hX dX7_restore_44 rfl
    · have hf := opt_t c hf
      refine v_ldc (-1000002) hX dX7_restore_19 mw_1014 ?_
      obtain rfl := Option.some.inj hf
      exact v_iret (r := (-1000002)) hX dX7_restore_21 rfl
  · have hf := opt_t c hf
    refine v_ldc (-1000001) hX dX7_restore_7 mw_916 ?_
    obtain rfl := Option.some.inj hf
    exact v_iret (r := (-1000001)) hX dX7_restore_9 rfl
set_option maxHeartbeats 4000000 in
set_option maxRecDepth 100000 in
theorem c_X7_kind {l : Launch} {D : va_G} {cs : ClassId × ClassId × ClassId} {ad : Nat → Nat} (σ : Mem)  (x1 : Int32) {z : Int32} (hf : f_X7_kind σ x1 = some z) : CtI l (mW D cs ad) 2 yX7_kind cX7_kind 2 (some .int) [.ref (ad 0), .int x1] σ z σ := by
  refine ct_I RX7 [(0, .ref (ad 0)), (1, .int x1)] (by decide +kernel) rfl rfl (Nat.le_of_ble_eq_true rfl) ?_
  intro P M hl0 hX
  unfold f_X7_kind at hf
  refine v_aload_n 0 0 hX dX7_kind_0 rfl rfl ?_
  refine v_iload_n 1 1 hX dX7_kind_1 rfl rfl ?_
  obtain ⟨v1, hc, hf⟩ := opt_b hf
  refine v_callVi (rest := []) (As := [.int x1]) (C := RX7) (T := TX7) (N := 22) (ci := 7) 0 hX dX7_kind_2 (c_X7_isHand σ x1 hc) rfl rfl (lt_b rfl) rfl rfl rfl mw_1022 mw_40 mw_64 mw_1020 mw_1023 gAll ds_X7_isHand rfl ⟨Nat.le_of_ble_eq_true rfl, Nat.le_of_ble_eq_true rfl⟩ (Nat.le_of_ble_eq_true rfl) ?_
  refine v_if_eq 20 hX dX7_kind_5 (by decide) (fun c => ?_) (fun c => ?_)
  · have hf := opt_t c hf
    refine v_ldc (-1000001) hX dX7_kind_20 mw_916 ?_
    obtain rfl := Option.some.inj hf
    exact v_iret (r := (-1000001)) hX dX7_kind_22 rfl
  · have hf := opt_f c hf
    refine v_aload_n 0 0 hX dX7_kind_8 rfl rfl ?_
    refine v_get (C := RX7) (T := TX7) (N := 22) (ci := 7) (v := .ref (ad 5)) 0 8 hX dX7_kind_9 mw_844 rfl inlX7 rfl (lt_b rfl) (lt_b rfl) rfl rfl ?_
    refine v_bipush 7 hX dX7_kind_12 (by decide) ?_
    refine v_iload_n 1 1 hX dX7_kind_14 rfl rfl ?_
    refine v_iadd hX dX7_kind_15 ?_
    obtain ⟨hi2, hf⟩ := gd_some hf
    refine v_ald (v := σ 5 ((7 + x1).toNatClampNeg)) 5 hX dX7_kind_16 (lt_b rfl) ((fun _ => rfl) _) hi2 rfl ?_
    refine v_goto 22 hX dX7_kind_17 (by decide) ?_
    obtain rfl := Option.some.inj hf
    exact v_iret (r := σ 5 ((7 + x1).toNatClampNeg)) hX dX7_kind_22 rfl
set_option maxHeartbeats 4000000 in
set_option maxRecDepth 100000 in
theorem c_X7_as {l : Launch} {D : va_G} {cs : ClassId × ClassId × ClassId} {ad : Nat → Nat} (σ : Mem)   (x1 : Int32) (x2 : Int32) {z : Int32 × Mem} (hf : f_X7_as σ x1 x2 = some z) : CtI l (mW D cs ad) 2 yX7_as cX7_as 3 (some .int) [.ref (ad 0), .int x1, .int x2] σ z.1 z.2 := by
  refine ct_I RX7 [(0, .ref (ad 0)), (1, .int x1), (2, .int x2)] (by decide +kernel) rfl rfl (Nat.le_of_ble_eq_true rfl) ?_
  intro P M hl0 hX
  unfold f_X7_as at hf
  refine v_aload_n 0 0 hX dX7_as_0 rfl rfl ?_
  refine v_iload_n 1 1 hX dX7_as_1 rfl rfl ?_
  obtain ⟨v1, hc, hf⟩ := opt_b hf
  refine v_callVi (rest := []) (As := [.int x1]) (C := RX7) (T := TX7) (N := 22) (ci := 7) 0 hX dX7_as_2 (c_X7_isHand σ x1 hc) rfl rfl (lt_b rfl) rfl rfl rfl mw_1022 mw_40 mw_64 mw_1020 mw_1023 gAll ds_X7_isHand rfl ⟨Nat.le_of_ble_eq_true rfl, Nat.le_of_ble_eq_true rfl⟩ (Nat.le_of_ble_eq_true rfl) ?_
  refine v_if_eq 20 hX dX7_as_5 (by decide) (fun c => ?_) (fun c => ?_)
  · have hf := opt_t c hf
    refine v_ldc (-1000001) hX dX7_as_20 mw_916 ?_
    obtain rfl := Option.some.inj hf
    exact v_iret (r := (-1000001)) hX dX7_as_22 rfl
  · have hf := opt_f c hf
    refine v_iload_n 2 2 hX dX7_as_8 rfl rfl ?_
    refine v_i2l hX dX7_as_9 ?_
    refine v_lconst 0 hX dX7_as_10 (by decide) ?_
    refine v_ldc2 5 hX dX7_as_11 mw_1019 ?_
    obtain ⟨v2, hc, hf⟩ := opt_b hf
    refine v_callSi (rest := []) (As := [.long x2.toInt64, .long 0, .long 5]) hX dX7_as_14 (c_X7_in σ x2.toInt64 0 5 hc) rfl rfl mw_913 mw_64 mw_912 mw_914 gAll ds_X7_in rfl ⟨Nat.le_of_ble_eq_true rfl, Nat.le_of_ble_eq_true rfl⟩ (Nat.le_of_ble_eq_true rfl) ?_
    refine v_if_ne 23 hX dX7_as_17 (by decide) (fun c => ?_) (fun c => ?_)
    · have hf := opt_f c hf
      refine v_aload_n 0 0 hX dX7_as_23 rfl rfl ?_
      refine v_get (C := RX7) (T := TX7) (N := 22) (ci := 7) (v := .ref (ad 5)) 0 8 hX dX7_as_24 mw_844 rfl inlX7 rfl (lt_b rfl) (lt_b rfl) rfl rfl ?_
      refine v_bipush 7 hX dX7_as_27 (by decide) ?_
      refine v_iload_n 1 1 hX dX7_as_29 rfl rfl ?_
      refine v_iadd hX dX7_as_30 ?_
      obtain ⟨hi3, hf⟩ := gd_some hf
      refine v_ald (v := σ 5 ((7 + x1).toNatClampNeg)) 5 hX dX7_as_31 (lt_b rfl) ((fun _ => rfl) _) hi3 rfl ?_
      refine v_iload_n 2 2 hX dX7_as_32 rfl rfl ?_
      obtain ⟨v4, hc, hf⟩ := opt_b hf
      refine v_callSi (rest := []) (As := [.int (σ 5 ((7 + x1).toNatClampNeg)), .int x2]) hX dX7_as_33 (c_X7_isOf σ (σ 5 ((7 + x1).toNatClampNeg)) x2 hc) rfl rfl mw_1204 mw_64 mw_1203 mw_1205 gAll ds_X7_isOf rfl ⟨Nat.le_of_ble_eq_true rfl, Nat.le_of_ble_eq_true rfl⟩ (Nat.le_of_ble_eq_true rfl) ?_
      refine v_if_eq 47 hX dX7_as_36 (by decide) (fun c => ?_) (fun c => ?_)
      · have hf := opt_t c hf
        refine v_aload_n 0 0 hX dX7_as_47 rfl rfl ?_
        refine v_iconst 3 hX dX7_as_48 (by decide) ?_
        obtain ⟨v5, hc, hf⟩ := opt_b hf
        refine v_callVi (rest := []) (As := [.int 3]) (C := RX7) (T := TX7) (N := 22) (ci := 7) 0 hX dX7_as_49 (c_X7_found σ 3 hc) rfl rfl (lt_b rfl) rfl rfl rfl mw_919 mw_27 mw_64 mw_917 mw_920 gAll ds_X7_found rfl ⟨Nat.le_of_ble_eq_true rfl, Nat.le_of_ble_eq_true rfl⟩ (Nat.le_of_ble_eq_true rfl) ?_
        obtain rfl := Option.some.inj hf
        exact v_iret (r := v5.1) hX dX7_as_52 rfl
      · have hf := opt_f c hf
        refine v_aload_n 0 0 hX dX7_as_39 rfl rfl ?_
        refine v_iload_n 1 1 hX dX7_as_40 rfl rfl ?_
        obtain ⟨v6, hc, hf⟩ := opt_b hf
        refine v_callVi (rest := []) (As := [.int x1]) (C := RX7) (T := TX7) (N := 22) (ci := 7) 0 hX dX7_as_41 (c_X7_well σ x1 hc) rfl rfl (lt_b rfl) rfl rfl rfl mw_924 mw_28 mw_64 mw_922 mw_925 gAll ds_X7_well rfl ⟨Nat.le_of_ble_eq_true rfl, Nat.le_of_ble_eq_true rfl⟩ (Nat.le_of_ble_eq_true rfl) ?_
        refine v_goto 52 hX dX7_as_44 (by decide) ?_
        obtain rfl := Option.some.inj hf
        exact v_iret (r := v6.1) hX dX7_as_52 rfl
    · have hf := opt_t c hf
      refine v_ldc (-1000001) hX dX7_as_20 mw_916 ?_
      obtain rfl := Option.some.inj hf
      exact v_iret (r := (-1000001)) hX dX7_as_22 rfl
set_option maxHeartbeats 4000000 in
set_option maxRecDepth 100000 in
theorem s_X7_ask_67 {P : PT} {M : MT} {D : va_G} {cs : ClassId × ClassId × ClassId} {ad : Nat → Nat} (hX : VOk P M (mW D cs ad) 5 cX7_ask RX7 (some .int) 2) (fuel : Nat)   (z : Int32 × Mem)  (σ : Mem) (x1 : Int32) (x3 : Int32) (y0 : Int64) (hf : f_X7_ask_67 fuel σ x1 x3 y0 = some z) : V P M (mW D cs ad) 5 (QI P M (mW D cs ad) z.1 z.2) 67 [(0, .ref (ad 0)), (1, .int x1), (3, .int x3)] [.long y0, .ref (ad 0)] σ := by
  unfold f_X7_ask_67 at hf
  obtain ⟨v8, hc, hf⟩ := opt_b hf
  refine v_callVv (rest := []) (As := [.long y0]) (C := RX7) (T := TX7) (N := 22) (ci := 7) 0 hX dX7_ask_67 (c_X7_leave σ fuel y0 hc) rfl rfl (lt_b rfl) rfl rfl rfl mw_1223 mw_54 mw_64 mw_1221 mw_1224 gAll ds_X7_leave rfl ⟨Nat.le_of_ble_eq_true rfl, Nat.le_of_ble_eq_true rfl⟩ (Nat.le_of_ble_eq_true rfl) ?_
  refine v_aload_n 0 0 hX dX7_ask_70 rfl rfl ?_
  refine v_get (C := RX7) (T := TX7) (N := 22) (ci := 7) (v := .ref (ad 5)) 0 8 hX dX7_ask_71 mw_844 rfl inlX7 rfl (lt_b rfl) (lt_b rfl) rfl rfl ?_
  refine v_bipush 11 hX dX7_ask_74 (by decide) ?_
  refine v_iload_n 1 1 hX dX7_ask_76 rfl rfl ?_
  refine v_iadd hX dX7_ask_77 ?_
  obtain ⟨hi9, hf⟩ := gd_some hf
  refine v_ald (v := v8 5 ((11 + x1).toNatClampNeg)) 5 hX dX7_ask_78 (lt_b rfl) ((fun _ => rfl) _) hi9 rfl ?_
  refine v_aload_n 0 0 hX dX7_ask_79 rfl rfl ?_
  refine v_iload_n 1 1 hX dX7_ask_80 rfl rfl ?_
  obtain ⟨v10, hc, hf⟩ := opt_b hf
  refine v_callVi (rest := [.int (v8 5 ((11 + x1).toNatClampNeg))]) (As := [.int x1]) (C := RX7) (T := TX7) (N := 22) (ci := 7) 0 hX dX7_ask_81 (c_X7_mark v8 fuel x1 hc) rfl rfl (lt_b rfl) rfl rfl rfl mw_1212 mw_52 mw_64 mw_1210 mw_1213 gAll ds_X7_mark rfl ⟨Nat.le_of_ble_eq_true rfl, Nat.le_of_ble_eq_true rfl⟩ (Nat.le_of_ble_eq_true rfl) ?_
  refine v_iadd hX dX7_ask_84 ?_
  refine v_istore [(4, .int ((v8 5 ((11 + x1).toNatClampNeg)) + v10.1)), (0, .ref (ad 0)), (1, .int x1), (3, .int x3)] hX dX7_ask_85 (lt_b rfl) rfl ?_
  refine v_iload_n 3 3 hX dX7_ask_87 rfl rfl ?_
  refine v_iconst 2 hX dX7_ask_88 (by decide) ?_
  refine v_icmp_ne 98 hX dX7_ask_89 (by decide) (fun c => ?_) (fun c => ?_)
  · have hf := opt_f c hf
    refine v_iload 0 hX dX7_ask_98 rfl ?_
    obtain rfl := Option.some.inj hf
    exact v_iret (r := (v8 5 ((11 + x1).toNatClampNeg)) + v10.1) hX dX7_ask_100 rfl
  · have hf := opt_t c hf
    refine v_iload 0 hX dX7_ask_92 rfl ?_
    refine v_ineg hX dX7_ask_94 ?_
    refine v_goto 100 hX dX7_ask_95 (by decide) ?_
    obtain rfl := Option.some.inj hf
    exact v_iret (r := -((v8 5 ((11 + x1).toNatClampNeg)) + v10.1)) hX dX7_ask_100 rfl
set_option maxHeartbeats 4000000 in
set_option maxRecDepth 100000 in
theorem c_X7_ask {l : Launch} {D : va_G} {cs : ClassId × ClassId × ClassId} {ad : Nat → Nat} (σ : Mem) (fuel : Nat)  (x1 : Int32) (x2 : Int32) {z : Int32 × Mem} (hf : f_X7_ask fuel σ x1 x2 = some z) : CtI l (mW D cs ad) 2 yX7_ask cX7_ask 5 (some .int) [.ref (ad 0), .int x1, .int x2] σ z.1 z.2 := by
  refine ct_I RX7 [(0, .ref (ad 0)), (1, .int x1), (2, .int x2)] (by decide +kernel) rfl rfl (Nat.le_of_ble_eq_true rfl) ?_
  intro P M hl0 hX
  unfold f_X7_ask at hf
  refine v_aload_n 0 0 hX dX7_ask_0 rfl rfl ?_
  refine v_iload_n 1 1 hX dX7_ask_1 rfl rfl ?_
  obtain ⟨v1, hc, hf⟩ := opt_b hf
  refine v_callVi (rest := []) (As := [.int x1]) (C := RX7) (T := TX7) (N := 22) (ci := 7) 0 hX dX7_ask_2 (c_X7_isHand σ x1 hc) rfl rfl (lt_b rfl) rfl rfl rfl mw_1022 mw_40 mw_64 mw_1020 mw_1023 gAll ds_X7_isHand rfl ⟨Nat.le_of_ble_eq_true rfl, Nat.le_of_ble_eq_true rfl⟩ (Nat.le_of_ble_eq_true rfl) ?_
  refine v_if_eq 18 hX dX7_ask_5 (by decide) (fun c => ?_) (fun c => ?_)
  · have hf := opt_t c hf
    refine v_ldc (-1000001) hX dX7_ask_18 mw_916 ?_
    obtain rfl := Option.some.inj hf
    exact v_iret (r := (-1000001)) hX dX7_ask_20 rfl
  · have hf := opt_f c hf
    refine v_iload_n 2 2 hX dX7_ask_8 rfl rfl ?_
    refine v_i2l hX dX7_ask_9 ?_
    refine v_lconst 0 hX dX7_ask_10 (by decide) ?_
    refine v_lconst 1 hX dX7_ask_11 (by decide) ?_
    obtain ⟨v2, hc, hf⟩ := opt_b hf
    refine v_callSi (rest := []) (As := [.long x2.toInt64, .long 0, .long 1]) hX dX7_ask_12 (c_X7_in σ x2.toInt64 0 1 hc) rfl rfl mw_913 mw_64 mw_912 mw_914 gAll ds_X7_in rfl ⟨Nat.le_of_ble_eq_true rfl, Nat.le_of_ble_eq_true rfl⟩ (Nat.le_of_ble_eq_true rfl) ?_
    refine v_if_ne 21 hX dX7_ask_15 (by decide) (fun c => ?_) (fun c => ?_)
    · have hf := opt_f c hf
      refine v_aload_n 0 0 hX dX7_ask_21 rfl rfl ?_
      refine v_iconst 0 hX dX7_ask_22 (by decide) ?_
      refine v_put (C := RX7) (T := TX7) (N := 22) (ci := 7) (ty := .int) tyX7 0 13 hX dX7_ask_23 mw_849 rfl inlX7 tyX7_ok nmX7 rfl (lt_b rfl) (lt_b rfl) rfl (tyX7_ok 13 (lt_b rfl)) rfl rfl rfl (lt_b rfl) rfl ?_
      refine v_aload_n 0 0 hX dX7_ask_26 rfl rfl ?_
      refine v_get (C := RX7) (T := TX7) (N := 22) (ci := 7) (v := .ref (ad 5)) 0 8 hX dX7_ask_27 mw_844 rfl inlX7 rfl (lt_b rfl) (lt_b rfl) rfl rfl ?_
      refine v_bipush 7 hX dX7_ask_30 (by decide) ?_
      refine v_iload_n 1 1 hX dX7_ask_32 rfl rfl ?_
      refine v_iadd hX dX7_ask_33 ?_
      obtain ⟨hi3, hf⟩ := gd_some hf
      refine v_ald (v := σ 5 ((7 + x1).toNatClampNeg)) 5 hX dX7_ask_34 (lt_b rfl) ((fun _ => rfl) _) hi3 rfl ?_
      refine v_istore_n 3 [(3, .int (σ 5 ((7 + x1).toNatClampNeg))), (0, .ref (ad 0)), (1, .int x1), (2, .int x2)] hX dX7_ask_35 rfl (lt_b rfl) rfl ?_
      refine v_iload_n 0 3 hX dX7_ask_36 rfl rfl ?_
      refine v_iconst 4 hX dX7_ask_37 (by decide) ?_
      refine v_icmp_ge 101 hX dX7_ask_38 (by decide) (fun c => ?_) (fun c => ?_)
      · have hf := opt_t c hf
        refine v_iload_n 3 2 hX dX7_ask_101 rfl rfl ?_
        refine v_if_ne 111 hX dX7_ask_102 (by decide) (fun c => ?_) (fun c => ?_)
        · have hf := opt_f c hf
          refine v_aload_n 1 0 hX dX7_ask_111 rfl rfl ?_
          refine v_ldc2 2320 hX dX7_ask_112 mw_1233 ?_
          obtain ⟨v4, hc, hf⟩ := opt_b hf
          refine v_callVv (rest := []) (As := [.long 2320]) (C := RX7) (T := TX7) (N := 22) (ci := 7) 0 hX dX7_ask_115 (c_X7_leave (mst σ 0 13 0) fuel 2320 hc) rfl rfl (lt_b rfl) rfl rfl rfl mw_1223 mw_54 mw_64 mw_1221 mw_1224 gAll ds_X7_leave rfl ⟨Nat.le_of_ble_eq_true rfl, Nat.le_of_ble_eq_true rfl⟩ (Nat.le_of_ble_eq_true rfl) ?_
          refine v_iload_n 2 1 hX dX7_ask_118 rfl rfl ?_
          refine v_aload_n 1 0 hX dX7_ask_119 rfl rfl ?_
          refine v_iload_n 2 1 hX dX7_ask_120 rfl rfl ?_
          obtain ⟨v5, hc, hf⟩ := opt_b hf
          refine v_callVi (rest := [.int x1]) (As := [.int x1]) (C := RX7) (T := TX7) (N := 22) (ci := 7) 0 hX dX7_ask_121 (c_X7_sizeOf v4 fuel x1 hc) rfl rfl (lt_b rfl) rfl rfl rfl mw_1229 mw_55 mw_64 mw_1227 mw_1230 gAll ds_X7_sizeOf rfl ⟨Nat.le_of_ble_eq_true rfl, Nat.le_of_ble_eq_true rfl⟩ (Nat.le_of_ble_eq_true rfl) ?_
          refine v_isub hX dX7_ask_124 ?_
          obtain rfl := Option.some.inj hf
          exact v_iret (r := x1 - v5.1) hX dX7_ask_125 rfl
        · have hf := opt_t c hf
          refine v_aload_n 1 0 hX dX7_ask_105 rfl rfl ?_
          refine v_iload_n 2 1 hX dX7_ask_106 rfl rfl ?_
          obtain ⟨v6, hc, hf⟩ := opt_b hf
          refine v_callVi (rest := []) (As := [.int x1]) (C := RX7) (T := TX7) (N := 22) (ci := 7) 0 hX dX7_ask_107 (c_X7_sizeOf (mst σ 0 13 0) fuel x1 hc) rfl rfl (lt_b rfl) rfl rfl rfl mw_1229 mw_55 mw_64 mw_1227 mw_1230 gAll ds_X7_sizeOf rfl ⟨Nat.le_of_ble_eq_true rfl, Nat.le_of_ble_eq_true rfl⟩ (Nat.le_of_ble_eq_true rfl) ?_
          obtain rfl := Option.some.inj hf
          exact v_iret (r := v6.1) hX dX7_ask_110 rfl
      · have hf := opt_f c hf
        refine v_iload_n 3 2 hX dX7_ask_41 rfl rfl ?_
        refine v_iconst 1 hX dX7_ask_42 (by decide) ?_
        refine v_icmp_ne 52 hX dX7_ask_43 (by decide) (fun c => ?_) (fun c => ?_)
        · have hf := opt_f c hf
          refine v_aload_n 1 0 hX dX7_ask_52 rfl rfl ?_
          refine v_iload_n 0 3 hX dX7_ask_53 rfl rfl ?_
          refine v_iconst 2 hX dX7_ask_54 (by decide) ?_
          refine v_icmp_ne 64 hX dX7_ask_55 (by decide) (fun c => ?_) (fun c => ?_)
          · have hf := opt_f c hf
            refine v_ldc2 1110 hX dX7_ask_64 mw_1226 ?_
            exact v_sub [1, 2, 0] rfl (s_X7_ask_67 hX fuel z  (mst σ 0 13 0) x1 (σ 5 ((7 + x1).toNatClampNeg)) 1110 hf)
          · have hf := opt_t c hf
            refine v_ldc2 121110 hX dX7_ask_58 mw_1225 ?_
            refine v_goto 67 hX dX7_ask_61 (by decide) ?_
            exact v_sub [1, 2, 0] rfl (s_X7_ask_67 hX fuel z  (mst σ 0 13 0) x1 (σ 5 ((7 + x1).toNatClampNeg)) 121110 hf)
        · have hf := opt_t c hf
          refine v_aload_n 1 0 hX dX7_ask_46 rfl rfl ?_
          refine v_iload_n 2 1 hX dX7_ask_47 rfl rfl ?_
          obtain ⟨v7, hc, hf⟩ := opt_b hf
          refine v_callVi (rest := []) (As := [.int x1]) (C := RX7) (T := TX7) (N := 22) (ci := 7) 0 hX dX7_ask_48 (c_X7_mark (mst σ 0 13 0) fuel x1 hc) rfl rfl (lt_b rfl) rfl rfl rfl mw_1212 mw_52 mw_64 mw_1210 mw_1213 gAll ds_X7_mark rfl ⟨Nat.le_of_ble_eq_true rfl, Nat.le_of_ble_eq_true rfl⟩ (Nat.le_of_ble_eq_true rfl) ?_
          obtain rfl := Option.some.inj hf
          exact v_iret (r := v7.1) hX dX7_ask_51 rfl
    · have hf := opt_t c hf
      refine v_ldc (-1000001) hX dX7_ask_18 mw_916 ?_
      obtain rfl := Option.some.inj hf
      exact v_iret (r := (-1000001)) hX dX7_ask_20 rfl
set_option maxHeartbeats 4000000 in
set_option maxRecDepth 100000 in
theorem c_X1_mayRecallNow {l : Launch} {D : va_G} {cs : ClassId × ClassId × ClassId} {ad : Nat → Nat} {ts : Nat × Nat × Nat} (σ : Mem)  (x1 : Int32) {z : Int32} (hf : f_X1_mayRecallNow σ x1 = some z) : CtI l (xW D cs ad ts) 3 yX1_mayRecallNow cX1_mayRecallNow 2 (some .boolean) [.ref (ad 13), .int x1] σ z σ := by
  refine ct_I RX1 [(0, .ref (ad 13)), (1, .int x1)] (by decide +kernel) rfl rfl (Nat.le_of_ble_eq_true rfl) ?_
  intro P M hl0 hX
  unfold f_X1_mayRecallNow at hf
  refine v_aload_n 0 0 hX dX1_mayRecallNow_0 rfl rfl ?_
  refine v_iload_n 1 1 hX dX1_mayRecallNow_1 rfl rfl ?_
  refine v_aload_n 0 0 hX dX1_mayRecallNow_2 rfl rfl ?_
  refine v_get (C := RX1) (T := TX1) (N := 19) (ci := 1) (v := .int (σ 13 5)) 13 5 hX dX1_mayRecallNow_3 mw_122 rfl inlX1 rfl (lt_b rfl) (lt_b rfl) rfl rfl ?_
  refine v_aload_n 0 0 hX dX1_mayRecallNow_6 rfl rfl ?_
  refine v_get (C := RX1) (T := TX1) (N := 19) (ci := 1) (v := .int (σ 13 3)) 13 3 hX dX1_mayRecallNow_7 mw_114 rfl inlX1 rfl (lt_b rfl) (lt_b rfl) rfl rfl ?_
  obtain ⟨v1, hc, hf⟩ := opt_b hf
  refine v_callVi (rest := []) (As := [.int x1, .int (σ 13 5), .int (σ 13 3)]) (C := RX1) (T := TX1) (N := 19) (ci := 1) 13 hX dX1_mayRecallNow_10 (c_X1_mayRecall σ x1 (σ 13 5) (σ 13 3) hc) rfl rfl (lt_b rfl) rfl rfl rfl mw_505 mw_506 mw_59 mw_504 mw_507 gAll ds_X1_mayRecall rfl ⟨Nat.le_of_ble_eq_true rfl, Nat.le_of_ble_eq_true rfl⟩ (Nat.le_of_ble_eq_true rfl) ?_
  obtain ⟨hg2, hf⟩ := gd_some hf
  obtain rfl := Option.some.inj hf
  exact v_iret (r := v1) hX dX1_mayRecallNow_13 (isB_n hg2)
set_option maxHeartbeats 4000000 in
set_option maxRecDepth 100000 in
theorem c_X4_readLaw {l : Launch} {D : va_G} {cs : ClassId × ClassId × ClassId} {ad : Nat → Nat} {ts : Nat × Nat × Nat} (σ : Mem) (fuel : Nat)   {z : Int32 × Mem} (hf : f_X4_readLaw fuel σ = some z) : CtI l (xW D cs ad ts) 3 yX4_readLaw cX4_readLaw 1 (some .boolean) [.ref (ad 46)] σ z.1 z.2 := by
  refine ct_I RX4 [(0, .ref (ad 46))] (by decide +kernel) rfl rfl (Nat.le_of_ble_eq_true rfl) ?_
  intro P M hl0 hX
  unfold f_X4_readLaw at hf
  refine v_aload_n 0 0 hX dX4_readLaw_0 rfl rfl ?_
  refine v_bipush 105 hX dX4_readLaw_1 (by decide) ?_
  obtain ⟨v1, hc, hf⟩ := opt_b hf
  refine v_callVi (rest := []) (As := [.int 105]) (C := RX4) (T := TX4) (N := 5) (ci := 4) 46 hX dX4_readLaw_3 (c_X4_readSign σ 105 hc) rfl rfl (lt_b rfl) rfl rfl rfl mw_394 mw_3 mw_60 mw_392 mw_395 gAll ds_X4_readSign rfl ⟨Nat.le_of_ble_eq_true rfl, Nat.le_of_ble_eq_true rfl⟩ (Nat.le_of_ble_eq_true rfl) ?_
  refine v_if_ne 11 hX dX4_readLaw_6 (by decide) (fun c => ?_) (fun c => ?_)
  · have hf := opt_f c hf
    refine v_aload_n 0 0 hX dX4_readLaw_11 rfl rfl ?_
    refine v_get (C := RX4) (T := TX4) (N := 5) (ci := 4) (v := .ref (ad 48)) 46 1 hX dX4_readLaw_12 mw_215 rfl inlX4 rfl (lt_b rfl) (lt_b rfl) rfl rfl ?_
    refine v_aload_n 0 0 hX dX4_readLaw_15 rfl rfl ?_
    refine v_iconst 1 hX dX4_readLaw_16 (by decide) ?_
    refine v_bipush 99 hX dX4_readLaw_17 (by decide) ?_
    refine v_bipush 44 hX dX4_readLaw_19 (by decide) ?_
    obtain ⟨v2, hc, hf⟩ := opt_b hf
    refine v_callVi (rest := [.ref (ad 48)]) (As := [.int 1, .int 99, .int 44]) (C := RX4) (T := TX4) (N := 5) (ci := 4) 46 hX dX4_readLaw_21 (c_X4_readNumberAndSign v1.2 fuel 1 99 44 hc) rfl rfl (lt_b rfl) rfl rfl rfl mw_406 mw_6 mw_60 mw_404 mw_407 gAll ds_X4_readNumberAndSign rfl ⟨Nat.le_of_ble_eq_true rfl, Nat.le_of_ble_eq_true rfl⟩ (Nat.le_of_ble_eq_true rfl) ?_
    refine v_put (C := RX1) (T := TX1) (N := 19) (ci := 1) (ty := .int) tyX1 48 1 hX dX4_readLaw_24 mw_109 rfl inlX1 tyX1_ok nmX1 rfl (lt_b rfl) (lt_b rfl) rfl (tyX1_ok 1 (lt_b rfl)) rfl rfl rfl (lt_b rfl) rfl ?_
    refine v_aload_n 0 0 hX dX4_readLaw_27 rfl rfl ?_
    refine v_get (C := RX4) (T := TX4) (N := 5) (ci := 4) (v := .ref (ad 48)) 46 1 hX dX4_readLaw_28 mw_215 rfl inlX4 rfl (lt_b rfl) (lt_b rfl) rfl rfl ?_
    refine v_get (C := RX1) (T := TX1) (N := 19) (ci := 1) (v := .int v2.1) 48 1 hX dX4_readLaw_31 mw_109 rfl inlX1 rfl (lt_b rfl) (lt_b rfl) rfl rfl ?_
    refine v_if_ge 39 hX dX4_readLaw_34 (by decide) (fun c => ?_) (fun c => ?_)
    · have hf := opt_t c hf
      refine v_aload_n 0 0 hX dX4_readLaw_39 rfl rfl ?_
      refine v_get (C := RX4) (T := TX4) (N := 5) (ci := 4) (v := .ref (ad 48)) 46 1 hX dX4_readLaw_40 mw_215 rfl inlX4 rfl (lt_b rfl) (lt_b rfl) rfl rfl ?_
      refine v_aload_n 0 0 hX dX4_readLaw_43 rfl rfl ?_
      refine v_iconst 1 hX dX4_readLaw_44 (by decide) ?_
      refine v_bipush 99 hX dX4_readLaw_45 (by decide) ?_
      refine v_bipush 59 hX dX4_readLaw_47 (by decide) ?_
      obtain ⟨v3, hc, hf⟩ := opt_b hf
      refine v_callVi (rest := [.ref (ad 48)]) (As := [.int 1, .int 99, .int 59]) (C := RX4) (T := TX4) (N := 5) (ci := 4) 46 hX dX4_readLaw_49 (c_X4_readNumberAndSign (mst v2.2 48 1 v2.1) fuel 1 99 59 hc) rfl rfl (lt_b rfl) rfl rfl rfl mw_406 mw_6 mw_60 mw_404 mw_407 gAll ds_X4_readNumberAndSign rfl ⟨Nat.le_of_ble_eq_true rfl, Nat.le_of_ble_eq_true rfl⟩ (Nat.le_of_ble_eq_true rfl) ?_
      refine v_put (C := RX1) (T := TX1) (N := 19) (ci := 1) (ty := .int) tyX1 48 2 hX dX4_readLaw_52 mw_112 rfl inlX1 tyX1_ok nmX1 rfl (lt_b rfl) (lt_b rfl) rfl (tyX1_ok 2 (lt_b rfl)) rfl rfl rfl (lt_b rfl) rfl ?_
      refine v_aload_n 0 0 hX dX4_readLaw_55 rfl rfl ?_
      refine v_get (C := RX4) (T := TX4) (N := 5) (ci := 4) (v := .ref (ad 48)) 46 1 hX dX4_readLaw_56 mw_215 rfl inlX4 rfl (lt_b rfl) (lt_b rfl) rfl rfl ?_
      refine v_get (C := RX1) (T := TX1) (N := 19) (ci := 1) (v := .int v3.1) 48 2 hX dX4_readLaw_59 mw_112 rfl inlX1 rfl (lt_b rfl) (lt_b rfl) rfl rfl ?_
      refine v_if_lt 69 hX dX4_readLaw_62 (by decide) (fun c => ?_) (fun c => ?_)
      · have hf := opt_t c hf
        refine v_iconst 0 hX dX4_readLaw_69 (by decide) ?_
        obtain rfl := Option.some.inj hf
        exact v_iret (r := 0) hX dX4_readLaw_70 rfl
      · have hf := opt_f c hf
        refine v_iconst 1 hX dX4_readLaw_65 (by decide) ?_
        refine v_goto 70 hX dX4_readLaw_66 (by decide) ?_
        obtain rfl := Option.some.inj hf
        exact v_iret (r := 1) hX dX4_readLaw_70 rfl
    · have hf := opt_f c hf
      refine v_iconst 0 hX dX4_readLaw_37 (by decide) ?_
      obtain rfl := Option.some.inj hf
      exact v_iret (r := 0) hX dX4_readLaw_38 rfl
  · have hf := opt_t c hf
    refine v_iconst 0 hX dX4_readLaw_9 (by decide) ?_
    obtain rfl := Option.some.inj hf
    exact v_iret (r := 0) hX dX4_readLaw_10 rfl
set_option maxHeartbeats 4000000 in
set_option maxRecDepth 100000 in
theorem c_X4_readHand {l : Launch} {D : va_G} {cs : ClassId × ClassId × ClassId} {ad : Nat → Nat} {ts : Nat × Nat × Nat} (σ : Mem) (fuel : Nat)   {z : Int32 × Mem} (hf : f_X4_readHand fuel σ = some z) : CtI l (xW D cs ad ts) 3 yX4_readHand cX4_readHand 3 (some .boolean) [.ref (ad 46)] σ z.1 z.2 := by
  refine ct_I RX4 [(0, .ref (ad 46))] (by decide +kernel) rfl rfl (Nat.le_of_ble_eq_true rfl) ?_
  intro P M hl0 hX
  unfold f_X4_readHand at hf
  refine v_aload_n 0 0 hX dX4_readHand_0 rfl rfl ?_
  refine v_get (C := RX4) (T := TX4) (N := 5) (ci := 4) (v := .ref (ad 48)) 46 1 hX dX4_readHand_1 mw_215 rfl inlX4 rfl (lt_b rfl) (lt_b rfl) rfl rfl ?_
  refine v_get (C := RX1) (T := TX1) (N := 19) (ci := 1) (v := .int (σ 48 6)) 48 6 hX dX4_readHand_4 mw_128 rfl inlX1 rfl (lt_b rfl) (lt_b rfl) rfl rfl ?_
  refine v_iconst 4 hX dX4_readHand_7 (by decide) ?_
  refine v_icmp_lt 17 hX dX4_readHand_8 (by decide) (fun c => ?_) (fun c => ?_)
  · have hf := opt_t c hf
    refine v_aload_n 0 0 hX dX4_readHand_17 rfl rfl ?_
    obtain ⟨v1, hc, hf⟩ := opt_b hf
    refine v_callVi (rest := []) (As := []) (C := RX4) (T := TX4) (N := 5) (ci := 4) 46 hX dX4_readHand_18 (c_X4_next σ hc) rfl rfl (lt_b rfl) rfl rfl rfl mw_398 mw_4 mw_60 mw_396 mw_399 gAll ds_X4_next rfl ⟨Nat.le_of_ble_eq_true rfl, Nat.le_of_ble_eq_true rfl⟩ (Nat.le_of_ble_eq_true rfl) ?_
    obtain ⟨v2, hc, hf⟩ := opt_b hf
    refine v_callSi (rest := []) (As := [.int v1]) hX dX4_readHand_21 (c_X4_kindOfSort σ v1 hc) rfl rfl mw_421 mw_60 mw_420 mw_422 gAll ds_X4_kindOfSort rfl ⟨Nat.le_of_ble_eq_true rfl, Nat.le_of_ble_eq_true rfl⟩ (Nat.le_of_ble_eq_true rfl) ?_
    refine v_istore_n 1 [(1, .int v2), (0, .ref (ad 46))] hX dX4_readHand_24 rfl (lt_b rfl) rfl ?_
    refine v_aload_n 1 0 hX dX4_readHand_25 rfl rfl ?_
    refine v_dup hX dX4_readHand_26 rfl ?_
    refine v_get (C := RX4) (T := TX4) (N := 5) (ci := 4) (v := .int (σ 46 3)) 46 3 hX dX4_readHand_27 mw_219 rfl inlX4 rfl (lt_b rfl) (lt_b rfl) rfl rfl ?_
    refine v_iconst 1 hX dX4_readHand_30 (by decide) ?_
    refine v_iadd hX dX4_readHand_31 ?_
    refine v_put (C := RX4) (T := TX4) (N := 5) (ci := 4) (ty := .int) tyX4 46 3 hX dX4_readHand_32 mw_219 rfl inlX4 tyX4_ok nmX4 rfl (lt_b rfl) (lt_b rfl) rfl (tyX4_ok 3 (lt_b rfl)) rfl rfl rfl (lt_b rfl) rfl ?_
    refine v_aload_n 1 0 hX dX4_readHand_35 rfl rfl ?_
    refine v_iconst 0 hX dX4_readHand_36 (by decide) ?_
    refine v_bipush 9 hX dX4_readHand_37 (by decide) ?_
    refine v_bipush 59 hX dX4_readHand_39 (by decide) ?_
    obtain ⟨v3, hc, hf⟩ := opt_b hf
    refine v_callVi (rest := []) (As := [.int 0, .int 9, .int 59]) (C := RX4) (T := TX4) (N := 5) (ci := 4) 46 hX dX4_readHand_41 (c_X4_readNumberAndSign (mst σ 46 3 ((σ 46 3) + 1)) fuel 0 9 59 hc) rfl rfl (lt_b rfl) rfl rfl rfl mw_406 mw_6 mw_60 mw_404 mw_407 gAll ds_X4_readNumberAndSign rfl ⟨Nat.le_of_ble_eq_true rfl, Nat.le_of_ble_eq_true rfl⟩ (Nat.le_of_ble_eq_true rfl) ?_
    refine v_istore_n 2 [(2, .int v3.1), (1, .int v2), (0, .ref (ad 46))] hX dX4_readHand_44 rfl (lt_b rfl) rfl ?_
    refine v_iload_n 0 2 hX dX4_readHand_45 rfl rfl ?_
    refine v_if_ge 51 hX dX4_readHand_46 (by decide) (fun c => ?_) (fun c => ?_)
    · have hf := opt_t c hf
      refine v_aload_n 2 0 hX dX4_readHand_51 rfl rfl ?_
      refine v_get (C := RX4) (T := TX4) (N := 5) (ci := 4) (v := .ref (ad 48)) 46 1 hX dX4_readHand_52 mw_215 rfl inlX4 rfl (lt_b rfl) (lt_b rfl) rfl rfl ?_
      refine v_iload_n 1 1 hX dX4_readHand_55 rfl rfl ?_
      refine v_iload_n 0 2 hX dX4_readHand_56 rfl rfl ?_
      obtain ⟨v4, hc, hf⟩ := opt_b hf
      refine v_callVv (rest := []) (As := [.int v2, .int v3.1]) (C := RX1) (T := TX1) (N := 19) (ci := 1) 48 hX dX4_readHand_57 (c_X1_addHand v3.2 v2 v3.1 hc) rfl rfl (lt_b rfl) rfl rfl rfl mw_428 mw_429 mw_59 mw_427 mw_430 gAll ds_X1_addHand rfl ⟨Nat.le_of_ble_eq_true rfl, Nat.le_of_ble_eq_true rfl⟩ (Nat.le_of_ble_eq_true rfl) ?_
      refine v_iconst 1 hX dX4_readHand_60 (by decide) ?_
      obtain rfl := Option.some.inj hf
      exact v_iret (r := 1) hX dX4_readHand_61 rfl
    · have hf := opt_f c hf
      refine v_iconst 0 hX dX4_readHand_49 (by decide) ?_
      obtain rfl := Option.some.inj hf
      exact v_iret (r := 0) hX dX4_readHand_50 rfl
  · have hf := opt_f c hf
    refine v_aload_n 0 0 hX dX4_readHand_11 rfl rfl ?_
    refine v_iconst 3 hX dX4_readHand_12 (by decide) ?_
    obtain ⟨v5, hc, hf⟩ := opt_b hf
    refine v_callVi (rest := []) (As := [.int 3]) (C := RX4) (T := TX4) (N := 5) (ci := 4) 46 hX dX4_readHand_13 (c_X4_fail σ 3 hc) rfl rfl (lt_b rfl) rfl rfl rfl mw_402 mw_5 mw_60 mw_400 mw_403 gAll ds_X4_fail rfl ⟨Nat.le_of_ble_eq_true rfl, Nat.le_of_ble_eq_true rfl⟩ (Nat.le_of_ble_eq_true rfl) ?_
    obtain ⟨hg6, hf⟩ := gd_some hf
    obtain rfl := Option.some.inj hf
    exact v_iret (r := v5.1) hX dX4_readHand_16 (isB_n hg6)
set_option maxHeartbeats 4000000 in
set_option maxRecDepth 100000 in
theorem c_X4_readCopy {l : Launch} {D : va_G} {cs : ClassId × ClassId × ClassId} {ad : Nat → Nat} {ts : Nat × Nat × Nat} (σ : Mem) (fuel : Nat)   {z : Int32 × Mem} (hf : f_X4_readCopy fuel σ = some z) : CtI l (xW D cs ad ts) 3 yX4_readCopy cX4_readCopy 4 (some .boolean) [.ref (ad 46)] σ z.1 z.2 := by
  refine ct_I RX4 [(0, .ref (ad 46))] (by decide +kernel) rfl rfl (Nat.le_of_ble_eq_true rfl) ?_
  intro P M hl0 hX
  unfold f_X4_readCopy at hf
  refine v_aload_n 0 0 hX dX4_readCopy_0 rfl rfl ?_
  refine v_get (C := RX4) (T := TX4) (N := 5) (ci := 4) (v := .ref (ad 48)) 46 1 hX dX4_readCopy_1 mw_215 rfl inlX4 rfl (lt_b rfl) (lt_b rfl) rfl rfl ?_
  refine v_get (C := RX1) (T := TX1) (N := 19) (ci := 1) (v := .int (σ 48 7)) 48 7 hX dX4_readCopy_4 mw_132 rfl inlX1 rfl (lt_b rfl) (lt_b rfl) rfl rfl ?_
  refine v_bipush 10 hX dX4_readCopy_7 (by decide) ?_
  refine v_icmp_lt 18 hX dX4_readCopy_9 (by decide) (fun c => ?_) (fun c => ?_)
  · have hf := opt_t c hf
    refine v_aload_n 0 0 hX dX4_readCopy_18 rfl rfl ?_
    refine v_dup hX dX4_readCopy_19 rfl ?_
    refine v_get (C := RX4) (T := TX4) (N := 5) (ci := 4) (v := .int (σ 46 3)) 46 3 hX dX4_readCopy_20 mw_219 rfl inlX4 rfl (lt_b rfl) (lt_b rfl) rfl rfl ?_
    refine v_iconst 1 hX dX4_readCopy_23 (by decide) ?_
    refine v_iadd hX dX4_readCopy_24 ?_
    refine v_put (C := RX4) (T := TX4) (N := 5) (ci := 4) (ty := .int) tyX4 46 3 hX dX4_readCopy_25 mw_219 rfl inlX4 tyX4_ok nmX4 rfl (lt_b rfl) (lt_b rfl) rfl (tyX4_ok 3 (lt_b rfl)) rfl rfl rfl (lt_b rfl) rfl ?_
    refine v_aload_n 0 0 hX dX4_readCopy_28 rfl rfl ?_
    refine v_iconst 0 hX dX4_readCopy_29 (by decide) ?_
    refine v_iconst 5 hX dX4_readCopy_30 (by decide) ?_
    refine v_bipush 44 hX dX4_readCopy_31 (by decide) ?_
    obtain ⟨v1, hc, hf⟩ := opt_b hf
    refine v_callVi (rest := []) (As := [.int 0, .int 5, .int 44]) (C := RX4) (T := TX4) (N := 5) (ci := 4) 46 hX dX4_readCopy_33 (c_X4_readNumberAndSign (mst σ 46 3 ((σ 46 3) + 1)) fuel 0 5 44 hc) rfl rfl (lt_b rfl) rfl rfl rfl mw_406 mw_6 mw_60 mw_404 mw_407 gAll ds_X4_readNumberAndSign rfl ⟨Nat.le_of_ble_eq_true rfl, Nat.le_of_ble_eq_true rfl⟩ (Nat.le_of_ble_eq_true rfl) ?_
    refine v_istore_n 1 [(1, .int v1.1), (0, .ref (ad 46))] hX dX4_readCopy_36 rfl (lt_b rfl) rfl ?_
    refine v_iload_n 0 1 hX dX4_readCopy_37 rfl rfl ?_
    refine v_if_ge 43 hX dX4_readCopy_38 (by decide) (fun c => ?_) (fun c => ?_)
    · have hf := opt_t c hf
      refine v_aload_n 1 0 hX dX4_readCopy_43 rfl rfl ?_
      refine v_iconst 0 hX dX4_readCopy_44 (by decide) ?_
      refine v_aload_n 1 0 hX dX4_readCopy_45 rfl rfl ?_
      refine v_get (C := RX4) (T := TX4) (N := 5) (ci := 4) (v := .ref (ad 48)) 46 1 hX dX4_readCopy_46 mw_215 rfl inlX4 rfl (lt_b rfl) (lt_b rfl) rfl rfl ?_
      refine v_get (C := RX1) (T := TX1) (N := 19) (ci := 1) (v := .int (v1.2 48 6)) 48 6 hX dX4_readCopy_49 mw_128 rfl inlX1 rfl (lt_b rfl) (lt_b rfl) rfl rfl ?_
      refine v_iconst 1 hX dX4_readCopy_52 (by decide) ?_
      refine v_isub hX dX4_readCopy_53 ?_
      refine v_bipush 44 hX dX4_readCopy_54 (by decide) ?_
      obtain ⟨v2, hc, hf⟩ := opt_b hf
      refine v_callVi (rest := []) (As := [.int 0, .int ((v1.2 48 6) - 1), .int 44]) (C := RX4) (T := TX4) (N := 5) (ci := 4) 46 hX dX4_readCopy_56 (c_X4_readNumberAndSign v1.2 fuel 0 ((v1.2 48 6) - 1) 44 hc) rfl rfl (lt_b rfl) rfl rfl rfl mw_406 mw_6 mw_60 mw_404 mw_407 gAll ds_X4_readNumberAndSign rfl ⟨Nat.le_of_ble_eq_true rfl, Nat.le_of_ble_eq_true rfl⟩ (Nat.le_of_ble_eq_true rfl) ?_
      refine v_istore_n 2 [(2, .int v2.1), (1, .int v1.1), (0, .ref (ad 46))] hX dX4_readCopy_59 rfl (lt_b rfl) rfl ?_
      refine v_iload_n 0 2 hX dX4_readCopy_60 rfl rfl ?_
      refine v_if_ge 66 hX dX4_readCopy_61 (by decide) (fun c => ?_) (fun c => ?_)
      · have hf := opt_t c hf
        refine v_aload_n 2 0 hX dX4_readCopy_66 rfl rfl ?_
        refine v_iconst 1 hX dX4_readCopy_67 (by decide) ?_
        refine v_bipush 9 hX dX4_readCopy_68 (by decide) ?_
        refine v_bipush 59 hX dX4_readCopy_70 (by decide) ?_
        obtain ⟨v3, hc, hf⟩ := opt_b hf
        refine v_callVi (rest := []) (As := [.int 1, .int 9, .int 59]) (C := RX4) (T := TX4) (N := 5) (ci := 4) 46 hX dX4_readCopy_72 (c_X4_readNumberAndSign v2.2 fuel 1 9 59 hc) rfl rfl (lt_b rfl) rfl rfl rfl mw_406 mw_6 mw_60 mw_404 mw_407 gAll ds_X4_readNumberAndSign rfl ⟨Nat.le_of_ble_eq_true rfl, Nat.le_of_ble_eq_true rfl⟩ (Nat.le_of_ble_eq_true rfl) ?_
        refine v_istore_n 3 [(3, .int v3.1), (2, .int v2.1), (1, .int v1.1), (0, .ref (ad 46))] hX dX4_readCopy_75 rfl (lt_b rfl) rfl ?_
        refine v_iload_n 0 3 hX dX4_readCopy_76 rfl rfl ?_
        refine v_if_ge 82 hX dX4_readCopy_77 (by decide) (fun c => ?_) (fun c => ?_)
        · have hf := opt_t c hf
          refine v_aload_n 3 0 hX dX4_readCopy_82 rfl rfl ?_
          refine v_get (C := RX4) (T := TX4) (N := 5) (ci := 4) (v := .ref (ad 48)) 46 1 hX dX4_readCopy_83 mw_215 rfl inlX4 rfl (lt_b rfl) (lt_b rfl) rfl rfl ?_
          refine v_iload_n 2 1 hX dX4_readCopy_86 rfl rfl ?_
          refine v_iload_n 1 2 hX dX4_readCopy_87 rfl rfl ?_
          refine v_iload_n 0 3 hX dX4_readCopy_88 rfl rfl ?_
          obtain ⟨v4, hc, hf⟩ := opt_b hf
          refine v_callVv (rest := []) (As := [.int v1.1, .int v2.1, .int v3.1]) (C := RX1) (T := TX1) (N := 19) (ci := 1) 48 hX dX4_readCopy_89 (c_X1_addCopyD v3.2 v1.1 v2.1 v3.1 hc) rfl rfl (lt_b rfl) rfl rfl rfl mw_440 mw_441 mw_59 mw_439 mw_442 gAll ds_X1_addCopy rfl ⟨Nat.le_of_ble_eq_true rfl, Nat.le_of_ble_eq_true rfl⟩ (Nat.le_of_ble_eq_true rfl) ?_
          refine v_iconst 1 hX dX4_readCopy_92 (by decide) ?_
          obtain rfl := Option.some.inj hf
          exact v_iret (r := 1) hX dX4_readCopy_93 rfl
        · have hf := opt_f c hf
          refine v_iconst 0 hX dX4_readCopy_80 (by decide) ?_
          obtain rfl := Option.some.inj hf
          exact v_iret (r := 0) hX dX4_readCopy_81 rfl
      · have hf := opt_f c hf
        refine v_iconst 0 hX dX4_readCopy_64 (by decide) ?_
        obtain rfl := Option.some.inj hf
        exact v_iret (r := 0) hX dX4_readCopy_65 rfl
    · have hf := opt_f c hf
      refine v_iconst 0 hX dX4_readCopy_41 (by decide) ?_
      obtain rfl := Option.some.inj hf
      exact v_iret (r := 0) hX dX4_readCopy_42 rfl
  · have hf := opt_f c hf
    refine v_aload_n 0 0 hX dX4_readCopy_12 rfl rfl ?_
    refine v_iconst 3 hX dX4_readCopy_13 (by decide) ?_
    obtain ⟨v5, hc, hf⟩ := opt_b hf
    refine v_callVi (rest := []) (As := [.int 3]) (C := RX4) (T := TX4) (N := 5) (ci := 4) 46 hX dX4_readCopy_14 (c_X4_fail σ 3 hc) rfl rfl (lt_b rfl) rfl rfl rfl mw_402 mw_5 mw_60 mw_400 mw_403 gAll ds_X4_fail rfl ⟨Nat.le_of_ble_eq_true rfl, Nat.le_of_ble_eq_true rfl⟩ (Nat.le_of_ble_eq_true rfl) ?_
    obtain ⟨hg6, hf⟩ := gd_some hf
    obtain rfl := Option.some.inj hf
    exact v_iret (r := v5.1) hX dX4_readCopy_17 (isB_n hg6)
set_option maxHeartbeats 4000000 in
set_option maxRecDepth 100000 in
theorem s_X4_readDeed_31 {P : PT} {M : MT} {D : va_G} {cs : ClassId × ClassId × ClassId} {ad : Nat → Nat} {ts : Nat × Nat × Nat} (hX : VOk P M (xW D cs ad ts) 5 cX4_readDeed RX4 (some .boolean) 3) (fuel : Nat)   (z : Int32 × Mem)  (σ : Mem) (y0 : Int32) (hf : f_X4_readDeed_31 fuel σ y0 = some z) : V P M (xW D cs ad ts) 5 (QI P M (xW D cs ad ts) z.1 z.2) 31 [(0, .ref (ad 46))] [.int y0] σ := by
  unfold f_X4_readDeed_31 at hf
  refine v_istore_n 1 [(1, .int y0), (0, .ref (ad 46))] hX dX4_readDeed_31 rfl (lt_b rfl) rfl ?_
  refine v_aload_n 1 0 hX dX4_readDeed_32 rfl rfl ?_
  refine v_dup hX dX4_readDeed_33 rfl ?_
  refine v_get (C := RX4) (T := TX4) (N := 5) (ci := 4) (v := .int (σ 46 3)) 46 3 hX dX4_readDeed_34 mw_219 rfl inlX4 rfl (lt_b rfl) (lt_b rfl) rfl rfl ?_
  refine v_iconst 1 hX dX4_readDeed_37 (by decide) ?_
  refine v_iadd hX dX4_readDeed_38 ?_
  refine v_put (C := RX4) (T := TX4) (N := 5) (ci := 4) (ty := .int) tyX4 46 3 hX dX4_readDeed_39 mw_219 rfl inlX4 tyX4_ok nmX4 rfl (lt_b rfl) (lt_b rfl) rfl (tyX4_ok 3 (lt_b rfl)) rfl rfl rfl (lt_b rfl) rfl ?_
  refine v_aload_n 1 0 hX dX4_readDeed_42 rfl rfl ?_
  refine v_iconst 1 hX dX4_readDeed_43 (by decide) ?_
  refine v_bipush 63 hX dX4_readDeed_44 (by decide) ?_
  refine v_bipush 44 hX dX4_readDeed_46 (by decide) ?_
  obtain ⟨v4, hc, hf⟩ := opt_b hf
  refine v_callVi (rest := []) (As := [.int 1, .int 63, .int 44]) (C := RX4) (T := TX4) (N := 5) (ci := 4) 46 hX dX4_readDeed_48 (c_X4_readNumberAndSign (mst σ 46 3 ((σ 46 3) + 1)) fuel 1 63 44 hc) rfl rfl (lt_b rfl) rfl rfl rfl mw_406 mw_6 mw_60 mw_404 mw_407 gAll ds_X4_readNumberAndSign rfl ⟨Nat.le_of_ble_eq_true rfl, Nat.le_of_ble_eq_true rfl⟩ (Nat.le_of_ble_eq_true rfl) ?_
  refine v_istore_n 2 [(2, .int v4.1), (1, .int y0), (0, .ref (ad 46))] hX dX4_readDeed_51 rfl (lt_b rfl) rfl ?_
  refine v_iload_n 0 2 hX dX4_readDeed_52 rfl rfl ?_
  refine v_if_ge 58 hX dX4_readDeed_53 (by decide) (fun c => ?_) (fun c => ?_)
  · have hf := opt_t c hf
    refine v_aload_n 2 0 hX dX4_readDeed_58 rfl rfl ?_
    refine v_iconst 0 hX dX4_readDeed_59 (by decide) ?_
    refine v_aload_n 2 0 hX dX4_readDeed_60 rfl rfl ?_
    refine v_get (C := RX4) (T := TX4) (N := 5) (ci := 4) (v := .ref (ad 48)) 46 1 hX dX4_readDeed_61 mw_215 rfl inlX4 rfl (lt_b rfl) (lt_b rfl) rfl rfl ?_
    refine v_get (C := RX1) (T := TX1) (N := 19) (ci := 1) (v := .int (v4.2 48 8)) 48 8 hX dX4_readDeed_64 mw_136 rfl inlX1 rfl (lt_b rfl) (lt_b rfl) rfl rfl ?_
    refine v_bipush 44 hX dX4_readDeed_67 (by decide) ?_
    obtain ⟨v5, hc, hf⟩ := opt_b hf
    refine v_callVi (rest := []) (As := [.int 0, .int (v4.2 48 8), .int 44]) (C := RX4) (T := TX4) (N := 5) (ci := 4) 46 hX dX4_readDeed_69 (c_X4_readNumberAndSign v4.2 fuel 0 (v4.2 48 8) 44 hc) rfl rfl (lt_b rfl) rfl rfl rfl mw_406 mw_6 mw_60 mw_404 mw_407 gAll ds_X4_readNumberAndSign rfl ⟨Nat.le_of_ble_eq_true rfl, Nat.le_of_ble_eq_true rfl⟩ (Nat.le_of_ble_eq_true rfl) ?_
    refine v_istore_n 3 [(3, .int v5.1), (2, .int v4.1), (1, .int y0), (0, .ref (ad 46))] hX dX4_readDeed_72 rfl (lt_b rfl) rfl ?_
    refine v_iload_n 0 3 hX dX4_readDeed_73 rfl rfl ?_
    refine v_if_ge 79 hX dX4_readDeed_74 (by decide) (fun c => ?_) (fun c => ?_)
    · have hf := opt_t c hf
      refine v_aload_n 3 0 hX dX4_readDeed_79 rfl rfl ?_
      refine v_iconst 0 hX dX4_readDeed_80 (by decide) ?_
      refine v_bipush 20 hX dX4_readDeed_81 (by decide) ?_
      refine v_bipush 59 hX dX4_readDeed_83 (by decide) ?_
      obtain ⟨v6, hc, hf⟩ := opt_b hf
      refine v_callVi (rest := []) (As := [.int 0, .int 20, .int 59]) (C := RX4) (T := TX4) (N := 5) (ci := 4) 46 hX dX4_readDeed_85 (c_X4_readNumberAndSign v5.2 fuel 0 20 59 hc) rfl rfl (lt_b rfl) rfl rfl rfl mw_406 mw_6 mw_60 mw_404 mw_407 gAll ds_X4_readNumberAndSign rfl ⟨Nat.le_of_ble_eq_true rfl, Nat.le_of_ble_eq_true rfl⟩ (Nat.le_of_ble_eq_true rfl) ?_
      refine v_istore [(4, .int v6.1), (3, .int v5.1), (2, .int v4.1), (1, .int y0), (0, .ref (ad 46))] hX dX4_readDeed_88 (lt_b rfl) rfl ?_
      refine v_iload 0 hX dX4_readDeed_90 rfl ?_
      refine v_if_ge 97 hX dX4_readDeed_92 (by decide) (fun c => ?_) (fun c => ?_)
      · have hf := opt_t c hf
        refine v_aload_n 4 0 hX dX4_readDeed_97 rfl rfl ?_
        refine v_get (C := RX4) (T := TX4) (N := 5) (ci := 4) (v := .ref (ad 48)) 46 1 hX dX4_readDeed_98 mw_215 rfl inlX4 rfl (lt_b rfl) (lt_b rfl) rfl rfl ?_
        refine v_iload_n 3 1 hX dX4_readDeed_101 rfl rfl ?_
        refine v_iload_n 2 2 hX dX4_readDeed_102 rfl rfl ?_
        refine v_iload_n 1 3 hX dX4_readDeed_103 rfl rfl ?_
        refine v_iconst 1 hX dX4_readDeed_104 (by decide) ?_
        refine v_isub hX dX4_readDeed_105 ?_
        refine v_iload 0 hX dX4_readDeed_106 rfl ?_
        obtain ⟨v7, hc, hf⟩ := opt_b hf
        refine v_callVv (rest := []) (As := [.int y0, .int v4.1, .int (v5.1 - 1), .int v6.1]) (C := RX1) (T := TX1) (N := 19) (ci := 1) 48 hX dX4_readDeed_108 (c_X1_addDeed v6.2 y0 v4.1 (v5.1 - 1) v6.1 hc) rfl rfl (lt_b rfl) rfl rfl rfl mw_452 mw_453 mw_59 mw_451 mw_454 gAll ds_X1_addDeed rfl ⟨Nat.le_of_ble_eq_true rfl, Nat.le_of_ble_eq_true rfl⟩ (Nat.le_of_ble_eq_true rfl) ?_
        refine v_iconst 1 hX dX4_readDeed_111 (by decide) ?_
        obtain rfl := Option.some.inj hf
        exact v_iret (r := 1) hX dX4_readDeed_112 rfl
      · have hf := opt_f c hf
        refine v_iconst 0 hX dX4_readDeed_95 (by decide) ?_
        obtain rfl := Option.some.inj hf
        exact v_iret (r := 0) hX dX4_readDeed_96 rfl
    · have hf := opt_f c hf
      refine v_iconst 0 hX dX4_readDeed_77 (by decide) ?_
      obtain rfl := Option.some.inj hf
      exact v_iret (r := 0) hX dX4_readDeed_78 rfl
  · have hf := opt_f c hf
    refine v_iconst 0 hX dX4_readDeed_56 (by decide) ?_
    obtain rfl := Option.some.inj hf
    exact v_iret (r := 0) hX dX4_readDeed_57 rfl
set_option maxHeartbeats 4000000 in
set_option maxRecDepth 100000 in
theorem c_X4_readDeed {l : Launch} {D : va_G} {cs : ClassId × ClassId × ClassId} {ad : Nat → Nat} {ts : Nat × Nat × Nat} (σ : Mem) (fuel : Nat)   {z : Int32 × Mem} (hf : f_X4_readDeed fuel σ = some z) : CtI l (xW D cs ad ts) 3 yX4_readDeed cX4_readDeed 5 (some .boolean) [.ref (ad 46)] σ z.1 z.2 := by
  refine ct_I RX4 [(0, .ref (ad 46))] (by decide +kernel) rfl rfl (Nat.le_of_ble_eq_true rfl) ?_
  intro P M hl0 hX
  unfold f_X4_readDeed at hf
  refine v_aload_n 0 0 hX dX4_readDeed_0 rfl rfl ?_
  refine v_get (C := RX4) (T := TX4) (N := 5) (ci := 4) (v := .ref (ad 48)) 46 1 hX dX4_readDeed_1 mw_215 rfl inlX4 rfl (lt_b rfl) (lt_b rfl) rfl rfl ?_
  refine v_get (C := RX1) (T := TX1) (N := 19) (ci := 1) (v := .int (σ 48 8)) 48 8 hX dX4_readDeed_4 mw_136 rfl inlX1 rfl (lt_b rfl) (lt_b rfl) rfl rfl ?_
  refine v_iconst 5 hX dX4_readDeed_7 (by decide) ?_
  refine v_icmp_lt 17 hX dX4_readDeed_8 (by decide) (fun c => ?_) (fun c => ?_)
  · have hf := opt_t c hf
    refine v_aload_n 0 0 hX dX4_readDeed_17 rfl rfl ?_
    obtain ⟨v1, hc, hf⟩ := opt_b hf
    refine v_callVi (rest := []) (As := []) (C := RX4) (T := TX4) (N := 5) (ci := 4) 46 hX dX4_readDeed_18 (c_X4_next σ hc) rfl rfl (lt_b rfl) rfl rfl rfl mw_398 mw_4 mw_60 mw_396 mw_399 gAll ds_X4_next rfl ⟨Nat.le_of_ble_eq_true rfl, Nat.le_of_ble_eq_true rfl⟩ (Nat.le_of_ble_eq_true rfl) ?_
    refine v_bipush 97 hX dX4_readDeed_21 (by decide) ?_
    refine v_icmp_ne 30 hX dX4_readDeed_23 (by decide) (fun c => ?_) (fun c => ?_)
    · have hf := opt_f c hf
      refine v_iconst 0 hX dX4_readDeed_30 (by decide) ?_
      exact (s_X4_readDeed_31 hX fuel z  σ 0 hf)
    · have hf := opt_t c hf
      refine v_iconst 1 hX dX4_readDeed_26 (by decide) ?_
      refine v_goto 31 hX dX4_readDeed_27 (by decide) ?_
      exact (s_X4_readDeed_31 hX fuel z  σ 1 hf)
  · have hf := opt_f c hf
    refine v_aload_n 0 0 hX dX4_readDeed_11 rfl rfl ?_
    refine v_iconst 3 hX dX4_readDeed_12 (by decide) ?_
    obtain ⟨v2, hc, hf⟩ := opt_b hf
    refine v_callVi (rest := []) (As := [.int 3]) (C := RX4) (T := TX4) (N := 5) (ci := 4) 46 hX dX4_readDeed_13 (c_X4_fail σ 3 hc) rfl rfl (lt_b rfl) rfl rfl rfl mw_402 mw_5 mw_60 mw_400 mw_403 gAll ds_X4_fail rfl ⟨Nat.le_of_ble_eq_true rfl, Nat.le_of_ble_eq_true rfl⟩ (Nat.le_of_ble_eq_true rfl) ?_
    obtain ⟨hg3, hf⟩ := gd_some hf
    obtain rfl := Option.some.inj hf
    exact v_iret (r := v2.1) hX dX4_readDeed_16 (isB_n hg3)
set_option maxHeartbeats 4000000 in
set_option maxRecDepth 100000 in
theorem c_X3_fallenBy {l : Launch} {D : va_G} {cs : ClassId × ClassId × ClassId} {ad : Nat → Nat} {ts : Nat × Nat × Nat} (fuel : Nat) (σ : Mem)  (x2 : Int32) {z : Int32} (hf : f_X3_fallenBy fuel σ x2 = some z) : CtI l (xW D cs ad ts) 3 yX3_fallenBy cX3_fallenBy 4 (some .int) [.ref (ad 62), .ref (ad 13), .int x2] σ z σ := by
  refine ct_I RX3 [(0, .ref (ad 62)), (1, .ref (ad 13)), (2, .int x2)] (by decide +kernel) rfl rfl (Nat.le_of_ble_eq_true rfl) ?_
  intro P M hl0 hX
  unfold f_X3_fallenBy at hf
  refine v_aload_n 1 1 hX dX3_fallenBy_0 rfl rfl ?_
  refine v_aload_n 1 1 hX dX3_fallenBy_1 rfl rfl ?_
  refine v_iload_n 2 2 hX dX3_fallenBy_2 rfl rfl ?_
  refine v_aload_n 1 1 hX dX3_fallenBy_3 rfl rfl ?_
  refine v_get (C := RX1) (T := TX1) (N := 19) (ci := 1) (v := .int (σ 13 1)) 13 1 hX dX3_fallenBy_4 mw_107 rfl inlX1 rfl (lt_b rfl) (lt_b rfl) rfl rfl ?_
  obtain ⟨v1, hc, hf⟩ := opt_b hf
  refine v_callVi (rest := [.ref (ad 13)]) (As := [.int x2, .int (σ 13 1)]) (C := RX1) (T := TX1) (N := 19) (ci := 1) 13 hX dX3_fallenBy_7 (c_X1_whiteAfter fuel σ x2 (σ 13 1) hc) rfl rfl (lt_b rfl) rfl rfl rfl mw_592 mw_593 mw_59 mw_591 mw_594 gAll ds_X1_whiteAfter rfl ⟨Nat.le_of_ble_eq_true rfl, Nat.le_of_ble_eq_true rfl⟩ (Nat.le_of_ble_eq_true rfl) ?_
  obtain ⟨v2, hc, hf⟩ := opt_b hf
  refine v_callVi (rest := []) (As := [.int v1]) (C := RX1) (T := TX1) (N := 19) (ci := 1) 13 hX dX3_fallenBy_10 (c_X1_standingBy fuel σ v1 hc) rfl rfl (lt_b rfl) rfl rfl rfl mw_541 mw_542 mw_59 mw_599 mw_543 gAll ds_X1_standingBy rfl ⟨Nat.le_of_ble_eq_true rfl, Nat.le_of_ble_eq_true rfl⟩ (Nat.le_of_ble_eq_true rfl) ?_
  refine v_istore_n 3 [(3, .int v2), (0, .ref (ad 62)), (1, .ref (ad 13)), (2, .int x2)] hX dX3_fallenBy_13 rfl (lt_b rfl) rfl ?_
  refine v_aload_n 2 1 hX dX3_fallenBy_14 rfl rfl ?_
  refine v_aload_n 2 1 hX dX3_fallenBy_15 rfl rfl ?_
  refine v_get (C := RX1) (T := TX1) (N := 19) (ci := 1) (v := .int (σ 13 5)) 13 5 hX dX3_fallenBy_16 mw_121 rfl inlX1 rfl (lt_b rfl) (lt_b rfl) rfl rfl ?_
  obtain ⟨v3, hc, hf⟩ := opt_b hf
  refine v_callVi (rest := []) (As := [.int (σ 13 5)]) (C := RX1) (T := TX1) (N := 19) (ci := 1) 13 hX dX3_fallenBy_19 (c_X1_standingBy fuel σ (σ 13 5) hc) rfl rfl (lt_b rfl) rfl rfl rfl mw_541 mw_542 mw_59 mw_599 mw_543 gAll ds_X1_standingBy rfl ⟨Nat.le_of_ble_eq_true rfl, Nat.le_of_ble_eq_true rfl⟩ (Nat.le_of_ble_eq_true rfl) ?_
  refine v_iload_n 0 3 hX dX3_fallenBy_22 rfl rfl ?_
  refine v_iconst (-1) hX dX3_fallenBy_23 (by decide) ?_
  refine v_ixor hX dX3_fallenBy_24 ?_
  refine v_iand hX dX3_fallenBy_25 ?_
  obtain rfl := Option.some.inj hf
  exact v_iret (r := v3 &&& (v2 ^^^ (-1))) hX dX3_fallenBy_26 rfl
set_option maxHeartbeats 4000000 in
set_option maxRecDepth 100000 in
theorem s_X3_firstFall_3 {P : PT} {M : MT} {D : va_G} {cs : ClassId × ClassId × ClassId} {ad : Nat → Nat} {ts : Nat × Nat × Nat} (hX : VOk P M (xW D cs ad ts) 6 cX3_firstFall RX3 (some .int) 3) (fuel : Nat) (σ : Mem)   (z : Int32)  : ∀ (n : Nat) (x2 : Int32) (x3 : Int32) (x4 : Int32), f_X3_firstFall_3 fuel σ n x2 x3 x4 = some z → V P M (xW D cs ad ts) 6 (QI P M (xW D cs ad ts) z σ) 3 [(1, .ref (ad 13)), (2, .int x2), (3, .int x3), (4, .int x4)] [] σ := by
  intro n
  induction n with
  | zero =>
    intro x2 x3 x4 hf
    cases hf
  | succ n hk3 =>
    intro x2 x3 x4 hf
    rw [f_X3_firstFall_3] at hf
    refine v_iload 3 hX dX3_firstFall_3 rfl ?_
    refine v_iload_n 2 3 hX dX3_firstFall_5 rfl rfl ?_
    refine v_icmp_ge 50 hX dX3_firstFall_6 (by decide) (fun c => ?_) (fun c => ?_)
    · have hf := opt_t c hf
      refine v_ldc (-1000000) hX dX3_firstFall_50 mw_623 ?_
      obtain rfl := Option.some.inj hf
      exact v_iret (r := (-1000000)) hX dX3_firstFall_52 rfl
    · have hf := opt_f c hf
      refine v_aload_n 0 1 hX dX3_firstFall_9 rfl rfl ?_
      refine v_aload_n 0 1 hX dX3_firstFall_10 rfl rfl ?_
      refine v_get (C := RX1) (T := TX1) (N := 19) (ci := 1) (v := .int (σ 13 5)) 13 5 hX dX3_firstFall_11 mw_121 rfl inlX1 rfl (lt_b rfl) (lt_b rfl) rfl rfl ?_
      refine v_aload_n 0 1 hX dX3_firstFall_14 rfl rfl ?_
      refine v_get (C := RX1) (T := TX1) (N := 19) (ci := 1) (v := .int (σ 13 3)) 13 3 hX dX3_firstFall_15 mw_116 rfl inlX1 rfl (lt_b rfl) (lt_b rfl) rfl rfl ?_
      refine v_iload 3 hX dX3_firstFall_18 rfl ?_
      refine v_iadd hX dX3_firstFall_20 ?_
      refine v_iconst 1 hX dX3_firstFall_21 (by decide) ?_
      refine v_iadd hX dX3_firstFall_22 ?_
      obtain ⟨v1, hc, hf⟩ := opt_b hf
      refine v_callVi (rest := []) (As := [.int (σ 13 5), .int (((σ 13 3) + x4) + 1)]) (C := RX1) (T := TX1) (N := 19) (ci := 1) 13 hX dX3_firstFall_23 (c_X1_whiteOn fuel σ (σ 13 5) (((σ 13 3) + x4) + 1) hc) rfl rfl (lt_b rfl) rfl rfl rfl mw_533 mw_534 mw_59 mw_642 mw_535 gAll ds_X1_whiteOn rfl ⟨Nat.le_of_ble_eq_true rfl, Nat.le_of_ble_eq_true rfl⟩ (Nat.le_of_ble_eq_true rfl) ?_
      refine v_istore [(5, .int v1), (1, .ref (ad 13)), (2, .int x2), (3, .int x3), (4, .int x4)] hX dX3_firstFall_26 (lt_b rfl) rfl ?_
      refine v_aload_n 1 1 hX dX3_firstFall_28 rfl rfl ?_
      refine v_iload 0 hX dX3_firstFall_29 rfl ?_
      obtain ⟨v2, hc, hf⟩ := opt_b hf
      refine v_callVi (rest := []) (As := [.int v1]) (C := RX1) (T := TX1) (N := 19) (ci := 1) 13 hX dX3_firstFall_31 (c_X1_standingBy fuel σ v1 hc) rfl rfl (lt_b rfl) rfl rfl rfl mw_541 mw_542 mw_59 mw_599 mw_543 gAll ds_X1_standingBy rfl ⟨Nat.le_of_ble_eq_true rfl, Nat.le_of_ble_eq_true rfl⟩ (Nat.le_of_ble_eq_true rfl) ?_
      refine v_iload_n 2 2 hX dX3_firstFall_34 rfl rfl ?_
      obtain ⟨v3, hc, hf⟩ := opt_b hf
      refine v_callNi (rest := []) (As := [.int v2, .int x2]) hX dX3_firstFall_35 (c_X6_bitOf σ v2 x2 hc) rfl rfl mw_509 mw_57 (ex_RX3_45 hX) mw_510 gAll ds_X6_bitOf rfl ⟨Nat.le_of_ble_eq_true rfl, Nat.le_of_ble_eq_true rfl⟩ (Nat.le_of_ble_eq_true rfl) ?_
      refine v_if_ne 44 hX dX3_firstFall_38 (by decide) (fun c => ?_) (fun c => ?_)
      · have hf := opt_f c hf
        refine v_iinc 4 (x4 + 1) [(4, .int (x4 + 1)), (5, .int v1), (1, .ref (ad 13)), (2, .int x2), (3, .int x3)] hX dX3_firstFall_44 rfl rfl (lt_b rfl) rfl ?_
        refine v_goto 3 hX dX3_firstFall_47 (by decide) ?_
        exact v_sub [2, 3, 4, 0] rfl (hk3 x2 x3 (x4 + 1) hf)
      · have hf := opt_t c hf
        refine v_iload 4 hX dX3_firstFall_41 rfl ?_
        obtain rfl := Option.some.inj hf
        exact v_iret (r := x4) hX dX3_firstFall_43 rfl
set_option maxHeartbeats 4000000 in
set_option maxRecDepth 100000 in
theorem c_X3_firstFall {l : Launch} {D : va_G} {cs : ClassId × ClassId × ClassId} {ad : Nat → Nat} {ts : Nat × Nat × Nat} (fuel : Nat) (σ : Mem)  (x2 : Int32) (x3 : Int32) {z : Int32} (hf : f_X3_firstFall fuel σ x2 x3 = some z) : CtI l (xW D cs ad ts) 3 yX3_firstFall cX3_firstFall 6 (some .int) [.ref (ad 62), .ref (ad 13), .int x2, .int x3] σ z σ := by
  refine ct_I RX3 [(0, .ref (ad 62)), (1, .ref (ad 13)), (2, .int x2), (3, .int x3)] (by decide +kernel) rfl rfl (Nat.le_of_ble_eq_true rfl) ?_
  intro P M hl0 hX
  unfold f_X3_firstFall at hf
  refine v_iconst 0 hX dX3_firstFall_0 (by decide) ?_
  refine v_istore [(4, .int 0), (0, .ref (ad 62)), (1, .ref (ad 13)), (2, .int x2), (3, .int x3)] hX dX3_firstFall_1 (lt_b rfl) rfl ?_
  exact v_sub [2, 3, 4, 0] rfl (s_X3_firstFall_3 hX fuel σ z  fuel x2 x3 0 hf)
set_option maxHeartbeats 4000000 in
set_option maxRecDepth 100000 in
theorem c_X3_doublesFor {l : Launch} {D : va_G} {cs : ClassId × ClassId × ClassId} {ad : Nat → Nat} {ts : Nat × Nat × Nat} (fuel : Nat) (σ : Mem)  (x2 : Int32) (x3 : Int32) (x4 : Int32) {z : Int32} (hf : f_X3_doublesFor fuel σ x2 x3 x4 = some z) : CtI l (xW D cs ad ts) 3 yX3_doublesFor cX3_doublesFor 7 (some .int) [.ref (ad 62), .ref (ad 13), .int x2, .int x3, .int x4] σ z σ := by
  refine ct_I RX3 [(0, .ref (ad 62)), (1, .ref (ad 13)), (2, .int x2), (3, .int x3), (4, .int x4)] (by decide +kernel) rfl rfl (Nat.le_of_ble_eq_true rfl) ?_
  intro P M hl0 hX
  unfold f_X3_doublesFor at hf
  refine v_aload_n 0 0 hX dX3_doublesFor_0 rfl rfl ?_
  refine v_aload_n 1 1 hX dX3_doublesFor_1 rfl rfl ?_
  refine v_iload_n 2 2 hX dX3_doublesFor_2 rfl rfl ?_
  refine v_aload_n 1 1 hX dX3_doublesFor_3 rfl rfl ?_
  refine v_aload_n 1 1 hX dX3_doublesFor_4 rfl rfl ?_
  refine v_iload_n 3 3 hX dX3_doublesFor_5 rfl rfl ?_
  refine v_aload_n 1 1 hX dX3_doublesFor_6 rfl rfl ?_
  refine v_get (C := RX1) (T := TX1) (N := 19) (ci := 1) (v := .int (σ 13 1)) 13 1 hX dX3_doublesFor_7 mw_107 rfl inlX1 rfl (lt_b rfl) (lt_b rfl) rfl rfl ?_
  obtain ⟨v1, hc, hf⟩ := opt_b hf
  refine v_callVi (rest := [.ref (ad 13), .int x2, .ref (ad 13), .ref (ad 62)]) (As := [.int x3, .int (σ 13 1)]) (C := RX1) (T := TX1) (N := 19) (ci := 1) 13 hX dX3_doublesFor_10 (c_X1_whiteAfter fuel σ x3 (σ 13 1) hc) rfl rfl (lt_b rfl) rfl rfl rfl mw_592 mw_593 mw_59 mw_591 mw_594 gAll ds_X1_whiteAfter rfl ⟨Nat.le_of_ble_eq_true rfl, Nat.le_of_ble_eq_true rfl⟩ (Nat.le_of_ble_eq_true rfl) ?_
  obtain ⟨v2, hc, hf⟩ := opt_b hf
  refine v_callVi (rest := [.int x2, .ref (ad 13), .ref (ad 62)]) (As := [.int v1]) (C := RX1) (T := TX1) (N := 19) (ci := 1) 13 hX dX3_doublesFor_13 (c_X1_blackBy fuel σ v1 hc) rfl rfl (lt_b rfl) rfl rfl rfl mw_520 mw_521 mw_59 mw_664 mw_522 gAll ds_X1_blackBy rfl ⟨Nat.le_of_ble_eq_true rfl, Nat.le_of_ble_eq_true rfl⟩ (Nat.le_of_ble_eq_true rfl) ?_
  obtain ⟨v3, hc, hf⟩ := opt_b hf
  refine v_callVi (rest := []) (As := [.ref (ad 13), .int x2, .int v2]) (C := RX3) (T := TX3) (N := 3) (ci := 3) 62 hX dX3_doublesFor_16 (c_X3_fewestPlaces fuel σ x2 v2 hc) rfl rfl (lt_b rfl) rfl rfl rfl mw_667 mw_19 mw_62 mw_665 mw_668 gAll ds_X3_fewestPlaces rfl ⟨Nat.le_of_ble_eq_true rfl, Nat.le_of_ble_eq_true rfl⟩ (Nat.le_of_ble_eq_true rfl) ?_
  refine v_istore [(5, .int v3), (0, .ref (ad 62)), (1, .ref (ad 13)), (2, .int x2), (3, .int x3), (4, .int x4)] hX dX3_doublesFor_19 (lt_b rfl) rfl ?_
  refine v_iload 0 hX dX3_doublesFor_21 rfl ?_
  refine v_if_ne 28 hX dX3_doublesFor_23 (by decide) (fun c => ?_) (fun c => ?_)
  · have hf := opt_f c hf
    refine v_aload_n 1 0 hX dX3_doublesFor_28 rfl rfl ?_
    refine v_aload_n 2 1 hX dX3_doublesFor_29 rfl rfl ?_
    refine v_iload_n 4 3 hX dX3_doublesFor_30 rfl rfl ?_
    obtain ⟨v4, hc, hf⟩ := opt_b hf
    refine v_callVi (rest := []) (As := [.ref (ad 13), .int x3]) (C := RX3) (T := TX3) (N := 3) (ci := 3) 62 hX dX3_doublesFor_31 (c_X3_cheapestBeside fuel σ x3 hc) rfl rfl (lt_b rfl) rfl rfl rfl mw_678 mw_20 mw_62 mw_676 mw_679 gAll ds_X3_cheapestBeside rfl ⟨Nat.le_of_ble_eq_true rfl, Nat.le_of_ble_eq_true rfl⟩ (Nat.le_of_ble_eq_true rfl) ?_
    refine v_istore [(6, .int v4), (5, .int v3), (0, .ref (ad 62)), (1, .ref (ad 13)), (2, .int x2), (3, .int x3), (4, .int x4)] hX dX3_doublesFor_34 (lt_b rfl) rfl ?_
    refine v_iload 0 hX dX3_doublesFor_36 rfl ?_
    refine v_ldc (-1000000) hX dX3_doublesFor_38 mw_623 ?_
    refine v_icmp_ne 46 hX dX3_doublesFor_40 (by decide) (fun c => ?_) (fun c => ?_)
    · have hf := opt_f c hf
      refine v_iload 6 hX dX3_doublesFor_46 rfl ?_
      by_cases cs5 : x4 = 0
      · have hf := opt_t cs5 hf
        refine v_lookup 28 76 hX dX3_doublesFor_48 (by decide) (by rw [cs5]; decide) (by decide) ?_
        refine v_iload 1 hX dX3_doublesFor_76 rfl ?_
        obtain ⟨v6, hc, hf⟩ := opt_b hf
        refine v_callSi (rest := []) (As := [.int v3]) hX dX3_doublesFor_78 (c_J6_bitCount_0f7a4 σ v3 hc) rfl rfl mw_670 mw_68 mw_669 mw_671 gAll ds_J6_bitCount_0f7a4 rfl ⟨Nat.le_of_ble_eq_true rfl, Nat.le_of_ble_eq_true rfl⟩ (Nat.le_of_ble_eq_true rfl) ?_
        obtain rfl := Option.some.inj hf
        exact v_iret (r := v6) hX dX3_doublesFor_81 rfl
      have hf := opt_f cs5 hf
      by_cases cs7 : x4 = 1
      · have hf := opt_t cs7 hf
        refine v_lookup 34 82 hX dX3_doublesFor_48 (by decide) (by rw [cs7]; decide) (by decide) ?_
        refine v_iload 1 hX dX3_doublesFor_82 rfl ?_
        obtain ⟨v8, hc, hf⟩ := opt_b hf
        refine v_callSi (rest := []) (As := [.int v3]) hX dX3_doublesFor_84 (c_J6_bitCount_0f7a4 σ v3 hc) rfl rfl mw_670 mw_68 mw_669 mw_671 gAll ds_J6_bitCount_0f7a4 rfl ⟨Nat.le_of_ble_eq_true rfl, Nat.le_of_ble_eq_true rfl⟩ (Nat.le_of_ble_eq_true rfl) ?_
        refine v_iload 0 hX dX3_doublesFor_87 rfl ?_
        refine v_imul hX dX3_doublesFor_89 ?_
        obtain rfl := Option.some.inj hf
        exact v_iret (r := v8 * v4) hX dX3_doublesFor_90 rfl
      have hf := opt_f cs7 hf
      refine v_lookup 43 91 hX dX3_doublesFor_48 (by decide) ((lv_osw cs5 (by decide)).trans ((lv_osw cs7 (by decide)).trans (rfl))) (by decide) ?_
      refine v_iload 1 hX dX3_doublesFor_91 rfl ?_
      obtain rfl := Option.some.inj hf
      exact v_iret (r := v3) hX dX3_doublesFor_93 rfl
    · have hf := opt_t c hf
      refine v_ldc (-1000000) hX dX3_doublesFor_43 mw_623 ?_
      obtain rfl := Option.some.inj hf
      exact v_iret (r := (-1000000)) hX dX3_doublesFor_45 rfl
  · have hf := opt_t c hf
    refine v_iconst 0 hX dX3_doublesFor_26 (by decide) ?_
    obtain rfl := Option.some.inj hf
    exact v_iret (r := 0) hX dX3_doublesFor_27 rfl
set_option maxHeartbeats 4000000 in
set_option maxRecDepth 100000 in
theorem s_X3_leastYear_3 {P : PT} {M : MT} {D : va_G} {cs : ClassId × ClassId × ClassId} {ad : Nat → Nat} {ts : Nat × Nat × Nat} (hX : VOk P M (xW D cs ad ts) 5 cX3_leastYear RX3 (some .int) 3) (fuel : Nat) (σ : Mem)   (z : Int32)  : ∀ (n : Nat) (x2 : Int32) (x3 : Int32) (x4 : Int32), f_X3_leastYear_3 fuel σ n x2 x3 x4 = some z → V P M (xW D cs ad ts) 5 (QI P M (xW D cs ad ts) z σ) 3 [(1, .ref (ad 13)), (2, .int x2), (3, .int x3), (4, .int x4)] [] σ := by
  intro n
  induction n with
  | zero =>
    intro x2 x3 x4 hf
    cases hf
  | succ n hk3 =>
    intro x2 x3 x4 hf
    rw [f_X3_leastYear_3] at hf
    refine v_iload 3 hX dX3_leastYear_3 rfl ?_
    refine v_bipush 99 hX dX3_leastYear_5 (by decide) ?_
    refine v_icmp_gt 37 hX dX3_leastYear_7 (by decide) (fun c => ?_) (fun c => ?_)
    · have hf := opt_t c hf
      refine v_ldc (-1000000) hX dX3_leastYear_37 mw_623 ?_
      obtain rfl := Option.some.inj hf
      exact v_iret (r := (-1000000)) hX dX3_leastYear_39 rfl
    · have hf := opt_f c hf
      refine v_aload_n 0 1 hX dX3_leastYear_10 rfl rfl ?_
      refine v_aload_n 0 1 hX dX3_leastYear_11 rfl rfl ?_
      refine v_iload_n 2 3 hX dX3_leastYear_12 rfl rfl ?_
      refine v_iload 3 hX dX3_leastYear_13 rfl ?_
      obtain ⟨v1, hc, hf⟩ := opt_b hf
      refine v_callVi (rest := [.ref (ad 13)]) (As := [.int x3, .int x4]) (C := RX1) (T := TX1) (N := 19) (ci := 1) 13 hX dX3_leastYear_15 (c_X1_whiteAfter fuel σ x3 x4 hc) rfl rfl (lt_b rfl) rfl rfl rfl mw_592 mw_593 mw_59 mw_591 mw_594 gAll ds_X1_whiteAfter rfl ⟨Nat.le_of_ble_eq_true rfl, Nat.le_of_ble_eq_true rfl⟩ (Nat.le_of_ble_eq_true rfl) ?_
      obtain ⟨v2, hc, hf⟩ := opt_b hf
      refine v_callVi (rest := []) (As := [.int v1]) (C := RX1) (T := TX1) (N := 19) (ci := 1) 13 hX dX3_leastYear_18 (c_X1_standingBy fuel σ v1 hc) rfl rfl (lt_b rfl) rfl rfl rfl mw_541 mw_542 mw_59 mw_599 mw_543 gAll ds_X1_standingBy rfl ⟨Nat.le_of_ble_eq_true rfl, Nat.le_of_ble_eq_true rfl⟩ (Nat.le_of_ble_eq_true rfl) ?_
      refine v_iload_n 1 2 hX dX3_leastYear_21 rfl rfl ?_
      obtain ⟨v3, hc, hf⟩ := opt_b hf
      refine v_callNi (rest := []) (As := [.int v2, .int x2]) hX dX3_leastYear_22 (c_X6_bitOf σ v2 x2 hc) rfl rfl mw_509 mw_57 (ex_RX3_45 hX) mw_510 gAll ds_X6_bitOf rfl ⟨Nat.le_of_ble_eq_true rfl, Nat.le_of_ble_eq_true rfl⟩ (Nat.le_of_ble_eq_true rfl) ?_
      refine v_if_ne 31 hX dX3_leastYear_25 (by decide) (fun c => ?_) (fun c => ?_)
      · have hf := opt_f c hf
        refine v_iinc 3 (x4 + 1) [(4, .int (x4 + 1)), (1, .ref (ad 13)), (2, .int x2), (3, .int x3)] hX dX3_leastYear_31 rfl rfl (lt_b rfl) rfl ?_
        refine v_goto 3 hX dX3_leastYear_34 (by decide) ?_
        exact v_sub [1, 2, 3, 0] rfl (hk3 x2 x3 (x4 + 1) hf)
      · have hf := opt_t c hf
        refine v_iload 3 hX dX3_leastYear_28 rfl ?_
        obtain rfl := Option.some.inj hf
        exact v_iret (r := x4) hX dX3_leastYear_30 rfl
set_option maxHeartbeats 4000000 in
set_option maxRecDepth 100000 in
theorem c_X3_leastYear {l : Launch} {D : va_G} {cs : ClassId × ClassId × ClassId} {ad : Nat → Nat} {ts : Nat × Nat × Nat} (fuel : Nat) (σ : Mem)  (x2 : Int32) (x3 : Int32) {z : Int32} (hf : f_X3_leastYear fuel σ x2 x3 = some z) : CtI l (xW D cs ad ts) 3 yX3_leastYear cX3_leastYear 5 (some .int) [.ref (ad 62), .ref (ad 13), .int x2, .int x3] σ z σ := by
  refine ct_I RX3 [(0, .ref (ad 62)), (1, .ref (ad 13)), (2, .int x2), (3, .int x3)] (by decide +kernel) rfl rfl (Nat.le_of_ble_eq_true rfl) ?_
  intro P M hl0 hX
  unfold f_X3_leastYear at hf
  refine v_iconst 1 hX dX3_leastYear_0 (by decide) ?_
  refine v_istore [(4, .int 1), (0, .ref (ad 62)), (1, .ref (ad 13)), (2, .int x2), (3, .int x3)] hX dX3_leastYear_1 (lt_b rfl) rfl ?_
  exact v_sub [2, 3, 4, 0] rfl (s_X3_leastYear_3 hX fuel σ z  fuel x2 x3 1 hf)
set_option maxHeartbeats 4000000 in
set_option maxRecDepth 100000 in
theorem s_X3_byDraws_93 {P : PT} {M : MT} {D : va_G} {cs : ClassId × ClassId × ClassId} {ad : Nat → Nat} {ts : Nat × Nat × Nat} (hX : VOk P M (xW D cs ad ts) 11 cX3_byDraws RX3 (some .int) 3) (fuel : Nat) (σ : Mem) (k16 : Int32 → Int32 → Int64 → Int32 → Int32 → Int32 → Option (Int32))  (z : Int32) (hk16 : ∀ (x2 : Int32) (x4 : Int32) (x5 : Int64) (x7 : Int32) (x8 : Int32) (x9 : Int32), k16 x2 x4 x5 x7 x8 x9 = some z → V P M (xW D cs ad ts) 11 (QI P M (xW D cs ad ts) z σ) 16 [(1, .ref (ad 13)), (2, .int x2), (4, .int x4), (5, .long x5), (7, .int x7), (8, .int x8), (9, .int x9)] [] σ) (x2 : Int32) (x4 : Int32) (x5 : Int64) (x7 : Int32) (x8 : Int32) (x9 : Int32) (hf : f_X3_byDraws_93 fuel σ k16 x2 x4 x5 x7 x8 x9 = some z) : V P M (xW D cs ad ts) 11 (QI P M (xW D cs ad ts) z σ) 93 [(1, .ref (ad 13)), (2, .int x2), (4, .int x4), (5, .long x5), (7, .int x7), (8, .int x8), (9, .int x9)] [] σ := by
  unfold f_X3_byDraws_93 at hf
  refine v_aload_n 0 1 hX dX3_byDraws_93 rfl rfl ?_
  refine v_iload 4 hX dX3_byDraws_94 rfl ?_
  refine v_aload_n 0 1 hX dX3_byDraws_96 rfl rfl ?_
  refine v_get (C := RX1) (T := TX1) (N := 19) (ci := 1) (v := .int (σ 13 3)) 13 3 hX dX3_byDraws_97 mw_116 rfl inlX1 rfl (lt_b rfl) (lt_b rfl) rfl rfl ?_
  refine v_iload 6 hX dX3_byDraws_100 rfl ?_
  refine v_iadd hX dX3_byDraws_102 ?_
  refine v_iconst 1 hX dX3_byDraws_103 (by decide) ?_
  refine v_iadd hX dX3_byDraws_104 ?_
  obtain ⟨v4, hc, hf⟩ := opt_b hf
  refine v_callVi (rest := []) (As := [.int x7, .int (((σ 13 3) + x9) + 1)]) (C := RX1) (T := TX1) (N := 19) (ci := 1) 13 hX dX3_byDraws_105 (c_X1_whiteOn fuel σ x7 (((σ 13 3) + x9) + 1) hc) rfl rfl (lt_b rfl) rfl rfl rfl mw_533 mw_534 mw_59 mw_642 mw_535 gAll ds_X1_whiteOn rfl ⟨Nat.le_of_ble_eq_true rfl, Nat.le_of_ble_eq_true rfl⟩ (Nat.le_of_ble_eq_true rfl) ?_
  refine v_istore [(7, .int v4), (1, .ref (ad 13)), (2, .int x2), (4, .int x4), (5, .long x5), (8, .int x8), (9, .int x9)] hX dX3_byDraws_108 (lt_b rfl) rfl ?_
  refine v_iinc 6 (x9 + 1) [(9, .int (x9 + 1)), (7, .int v4), (1, .ref (ad 13)), (2, .int x2), (4, .int x4), (5, .long x5), (8, .int x8)] hX dX3_byDraws_110 rfl rfl (lt_b rfl) rfl ?_
  refine v_goto 16 hX dX3_byDraws_113 (by decide) ?_
  exact v_sub [2, 3, 4, 5, 1, 6, 0] rfl (hk16 x2 x4 x5 v4 x8 (x9 + 1) hf)
set_option maxHeartbeats 4000000 in
set_option maxRecDepth 100000 in
theorem s_X3_byDraws_116 {P : PT} {M : MT} {D : va_G} {cs : ClassId × ClassId × ClassId} {ad : Nat → Nat} {ts : Nat × Nat × Nat} (hX : VOk P M (xW D cs ad ts) 11 cX3_byDraws RX3 (some .int) 3) (fuel : Nat) (σ : Mem)   (z : Int32)  (x4 : Int32) (x7 : Int32) (x8 : Int32) (hf : f_X3_byDraws_116 fuel σ x4 x7 x8 = some z) : V P M (xW D cs ad ts) 11 (QI P M (xW D cs ad ts) z σ) 116 [(1, .ref (ad 13)), (4, .int x4), (7, .int x7), (8, .int x8)] [] σ := by
  unfold f_X3_byDraws_116 at hf
  refine v_iload 1 hX dX3_byDraws_116 rfl ?_
  refine v_if_ne 126 hX dX3_byDraws_118 (by decide) (fun c => ?_) (fun c => ?_)
  · have hf := opt_f c hf
    refine v_aload_n 0 1 hX dX3_byDraws_126 rfl rfl ?_
    refine v_iload 2 hX dX3_byDraws_127 rfl ?_
    obtain ⟨v3, hc, hf⟩ := opt_b hf
    refine v_callVi (rest := []) (As := [.int x7]) (C := RX1) (T := TX1) (N := 19) (ci := 1) 13 hX dX3_byDraws_129 (c_X1_standingBy fuel σ x7 hc) rfl rfl (lt_b rfl) rfl rfl rfl mw_541 mw_542 mw_59 mw_599 mw_543 gAll ds_X1_standingBy rfl ⟨Nat.le_of_ble_eq_true rfl, Nat.le_of_ble_eq_true rfl⟩ (Nat.le_of_ble_eq_true rfl) ?_
    obtain rfl := Option.some.inj hf
    exact v_iret (r := v3) hX dX3_byDraws_132 rfl
  · have hf := opt_t c hf
    refine v_iload 3 hX dX3_byDraws_121 rfl ?_
    refine v_goto 132 hX dX3_byDraws_123 (by decide) ?_
    obtain rfl := Option.some.inj hf
    exact v_iret (r := x8) hX dX3_byDraws_132 rfl
set_option maxHeartbeats 4000000 in
set_option maxRecDepth 100000 in
theorem s_X3_byDraws_16 {P : PT} {M : MT} {D : va_G} {cs : ClassId × ClassId × ClassId} {ad : Nat → Nat} {ts : Nat × Nat × Nat} (hX : VOk P M (xW D cs ad ts) 11 cX3_byDraws RX3 (some .int) 3) (fuel : Nat) (σ : Mem)   (z : Int32)  : ∀ (n : Nat) (x2 : Int32) (x4 : Int32) (x5 : Int64) (x7 : Int32) (x8 : Int32) (x9 : Int32), f_X3_byDraws_16 fuel σ n x2 x4 x5 x7 x8 x9 = some z → V P M (xW D cs ad ts) 11 (QI P M (xW D cs ad ts) z σ) 16 [(1, .ref (ad 13)), (2, .int x2), (4, .int x4), (5, .long x5), (7, .int x7), (8, .int x8), (9, .int x9)] [] σ := by
  intro n
  induction n with
  | zero =>
    intro x2 x4 x5 x7 x8 x9 hf
    cases hf
  | succ n hk16 =>
    intro x2 x4 x5 x7 x8 x9 hf
    rw [f_X3_byDraws_16] at hf
    refine v_iload 6 hX dX3_byDraws_16 rfl ?_
    refine v_iload_n 1 2 hX dX3_byDraws_18 rfl rfl ?_
    refine v_icmp_ge 116 hX dX3_byDraws_19 (by decide) (fun c => ?_) (fun c => ?_)
    · have hf := opt_t c hf
      exact v_sub [0, 2, 4, 5] rfl (s_X3_byDraws_116 hX fuel σ z  x4 x7 x8 hf)
    · have hf := opt_f c hf
      refine v_aload_n 0 1 hX dX3_byDraws_22 rfl rfl ?_
      refine v_get (C := RX1) (T := TX1) (N := 19) (ci := 1) (v := .int (σ 13 7)) 13 7 hX dX3_byDraws_23 mw_133 rfl inlX1 rfl (lt_b rfl) (lt_b rfl) rfl rfl ?_
      refine v_if_le 116 hX dX3_byDraws_26 (by decide) (fun c => ?_) (fun c => ?_)
      · have hf := opt_t c hf
        exact v_sub [0, 2, 4, 5] rfl (s_X3_byDraws_116 hX fuel σ z  x4 x7 x8 hf)
      · have hf := opt_f c hf
        refine v_lload 3 hX dX3_byDraws_29 rfl ?_
        refine v_ldc2 16807 hX dX3_byDraws_31 mw_750 ?_
        refine v_lmul hX dX3_byDraws_34 ?_
        refine v_ldc2 2147483647 hX dX3_byDraws_35 mw_751 ?_
        refine v_lrem hX dX3_byDraws_38 (by decide) ?_
        refine v_lstore [(5, .long ((x5 * 16807) - (x5 * 16807) / 2147483647 * 2147483647)), (1, .ref (ad 13)), (2, .int x2), (4, .int x4), (7, .int x7), (8, .int x8), (9, .int x9)] hX dX3_byDraws_39 (lt_b rfl) rfl ?_
        refine v_lload 0 hX dX3_byDraws_41 rfl ?_
        refine v_aload_n 1 1 hX dX3_byDraws_43 rfl rfl ?_
        refine v_get (C := RX1) (T := TX1) (N := 19) (ci := 1) (v := .int (σ 13 7)) 13 7 hX dX3_byDraws_44 mw_133 rfl inlX1 rfl (lt_b rfl) (lt_b rfl) rfl rfl ?_
        refine v_i2l hX dX3_byDraws_47 ?_
        obtain ⟨hg1, hf⟩ := gd_some hf
        refine v_lrem hX dX3_byDraws_48 (of_decide_eq_true hg1) ?_
        refine v_l2i hX dX3_byDraws_49 ?_
        refine v_istore [(10, .int ((((x5 * 16807) - (x5 * 16807) / 2147483647 * 2147483647) - ((x5 * 16807) - (x5 * 16807) / 2147483647 * 2147483647) / ((σ 13 7).toInt64) * ((σ 13 7).toInt64)).toInt32)), (5, .long ((x5 * 16807) - (x5 * 16807) / 2147483647 * 2147483647)), (1, .ref (ad 13)), (2, .int x2), (4, .int x4), (7, .int x7), (8, .int x8), (9, .int x9)] hX dX3_byDraws_50 (lt_b rfl) rfl ?_
        refine v_lload 1 hX dX3_byDraws_52 rfl ?_
        refine v_ldc2 7 hX dX3_byDraws_54 mw_752 ?_
        refine v_lrem hX dX3_byDraws_57 (by decide) ?_
        refine v_lconst 0 hX dX3_byDraws_58 (by decide) ?_
        refine v_lcmp hX dX3_byDraws_59 ?_
        refine v_if_ne 93 hX dX3_byDraws_60 (by decide) (fun c => ?_) (fun c => ?_)
        · have hf := opt_f c hf
          exact v_sub [2, 3, 4, 1, 5, 6, 7] rfl (s_X3_byDraws_93 hX fuel σ (f_X3_byDraws_16 fuel σ n) z hk16 x2 x4 ((x5 * 16807) - (x5 * 16807) / 2147483647 * 2147483647) x7 x8 x9 hf)
        · have hf := opt_t c hf
          refine v_aload_n 2 1 hX dX3_byDraws_63 rfl rfl ?_
          refine v_iload 0 hX dX3_byDraws_64 rfl ?_
          refine v_iload 5 hX dX3_byDraws_66 rfl ?_
          refine v_aload_n 2 1 hX dX3_byDraws_68 rfl rfl ?_
          refine v_get (C := RX1) (T := TX1) (N := 19) (ci := 1) (v := .int (σ 13 3)) 13 3 hX dX3_byDraws_69 mw_116 rfl inlX1 rfl (lt_b rfl) (lt_b rfl) rfl rfl ?_
          refine v_iload 7 hX dX3_byDraws_72 rfl ?_
          refine v_iadd hX dX3_byDraws_74 ?_
          obtain ⟨v2, hc, hf⟩ := opt_b hf
          refine v_callVi (rest := []) (As := [.int ((((x5 * 16807) - (x5 * 16807) / 2147483647 * 2147483647) - ((x5 * 16807) - (x5 * 16807) / 2147483647 * 2147483647) / ((σ 13 7).toInt64) * ((σ 13 7).toInt64)).toInt32), .int x7, .int ((σ 13 3) + x9)]) (C := RX1) (T := TX1) (N := 19) (ci := 1) 13 hX dX3_byDraws_75 (c_X1_mayRecall σ ((((x5 * 16807) - (x5 * 16807) / 2147483647 * 2147483647) - ((x5 * 16807) - (x5 * 16807) / 2147483647 * 2147483647) / ((σ 13 7).toInt64) * ((σ 13 7).toInt64)).toInt32) x7 ((σ 13 3) + x9) hc) rfl rfl (lt_b rfl) rfl rfl rfl mw_505 mw_506 mw_59 mw_753 mw_507 gAll ds_X1_mayRecall rfl ⟨Nat.le_of_ble_eq_true rfl, Nat.le_of_ble_eq_true rfl⟩ (Nat.le_of_ble_eq_true rfl) ?_
          refine v_if_eq 93 hX dX3_byDraws_78 (by decide) (fun c => ?_) (fun c => ?_)
          · have hf := opt_t c hf
            exact v_sub [2, 3, 4, 1, 5, 6, 7] rfl (s_X3_byDraws_93 hX fuel σ (f_X3_byDraws_16 fuel σ n) z hk16 x2 x4 ((x5 * 16807) - (x5 * 16807) / 2147483647 * 2147483647) x7 x8 x9 hf)
          · have hf := opt_f c hf
            refine v_iload 5 hX dX3_byDraws_81 rfl ?_
            refine v_iconst 1 hX dX3_byDraws_83 (by decide) ?_
            refine v_iload 0 hX dX3_byDraws_84 rfl ?_
            refine v_ishl hX dX3_byDraws_86 ?_
            refine v_ior hX dX3_byDraws_87 ?_
            refine v_istore [(7, .int (x7 ||| (1 <<< (((((x5 * 16807) - (x5 * 16807) / 2147483647 * 2147483647) - ((x5 * 16807) - (x5 * 16807) / 2147483647 * 2147483647) / ((σ 13 7).toInt64) * ((σ 13 7).toInt64)).toInt32) &&& 31)))), (10, .int ((((x5 * 16807) - (x5 * 16807) / 2147483647 * 2147483647) - ((x5 * 16807) - (x5 * 16807) / 2147483647 * 2147483647) / ((σ 13 7).toInt64) * ((σ 13 7).toInt64)).toInt32)), (5, .long ((x5 * 16807) - (x5 * 16807) / 2147483647 * 2147483647)), (1, .ref (ad 13)), (2, .int x2), (4, .int x4), (8, .int x8), (9, .int x9)] hX dX3_byDraws_88 (lt_b rfl) rfl ?_
            refine v_iinc 6 (x8 + 1) [(8, .int (x8 + 1)), (7, .int (x7 ||| (1 <<< (((((x5 * 16807) - (x5 * 16807) / 2147483647 * 2147483647) - ((x5 * 16807) - (x5 * 16807) / 2147483647 * 2147483647) / ((σ 13 7).toInt64) * ((σ 13 7).toInt64)).toInt32) &&& 31)))), (10, .int ((((x5 * 16807) - (x5 * 16807) / 2147483647 * 2147483647) - ((x5 * 16807) - (x5 * 16807) / 2147483647 * 2147483647) / ((σ 13 7).toInt64) * ((σ 13 7).toInt64)).toInt32)), (5, .long ((x5 * 16807) - (x5 * 16807) / 2147483647 * 2147483647)), (1, .ref (ad 13)), (2, .int x2), (4, .int x4), (9, .int x9)] hX dX3_byDraws_90 rfl rfl (lt_b rfl) rfl ?_
            exact v_sub [4, 5, 6, 3, 1, 0, 7] rfl (s_X3_byDraws_93 hX fuel σ (f_X3_byDraws_16 fuel σ n) z hk16 x2 x4 ((x5 * 16807) - (x5 * 16807) / 2147483647 * 2147483647) (x7 ||| (1 <<< (((((x5 * 16807) - (x5 * 16807) / 2147483647 * 2147483647) - ((x5 * 16807) - (x5 * 16807) / 2147483647 * 2147483647) / ((σ 13 7).toInt64) * ((σ 13 7).toInt64)).toInt32) &&& 31))) (x8 + 1) x9 hf)
set_option maxHeartbeats 4000000 in
set_option maxRecDepth 100000 in
theorem c_X3_byDraws {l : Launch} {D : va_G} {cs : ClassId × ClassId × ClassId} {ad : Nat → Nat} {ts : Nat × Nat × Nat} (fuel : Nat) (σ : Mem)  (x2 : Int32) (x3 : Int32) (x4 : Int32) {z : Int32} (hf : f_X3_byDraws fuel σ x2 x3 x4 = some z) : CtI l (xW D cs ad ts) 3 yX3_byDraws cX3_byDraws 11 (some .int) [.ref (ad 62), .ref (ad 13), .int x2, .int x3, .int x4] σ z σ := by
  refine ct_I RX3 [(0, .ref (ad 62)), (1, .ref (ad 13)), (2, .int x2), (3, .int x3), (4, .int x4)] (by decide +kernel) rfl rfl (Nat.le_of_ble_eq_true rfl) ?_
  intro P M hl0 hX
  unfold f_X3_byDraws at hf
  refine v_iload_n 3 3 hX dX3_byDraws_0 rfl rfl ?_
  refine v_i2l hX dX3_byDraws_1 ?_
  refine v_lstore [(5, .long x3.toInt64), (0, .ref (ad 62)), (1, .ref (ad 13)), (2, .int x2), (3, .int x3), (4, .int x4)] hX dX3_byDraws_2 (lt_b rfl) rfl ?_
  refine v_aload_n 2 1 hX dX3_byDraws_4 rfl rfl ?_
  refine v_get (C := RX1) (T := TX1) (N := 19) (ci := 1) (v := .int (σ 13 5)) 13 5 hX dX3_byDraws_5 mw_121 rfl inlX1 rfl (lt_b rfl) (lt_b rfl) rfl rfl ?_
  refine v_istore [(7, .int (σ 13 5)), (5, .long x3.toInt64), (0, .ref (ad 62)), (1, .ref (ad 13)), (2, .int x2), (3, .int x3), (4, .int x4)] hX dX3_byDraws_8 (lt_b rfl) rfl ?_
  refine v_iconst 0 hX dX3_byDraws_10 (by decide) ?_
  refine v_istore [(8, .int 0), (7, .int (σ 13 5)), (5, .long x3.toInt64), (0, .ref (ad 62)), (1, .ref (ad 13)), (2, .int x2), (3, .int x3), (4, .int x4)] hX dX3_byDraws_11 (lt_b rfl) rfl ?_
  refine v_iconst 0 hX dX3_byDraws_13 (by decide) ?_
  refine v_istore [(9, .int 0), (8, .int 0), (7, .int (σ 13 5)), (5, .long x3.toInt64), (0, .ref (ad 62)), (1, .ref (ad 13)), (2, .int x2), (3, .int x3), (4, .int x4)] hX dX3_byDraws_14 (lt_b rfl) rfl ?_
  exact v_sub [5, 6, 8, 3, 2, 1, 0] rfl (s_X3_byDraws_16 hX fuel σ z  fuel x2 x4 x3.toInt64 (σ 13 5) 0 0 hf)
set_option maxHeartbeats 4000000 in
set_option maxRecDepth 100000 in
theorem s_X3_forgedBy_6 {P : PT} {M : MT} {D : va_G} {cs : ClassId × ClassId × ClassId} {ad : Nat → Nat} {ts : Nat × Nat × Nat} (hX : VOk P M (xW D cs ad ts) 7 cX3_forgedBy RX3 (some .int) 3) (fuel : Nat) (σ : Mem) (kr : Nat)  (hkr : kr < 8) (z : Int32)  : ∀ (n : Nat) (x3 : Int32) (x4 : Int32) (x5 : Int32), f_X3_forgedBy_6 fuel σ kr n x3 x4 x5 = some z → V P M (xW D cs ad ts) 7 (QI P M (xW D cs ad ts) z σ) 6 [(0, .ref (ad 62)), (1, .ref (ad 13)), (2, .ref (ad (5 + kr))), (3, .int x3), (4, .int x4), (5, .int x5)] [] σ := by
  intro n
  induction n with
  | zero =>
    intro x3 x4 x5 hf
    cases hf
  | succ n hk6 =>
    intro x3 x4 x5 hf
    rw [f_X3_forgedBy_6] at hf
    refine v_iload 5 hX dX3_forgedBy_6 rfl ?_
    refine v_aload_n 1 1 hX dX3_forgedBy_8 rfl rfl ?_
    refine v_get (C := RX1) (T := TX1) (N := 19) (ci := 1) (v := .int (σ 13 7)) 13 7 hX dX3_forgedBy_9 mw_133 rfl inlX1 rfl (lt_b rfl) (lt_b rfl) rfl rfl ?_
    refine v_icmp_ge 65 hX dX3_forgedBy_12 (by decide) (fun c => ?_) (fun c => ?_)
    · have hf := opt_t c hf
      refine v_iload 4 hX dX3_forgedBy_65 rfl ?_
      obtain rfl := Option.some.inj hf
      exact v_iret (r := x4) hX dX3_forgedBy_67 rfl
    · have hf := opt_f c hf
      refine v_iload_n 3 3 hX dX3_forgedBy_15 rfl rfl ?_
      refine v_iload 5 hX dX3_forgedBy_16 rfl ?_
      refine v_iadd hX dX3_forgedBy_18 ?_
      refine v_aload_n 2 2 hX dX3_forgedBy_19 rfl rfl ?_
      refine v_alen (v := 40) (5 + kr) 40 hX dX3_forgedBy_20 (xr_lt hkr) ((xr_cell hkr) _) (by decide) ?_
      refine v_icmp_ge 65 hX dX3_forgedBy_21 (by decide) (fun c => ?_) (fun c => ?_)
      · have hf := opt_t c hf
        refine v_iload 4 hX dX3_forgedBy_65 rfl ?_
        obtain rfl := Option.some.inj hf
        exact v_iret (r := x4) hX dX3_forgedBy_67 rfl
      · have hf := opt_f c hf
        refine v_aload_n 2 2 hX dX3_forgedBy_24 rfl rfl ?_
        refine v_iload_n 3 3 hX dX3_forgedBy_25 rfl rfl ?_
        refine v_iload 5 hX dX3_forgedBy_26 rfl ?_
        refine v_iadd hX dX3_forgedBy_28 ?_
        obtain ⟨hi1, hf⟩ := gd_some hf
        refine v_ald (v := σ (5 + kr) ((x3 + x5).toNatClampNeg)) (5 + kr) hX dX3_forgedBy_29 (xr_lt hkr) ((xr_cell hkr) _) hi1 rfl ?_
        refine v_istore [(6, .int (σ (5 + kr) ((x3 + x5).toNatClampNeg))), (0, .ref (ad 62)), (1, .ref (ad 13)), (2, .ref (ad (5 + kr))), (3, .int x3), (4, .int x4), (5, .int x5)] hX dX3_forgedBy_30 (lt_b rfl) rfl ?_
        refine v_iload 0 hX dX3_forgedBy_32 rfl ?_
        refine v_iconst (-1) hX dX3_forgedBy_34 (by decide) ?_
        refine v_icmp_eq 59 hX dX3_forgedBy_35 (by decide) (fun c => ?_) (fun c => ?_)
        · have hf := opt_t c hf
          refine v_iinc 6 (x5 + 1) [(5, .int (x5 + 1)), (6, .int (σ (5 + kr) ((x3 + x5).toNatClampNeg))), (0, .ref (ad 62)), (1, .ref (ad 13)), (2, .ref (ad (5 + kr))), (3, .int x3), (4, .int x4)] hX dX3_forgedBy_59 rfl rfl (lt_b rfl) rfl ?_
          refine v_goto 6 hX dX3_forgedBy_62 (by decide) ?_
          exact v_sub [2, 3, 4, 5, 6, 0] rfl (hk6 x3 x4 (x5 + 1) hf)
        · have hf := opt_f c hf
          refine v_aload_n 1 0 hX dX3_forgedBy_38 rfl rfl ?_
          refine v_aload_n 2 1 hX dX3_forgedBy_39 rfl rfl ?_
          refine v_iload 6 hX dX3_forgedBy_40 rfl ?_
          refine v_iload 0 hX dX3_forgedBy_42 rfl ?_
          obtain ⟨v2, hc, hf⟩ := opt_b hf
          refine v_callVi (rest := []) (As := [.ref (ad 13), .int x5, .int (σ (5 + kr) ((x3 + x5).toNatClampNeg))]) (C := RX3) (T := TX3) (N := 3) (ci := 3) 62 hX dX3_forgedBy_44 (c_X3_couldWhiten σ x5 (σ (5 + kr) ((x3 + x5).toNatClampNeg)) hc) rfl rfl (lt_b rfl) rfl rfl rfl mw_730 mw_22 mw_62 mw_728 mw_731 gAll ds_X3_couldWhiten rfl ⟨Nat.le_of_ble_eq_true rfl, Nat.le_of_ble_eq_true rfl⟩ (Nat.le_of_ble_eq_true rfl) ?_
          refine v_if_ne 59 hX dX3_forgedBy_47 (by decide) (fun c => ?_) (fun c => ?_)
          · have hf := opt_f c hf
            refine v_iinc 6 (x5 + 1) [(5, .int (x5 + 1)), (6, .int (σ (5 + kr) ((x3 + x5).toNatClampNeg))), (0, .ref (ad 62)), (1, .ref (ad 13)), (2, .ref (ad (5 + kr))), (3, .int x3), (4, .int x4)] hX dX3_forgedBy_59 rfl rfl (lt_b rfl) rfl ?_
            refine v_goto 6 hX dX3_forgedBy_62 (by decide) ?_
            exact v_sub [2, 3, 4, 5, 6, 0] rfl (hk6 x3 x4 (x5 + 1) hf)
          · have hf := opt_t c hf
            refine v_iload 5 hX dX3_forgedBy_50 rfl ?_
            refine v_iconst 1 hX dX3_forgedBy_52 (by decide) ?_
            refine v_iload 6 hX dX3_forgedBy_53 rfl ?_
            refine v_ishl hX dX3_forgedBy_55 ?_
            refine v_ior hX dX3_forgedBy_56 ?_
            refine v_istore [(4, .int (x4 ||| (1 <<< (x5 &&& 31)))), (6, .int (σ (5 + kr) ((x3 + x5).toNatClampNeg))), (0, .ref (ad 62)), (1, .ref (ad 13)), (2, .ref (ad (5 + kr))), (3, .int x3), (5, .int x5)] hX dX3_forgedBy_57 (lt_b rfl) rfl ?_
            refine v_iinc 6 (x5 + 1) [(5, .int (x5 + 1)), (4, .int (x4 ||| (1 <<< (x5 &&& 31)))), (6, .int (σ (5 + kr) ((x3 + x5).toNatClampNeg))), (0, .ref (ad 62)), (1, .ref (ad 13)), (2, .ref (ad (5 + kr))), (3, .int x3)] hX dX3_forgedBy_59 rfl rfl (lt_b rfl) rfl ?_
            refine v_goto 6 hX dX3_forgedBy_62 (by decide) ?_
            exact v_sub [3, 4, 5, 6, 1, 0] rfl (hk6 x3 (x4 ||| (1 <<< (x5 &&& 31))) (x5 + 1) hf)
set_option maxHeartbeats 4000000 in
set_option maxRecDepth 100000 in
theorem c_X3_forgedBy {l : Launch} {D : va_G} {cs : ClassId × ClassId × ClassId} {ad : Nat → Nat} {ts : Nat × Nat × Nat} (fuel : Nat) (σ : Mem) (kr : Nat) (hkr : kr < 8) (x3 : Int32) {z : Int32} (hf : f_X3_forgedBy fuel σ kr x3 = some z) : CtI l (xW D cs ad ts) 3 yX3_forgedBy cX3_forgedBy 7 (some .int) [.ref (ad 62), .ref (ad 13), .ref (ad (5 + kr)), .int x3] σ z σ := by
  refine ct_I RX3 [(0, .ref (ad 62)), (1, .ref (ad 13)), (2, .ref (ad (5 + kr))), (3, .int x3)] (by decide +kernel) rfl rfl (Nat.le_of_ble_eq_true rfl) ?_
  intro P M hl0 hX
  unfold f_X3_forgedBy at hf
  refine v_iconst 0 hX dX3_forgedBy_0 (by decide) ?_
  refine v_istore [(4, .int 0), (0, .ref (ad 62)), (1, .ref (ad 13)), (2, .ref (ad (5 + kr))), (3, .int x3)] hX dX3_forgedBy_1 (lt_b rfl) rfl ?_
  refine v_iconst 0 hX dX3_forgedBy_3 (by decide) ?_
  refine v_istore [(5, .int 0), (4, .int 0), (0, .ref (ad 62)), (1, .ref (ad 13)), (2, .ref (ad (5 + kr))), (3, .int x3)] hX dX3_forgedBy_4 (lt_b rfl) rfl ?_
  exact v_sub [2, 3, 4, 5, 1, 0] rfl (s_X3_forgedBy_6 hX fuel σ kr hkr z  fuel x3 0 0 hf)
set_option maxHeartbeats 4000000 in
set_option maxRecDepth 100000 in
theorem c_X6_ask {l : Launch} {D : va_G} {cs : ClassId × ClassId × ClassId} {ad : Nat → Nat} {ts : Nat × Nat × Nat} (σ : Mem) (fuel : Nat) (rb : Mem → Int32 → Int32 → Int32 → Option (Int32 × Mem)) (dr : Nat) (hrb : ∀ (l : Launch) (σ : Mem) (a b c : Int32) (z : Int32 × Mem), rb σ a b c = some z → CtI l (xW D cs ad ts) dr yX2_runBody cX2_runBody 6 (some .int) [.ref (ad 66), .ref (ad 13), .int a, .int b, .int c] σ z.1 z.2) (x1 : Int32) (x2 : Int32) {z : Int32 × Mem} (hf : f_X6_ask fuel rb σ x1 x2 = some z) : CtI l (xW D cs ad ts) (dr + 4) yX6_ask cX6_ask 3 (some .int) [.ref (ad 0), .int x1, .int x2] σ z.1 z.2 := by
  refine ct_I RX6 [(0, .ref (ad 0)), (1, .int x1), (2, .int x2)] (by decide +kernel) rfl rfl (Nat.le_of_ble_eq_true rfl) ?_
  intro P M hl0 hX
  unfold f_X6_ask at hf
  refine v_aload_n 0 0 hX dX6_ask_0 rfl rfl ?_
  refine v_iload_n 1 1 hX dX6_ask_1 rfl rfl ?_
  obtain ⟨v1, hc, hf⟩ := opt_b hf
  refine v_callVi (rest := []) (As := [.int x1]) (C := RX6) (T := TX6) (N := 10) (ci := 6) 0 hX dX6_ask_2 (c_X6_isHand σ x1 hc) rfl rfl (lt_b rfl) rfl rfl rfl mw_484 mw_15 mw_57 mw_482 mw_485 gAll ds_X6_isHand rfl ⟨by omega, Nat.le_of_ble_eq_true rfl⟩ (Nat.le_of_ble_eq_true rfl) ?_
  refine v_if_eq 16 hX dX6_ask_5 (by decide) (fun c => ?_) (fun c => ?_)
  · have hf := opt_t c hf
    refine v_ldc (-1000001) hX dX6_ask_16 mw_323 ?_
    obtain rfl := Option.some.inj hf
    exact v_iret (r := (-1000001)) hX dX6_ask_18 rfl
  · have hf := opt_f c hf
    refine v_iload_n 2 2 hX dX6_ask_8 rfl rfl ?_
    refine v_iconst 2 hX dX6_ask_9 (by decide) ?_
    obtain ⟨v2, hc, hf⟩ := opt_b hf
    refine v_callSi (rest := []) (As := [.int x2, .int 2]) hX dX6_ask_10 (c_X6_isBelow σ x2 2 hc) rfl rfl mw_321 mw_57 mw_320 mw_322 gAll ds_X6_isBelow rfl ⟨by omega, Nat.le_of_ble_eq_true rfl⟩ (Nat.le_of_ble_eq_true rfl) ?_
    refine v_if_ne 19 hX dX6_ask_13 (by decide) (fun c => ?_) (fun c => ?_)
    · have hf := opt_f c hf
      refine v_aload_n 0 0 hX dX6_ask_19 rfl rfl ?_
      refine v_get (C := RX6) (T := TX6) (N := 10) (ci := 6) (v := .ref (ad 66)) 0 7 hX dX6_ask_20 mw_289 rfl inlX6 rfl (lt_b rfl) (lt_b rfl) rfl rfl ?_
      refine v_aload_n 0 0 hX dX6_ask_23 rfl rfl ?_
      refine v_get (C := RX6) (T := TX6) (N := 10) (ci := 6) (v := .ref (ad 13)) 0 1 hX dX6_ask_24 mw_283 rfl inlX6 rfl (lt_b rfl) (lt_b rfl) rfl rfl ?_
      refine v_iload_n 1 1 hX dX6_ask_27 rfl rfl ?_
      refine v_iload_n 2 2 hX dX6_ask_28 rfl rfl ?_
      obtain ⟨v3, hc, hf⟩ := opt_b hf
      refine v_callVi (rest := []) (As := [.ref (ad 13), .int x1, .int x2]) (C := RX2) (T := TX2) (N := 2) (ci := 2) 66 hX dX6_ask_29 (c_X2_answerOf σ fuel rb dr hrb x1 x2 hc) rfl rfl (lt_b rfl) rfl rfl rfl mw_784 mw_785 mw_63 mw_783 mw_786 gAll ds_X2_answerOf rfl ⟨by omega, Nat.le_of_ble_eq_true rfl⟩ (Nat.le_of_ble_eq_true rfl) ?_
      obtain rfl := Option.some.inj hf
      exact v_iret (r := v3.1) hX dX6_ask_32 rfl
    · have hf := opt_t c hf
      refine v_ldc (-1000001) hX dX6_ask_16 mw_323 ?_
      obtain rfl := Option.some.inj hf
      exact v_iret (r := (-1000001)) hX dX6_ask_18 rfl
