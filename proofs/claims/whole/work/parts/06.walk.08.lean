set_option maxHeartbeats 4000000 in
set_option maxRecDepth 100000 in
theorem c_X7_deed {l : Launch} {D : va_G} {cs : ClassId × ClassId × ClassId} {ad : Nat → Nat} (fuel : Nat) (σ : Mem)  (x1 : Int32) (x2 : Int32) {z : Int32} (hf : f_X7_deed fuel σ x1 x2 = some z) : CtI l (mW D cs ad) 2 yX7_deed cX7_deed 3 (some .int) [.ref (ad 0), .int x1, .int x2] σ z σ := by
  refine ct_I RX7 [(0, .ref (ad 0)), (1, .int x1), (2, .int x2)] (by decide +kernel) rfl rfl (Nat.le_of_ble_eq_true rfl) ?_
  intro P M hl0 hX
  unfold f_X7_deed at hf
  refine v_aload_n 0 0 hX dX7_deed_0 rfl rfl ?_
  refine v_iload_n 1 1 hX dX7_deed_1 rfl rfl ?_
  obtain ⟨v1, hc, hf⟩ := opt_b hf
  refine v_callVi (rest := []) (As := [.int x1]) (C := RX7) (T := TX7) (N := 22) (ci := 7) 0 hX dX7_deed_2 (c_X7_isDeed σ x1 hc) rfl rfl (lt_b rfl) rfl rfl rfl mw_1078 mw_44 mw_64 mw_1076 mw_1079 gAll ds_X7_isDeed rfl ⟨Nat.le_of_ble_eq_true rfl, Nat.le_of_ble_eq_true rfl⟩ (Nat.le_of_ble_eq_true rfl) ?_
  refine v_if_eq 20 hX dX7_deed_5 (by decide) (fun c => ?_) (fun c => ?_)
  · have hf := opt_t c hf
    refine v_ldc (-1000001) hX dX7_deed_20 mw_916 ?_
    obtain rfl := Option.some.inj hf
    exact v_iret (r := (-1000001)) hX dX7_deed_22 rfl
  · have hf := opt_f c hf
    refine v_iload_n 2 2 hX dX7_deed_8 rfl rfl ?_
    refine v_i2l hX dX7_deed_9 ?_
    refine v_lconst 0 hX dX7_deed_10 (by decide) ?_
    refine v_ldc2 4 hX dX7_deed_11 mw_1080 ?_
    obtain ⟨v2, hc, hf⟩ := opt_b hf
    refine v_callSi (rest := []) (As := [.long x2.toInt64, .long 0, .long 4]) hX dX7_deed_14 (c_X7_in σ x2.toInt64 0 4 hc) rfl rfl mw_913 mw_64 mw_912 mw_914 gAll ds_X7_in rfl ⟨Nat.le_of_ble_eq_true rfl, Nat.le_of_ble_eq_true rfl⟩ (Nat.le_of_ble_eq_true rfl) ?_
    refine v_if_ne 23 hX dX7_deed_17 (by decide) (fun c => ?_) (fun c => ?_)
    · have hf := opt_f c hf
      refine v_iload_n 2 2 hX dX7_deed_23 rfl rfl ?_
      by_cases cs3 : x2 = 2
      · have hf := opt_t cs3 hf
        refine v_lookup 28 52 hX dX7_deed_24 (by decide) (by rw [cs3]; decide) (by decide) ?_
        refine v_aload_n 0 0 hX dX7_deed_52 rfl rfl ?_
        refine v_get (C := RX7) (T := TX7) (N := 22) (ci := 7) (v := .ref (ad 5)) 0 8 hX dX7_deed_53 mw_844 rfl inlX7 rfl (lt_b rfl) (lt_b rfl) rfl rfl ?_
        refine v_bipush 75 hX dX7_deed_56 (by decide) ?_
        refine v_iload_n 1 1 hX dX7_deed_58 rfl rfl ?_
        refine v_iadd hX dX7_deed_59 ?_
        obtain ⟨hi4, hf⟩ := gd_some hf
        refine v_ald (v := σ 5 ((75 + x1).toNatClampNeg)) 5 hX dX7_deed_60 (lt_b rfl) ((fun _ => rfl) _) hi4 rfl ?_
        refine v_if_ne 69 hX dX7_deed_61 (by decide) (fun c => ?_) (fun c => ?_)
        · have hf := opt_f c hf
          refine v_aload_n 0 0 hX dX7_deed_69 rfl rfl ?_
          refine v_get (C := RX7) (T := TX7) (N := 22) (ci := 7) (v := .ref (ad 5)) 0 8 hX dX7_deed_70 mw_844 rfl inlX7 rfl (lt_b rfl) (lt_b rfl) rfl rfl ?_
          refine v_bipush 75 hX dX7_deed_73 (by decide) ?_
          refine v_iload_n 1 1 hX dX7_deed_75 rfl rfl ?_
          refine v_iadd hX dX7_deed_76 ?_
          obtain ⟨hi5, hf⟩ := gd_some hf
          refine v_ald (v := σ 5 ((75 + x1).toNatClampNeg)) 5 hX dX7_deed_77 (lt_b rfl) ((fun _ => rfl) _) hi5 rfl ?_
          refine v_iconst 1 hX dX7_deed_78 (by decide) ?_
          refine v_isub hX dX7_deed_79 ?_
          obtain rfl := Option.some.inj hf
          exact v_iret (r := (σ 5 ((75 + x1).toNatClampNeg)) - 1) hX dX7_deed_80 rfl
        · have hf := opt_t c hf
          refine v_ldc (-1000000) hX dX7_deed_64 mw_1081 ?_
          refine v_goto 80 hX dX7_deed_66 (by decide) ?_
          obtain rfl := Option.some.inj hf
          exact v_iret (r := (-1000000)) hX dX7_deed_80 rfl
      have hf := opt_f cs3 hf
      by_cases cs6 : x2 = 4
      · have hf := opt_t cs6 hf
        refine v_lookup 57 81 hX dX7_deed_24 (by decide) (by rw [cs6]; decide) (by decide) ?_
        refine v_aload_n 0 0 hX dX7_deed_81 rfl rfl ?_
        refine v_get (C := RX7) (T := TX7) (N := 22) (ci := 7) (v := .ref (ad 5)) 0 8 hX dX7_deed_82 mw_844 rfl inlX7 rfl (lt_b rfl) (lt_b rfl) rfl rfl ?_
        obtain ⟨v7, hc, hf⟩ := opt_b hf
        refine v_callSi (rest := []) (As := [.ref (ad 5)]) hX dX7_deed_85 (c_X7_stand_n fuel σ hc) rfl rfl mw_1055 mw_64 mw_1054 mw_1056 gAll ds_X7_stand rfl ⟨Nat.le_of_ble_eq_true rfl, Nat.le_of_ble_eq_true rfl⟩ (Nat.le_of_ble_eq_true rfl) ?_
        refine v_iload_n 1 1 hX dX7_deed_88 rfl rfl ?_
        refine v_ishr hX dX7_deed_89 ?_
        refine v_iconst 1 hX dX7_deed_90 (by decide) ?_
        refine v_iand hX dX7_deed_91 ?_
        obtain rfl := Option.some.inj hf
        exact v_iret (r := (v7 >>> (x1 &&& 31)) &&& 1) hX dX7_deed_92 rfl
      have hf := opt_f cs6 hf
      refine v_lookup 69 93 hX dX7_deed_24 (by decide) ((lv_osw cs3 (by decide)).trans ((lv_osw cs6 (by decide)).trans (rfl))) (by decide) ?_
      refine v_aload_n 0 0 hX dX7_deed_93 rfl rfl ?_
      refine v_get (C := RX7) (T := TX7) (N := 22) (ci := 7) (v := .ref (ad 5)) 0 8 hX dX7_deed_94 mw_844 rfl inlX7 rfl (lt_b rfl) (lt_b rfl) rfl rfl ?_
      refine v_bipush 65 hX dX7_deed_97 (by decide) ?_
      refine v_iconst 5 hX dX7_deed_99 (by decide) ?_
      refine v_iload_n 2 2 hX dX7_deed_100 rfl rfl ?_
      refine v_imul hX dX7_deed_101 ?_
      refine v_iadd hX dX7_deed_102 ?_
      refine v_iload_n 1 1 hX dX7_deed_103 rfl rfl ?_
      refine v_iadd hX dX7_deed_104 ?_
      obtain ⟨hi8, hf⟩ := gd_some hf
      refine v_ald (v := σ 5 (((65 + (5 * x2)) + x1).toNatClampNeg)) 5 hX dX7_deed_105 (lt_b rfl) ((fun _ => rfl) _) hi8 rfl ?_
      obtain rfl := Option.some.inj hf
      exact v_iret (r := σ 5 (((65 + (5 * x2)) + x1).toNatClampNeg)) hX dX7_deed_106 rfl
    · have hf := opt_t c hf
      refine v_ldc (-1000001) hX dX7_deed_20 mw_916 ?_
      obtain rfl := Option.some.inj hf
      exact v_iret (r := (-1000001)) hX dX7_deed_22 rfl
set_option maxHeartbeats 4000000 in
set_option maxRecDepth 100000 in
theorem c_X7_place {l : Launch} {D : va_G} {cs : ClassId × ClassId × ClassId} {ad : Nat → Nat} (fuel : Nat) (σ : Mem)  (x1 : Int32) (x2 : Int32) {z : Int32} (hf : f_X7_place fuel σ x1 x2 = some z) : CtI l (mW D cs ad) 2 yX7_place cX7_place 3 (some .int) [.ref (ad 0), .int x1, .int x2] σ z σ := by
  refine ct_I RX7 [(0, .ref (ad 0)), (1, .int x1), (2, .int x2)] (by decide +kernel) rfl rfl (Nat.le_of_ble_eq_true rfl) ?_
  intro P M hl0 hX
  unfold f_X7_place at hf
  refine v_aload_n 0 0 hX dX7_place_0 rfl rfl ?_
  refine v_get (C := RX7) (T := TX7) (N := 22) (ci := 7) (v := .int (σ 0 7)) 0 7 hX dX7_place_1 mw_843 rfl inlX7 rfl (lt_b rfl) (lt_b rfl) rfl rfl ?_
  refine v_if_ne 10 hX dX7_place_4 (by decide) (fun c => ?_) (fun c => ?_)
  · have hf := opt_f c hf
    refine v_iload_n 1 1 hX dX7_place_10 rfl rfl ?_
    refine v_i2l hX dX7_place_11 ?_
    refine v_lconst 0 hX dX7_place_12 (by decide) ?_
    refine v_ldc2 5 hX dX7_place_13 mw_1019 ?_
    obtain ⟨v1, hc, hf⟩ := opt_b hf
    refine v_callSi (rest := []) (As := [.long x1.toInt64, .long 0, .long 5]) hX dX7_place_16 (c_X7_in σ x1.toInt64 0 5 hc) rfl rfl mw_913 mw_64 mw_912 mw_914 gAll ds_X7_in rfl ⟨Nat.le_of_ble_eq_true rfl, Nat.le_of_ble_eq_true rfl⟩ (Nat.le_of_ble_eq_true rfl) ?_
    refine v_if_eq 29 hX dX7_place_19 (by decide) (fun c => ?_) (fun c => ?_)
    · have hf := opt_t c hf
      refine v_ldc (-1000001) hX dX7_place_29 mw_916 ?_
      obtain rfl := Option.some.inj hf
      exact v_iret (r := (-1000001)) hX dX7_place_31 rfl
    · have hf := opt_f c hf
      refine v_iload_n 2 2 hX dX7_place_22 rfl rfl ?_
      obtain ⟨v2, hc, hf⟩ := opt_b hf
      refine v_callSi (rest := []) (As := [.int x2]) hX dX7_place_23 (c_X7_isTwo σ x2 hc) rfl rfl mw_1087 mw_64 mw_1086 mw_1088 gAll ds_X7_isTwo rfl ⟨Nat.le_of_ble_eq_true rfl, Nat.le_of_ble_eq_true rfl⟩ (Nat.le_of_ble_eq_true rfl) ?_
      refine v_if_ne 32 hX dX7_place_26 (by decide) (fun c => ?_) (fun c => ?_)
      · have hf := opt_f c hf
        refine v_iload_n 2 2 hX dX7_place_32 rfl rfl ?_
        refine v_if_ne 46 hX dX7_place_33 (by decide) (fun c => ?_) (fun c => ?_)
        · have hf := opt_f c hf
          refine v_aload_n 0 0 hX dX7_place_46 rfl rfl ?_
          refine v_get (C := RX7) (T := TX7) (N := 22) (ci := 7) (v := .ref (ad 5)) 0 8 hX dX7_place_47 mw_844 rfl inlX7 rfl (lt_b rfl) (lt_b rfl) rfl rfl ?_
          obtain ⟨v3, hc, hf⟩ := opt_b hf
          refine v_callSi (rest := []) (As := [.ref (ad 5)]) hX dX7_place_50 (c_X7_black_n fuel σ hc) rfl rfl mw_1044 mw_64 mw_1043 mw_1045 gAll ds_X7_black rfl ⟨Nat.le_of_ble_eq_true rfl, Nat.le_of_ble_eq_true rfl⟩ (Nat.le_of_ble_eq_true rfl) ?_
          refine v_iload_n 1 1 hX dX7_place_53 rfl rfl ?_
          refine v_ishr hX dX7_place_54 ?_
          refine v_iconst 1 hX dX7_place_55 (by decide) ?_
          refine v_iand hX dX7_place_56 ?_
          obtain rfl := Option.some.inj hf
          exact v_iret (r := (v3 >>> (x1 &&& 31)) &&& 1) hX dX7_place_57 rfl
        · have hf := opt_t c hf
          refine v_aload_n 0 0 hX dX7_place_36 rfl rfl ?_
          refine v_bipush 15 hX dX7_place_37 (by decide) ?_
          refine v_iload_n 1 1 hX dX7_place_39 rfl rfl ?_
          obtain ⟨v4, hc, hf⟩ := opt_b hf
          refine v_callVi (rest := []) (As := [.int 15, .int x1]) (C := RX7) (T := TX7) (N := 22) (ci := 7) 0 hX dX7_place_40 (c_X7_copiesOf fuel σ 15 x1 hc) rfl rfl (lt_b rfl) rfl rfl rfl mw_1070 mw_43 mw_64 mw_1068 mw_1071 gAll ds_X7_copiesOf rfl ⟨Nat.le_of_ble_eq_true rfl, Nat.le_of_ble_eq_true rfl⟩ (Nat.le_of_ble_eq_true rfl) ?_
          refine v_goto 57 hX dX7_place_43 (by decide) ?_
          obtain rfl := Option.some.inj hf
          exact v_iret (r := v4) hX dX7_place_57 rfl
      · have hf := opt_t c hf
        refine v_ldc (-1000001) hX dX7_place_29 mw_916 ?_
        obtain rfl := Option.some.inj hf
        exact v_iret (r := (-1000001)) hX dX7_place_31 rfl
  · have hf := opt_t c hf
    refine v_ldc (-1000002) hX dX7_place_7 mw_1014 ?_
    obtain rfl := Option.some.inj hf
    exact v_iret (r := (-1000002)) hX dX7_place_9 rfl
set_option maxHeartbeats 4000000 in
set_option maxRecDepth 100000 in
theorem s_X7_ahead_43 {P : PT} {M : MT} {D : va_G} {cs : ClassId × ClassId × ClassId} {ad : Nat → Nat} (hX : VOk P M (mW D cs ad) 4 cX7_ahead RX7 (some .int) 2) (fuel : Nat)   (z : Int32 × Mem)  : ∀ (n : Nat) (σ : Mem) (x1 : Int32) (x2 : Int32) (x3 : Int32), f_X7_ahead_43 fuel n σ x1 x2 x3 = some z → V P M (mW D cs ad) 4 (QI P M (mW D cs ad) z.1 z.2) 43 [(0, .ref (ad 0)), (1, .int x1), (2, .int x2), (3, .int x3)] [] σ := by
  intro n
  induction n with
  | zero =>
    intro σ x1 x2 x3 hf
    cases hf
  | succ n hk43 =>
    intro σ x1 x2 x3 hf
    rw [f_X7_ahead_43] at hf
    refine v_iload_n 3 3 hX dX7_ahead_43 rfl rfl ?_
    refine v_iload_n 1 1 hX dX7_ahead_44 rfl rfl ?_
    refine v_icmp_ge 61 hX dX7_ahead_45 (by decide) (fun c => ?_) (fun c => ?_)
    · have hf := opt_t c hf
      refine v_iload_n 2 2 hX dX7_ahead_61 rfl rfl ?_
      refine v_if_ne 75 hX dX7_ahead_62 (by decide) (fun c => ?_) (fun c => ?_)
      · have hf := opt_f c hf
        refine v_iload_n 2 2 hX dX7_ahead_75 rfl rfl ?_
        refine v_iconst 1 hX dX7_ahead_76 (by decide) ?_
        refine v_icmp_ne 90 hX dX7_ahead_77 (by decide) (fun c => ?_) (fun c => ?_)
        · have hf := opt_f c hf
          refine v_aload_n 0 0 hX dX7_ahead_90 rfl rfl ?_
          refine v_get (C := RX7) (T := TX7) (N := 22) (ci := 7) (v := .ref (ad 11)) 0 21 hX dX7_ahead_91 mw_857 rfl inlX7 rfl (lt_b rfl) (lt_b rfl) rfl rfl ?_
          obtain ⟨v4, hc, hf⟩ := opt_b hf
          refine v_callSi (rest := []) (As := [.ref (ad 11)]) hX dX7_ahead_94 (c_X7_whiteSet fuel σ hc) rfl rfl mw_1126 mw_64 mw_1125 mw_1127 gAll ds_X7_whiteSet rfl ⟨Nat.le_of_ble_eq_true rfl, Nat.le_of_ble_eq_true rfl⟩ (Nat.le_of_ble_eq_true rfl) ?_
          obtain rfl := Option.some.inj hf
          exact v_iret (r := v4) hX dX7_ahead_97 rfl
        · have hf := opt_t c hf
          refine v_aload_n 0 0 hX dX7_ahead_80 rfl rfl ?_
          refine v_get (C := RX7) (T := TX7) (N := 22) (ci := 7) (v := .ref (ad 11)) 0 21 hX dX7_ahead_81 mw_857 rfl inlX7 rfl (lt_b rfl) (lt_b rfl) rfl rfl ?_
          obtain ⟨v5, hc, hf⟩ := opt_b hf
          refine v_callSi (rest := []) (As := [.ref (ad 11)]) hX dX7_ahead_84 (c_X7_stand_a fuel σ hc) rfl rfl mw_1055 mw_64 mw_1054 mw_1056 gAll ds_X7_stand rfl ⟨Nat.le_of_ble_eq_true rfl, Nat.le_of_ble_eq_true rfl⟩ (Nat.le_of_ble_eq_true rfl) ?_
          refine v_goto 97 hX dX7_ahead_87 (by decide) ?_
          obtain rfl := Option.some.inj hf
          exact v_iret (r := v5) hX dX7_ahead_97 rfl
      · have hf := opt_t c hf
        refine v_aload_n 0 0 hX dX7_ahead_65 rfl rfl ?_
        refine v_get (C := RX7) (T := TX7) (N := 22) (ci := 7) (v := .ref (ad 11)) 0 21 hX dX7_ahead_66 mw_857 rfl inlX7 rfl (lt_b rfl) (lt_b rfl) rfl rfl ?_
        obtain ⟨v6, hc, hf⟩ := opt_b hf
        refine v_callSi (rest := []) (As := [.ref (ad 11)]) hX dX7_ahead_69 (c_X7_black_a fuel σ hc) rfl rfl mw_1044 mw_64 mw_1043 mw_1045 gAll ds_X7_black rfl ⟨Nat.le_of_ble_eq_true rfl, Nat.le_of_ble_eq_true rfl⟩ (Nat.le_of_ble_eq_true rfl) ?_
        refine v_goto 97 hX dX7_ahead_72 (by decide) ?_
        obtain rfl := Option.some.inj hf
        exact v_iret (r := v6) hX dX7_ahead_97 rfl
    · have hf := opt_f c hf
      refine v_aload_n 0 0 hX dX7_ahead_48 rfl rfl ?_
      refine v_get (C := RX7) (T := TX7) (N := 22) (ci := 7) (v := .ref (ad 11)) 0 21 hX dX7_ahead_49 mw_857 rfl inlX7 rfl (lt_b rfl) (lt_b rfl) rfl rfl ?_
      obtain ⟨v7, hc, hf⟩ := opt_b hf
      refine v_callSv (rest := []) (As := [.ref (ad 11)]) hX dX7_ahead_52 (c_X7_dayGoes_a σ fuel hc) rfl rfl mw_1052 mw_64 mw_1051 mw_1053 gAll ds_X7_dayGoes rfl ⟨Nat.le_of_ble_eq_true rfl, Nat.le_of_ble_eq_true rfl⟩ (Nat.le_of_ble_eq_true rfl) ?_
      refine v_iinc 3 (x3 + 1) [(3, .int (x3 + 1)), (0, .ref (ad 0)), (1, .int x1), (2, .int x2)] hX dX7_ahead_55 rfl rfl (lt_b rfl) rfl ?_
      refine v_goto 43 hX dX7_ahead_58 (by decide) ?_
      exact v_sub [1, 2, 3, 0] rfl (hk43 v7 x1 x2 (x3 + 1) hf)
set_option maxHeartbeats 4000000 in
set_option maxRecDepth 100000 in
theorem c_X7_ahead {l : Launch} {D : va_G} {cs : ClassId × ClassId × ClassId} {ad : Nat → Nat} (σ : Mem) (fuel : Nat)  (x1 : Int32) (x2 : Int32) {z : Int32 × Mem} (hf : f_X7_ahead fuel σ x1 x2 = some z) : CtI l (mW D cs ad) 2 yX7_ahead cX7_ahead 4 (some .int) [.ref (ad 0), .int x1, .int x2] σ z.1 z.2 := by
  refine ct_I RX7 [(0, .ref (ad 0)), (1, .int x1), (2, .int x2)] (by decide +kernel) rfl rfl (Nat.le_of_ble_eq_true rfl) ?_
  intro P M hl0 hX
  unfold f_X7_ahead at hf
  refine v_aload_n 0 0 hX dX7_ahead_0 rfl rfl ?_
  refine v_get (C := RX7) (T := TX7) (N := 22) (ci := 7) (v := .int (σ 0 7)) 0 7 hX dX7_ahead_1 mw_843 rfl inlX7 rfl (lt_b rfl) (lt_b rfl) rfl rfl ?_
  refine v_if_ne 10 hX dX7_ahead_4 (by decide) (fun c => ?_) (fun c => ?_)
  · have hf := opt_f c hf
    refine v_iload_n 1 1 hX dX7_ahead_10 rfl rfl ?_
    refine v_i2l hX dX7_ahead_11 ?_
    refine v_lconst 0 hX dX7_ahead_12 (by decide) ?_
    refine v_ldc2 200 hX dX7_ahead_13 mw_1124 ?_
    obtain ⟨v1, hc, hf⟩ := opt_b hf
    refine v_callSi (rest := []) (As := [.long x1.toInt64, .long 0, .long 200]) hX dX7_ahead_16 (c_X7_in σ x1.toInt64 0 200 hc) rfl rfl mw_913 mw_64 mw_912 mw_914 gAll ds_X7_in rfl ⟨Nat.le_of_ble_eq_true rfl, Nat.le_of_ble_eq_true rfl⟩ (Nat.le_of_ble_eq_true rfl) ?_
    refine v_if_eq 34 hX dX7_ahead_19 (by decide) (fun c => ?_) (fun c => ?_)
    · have hf := opt_t c hf
      refine v_ldc (-1000001) hX dX7_ahead_34 mw_916 ?_
      obtain rfl := Option.some.inj hf
      exact v_iret (r := (-1000001)) hX dX7_ahead_36 rfl
    · have hf := opt_f c hf
      refine v_iload_n 2 2 hX dX7_ahead_22 rfl rfl ?_
      refine v_i2l hX dX7_ahead_23 ?_
      refine v_lconst 0 hX dX7_ahead_24 (by decide) ?_
      refine v_ldc2 2 hX dX7_ahead_25 mw_915 ?_
      obtain ⟨v2, hc, hf⟩ := opt_b hf
      refine v_callSi (rest := []) (As := [.long x2.toInt64, .long 0, .long 2]) hX dX7_ahead_28 (c_X7_in σ x2.toInt64 0 2 hc) rfl rfl mw_913 mw_64 mw_912 mw_914 gAll ds_X7_in rfl ⟨Nat.le_of_ble_eq_true rfl, Nat.le_of_ble_eq_true rfl⟩ (Nat.le_of_ble_eq_true rfl) ?_
      refine v_if_ne 37 hX dX7_ahead_31 (by decide) (fun c => ?_) (fun c => ?_)
      · have hf := opt_f c hf
        refine v_aload_n 0 0 hX dX7_ahead_37 rfl rfl ?_
        obtain ⟨v3, hc, hf⟩ := opt_b hf
        refine v_callVv (rest := []) (As := []) (C := RX7) (T := TX7) (N := 22) (ci := 7) 0 hX dX7_ahead_38 (c_X7_layAside σ fuel hc) rfl rfl (lt_b rfl) rfl rfl rfl mw_1103 mw_47 mw_64 mw_1101 mw_1104 gAll ds_X7_layAside rfl ⟨Nat.le_of_ble_eq_true rfl, Nat.le_of_ble_eq_true rfl⟩ (Nat.le_of_ble_eq_true rfl) ?_
        refine v_iconst 0 hX dX7_ahead_41 (by decide) ?_
        refine v_istore_n 3 [(3, .int 0), (0, .ref (ad 0)), (1, .int x1), (2, .int x2)] hX dX7_ahead_42 rfl (lt_b rfl) rfl ?_
        exact v_sub [1, 2, 3, 0] rfl (s_X7_ahead_43 hX fuel z  fuel v3 x1 x2 0 hf)
      · have hf := opt_t c hf
        refine v_ldc (-1000001) hX dX7_ahead_34 mw_916 ?_
        obtain rfl := Option.some.inj hf
        exact v_iret (r := (-1000001)) hX dX7_ahead_36 rfl
  · have hf := opt_t c hf
    refine v_ldc (-1000002) hX dX7_ahead_7 mw_1014 ?_
    obtain rfl := Option.some.inj hf
    exact v_iret (r := (-1000002)) hX dX7_ahead_9 rfl
set_option maxHeartbeats 4000000 in
set_option maxRecDepth 100000 in
theorem s_X7_first_29 {P : PT} {M : MT} {D : va_G} {cs : ClassId × ClassId × ClassId} {ad : Nat → Nat} (hX : VOk P M (mW D cs ad) 4 cX7_first RX7 (some .int) 2) (fuel : Nat)   (z : Int32 × Mem)  : ∀ (n : Nat) (σ : Mem) (x1 : Int32) (x2 : Int32) (x3 : Int32), f_X7_first_29 fuel n σ x1 x2 x3 = some z → V P M (mW D cs ad) 4 (QI P M (mW D cs ad) z.1 z.2) 29 [(0, .ref (ad 0)), (1, .int x1), (2, .int x2), (3, .int x3)] [] σ := by
  intro n
  induction n with
  | zero =>
    intro σ x1 x2 x3 hf
    cases hf
  | succ n hk29 =>
    intro σ x1 x2 x3 hf
    rw [f_X7_first_29] at hf
    refine v_iload_n 3 3 hX dX7_first_29 rfl rfl ?_
    refine v_iload_n 2 2 hX dX7_first_30 rfl rfl ?_
    refine v_icmp_ge 63 hX dX7_first_31 (by decide) (fun c => ?_) (fun c => ?_)
    · have hf := opt_t c hf
      refine v_ldc (-1000000) hX dX7_first_63 mw_1081 ?_
      obtain rfl := Option.some.inj hf
      exact v_iret (r := (-1000000)) hX dX7_first_65 rfl
    · have hf := opt_f c hf
      refine v_aload_n 0 0 hX dX7_first_34 rfl rfl ?_
      refine v_get (C := RX7) (T := TX7) (N := 22) (ci := 7) (v := .ref (ad 11)) 0 21 hX dX7_first_35 mw_857 rfl inlX7 rfl (lt_b rfl) (lt_b rfl) rfl rfl ?_
      obtain ⟨v4, hc, hf⟩ := opt_b hf
      refine v_callSv (rest := []) (As := [.ref (ad 11)]) hX dX7_first_38 (c_X7_dayGoes_a σ fuel hc) rfl rfl mw_1052 mw_64 mw_1051 mw_1053 gAll ds_X7_dayGoes rfl ⟨Nat.le_of_ble_eq_true rfl, Nat.le_of_ble_eq_true rfl⟩ (Nat.le_of_ble_eq_true rfl) ?_
      refine v_aload_n 0 0 hX dX7_first_41 rfl rfl ?_
      refine v_get (C := RX7) (T := TX7) (N := 22) (ci := 7) (v := .ref (ad 11)) 0 21 hX dX7_first_42 mw_857 rfl inlX7 rfl (lt_b rfl) (lt_b rfl) rfl rfl ?_
      obtain ⟨v5, hc, hf⟩ := opt_b hf
      refine v_callSi (rest := []) (As := [.ref (ad 11)]) hX dX7_first_45 (c_X7_stand_a fuel v4 hc) rfl rfl mw_1055 mw_64 mw_1054 mw_1056 gAll ds_X7_stand rfl ⟨Nat.le_of_ble_eq_true rfl, Nat.le_of_ble_eq_true rfl⟩ (Nat.le_of_ble_eq_true rfl) ?_
      refine v_iload_n 1 1 hX dX7_first_48 rfl rfl ?_
      refine v_ishr hX dX7_first_49 ?_
      refine v_iconst 1 hX dX7_first_50 (by decide) ?_
      refine v_iand hX dX7_first_51 ?_
      refine v_if_ne 57 hX dX7_first_52 (by decide) (fun c => ?_) (fun c => ?_)
      · have hf := opt_f c hf
        refine v_iinc 3 (x3 + 1) [(3, .int (x3 + 1)), (0, .ref (ad 0)), (1, .int x1), (2, .int x2)] hX dX7_first_57 rfl rfl (lt_b rfl) rfl ?_
        refine v_goto 29 hX dX7_first_60 (by decide) ?_
        exact v_sub [1, 2, 3, 0] rfl (hk29 v4 x1 x2 (x3 + 1) hf)
      · have hf := opt_t c hf
        refine v_iload_n 3 3 hX dX7_first_55 rfl rfl ?_
        obtain rfl := Option.some.inj hf
        exact v_iret (r := x3) hX dX7_first_56 rfl
set_option maxHeartbeats 4000000 in
set_option maxRecDepth 100000 in
theorem c_X7_first {l : Launch} {D : va_G} {cs : ClassId × ClassId × ClassId} {ad : Nat → Nat} (σ : Mem) (fuel : Nat)  (x1 : Int32) (x2 : Int32) {z : Int32 × Mem} (hf : f_X7_first fuel σ x1 x2 = some z) : CtI l (mW D cs ad) 2 yX7_first cX7_first 4 (some .int) [.ref (ad 0), .int x1, .int x2] σ z.1 z.2 := by
  refine ct_I RX7 [(0, .ref (ad 0)), (1, .int x1), (2, .int x2)] (by decide +kernel) rfl rfl (Nat.le_of_ble_eq_true rfl) ?_
  intro P M hl0 hX
  unfold f_X7_first at hf
  refine v_aload_n 0 0 hX dX7_first_0 rfl rfl ?_
  refine v_iload_n 1 1 hX dX7_first_1 rfl rfl ?_
  obtain ⟨v1, hc, hf⟩ := opt_b hf
  refine v_callVi (rest := []) (As := [.int x1]) (C := RX7) (T := TX7) (N := 22) (ci := 7) 0 hX dX7_first_2 (c_X7_isDeed σ x1 hc) rfl rfl (lt_b rfl) rfl rfl rfl mw_1078 mw_44 mw_64 mw_1076 mw_1079 gAll ds_X7_isDeed rfl ⟨Nat.le_of_ble_eq_true rfl, Nat.le_of_ble_eq_true rfl⟩ (Nat.le_of_ble_eq_true rfl) ?_
  refine v_if_eq 20 hX dX7_first_5 (by decide) (fun c => ?_) (fun c => ?_)
  · have hf := opt_t c hf
    refine v_ldc (-1000001) hX dX7_first_20 mw_916 ?_
    obtain rfl := Option.some.inj hf
    exact v_iret (r := (-1000001)) hX dX7_first_22 rfl
  · have hf := opt_f c hf
    refine v_iload_n 2 2 hX dX7_first_8 rfl rfl ?_
    refine v_i2l hX dX7_first_9 ?_
    refine v_lconst 1 hX dX7_first_10 (by decide) ?_
    refine v_ldc2 200 hX dX7_first_11 mw_1124 ?_
    obtain ⟨v2, hc, hf⟩ := opt_b hf
    refine v_callSi (rest := []) (As := [.long x2.toInt64, .long 1, .long 200]) hX dX7_first_14 (c_X7_in σ x2.toInt64 1 200 hc) rfl rfl mw_913 mw_64 mw_912 mw_914 gAll ds_X7_in rfl ⟨Nat.le_of_ble_eq_true rfl, Nat.le_of_ble_eq_true rfl⟩ (Nat.le_of_ble_eq_true rfl) ?_
    refine v_if_ne 23 hX dX7_first_17 (by decide) (fun c => ?_) (fun c => ?_)
    · have hf := opt_f c hf
      refine v_aload_n 0 0 hX dX7_first_23 rfl rfl ?_
      obtain ⟨v3, hc, hf⟩ := opt_b hf
      refine v_callVv (rest := []) (As := []) (C := RX7) (T := TX7) (N := 22) (ci := 7) 0 hX dX7_first_24 (c_X7_layAside σ fuel hc) rfl rfl (lt_b rfl) rfl rfl rfl mw_1103 mw_47 mw_64 mw_1101 mw_1104 gAll ds_X7_layAside rfl ⟨Nat.le_of_ble_eq_true rfl, Nat.le_of_ble_eq_true rfl⟩ (Nat.le_of_ble_eq_true rfl) ?_
      refine v_iconst 0 hX dX7_first_27 (by decide) ?_
      refine v_istore_n 3 [(3, .int 0), (0, .ref (ad 0)), (1, .int x1), (2, .int x2)] hX dX7_first_28 rfl (lt_b rfl) rfl ?_
      exact v_sub [1, 2, 3, 0] rfl (s_X7_first_29 hX fuel z  fuel v3 x1 x2 0 hf)
    · have hf := opt_t c hf
      refine v_ldc (-1000001) hX dX7_first_20 mw_916 ?_
      obtain rfl := Option.some.inj hf
      exact v_iret (r := (-1000001)) hX dX7_first_22 rfl
set_option maxHeartbeats 4000000 in
set_option maxRecDepth 100000 in
theorem c_X7_safe {l : Launch} {D : va_G} {cs : ClassId × ClassId × ClassId} {ad : Nat → Nat} (σ : Mem)  (x1 : Int32) {z : Int32} (hf : f_X7_safe σ x1 = some z) : CtI l (mW D cs ad) 2 yX7_safe cX7_safe 4 (some .int) [.ref (ad 0), .int x1] σ z σ := by
  refine ct_I RX7 [(0, .ref (ad 0)), (1, .int x1)] (by decide +kernel) rfl rfl (Nat.le_of_ble_eq_true rfl) ?_
  intro P M hl0 hX
  unfold f_X7_safe at hf
  refine v_aload_n 0 0 hX dX7_safe_0 rfl rfl ?_
  refine v_iload_n 1 1 hX dX7_safe_1 rfl rfl ?_
  obtain ⟨v1, hc, hf⟩ := opt_b hf
  refine v_callVi (rest := []) (As := [.int x1]) (C := RX7) (T := TX7) (N := 22) (ci := 7) 0 hX dX7_safe_2 (c_X7_isCopy σ x1 hc) rfl rfl (lt_b rfl) rfl rfl rfl mw_1035 mw_42 mw_64 mw_1033 mw_1036 gAll ds_X7_isCopy rfl ⟨Nat.le_of_ble_eq_true rfl, Nat.le_of_ble_eq_true rfl⟩ (Nat.le_of_ble_eq_true rfl) ?_
  refine v_if_ne 11 hX dX7_safe_5 (by decide) (fun c => ?_) (fun c => ?_)
  · have hf := opt_f c hf
    refine v_aload_n 0 0 hX dX7_safe_11 rfl rfl ?_
    refine v_get (C := RX7) (T := TX7) (N := 22) (ci := 7) (v := .ref (ad 5)) 0 8 hX dX7_safe_12 mw_844 rfl inlX7 rfl (lt_b rfl) (lt_b rfl) rfl rfl ?_
    refine v_bipush 25 hX dX7_safe_15 (by decide) ?_
    refine v_iload_n 1 1 hX dX7_safe_17 rfl rfl ?_
    refine v_iadd hX dX7_safe_18 ?_
    obtain ⟨hi2, hf⟩ := gd_some hf
    refine v_ald (v := σ 5 ((25 + x1).toNatClampNeg)) 5 hX dX7_safe_19 (lt_b rfl) ((fun _ => rfl) _) hi2 rfl ?_
    refine v_istore_n 2 [(2, .int (σ 5 ((25 + x1).toNatClampNeg))), (0, .ref (ad 0)), (1, .int x1)] hX dX7_safe_20 rfl (lt_b rfl) rfl ?_
    refine v_aload_n 1 0 hX dX7_safe_21 rfl rfl ?_
    refine v_get (C := RX7) (T := TX7) (N := 22) (ci := 7) (v := .ref (ad 5)) 0 8 hX dX7_safe_22 mw_844 rfl inlX7 rfl (lt_b rfl) (lt_b rfl) rfl rfl ?_
    refine v_bipush 55 hX dX7_safe_25 (by decide) ?_
    refine v_iload_n 2 1 hX dX7_safe_27 rfl rfl ?_
    refine v_iadd hX dX7_safe_28 ?_
    obtain ⟨hi3, hf⟩ := gd_some hf
    refine v_ald (v := σ 5 ((55 + x1).toNatClampNeg)) 5 hX dX7_safe_29 (lt_b rfl) ((fun _ => rfl) _) hi3 rfl ?_
    refine v_iconst 1 hX dX7_safe_30 (by decide) ?_
    refine v_icmp_eq 47 hX dX7_safe_31 (by decide) (fun c => ?_) (fun c => ?_)
    · have hf := opt_t c hf
      refine v_ldc (-1000000) hX dX7_safe_47 mw_1081 ?_
      obtain rfl := Option.some.inj hf
      exact v_iret (r := (-1000000)) hX dX7_safe_49 rfl
    · have hf := opt_f c hf
      refine v_aload_n 1 0 hX dX7_safe_34 rfl rfl ?_
      refine v_get (C := RX7) (T := TX7) (N := 22) (ci := 7) (v := .ref (ad 5)) 0 8 hX dX7_safe_35 mw_844 rfl inlX7 rfl (lt_b rfl) (lt_b rfl) rfl rfl ?_
      refine v_bipush 7 hX dX7_safe_38 (by decide) ?_
      refine v_iload_n 0 2 hX dX7_safe_40 rfl rfl ?_
      refine v_iadd hX dX7_safe_41 ?_
      obtain ⟨hi4, hf⟩ := gd_some hf
      refine v_ald (v := σ 5 ((7 + (σ 5 ((25 + x1).toNatClampNeg))).toNatClampNeg)) 5 hX dX7_safe_42 (lt_b rfl) ((fun _ => rfl) _) hi4 rfl ?_
      refine v_iconst 3 hX dX7_safe_43 (by decide) ?_
      refine v_icmp_ne 50 hX dX7_safe_44 (by decide) (fun c => ?_) (fun c => ?_)
      · have hf := opt_f c hf
        refine v_aload_n 1 0 hX dX7_safe_50 rfl rfl ?_
        refine v_get (C := RX7) (T := TX7) (N := 22) (ci := 7) (v := .ref (ad 5)) 0 8 hX dX7_safe_51 mw_844 rfl inlX7 rfl (lt_b rfl) (lt_b rfl) rfl rfl ?_
        refine v_bipush 45 hX dX7_safe_54 (by decide) ?_
        refine v_iload_n 2 1 hX dX7_safe_56 rfl rfl ?_
        refine v_iadd hX dX7_safe_57 ?_
        obtain ⟨hi5, hf⟩ := gd_some hf
        refine v_ald (v := σ 5 ((45 + x1).toNatClampNeg)) 5 hX dX7_safe_58 (lt_b rfl) ((fun _ => rfl) _) hi5 rfl ?_
        refine v_aload_n 1 0 hX dX7_safe_59 rfl rfl ?_
        refine v_get (C := RX7) (T := TX7) (N := 22) (ci := 7) (v := .ref (ad 5)) 0 8 hX dX7_safe_60 mw_844 rfl inlX7 rfl (lt_b rfl) (lt_b rfl) rfl rfl ?_
        refine v_iload_n 0 2 hX dX7_safe_63 rfl rfl ?_
        obtain ⟨v6, hc, hf⟩ := opt_b hf
        refine v_callSi (rest := [.int (σ 5 ((45 + x1).toNatClampNeg))]) (As := [.ref (ad 5), .int (σ 5 ((25 + x1).toNatClampNeg))]) hX dX7_safe_64 (c_X7_limit_n σ (σ 5 ((25 + x1).toNatClampNeg)) hc) rfl rfl mw_1041 mw_64 mw_1040 mw_1042 gAll ds_X7_limit rfl ⟨Nat.le_of_ble_eq_true rfl, Nat.le_of_ble_eq_true rfl⟩ (Nat.le_of_ble_eq_true rfl) ?_
        refine v_iadd hX dX7_safe_67 ?_
        refine v_iconst 1 hX dX7_safe_68 (by decide) ?_
        refine v_iadd hX dX7_safe_69 ?_
        refine v_istore_n 3 [(3, .int (((σ 5 ((45 + x1).toNatClampNeg)) + v6) + 1)), (2, .int (σ 5 ((25 + x1).toNatClampNeg))), (0, .ref (ad 0)), (1, .int x1)] hX dX7_safe_70 rfl (lt_b rfl) rfl ?_
        refine v_iload_n 0 3 hX dX7_safe_71 rfl rfl ?_
        refine v_aload_n 2 0 hX dX7_safe_72 rfl rfl ?_
        refine v_get (C := RX7) (T := TX7) (N := 22) (ci := 7) (v := .ref (ad 5)) 0 8 hX dX7_safe_73 mw_844 rfl inlX7 rfl (lt_b rfl) (lt_b rfl) rfl rfl ?_
        refine v_iconst 5 hX dX7_safe_76 (by decide) ?_
        refine v_aldc (v := σ 5 5) 5 5 hX dX7_safe_77 (lt_b rfl) ((fun _ => rfl) _) ib_5_85 tn_5 rfl ?_
        refine v_icmp_le 85 hX dX7_safe_78 (by decide) (fun c => ?_) (fun c => ?_)
        · have hf := opt_t c hf
          refine v_aload_n 2 0 hX dX7_safe_85 rfl rfl ?_
          refine v_get (C := RX7) (T := TX7) (N := 22) (ci := 7) (v := .ref (ad 5)) 0 8 hX dX7_safe_86 mw_844 rfl inlX7 rfl (lt_b rfl) (lt_b rfl) rfl rfl ?_
          refine v_iconst 5 hX dX7_safe_89 (by decide) ?_
          refine v_aldc (v := σ 5 5) 5 5 hX dX7_safe_90 (lt_b rfl) ((fun _ => rfl) _) ib_5_85 tn_5 rfl ?_
          obtain rfl := Option.some.inj hf
          exact v_iret (r := σ 5 5) hX dX7_safe_91 rfl
        · have hf := opt_f c hf
          refine v_iload_n 0 3 hX dX7_safe_81 rfl rfl ?_
          refine v_goto 91 hX dX7_safe_82 (by decide) ?_
          obtain rfl := Option.some.inj hf
          exact v_iret (r := ((σ 5 ((45 + x1).toNatClampNeg)) + v6) + 1) hX dX7_safe_91 rfl
      · have hf := opt_t c hf
        refine v_ldc (-1000000) hX dX7_safe_47 mw_1081 ?_
        obtain rfl := Option.some.inj hf
        exact v_iret (r := (-1000000)) hX dX7_safe_49 rfl
  · have hf := opt_t c hf
    refine v_ldc (-1000001) hX dX7_safe_8 mw_916 ?_
    obtain rfl := Option.some.inj hf
    exact v_iret (r := (-1000001)) hX dX7_safe_10 rfl
set_option maxHeartbeats 4000000 in
set_option maxRecDepth 100000 in
theorem s_X7_blanks_113 {P : PT} {M : MT} {D : va_G} {cs : ClassId × ClassId × ClassId} {ad : Nat → Nat} (hX : VOk P M (mW D cs ad) 10 cX7_blanks RX7 (some .int) 2) (fuel : Nat) (σ : Mem) (k41 : Int32 → Int32 → Int32 → Int32 → Int32 → Option (Int32)) (k63 : Int32 → Int32 → Int32 → Int32 → Int32 → Int32 → Int32 → Int32 → Option (Int32))  (z : Int32) (hk41 : ∀ (x1 : Int32) (x2 : Int32) (x3 : Int32) (x4 : Int32) (x5 : Int32), k41 x1 x2 x3 x4 x5 = some z → V P M (mW D cs ad) 10 (QI P M (mW D cs ad) z σ) 41 [(0, .ref (ad 0)), (1, .int x1), (2, .int x2), (3, .int x3), (4, .int x4), (5, .int x5)] [] σ) (hk63 : ∀ (x1 : Int32) (x2 : Int32) (x3 : Int32) (x4 : Int32) (x5 : Int32) (x6 : Int32) (x7 : Int32) (x8 : Int32), k63 x1 x2 x3 x4 x5 x6 x7 x8 = some z → V P M (mW D cs ad) 10 (QI P M (mW D cs ad) z σ) 63 [(0, .ref (ad 0)), (1, .int x1), (2, .int x2), (3, .int x3), (4, .int x4), (5, .int x5), (6, .int x6), (7, .int x7), (8, .int x8)] [] σ) (x1 : Int32) (x2 : Int32) (x3 : Int32) (x4 : Int32) (x5 : Int32) (x7 : Int32) (x8 : Int32) (x9 : Int32) (y0 : Int32) (y1 : Int32) (hf : f_X7_blanks_113 fuel σ k41 k63 x1 x2 x3 x4 x5 x7 x8 x9 y0 y1 = some z) : V P M (mW D cs ad) 10 (QI P M (mW D cs ad) z σ) 113 [(0, .ref (ad 0)), (1, .int x1), (2, .int x2), (3, .int x3), (4, .int x4), (5, .int x5), (7, .int x7), (8, .int x8), (9, .int x9)] [.int y0, .int y1] σ := by
  unfold f_X7_blanks_113 at hf
  refine v_iadd hX dX7_blanks_113 ?_
  refine v_istore [(6, .int (y1 + y0)), (0, .ref (ad 0)), (1, .int x1), (2, .int x2), (3, .int x3), (4, .int x4), (5, .int x5), (7, .int x7), (8, .int x8), (9, .int x9)] hX dX7_blanks_114 (lt_b rfl) rfl ?_
  refine v_iload 7 hX dX7_blanks_116 rfl ?_
  refine v_if_eq 142 hX dX7_blanks_118 (by decide) (fun c => ?_) (fun c => ?_)
  · have hf := opt_t c hf
    refine v_iconst 0 hX dX7_blanks_142 (by decide) ?_
    refine v_istore [(7, .int 0), (6, .int (y1 + y0)), (0, .ref (ad 0)), (1, .int x1), (2, .int x2), (3, .int x3), (4, .int x4), (5, .int x5), (8, .int x8), (9, .int x9)] hX dX7_blanks_143 (lt_b rfl) rfl ?_
    refine v_iinc 8 (x8 + 1) [(8, .int (x8 + 1)), (7, .int 0), (6, .int (y1 + y0)), (0, .ref (ad 0)), (1, .int x1), (2, .int x2), (3, .int x3), (4, .int x4), (5, .int x5), (9, .int x9)] hX dX7_blanks_145 rfl rfl (lt_b rfl) rfl ?_
    refine v_goto 63 hX dX7_blanks_148 (by decide) ?_
    exact v_sub [3, 4, 5, 6, 7, 8, 2, 1, 0] rfl (hk63 x1 x2 x3 x4 x5 (y1 + y0) 0 (x8 + 1) hf)
  · have hf := opt_f c hf
    refine v_iload 9 hX dX7_blanks_121 rfl ?_
    refine v_if_eq 138 hX dX7_blanks_123 (by decide) (fun c => ?_) (fun c => ?_)
    · have hf := opt_t c hf
      refine v_iconst 1 hX dX7_blanks_138 (by decide) ?_
      refine v_goto 143 hX dX7_blanks_139 (by decide) ?_
      refine v_istore [(7, .int 1), (6, .int (y1 + y0)), (0, .ref (ad 0)), (1, .int x1), (2, .int x2), (3, .int x3), (4, .int x4), (5, .int x5), (8, .int x8), (9, .int x9)] hX dX7_blanks_143 (lt_b rfl) rfl ?_
      refine v_iinc 8 (x8 + 1) [(8, .int (x8 + 1)), (7, .int 1), (6, .int (y1 + y0)), (0, .ref (ad 0)), (1, .int x1), (2, .int x2), (3, .int x3), (4, .int x4), (5, .int x5), (9, .int x9)] hX dX7_blanks_145 rfl rfl (lt_b rfl) rfl ?_
      refine v_goto 63 hX dX7_blanks_148 (by decide) ?_
      exact v_sub [3, 4, 5, 6, 7, 8, 2, 1, 0] rfl (hk63 x1 x2 x3 x4 x5 (y1 + y0) 1 (x8 + 1) hf)
    · have hf := opt_f c hf
      refine v_aload_n 1 0 hX dX7_blanks_126 rfl rfl ?_
      refine v_get (C := RX7) (T := TX7) (N := 22) (ci := 7) (v := .ref (ad 5)) 0 8 hX dX7_blanks_127 mw_844 rfl inlX7 rfl (lt_b rfl) (lt_b rfl) rfl rfl ?_
      refine v_iload 8 hX dX7_blanks_130 rfl ?_
      obtain ⟨v4, hc, hf⟩ := opt_b hf
      refine v_callSi (rest := []) (As := [.ref (ad 5), .int x8]) hX dX7_blanks_132 (c_X7_mayRecall_n σ x8 hc) rfl rfl mw_1038 mw_64 mw_1037 mw_1039 gAll ds_X7_mayRecall rfl ⟨Nat.le_of_ble_eq_true rfl, Nat.le_of_ble_eq_true rfl⟩ (Nat.le_of_ble_eq_true rfl) ?_
      refine v_if_eq 142 hX dX7_blanks_135 (by decide) (fun c => ?_) (fun c => ?_)
      · have hf := opt_t c hf
        refine v_iconst 0 hX dX7_blanks_142 (by decide) ?_
        refine v_istore [(7, .int 0), (6, .int (y1 + y0)), (0, .ref (ad 0)), (1, .int x1), (2, .int x2), (3, .int x3), (4, .int x4), (5, .int x5), (8, .int x8), (9, .int x9)] hX dX7_blanks_143 (lt_b rfl) rfl ?_
        refine v_iinc 8 (x8 + 1) [(8, .int (x8 + 1)), (7, .int 0), (6, .int (y1 + y0)), (0, .ref (ad 0)), (1, .int x1), (2, .int x2), (3, .int x3), (4, .int x4), (5, .int x5), (9, .int x9)] hX dX7_blanks_145 rfl rfl (lt_b rfl) rfl ?_
        refine v_goto 63 hX dX7_blanks_148 (by decide) ?_
        exact v_sub [3, 4, 5, 6, 7, 8, 2, 1, 0] rfl (hk63 x1 x2 x3 x4 x5 (y1 + y0) 0 (x8 + 1) hf)
      · have hf := opt_f c hf
        refine v_iconst 1 hX dX7_blanks_138 (by decide) ?_
        refine v_goto 143 hX dX7_blanks_139 (by decide) ?_
        refine v_istore [(7, .int 1), (6, .int (y1 + y0)), (0, .ref (ad 0)), (1, .int x1), (2, .int x2), (3, .int x3), (4, .int x4), (5, .int x5), (8, .int x8), (9, .int x9)] hX dX7_blanks_143 (lt_b rfl) rfl ?_
        refine v_iinc 8 (x8 + 1) [(8, .int (x8 + 1)), (7, .int 1), (6, .int (y1 + y0)), (0, .ref (ad 0)), (1, .int x1), (2, .int x2), (3, .int x3), (4, .int x4), (5, .int x5), (9, .int x9)] hX dX7_blanks_145 rfl rfl (lt_b rfl) rfl ?_
        refine v_goto 63 hX dX7_blanks_148 (by decide) ?_
        exact v_sub [3, 4, 5, 6, 7, 8, 2, 1, 0] rfl (hk63 x1 x2 x3 x4 x5 (y1 + y0) 1 (x8 + 1) hf)
set_option maxHeartbeats 4000000 in
set_option maxRecDepth 100000 in
theorem s_X7_blanks_90 {P : PT} {M : MT} {D : va_G} {cs : ClassId × ClassId × ClassId} {ad : Nat → Nat} (hX : VOk P M (mW D cs ad) 10 cX7_blanks RX7 (some .int) 2) (fuel : Nat) (σ : Mem) (k41 : Int32 → Int32 → Int32 → Int32 → Int32 → Option (Int32)) (k63 : Int32 → Int32 → Int32 → Int32 → Int32 → Int32 → Int32 → Int32 → Option (Int32))  (z : Int32) (hk41 : ∀ (x1 : Int32) (x2 : Int32) (x3 : Int32) (x4 : Int32) (x5 : Int32), k41 x1 x2 x3 x4 x5 = some z → V P M (mW D cs ad) 10 (QI P M (mW D cs ad) z σ) 41 [(0, .ref (ad 0)), (1, .int x1), (2, .int x2), (3, .int x3), (4, .int x4), (5, .int x5)] [] σ) (hk63 : ∀ (x1 : Int32) (x2 : Int32) (x3 : Int32) (x4 : Int32) (x5 : Int32) (x6 : Int32) (x7 : Int32) (x8 : Int32), k63 x1 x2 x3 x4 x5 x6 x7 x8 = some z → V P M (mW D cs ad) 10 (QI P M (mW D cs ad) z σ) 63 [(0, .ref (ad 0)), (1, .int x1), (2, .int x2), (3, .int x3), (4, .int x4), (5, .int x5), (6, .int x6), (7, .int x7), (8, .int x8)] [] σ) (x1 : Int32) (x2 : Int32) (x3 : Int32) (x4 : Int32) (x5 : Int32) (x6 : Int32) (x7 : Int32) (x8 : Int32) (y0 : Int32) (hf : f_X7_blanks_90 fuel σ k41 k63 x1 x2 x3 x4 x5 x6 x7 x8 y0 = some z) : V P M (mW D cs ad) 10 (QI P M (mW D cs ad) z σ) 90 [(0, .ref (ad 0)), (1, .int x1), (2, .int x2), (3, .int x3), (4, .int x4), (5, .int x5), (6, .int x6), (7, .int x7), (8, .int x8)] [.int y0] σ := by
  unfold f_X7_blanks_90 at hf
  refine v_istore [(9, .int y0), (0, .ref (ad 0)), (1, .int x1), (2, .int x2), (3, .int x3), (4, .int x4), (5, .int x5), (6, .int x6), (7, .int x7), (8, .int x8)] hX dX7_blanks_90 (lt_b rfl) rfl ?_
  refine v_iload 7 hX dX7_blanks_92 rfl ?_
  refine v_iload 0 hX dX7_blanks_94 rfl ?_
  refine v_if_eq 112 hX dX7_blanks_96 (by decide) (fun c => ?_) (fun c => ?_)
  · have hf := opt_t c hf
    refine v_iconst 0 hX dX7_blanks_112 (by decide) ?_
    exact v_sub [1, 2, 3, 4, 5, 6, 8, 9, 0] rfl (s_X7_blanks_113 hX fuel σ k41 k63 z hk41 hk63 x1 x2 x3 x4 x5 x7 x8 y0 0 x6 hf)
  · have hf := opt_f c hf
    refine v_aload_n 1 0 hX dX7_blanks_99 rfl rfl ?_
    refine v_get (C := RX7) (T := TX7) (N := 22) (ci := 7) (v := .ref (ad 5)) 0 8 hX dX7_blanks_100 mw_844 rfl inlX7 rfl (lt_b rfl) (lt_b rfl) rfl rfl ?_
    refine v_bipush 35 hX dX7_blanks_103 (by decide) ?_
    refine v_iload 9 hX dX7_blanks_105 rfl ?_
    refine v_iadd hX dX7_blanks_107 ?_
    obtain ⟨hi3, hf⟩ := gd_some hf
    refine v_ald (v := σ 5 ((35 + x8).toNatClampNeg)) 5 hX dX7_blanks_108 (lt_b rfl) ((fun _ => rfl) _) hi3 rfl ?_
    refine v_goto 113 hX dX7_blanks_109 (by decide) ?_
    exact v_sub [1, 2, 3, 4, 5, 6, 8, 9, 0] rfl (s_X7_blanks_113 hX fuel σ k41 k63 z hk41 hk63 x1 x2 x3 x4 x5 x7 x8 y0 (σ 5 ((35 + x8).toNatClampNeg)) x6 hf)
set_option maxHeartbeats 4000000 in
set_option maxRecDepth 100000 in
theorem s_X7_blanks_63 {P : PT} {M : MT} {D : va_G} {cs : ClassId × ClassId × ClassId} {ad : Nat → Nat} (hX : VOk P M (mW D cs ad) 10 cX7_blanks RX7 (some .int) 2) (fuel : Nat) (σ : Mem) (k41 : Int32 → Int32 → Int32 → Int32 → Int32 → Option (Int32))  (z : Int32) (hk41 : ∀ (x1 : Int32) (x2 : Int32) (x3 : Int32) (x4 : Int32) (x5 : Int32), k41 x1 x2 x3 x4 x5 = some z → V P M (mW D cs ad) 10 (QI P M (mW D cs ad) z σ) 41 [(0, .ref (ad 0)), (1, .int x1), (2, .int x2), (3, .int x3), (4, .int x4), (5, .int x5)] [] σ) : ∀ (n : Nat) (x1 : Int32) (x2 : Int32) (x3 : Int32) (x4 : Int32) (x5 : Int32) (x6 : Int32) (x7 : Int32) (x8 : Int32), f_X7_blanks_63 fuel σ k41 n x1 x2 x3 x4 x5 x6 x7 x8 = some z → V P M (mW D cs ad) 10 (QI P M (mW D cs ad) z σ) 63 [(0, .ref (ad 0)), (1, .int x1), (2, .int x2), (3, .int x3), (4, .int x4), (5, .int x5), (6, .int x6), (7, .int x7), (8, .int x8)] [] σ := by
  intro n
  induction n with
  | zero =>
    intro x1 x2 x3 x4 x5 x6 x7 x8 hf
    cases hf
  | succ n hk63 =>
    intro x1 x2 x3 x4 x5 x6 x7 x8 hf
    rw [f_X7_blanks_63] at hf
    refine v_iload 8 hX dX7_blanks_63 rfl ?_
    refine v_aload_n 0 0 hX dX7_blanks_65 rfl rfl ?_
    refine v_get (C := RX7) (T := TX7) (N := 22) (ci := 7) (v := .ref (ad 5)) 0 8 hX dX7_blanks_66 mw_844 rfl inlX7 rfl (lt_b rfl) (lt_b rfl) rfl rfl ?_
    refine v_iconst 3 hX dX7_blanks_69 (by decide) ?_
    refine v_aldc (v := σ 5 3) 5 3 hX dX7_blanks_70 (lt_b rfl) ((fun _ => rfl) _) ib_3_85 tn_3 rfl ?_
    refine v_icmp_ge 151 hX dX7_blanks_71 (by decide) (fun c => ?_) (fun c => ?_)
    · have hf := opt_t c hf
      refine v_iload 7 hX dX7_blanks_151 rfl ?_
      refine v_if_eq 181 hX dX7_blanks_153 (by decide) (fun c => ?_) (fun c => ?_)
      · have hf := opt_t c hf
        refine v_iinc 5 (x5 + 1) [(5, .int (x5 + 1)), (0, .ref (ad 0)), (1, .int x1), (2, .int x2), (3, .int x3), (4, .int x4), (6, .int x6), (7, .int x7), (8, .int x8)] hX dX7_blanks_181 rfl rfl (lt_b rfl) rfl ?_
        refine v_goto 41 hX dX7_blanks_184 (by decide) ?_
        exact v_sub [1, 2, 3, 4, 5, 0] rfl (hk41 x1 x2 x3 x4 (x5 + 1) hf)
      · have hf := opt_f c hf
        refine v_iload 6 hX dX7_blanks_156 rfl ?_
        refine v_iload_n 1 1 hX dX7_blanks_158 rfl rfl ?_
        refine v_icmp_ne 181 hX dX7_blanks_159 (by decide) (fun c => ?_) (fun c => ?_)
        · have hf := opt_f c hf
          refine v_iinc 5 (x5 + 1) [(5, .int (x5 + 1)), (0, .ref (ad 0)), (1, .int x1), (2, .int x2), (3, .int x3), (4, .int x4), (6, .int x6), (7, .int x7), (8, .int x8)] hX dX7_blanks_181 rfl rfl (lt_b rfl) rfl ?_
          refine v_goto 41 hX dX7_blanks_184 (by decide) ?_
          exact v_sub [1, 2, 3, 4, 5, 0] rfl (hk41 x1 x2 x3 x4 (x5 + 1) hf)
        · have hf := opt_t c hf
          refine v_iinc 3 (x3 + 1) [(3, .int (x3 + 1)), (0, .ref (ad 0)), (1, .int x1), (2, .int x2), (4, .int x4), (5, .int x5), (6, .int x6), (7, .int x7), (8, .int x8)] hX dX7_blanks_162 rfl rfl (lt_b rfl) rfl ?_
          refine v_iload 4 hX dX7_blanks_165 rfl ?_
          refine v_ldc (-1000000) hX dX7_blanks_167 mw_1081 ?_
          refine v_icmp_ne 177 hX dX7_blanks_169 (by decide) (fun c => ?_) (fun c => ?_)
          · have hf := opt_f c hf
            refine v_iload 4 hX dX7_blanks_177 rfl ?_
            refine v_istore [(4, .int x4), (3, .int (x3 + 1)), (0, .ref (ad 0)), (1, .int x1), (2, .int x2), (5, .int x5), (6, .int x6), (7, .int x7), (8, .int x8)] hX dX7_blanks_179 (lt_b rfl) rfl ?_
            refine v_iinc 5 (x5 + 1) [(5, .int (x5 + 1)), (4, .int x4), (3, .int (x3 + 1)), (0, .ref (ad 0)), (1, .int x1), (2, .int x2), (6, .int x6), (7, .int x7), (8, .int x8)] hX dX7_blanks_181 rfl rfl (lt_b rfl) rfl ?_
            refine v_goto 41 hX dX7_blanks_184 (by decide) ?_
            exact v_sub [3, 4, 5, 2, 1, 0] rfl (hk41 x1 x2 (x3 + 1) x4 (x5 + 1) hf)
          · have hf := opt_t c hf
            refine v_iload 5 hX dX7_blanks_172 rfl ?_
            refine v_goto 179 hX dX7_blanks_174 (by decide) ?_
            refine v_istore [(4, .int x5), (3, .int (x3 + 1)), (0, .ref (ad 0)), (1, .int x1), (2, .int x2), (5, .int x5), (6, .int x6), (7, .int x7), (8, .int x8)] hX dX7_blanks_179 (lt_b rfl) rfl ?_
            refine v_iinc 5 (x5 + 1) [(5, .int (x5 + 1)), (4, .int x5), (3, .int (x3 + 1)), (0, .ref (ad 0)), (1, .int x1), (2, .int x2), (6, .int x6), (7, .int x7), (8, .int x8)] hX dX7_blanks_181 rfl rfl (lt_b rfl) rfl ?_
            refine v_goto 41 hX dX7_blanks_184 (by decide) ?_
            exact v_sub [3, 4, 5, 2, 1, 0] rfl (hk41 x1 x2 (x3 + 1) x5 (x5 + 1) hf)
    · have hf := opt_f c hf
      refine v_iload 5 hX dX7_blanks_74 rfl ?_
      refine v_iload 8 hX dX7_blanks_76 rfl ?_
      refine v_ishr hX dX7_blanks_78 ?_
      refine v_iconst 1 hX dX7_blanks_79 (by decide) ?_
      refine v_iand hX dX7_blanks_80 ?_
      refine v_iconst 1 hX dX7_blanks_81 (by decide) ?_
      refine v_icmp_ne 89 hX dX7_blanks_82 (by decide) (fun c => ?_) (fun c => ?_)
      · have hf := opt_f c hf
        refine v_iconst 0 hX dX7_blanks_89 (by decide) ?_
        exact (s_X7_blanks_90 hX fuel σ k41 (f_X7_blanks_63 fuel σ k41 n) z hk41 hk63 x1 x2 x3 x4 x5 x6 x7 x8 0 hf)
      · have hf := opt_t c hf
        refine v_iconst 1 hX dX7_blanks_85 (by decide) ?_
        refine v_goto 90 hX dX7_blanks_86 (by decide) ?_
        exact (s_X7_blanks_90 hX fuel σ k41 (f_X7_blanks_63 fuel σ k41 n) z hk41 hk63 x1 x2 x3 x4 x5 x6 x7 x8 1 hf)
set_option maxHeartbeats 4000000 in
set_option maxRecDepth 100000 in
theorem s_X7_blanks_41 {P : PT} {M : MT} {D : va_G} {cs : ClassId × ClassId × ClassId} {ad : Nat → Nat} (hX : VOk P M (mW D cs ad) 10 cX7_blanks RX7 (some .int) 2) (fuel : Nat) (σ : Mem)   (z : Int32)  : ∀ (n : Nat) (x1 : Int32) (x2 : Int32) (x3 : Int32) (x4 : Int32) (x5 : Int32), f_X7_blanks_41 fuel σ n x1 x2 x3 x4 x5 = some z → V P M (mW D cs ad) 10 (QI P M (mW D cs ad) z σ) 41 [(0, .ref (ad 0)), (1, .int x1), (2, .int x2), (3, .int x3), (4, .int x4), (5, .int x5)] [] σ := by
  intro n
  induction n with
  | zero =>
    intro x1 x2 x3 x4 x5 hf
    cases hf
  | succ n hk41 =>
    intro x1 x2 x3 x4 x5 hf
    rw [f_X7_blanks_41] at hf
    refine v_iload 5 hX dX7_blanks_41 rfl ?_
    refine v_iconst 1 hX dX7_blanks_43 (by decide) ?_
    refine v_aload_n 0 0 hX dX7_blanks_44 rfl rfl ?_
    refine v_get (C := RX7) (T := TX7) (N := 22) (ci := 7) (v := .ref (ad 5)) 0 8 hX dX7_blanks_45 mw_844 rfl inlX7 rfl (lt_b rfl) (lt_b rfl) rfl rfl ?_
    refine v_iconst 3 hX dX7_blanks_48 (by decide) ?_
    refine v_aldc (v := σ 5 3) 5 3 hX dX7_blanks_49 (lt_b rfl) ((fun _ => rfl) _) ib_3_85 tn_3 rfl ?_
    refine v_ishl hX dX7_blanks_50 ?_
    refine v_icmp_ge 187 hX dX7_blanks_51 (by decide) (fun c => ?_) (fun c => ?_)
    · have hf := opt_t c hf
      refine v_iload_n 2 2 hX dX7_blanks_187 rfl rfl ?_
      refine v_if_ne 195 hX dX7_blanks_188 (by decide) (fun c => ?_) (fun c => ?_)
      · have hf := opt_f c hf
        refine v_iload 4 hX dX7_blanks_195 rfl ?_
        obtain rfl := Option.some.inj hf
        exact v_iret (r := x4) hX dX7_blanks_197 rfl
      · have hf := opt_t c hf
        refine v_iload_n 3 3 hX dX7_blanks_191 rfl rfl ?_
        refine v_goto 197 hX dX7_blanks_192 (by decide) ?_
        obtain rfl := Option.some.inj hf
        exact v_iret (r := x3) hX dX7_blanks_197 rfl
    · have hf := opt_f c hf
      refine v_iconst 0 hX dX7_blanks_54 (by decide) ?_
      refine v_istore [(6, .int 0), (0, .ref (ad 0)), (1, .int x1), (2, .int x2), (3, .int x3), (4, .int x4), (5, .int x5)] hX dX7_blanks_55 (lt_b rfl) rfl ?_
      refine v_iconst 1 hX dX7_blanks_57 (by decide) ?_
      refine v_istore [(7, .int 1), (6, .int 0), (0, .ref (ad 0)), (1, .int x1), (2, .int x2), (3, .int x3), (4, .int x4), (5, .int x5)] hX dX7_blanks_58 (lt_b rfl) rfl ?_
      refine v_iconst 0 hX dX7_blanks_60 (by decide) ?_
      refine v_istore [(8, .int 0), (7, .int 1), (6, .int 0), (0, .ref (ad 0)), (1, .int x1), (2, .int x2), (3, .int x3), (4, .int x4), (5, .int x5)] hX dX7_blanks_61 (lt_b rfl) rfl ?_
      exact v_sub [3, 4, 5, 6, 7, 8, 2, 1, 0] rfl (s_X7_blanks_63 hX fuel σ (f_X7_blanks_41 fuel σ n) z hk41 fuel x1 x2 x3 x4 x5 0 1 0 hf)
set_option maxHeartbeats 4000000 in
set_option maxRecDepth 100000 in
theorem c_X7_blanks {l : Launch} {D : va_G} {cs : ClassId × ClassId × ClassId} {ad : Nat → Nat} (fuel : Nat) (σ : Mem)  (x1 : Int32) (x2 : Int32) {z : Int32} (hf : f_X7_blanks fuel σ x1 x2 = some z) : CtI l (mW D cs ad) 2 yX7_blanks cX7_blanks 10 (some .int) [.ref (ad 0), .int x1, .int x2] σ z σ := by
  refine ct_I RX7 [(0, .ref (ad 0)), (1, .int x1), (2, .int x2)] (by decide +kernel) rfl rfl (Nat.le_of_ble_eq_true rfl) ?_
  intro P M hl0 hX
  unfold f_X7_blanks at hf
  refine v_aload_n 0 0 hX dX7_blanks_0 rfl rfl ?_
  refine v_get (C := RX7) (T := TX7) (N := 22) (ci := 7) (v := .int (σ 0 7)) 0 7 hX dX7_blanks_1 mw_843 rfl inlX7 rfl (lt_b rfl) (lt_b rfl) rfl rfl ?_
  refine v_if_ne 10 hX dX7_blanks_4 (by decide) (fun c => ?_) (fun c => ?_)
  · have hf := opt_f c hf
    refine v_iload_n 1 1 hX dX7_blanks_10 rfl rfl ?_
    refine v_i2l hX dX7_blanks_11 ?_
    refine v_lconst 1 hX dX7_blanks_12 (by decide) ?_
    refine v_ldc2 90 hX dX7_blanks_13 mw_1166 ?_
    obtain ⟨v1, hc, hf⟩ := opt_b hf
    refine v_callSi (rest := []) (As := [.long x1.toInt64, .long 1, .long 90]) hX dX7_blanks_16 (c_X7_in σ x1.toInt64 1 90 hc) rfl rfl mw_913 mw_64 mw_912 mw_914 gAll ds_X7_in rfl ⟨Nat.le_of_ble_eq_true rfl, Nat.le_of_ble_eq_true rfl⟩ (Nat.le_of_ble_eq_true rfl) ?_
    refine v_if_eq 29 hX dX7_blanks_19 (by decide) (fun c => ?_) (fun c => ?_)
    · have hf := opt_t c hf
      refine v_ldc (-1000001) hX dX7_blanks_29 mw_916 ?_
      obtain rfl := Option.some.inj hf
      exact v_iret (r := (-1000001)) hX dX7_blanks_31 rfl
    · have hf := opt_f c hf
      refine v_iload_n 2 2 hX dX7_blanks_22 rfl rfl ?_
      obtain ⟨v2, hc, hf⟩ := opt_b hf
      refine v_callSi (rest := []) (As := [.int x2]) hX dX7_blanks_23 (c_X7_isTwo σ x2 hc) rfl rfl mw_1087 mw_64 mw_1086 mw_1088 gAll ds_X7_isTwo rfl ⟨Nat.le_of_ble_eq_true rfl, Nat.le_of_ble_eq_true rfl⟩ (Nat.le_of_ble_eq_true rfl) ?_
      refine v_if_ne 32 hX dX7_blanks_26 (by decide) (fun c => ?_) (fun c => ?_)
      · have hf := opt_f c hf
        refine v_iconst 0 hX dX7_blanks_32 (by decide) ?_
        refine v_istore_n 3 [(3, .int 0), (0, .ref (ad 0)), (1, .int x1), (2, .int x2)] hX dX7_blanks_33 rfl (lt_b rfl) rfl ?_
        refine v_ldc (-1000000) hX dX7_blanks_34 mw_1081 ?_
        refine v_istore [(4, .int (-1000000)), (3, .int 0), (0, .ref (ad 0)), (1, .int x1), (2, .int x2)] hX dX7_blanks_36 (lt_b rfl) rfl ?_
        refine v_iconst 1 hX dX7_blanks_38 (by decide) ?_
        refine v_istore [(5, .int 1), (4, .int (-1000000)), (3, .int 0), (0, .ref (ad 0)), (1, .int x1), (2, .int x2)] hX dX7_blanks_39 (lt_b rfl) rfl ?_
        exact v_sub [3, 4, 5, 2, 1, 0] rfl (s_X7_blanks_41 hX fuel σ z  fuel x1 x2 0 (-1000000) 1 hf)
      · have hf := opt_t c hf
        refine v_ldc (-1000001) hX dX7_blanks_29 mw_916 ?_
        obtain rfl := Option.some.inj hf
        exact v_iret (r := (-1000001)) hX dX7_blanks_31 rfl
  · have hf := opt_t c hf
    refine v_ldc (-1000002) hX dX7_blanks_7 mw_1014 ?_
    obtain rfl := Option.some.inj hf
    exact v_iret (r := (-1000002)) hX dX7_blanks_9 rfl
set_option maxHeartbeats 4000000 in
set_option maxRecDepth 100000 in
theorem s_X7_forged_71 {P : PT} {M : MT} {D : va_G} {cs : ClassId × ClassId × ClassId} {ad : Nat → Nat} (hX : VOk P M (mW D cs ad) 5 cX7_forged RX7 (some .int) 2) (fuel : Nat)   (z : Int32 × Mem)  : ∀ (n : Nat) (σ : Mem) (x1 : Int32) (x2 : Int32) (x3 : Int32) (x4 : Int32), f_X7_forged_71 fuel n σ x1 x2 x3 x4 = some z → V P M (mW D cs ad) 5 (QI P M (mW D cs ad) z.1 z.2) 71 [(0, .ref (ad 0)), (1, .int x1), (2, .int x2), (3, .int x3), (4, .int x4)] [] σ := by
  intro n
  induction n with
  | zero =>
    intro σ x1 x2 x3 x4 hf
    cases hf
  | succ n hk71 =>
    intro σ x1 x2 x3 x4 hf
    rw [f_X7_forged_71] at hf
    refine v_iload 4 hX dX7_forged_71 rfl ?_
    refine v_aload_n 0 0 hX dX7_forged_73 rfl rfl ?_
    refine v_get (C := RX7) (T := TX7) (N := 22) (ci := 7) (v := .ref (ad 5)) 0 8 hX dX7_forged_74 mw_844 rfl inlX7 rfl (lt_b rfl) (lt_b rfl) rfl rfl ?_
    refine v_iconst 3 hX dX7_forged_77 (by decide) ?_
    refine v_aldc (v := σ 5 3) 5 3 hX dX7_forged_78 (lt_b rfl) ((fun _ => rfl) _) ib_3_85 tn_3 rfl ?_
    refine v_icmp_ge 122 hX dX7_forged_79 (by decide) (fun c => ?_) (fun c => ?_)
    · have hf := opt_t c hf
      refine v_aload_n 0 0 hX dX7_forged_122 rfl rfl ?_
      refine v_iload_n 3 3 hX dX7_forged_123 rfl rfl ?_
      obtain ⟨v7, hc, hf⟩ := opt_b hf
      refine v_callVi (rest := []) (As := [.int x3]) (C := RX7) (T := TX7) (N := 22) (ci := 7) 0 hX dX7_forged_124 (c_X7_well σ x3 hc) rfl rfl (lt_b rfl) rfl rfl rfl mw_924 mw_28 mw_64 mw_922 mw_925 gAll ds_X7_well rfl ⟨Nat.le_of_ble_eq_true rfl, Nat.le_of_ble_eq_true rfl⟩ (Nat.le_of_ble_eq_true rfl) ?_
      obtain rfl := Option.some.inj hf
      exact v_iret (r := v7.1) hX dX7_forged_127 rfl
    · have hf := opt_f c hf
      refine v_iload_n 3 3 hX dX7_forged_82 rfl rfl ?_
      refine v_aload_n 0 0 hX dX7_forged_83 rfl rfl ?_
      refine v_iload 4 hX dX7_forged_84 rfl ?_
      refine v_aload_n 0 0 hX dX7_forged_86 rfl rfl ?_
      refine v_get (C := RX7) (T := TX7) (N := 22) (ci := 7) (v := .ref (ad 3)) 0 2 hX dX7_forged_87 mw_838 rfl inlX7 rfl (lt_b rfl) (lt_b rfl) rfl rfl ?_
      refine v_bipush 40 hX dX7_forged_90 (by decide) ?_
      refine v_iload_n 1 1 hX dX7_forged_92 rfl rfl ?_
      refine v_imul hX dX7_forged_93 ?_
      refine v_iload_n 2 2 hX dX7_forged_94 rfl rfl ?_
      refine v_iadd hX dX7_forged_95 ?_
      refine v_iload 4 hX dX7_forged_96 rfl ?_
      refine v_iadd hX dX7_forged_98 ?_
      obtain ⟨hi8, hf⟩ := gd_some hf
      refine v_ald (v := σ 3 ((((40 * x1) + x2) + x4).toNatClampNeg)) 3 hX dX7_forged_99 (lt_b rfl) ((fun _ => rfl) _) hi8 rfl ?_
      obtain ⟨v9, hc, hf⟩ := opt_b hf
      refine v_callVi (rest := [.int x3]) (As := [.int x4, .int (σ 3 ((((40 * x1) + x2) + x4).toNatClampNeg))]) (C := RX7) (T := TX7) (N := 22) (ci := 7) 0 hX dX7_forged_100 (c_X7_canBe σ x4 (σ 3 ((((40 * x1) + x2) + x4).toNatClampNeg)) hc) rfl rfl (lt_b rfl) rfl rfl rfl mw_1173 mw_51 mw_64 mw_1171 mw_1174 gAll ds_X7_canBe rfl ⟨Nat.le_of_ble_eq_true rfl, Nat.le_of_ble_eq_true rfl⟩ (Nat.le_of_ble_eq_true rfl) ?_
      refine v_if_eq 110 hX dX7_forged_103 (by decide) (fun c => ?_) (fun c => ?_)
      · have hf := opt_t c hf
        refine v_iconst 1 hX dX7_forged_110 (by decide) ?_
        refine v_iload 4 hX dX7_forged_111 rfl ?_
        refine v_ishl hX dX7_forged_113 ?_
        refine v_ior hX dX7_forged_114 ?_
        refine v_istore_n 3 [(3, .int (x3 ||| (1 <<< (x4 &&& 31)))), (0, .ref (ad 0)), (1, .int x1), (2, .int x2), (4, .int x4)] hX dX7_forged_115 rfl (lt_b rfl) rfl ?_
        refine v_iinc 4 (x4 + 1) [(4, .int (x4 + 1)), (3, .int (x3 ||| (1 <<< (x4 &&& 31)))), (0, .ref (ad 0)), (1, .int x1), (2, .int x2)] hX dX7_forged_116 rfl rfl (lt_b rfl) rfl ?_
        refine v_goto 71 hX dX7_forged_119 (by decide) ?_
        exact v_sub [2, 3, 4, 1, 0] rfl (hk71 σ x1 x2 (x3 ||| (1 <<< (x4 &&& 31))) (x4 + 1) hf)
      · have hf := opt_f c hf
        refine v_iconst 0 hX dX7_forged_106 (by decide) ?_
        refine v_goto 114 hX dX7_forged_107 (by decide) ?_
        refine v_ior hX dX7_forged_114 ?_
        refine v_istore_n 3 [(3, .int (x3 ||| 0)), (0, .ref (ad 0)), (1, .int x1), (2, .int x2), (4, .int x4)] hX dX7_forged_115 rfl (lt_b rfl) rfl ?_
        refine v_iinc 4 (x4 + 1) [(4, .int (x4 + 1)), (3, .int (x3 ||| 0)), (0, .ref (ad 0)), (1, .int x1), (2, .int x2)] hX dX7_forged_116 rfl rfl (lt_b rfl) rfl ?_
        refine v_goto 71 hX dX7_forged_119 (by decide) ?_
        exact v_sub [2, 3, 4, 1, 0] rfl (hk71 σ x1 x2 (x3 ||| 0) (x4 + 1) hf)
set_option maxHeartbeats 4000000 in
set_option maxRecDepth 100000 in
theorem c_X7_forged {l : Launch} {D : va_G} {cs : ClassId × ClassId × ClassId} {ad : Nat → Nat} (σ : Mem) (fuel : Nat)  (x1 : Int32) (x2 : Int32) {z : Int32 × Mem} (hf : f_X7_forged fuel σ x1 x2 = some z) : CtI l (mW D cs ad) 2 yX7_forged cX7_forged 5 (some .int) [.ref (ad 0), .int x1, .int x2] σ z.1 z.2 := by
  refine ct_I RX7 [(0, .ref (ad 0)), (1, .int x1), (2, .int x2)] (by decide +kernel) rfl rfl (Nat.le_of_ble_eq_true rfl) ?_
  intro P M hl0 hX
  unfold f_X7_forged at hf
  refine v_aload_n 0 0 hX dX7_forged_0 rfl rfl ?_
  refine v_get (C := RX7) (T := TX7) (N := 22) (ci := 7) (v := .int (σ 0 7)) 0 7 hX dX7_forged_1 mw_843 rfl inlX7 rfl (lt_b rfl) (lt_b rfl) rfl rfl ?_
  refine v_if_ne 10 hX dX7_forged_4 (by decide) (fun c => ?_) (fun c => ?_)
  · have hf := opt_f c hf
    refine v_iload_n 1 1 hX dX7_forged_10 rfl rfl ?_
    obtain ⟨v1, hc, hf⟩ := opt_b hf
    refine v_callSi (rest := []) (As := [.int x1]) hX dX7_forged_11 (c_X7_isRow σ x1 hc) rfl rfl mw_909 mw_64 mw_908 mw_910 gAll ds_X7_isRow rfl ⟨Nat.le_of_ble_eq_true rfl, Nat.le_of_ble_eq_true rfl⟩ (Nat.le_of_ble_eq_true rfl) ?_
    refine v_if_ne 20 hX dX7_forged_14 (by decide) (fun c => ?_) (fun c => ?_)
    · have hf := opt_f c hf
      refine v_aload_n 0 0 hX dX7_forged_20 rfl rfl ?_
      refine v_get (C := RX7) (T := TX7) (N := 22) (ci := 7) (v := .ref (ad 2)) 0 1 hX dX7_forged_21 mw_837 rfl inlX7 rfl (lt_b rfl) (lt_b rfl) rfl rfl ?_
      refine v_iload_n 1 1 hX dX7_forged_24 rfl rfl ?_
      obtain ⟨hi2, hf⟩ := gd_some hf
      refine v_ald (v := σ 2 x1.toNatClampNeg) 2 hX dX7_forged_25 (lt_b rfl) ((fun _ => rfl) _) hi2 rfl ?_
      refine v_if_ge 35 hX dX7_forged_26 (by decide) (fun c => ?_) (fun c => ?_)
      · have hf := opt_t c hf
        refine v_iload_n 2 2 hX dX7_forged_35 rfl rfl ?_
        refine v_if_lt 60 hX dX7_forged_36 (by decide) (fun c => ?_) (fun c => ?_)
        · have hf := opt_t c hf
          refine v_aload_n 0 0 hX dX7_forged_60 rfl rfl ?_
          refine v_iconst 2 hX dX7_forged_61 (by decide) ?_
          obtain ⟨v3, hc, hf⟩ := opt_b hf
          refine v_callVi (rest := []) (As := [.int 2]) (C := RX7) (T := TX7) (N := 22) (ci := 7) 0 hX dX7_forged_62 (c_X7_found σ 2 hc) rfl rfl (lt_b rfl) rfl rfl rfl mw_919 mw_27 mw_64 mw_917 mw_920 gAll ds_X7_found rfl ⟨Nat.le_of_ble_eq_true rfl, Nat.le_of_ble_eq_true rfl⟩ (Nat.le_of_ble_eq_true rfl) ?_
          obtain rfl := Option.some.inj hf
          exact v_iret (r := v3.1) hX dX7_forged_65 rfl
        · have hf := opt_f c hf
          refine v_iload_n 2 2 hX dX7_forged_39 rfl rfl ?_
          refine v_i2l hX dX7_forged_40 ?_
          refine v_aload_n 0 0 hX dX7_forged_41 rfl rfl ?_
          refine v_get (C := RX7) (T := TX7) (N := 22) (ci := 7) (v := .ref (ad 5)) 0 8 hX dX7_forged_42 mw_844 rfl inlX7 rfl (lt_b rfl) (lt_b rfl) rfl rfl ?_
          refine v_iconst 3 hX dX7_forged_45 (by decide) ?_
          refine v_aldc (v := σ 5 3) 5 3 hX dX7_forged_46 (lt_b rfl) ((fun _ => rfl) _) ib_3_85 tn_3 rfl ?_
          refine v_i2l hX dX7_forged_47 ?_
          refine v_ladd hX dX7_forged_48 ?_
          refine v_aload_n 0 0 hX dX7_forged_49 rfl rfl ?_
          refine v_get (C := RX7) (T := TX7) (N := 22) (ci := 7) (v := .ref (ad 2)) 0 1 hX dX7_forged_50 mw_837 rfl inlX7 rfl (lt_b rfl) (lt_b rfl) rfl rfl ?_
          refine v_iload_n 1 1 hX dX7_forged_53 rfl rfl ?_
          obtain ⟨hi4, hf⟩ := gd_some hf
          refine v_ald (v := σ 2 x1.toNatClampNeg) 2 hX dX7_forged_54 (lt_b rfl) ((fun _ => rfl) _) hi4 rfl ?_
          refine v_i2l hX dX7_forged_55 ?_
          refine v_lcmp hX dX7_forged_56 ?_
          refine v_if_le 66 hX dX7_forged_57 (by decide) (fun c => ?_) (fun c => ?_)
          · have hf := opt_t c hf
            refine v_iconst 0 hX dX7_forged_66 (by decide) ?_
            refine v_istore_n 3 [(3, .int 0), (0, .ref (ad 0)), (1, .int x1), (2, .int x2)] hX dX7_forged_67 rfl (lt_b rfl) rfl ?_
            refine v_iconst 0 hX dX7_forged_68 (by decide) ?_
            refine v_istore [(4, .int 0), (3, .int 0), (0, .ref (ad 0)), (1, .int x1), (2, .int x2)] hX dX7_forged_69 (lt_b rfl) rfl ?_
            exact v_sub [2, 3, 4, 1, 0] rfl (s_X7_forged_71 hX fuel z  fuel σ x1 x2 0 0 hf)
          · have hf := opt_f c hf
            refine v_aload_n 0 0 hX dX7_forged_60 rfl rfl ?_
            refine v_iconst 2 hX dX7_forged_61 (by decide) ?_
            obtain ⟨v5, hc, hf⟩ := opt_b hf
            refine v_callVi (rest := []) (As := [.int 2]) (C := RX7) (T := TX7) (N := 22) (ci := 7) 0 hX dX7_forged_62 (c_X7_found σ 2 hc) rfl rfl (lt_b rfl) rfl rfl rfl mw_919 mw_27 mw_64 mw_917 mw_920 gAll ds_X7_found rfl ⟨Nat.le_of_ble_eq_true rfl, Nat.le_of_ble_eq_true rfl⟩ (Nat.le_of_ble_eq_true rfl) ?_
            obtain rfl := Option.some.inj hf
            exact v_iret (r := v5.1) hX dX7_forged_65 rfl
      · have hf := opt_f c hf
        refine v_aload_n 0 0 hX dX7_forged_29 rfl rfl ?_
        refine v_iconst 1 hX dX7_forged_30 (by decide) ?_
        obtain ⟨v6, hc, hf⟩ := opt_b hf
        refine v_callVi (rest := []) (As := [.int 1]) (C := RX7) (T := TX7) (N := 22) (ci := 7) 0 hX dX7_forged_31 (c_X7_found σ 1 hc) rfl rfl (lt_b rfl) rfl rfl rfl mw_919 mw_27 mw_64 mw_917 mw_920 gAll ds_X7_found rfl ⟨Nat.le_of_ble_eq_true rfl, Nat.le_of_ble_eq_true rfl⟩ (Nat.le_of_ble_eq_true rfl) ?_
        obtain rfl := Option.some.inj hf
        exact v_iret (r := v6.1) hX dX7_forged_34 rfl
    · have hf := opt_t c hf
      refine v_ldc (-1000001) hX dX7_forged_17 mw_916 ?_
      obtain rfl := Option.some.inj hf
      exact v_iret (r := (-1000001)) hX dX7_forged_19 rfl
  · have hf := opt_t c hf
    refine v_ldc (-1000002) hX dX7_forged_7 mw_1014 ?_
    obtain rfl := Option.some.inj hf
    exact v_iret (r := (-1000002)) hX dX7_forged_9 rfl
set_option maxHeartbeats 4000000 in
set_option maxRecDepth 100000 in
theorem s_X7_itself_112 {P : PT} {M : MT} {D : va_G} {cs : ClassId × ClassId × ClassId} {ad : Nat → Nat} (hX : VOk P M (mW D cs ad) 8 cX7_itself RX7 (some .int) 2) (fuel : Nat) (σ : Mem)   (z : Int32)  (x3 : Int32) (x5 : Int32) (x6 : Int32) (y0 : Int32) (y1 : Int32) (hf : f_X7_itself_112 fuel σ x3 x5 x6 y0 y1 = some z) : V P M (mW D cs ad) 8 (QI P M (mW D cs ad) z σ) 112 [(3, .int x3), (5, .int x5), (6, .int x6)] [.int y0, .int y1] σ := by
  unfold f_X7_itself_112 at hf
  refine v_iadd hX dX7_itself_112 ?_
  refine v_istore [(7, .int (y1 + y0)), (3, .int x3), (5, .int x5), (6, .int x6)] hX dX7_itself_113 (lt_b rfl) rfl ?_
  refine v_iload_n 1 3 hX dX7_itself_115 rfl rfl ?_
  refine v_if_ne 124 hX dX7_itself_116 (by decide) (fun c => ?_) (fun c => ?_)
  · have hf := opt_f c hf
    refine v_iload 0 hX dX7_itself_124 rfl ?_
    refine v_iconst 2 hX dX7_itself_126 (by decide) ?_
    refine v_icmp_ne 134 hX dX7_itself_127 (by decide) (fun c => ?_) (fun c => ?_)
    · have hf := opt_f c hf
      refine v_iload 2 hX dX7_itself_134 rfl ?_
      refine v_if_eq 143 hX dX7_itself_136 (by decide) (fun c => ?_) (fun c => ?_)
      · have hf := opt_t c hf
        refine v_iload 3 hX dX7_itself_143 rfl ?_
        refine v_if_eq 152 hX dX7_itself_145 (by decide) (fun c => ?_) (fun c => ?_)
        · have hf := opt_t c hf
          refine v_iconst 3 hX dX7_itself_152 (by decide) ?_
          obtain rfl := Option.some.inj hf
          exact v_iret (r := 3) hX dX7_itself_153 rfl
        · have hf := opt_f c hf
          refine v_iconst 0 hX dX7_itself_148 (by decide) ?_
          refine v_goto 153 hX dX7_itself_149 (by decide) ?_
          obtain rfl := Option.some.inj hf
          exact v_iret (r := 0) hX dX7_itself_153 rfl
      · have hf := opt_f c hf
        refine v_iconst 1 hX dX7_itself_139 (by decide) ?_
        refine v_goto 153 hX dX7_itself_140 (by decide) ?_
        obtain rfl := Option.some.inj hf
        exact v_iret (r := 1) hX dX7_itself_153 rfl
    · have hf := opt_t c hf
      refine v_iconst 2 hX dX7_itself_130 (by decide) ?_
      refine v_goto 153 hX dX7_itself_131 (by decide) ?_
      obtain rfl := Option.some.inj hf
      exact v_iret (r := 2) hX dX7_itself_153 rfl
  · have hf := opt_t c hf
    refine v_iload 0 hX dX7_itself_119 rfl ?_
    refine v_goto 153 hX dX7_itself_121 (by decide) ?_
    obtain rfl := Option.some.inj hf
    exact v_iret (r := y1 + y0) hX dX7_itself_153 rfl
set_option maxHeartbeats 4000000 in
set_option maxRecDepth 100000 in
theorem s_X7_itself_90 {P : PT} {M : MT} {D : va_G} {cs : ClassId × ClassId × ClassId} {ad : Nat → Nat} (hX : VOk P M (mW D cs ad) 8 cX7_itself RX7 (some .int) 2) (fuel : Nat) (σ : Mem)   (z : Int32)  (x3 : Int32) (x5 : Int32) (y0 : Int32) (hf : f_X7_itself_90 fuel σ x3 x5 y0 = some z) : V P M (mW D cs ad) 8 (QI P M (mW D cs ad) z σ) 90 [(3, .int x3), (5, .int x5)] [.int y0] σ := by
  unfold f_X7_itself_90 at hf
  refine v_istore [(6, .int y0), (3, .int x3), (5, .int x5)] hX dX7_itself_90 (lt_b rfl) rfl ?_
  refine v_iload 2 hX dX7_itself_92 rfl ?_
  refine v_if_eq 101 hX dX7_itself_94 (by decide) (fun c => ?_) (fun c => ?_)
  · have hf := opt_t c hf
    refine v_iconst 0 hX dX7_itself_101 (by decide) ?_
    refine v_iload 0 hX dX7_itself_102 rfl ?_
    refine v_if_eq 111 hX dX7_itself_104 (by decide) (fun c => ?_) (fun c => ?_)
    · have hf := opt_t c hf
      refine v_iconst 0 hX dX7_itself_111 (by decide) ?_
      exact v_sub [1, 2, 0] rfl (s_X7_itself_112 hX fuel σ z  x3 x5 y0 0 0 hf)
    · have hf := opt_f c hf
      refine v_iconst 1 hX dX7_itself_107 (by decide) ?_
      refine v_goto 112 hX dX7_itself_108 (by decide) ?_
      exact v_sub [1, 2, 0] rfl (s_X7_itself_112 hX fuel σ z  x3 x5 y0 1 0 hf)
  · have hf := opt_f c hf
    refine v_iconst 1 hX dX7_itself_97 (by decide) ?_
    refine v_goto 102 hX dX7_itself_98 (by decide) ?_
    refine v_iload 0 hX dX7_itself_102 rfl ?_
    refine v_if_eq 111 hX dX7_itself_104 (by decide) (fun c => ?_) (fun c => ?_)
    · have hf := opt_t c hf
      refine v_iconst 0 hX dX7_itself_111 (by decide) ?_
      exact v_sub [1, 2, 0] rfl (s_X7_itself_112 hX fuel σ z  x3 x5 y0 0 1 hf)
    · have hf := opt_f c hf
      refine v_iconst 1 hX dX7_itself_107 (by decide) ?_
      refine v_goto 112 hX dX7_itself_108 (by decide) ?_
      exact v_sub [1, 2, 0] rfl (s_X7_itself_112 hX fuel σ z  x3 x5 y0 1 1 hf)
set_option maxHeartbeats 4000000 in
set_option maxRecDepth 100000 in
theorem s_X7_itself_67 {P : PT} {M : MT} {D : va_G} {cs : ClassId × ClassId × ClassId} {ad : Nat → Nat} (hX : VOk P M (mW D cs ad) 8 cX7_itself RX7 (some .int) 2) (fuel : Nat) (σ : Mem)   (z : Int32)  (x1 : Int32) (x3 : Int32) (x4 : Int32) (y0 : Int32) (hf : f_X7_itself_67 fuel σ x1 x3 x4 y0 = some z) : V P M (mW D cs ad) 8 (QI P M (mW D cs ad) z σ) 67 [(0, .ref (ad 0)), (1, .int x1), (3, .int x3), (4, .int x4)] [.int y0] σ := by
  unfold f_X7_itself_67 at hf
  refine v_istore [(5, .int y0), (0, .ref (ad 0)), (1, .int x1), (3, .int x3), (4, .int x4)] hX dX7_itself_67 (lt_b rfl) rfl ?_
  refine v_aload_n 1 0 hX dX7_itself_69 rfl rfl ?_
  refine v_get (C := RX7) (T := TX7) (N := 22) (ci := 7) (v := .ref (ad 5)) 0 8 hX dX7_itself_70 mw_844 rfl inlX7 rfl (lt_b rfl) (lt_b rfl) rfl rfl ?_
  refine v_iload 4 hX dX7_itself_73 rfl ?_
  obtain ⟨v6, hc, hf⟩ := opt_b hf
  refine v_callSi (rest := []) (As := [.ref (ad 5), .int x4]) hX dX7_itself_75 (c_X7_standBy_n fuel σ x4 hc) rfl rfl mw_1058 mw_64 mw_1057 mw_1059 gAll ds_X7_standBy rfl ⟨Nat.le_of_ble_eq_true rfl, Nat.le_of_ble_eq_true rfl⟩ (Nat.le_of_ble_eq_true rfl) ?_
  refine v_iload_n 2 1 hX dX7_itself_78 rfl rfl ?_
  refine v_ishr hX dX7_itself_79 ?_
  refine v_iconst 1 hX dX7_itself_80 (by decide) ?_
  refine v_iand hX dX7_itself_81 ?_
  refine v_if_ne 89 hX dX7_itself_82 (by decide) (fun c => ?_) (fun c => ?_)
  · have hf := opt_f c hf
    refine v_iconst 0 hX dX7_itself_89 (by decide) ?_
    exact v_sub [3, 0] rfl (s_X7_itself_90 hX fuel σ z  x3 y0 0 hf)
  · have hf := opt_t c hf
    refine v_iconst 1 hX dX7_itself_85 (by decide) ?_
    refine v_goto 90 hX dX7_itself_86 (by decide) ?_
    exact v_sub [3, 0] rfl (s_X7_itself_90 hX fuel σ z  x3 y0 1 hf)
set_option maxHeartbeats 4000000 in
set_option maxRecDepth 100000 in
theorem c_X7_itself {l : Launch} {D : va_G} {cs : ClassId × ClassId × ClassId} {ad : Nat → Nat} (fuel : Nat) (σ : Mem)  (x1 : Int32) (x2 : Int32) (x3 : Int32) {z : Int32} (hf : f_X7_itself fuel σ x1 x2 x3 = some z) : CtI l (mW D cs ad) 2 yX7_itself cX7_itself 8 (some .int) [.ref (ad 0), .int x1, .int x2, .int x3] σ z σ := by
  refine ct_I RX7 [(0, .ref (ad 0)), (1, .int x1), (2, .int x2), (3, .int x3)] (by decide +kernel) rfl rfl (Nat.le_of_ble_eq_true rfl) ?_
  intro P M hl0 hX
  unfold f_X7_itself at hf
  refine v_aload_n 0 0 hX dX7_itself_0 rfl rfl ?_
  refine v_iload_n 1 1 hX dX7_itself_1 rfl rfl ?_
  obtain ⟨v1, hc, hf⟩ := opt_b hf
  refine v_callVi (rest := []) (As := [.int x1]) (C := RX7) (T := TX7) (N := 22) (ci := 7) 0 hX dX7_itself_2 (c_X7_isDeed σ x1 hc) rfl rfl (lt_b rfl) rfl rfl rfl mw_1078 mw_44 mw_64 mw_1076 mw_1079 gAll ds_X7_isDeed rfl ⟨Nat.le_of_ble_eq_true rfl, Nat.le_of_ble_eq_true rfl⟩ (Nat.le_of_ble_eq_true rfl) ?_
  refine v_if_eq 27 hX dX7_itself_5 (by decide) (fun c => ?_) (fun c => ?_)
  · have hf := opt_t c hf
    refine v_ldc (-1000001) hX dX7_itself_27 mw_916 ?_
    obtain rfl := Option.some.inj hf
    exact v_iret (r := (-1000001)) hX dX7_itself_29 rfl
  · have hf := opt_f c hf
    refine v_iload_n 2 2 hX dX7_itself_8 rfl rfl ?_
    refine v_i2l hX dX7_itself_9 ?_
    refine v_lconst 0 hX dX7_itself_10 (by decide) ?_
    refine v_ldc2 5 hX dX7_itself_11 mw_1019 ?_
    obtain ⟨v2, hc, hf⟩ := opt_b hf
    refine v_callSi (rest := []) (As := [.long x2.toInt64, .long 0, .long 5]) hX dX7_itself_14 (c_X7_in σ x2.toInt64 0 5 hc) rfl rfl mw_913 mw_64 mw_912 mw_914 gAll ds_X7_in rfl ⟨Nat.le_of_ble_eq_true rfl, Nat.le_of_ble_eq_true rfl⟩ (Nat.le_of_ble_eq_true rfl) ?_
    refine v_if_eq 27 hX dX7_itself_17 (by decide) (fun c => ?_) (fun c => ?_)
    · have hf := opt_t c hf
      refine v_ldc (-1000001) hX dX7_itself_27 mw_916 ?_
      obtain rfl := Option.some.inj hf
      exact v_iret (r := (-1000001)) hX dX7_itself_29 rfl
    · have hf := opt_f c hf
      refine v_iload_n 3 3 hX dX7_itself_20 rfl rfl ?_
      obtain ⟨v3, hc, hf⟩ := opt_b hf
      refine v_callSi (rest := []) (As := [.int x3]) hX dX7_itself_21 (c_X7_isTwo σ x3 hc) rfl rfl mw_1087 mw_64 mw_1086 mw_1088 gAll ds_X7_isTwo rfl ⟨Nat.le_of_ble_eq_true rfl, Nat.le_of_ble_eq_true rfl⟩ (Nat.le_of_ble_eq_true rfl) ?_
      refine v_if_ne 30 hX dX7_itself_24 (by decide) (fun c => ?_) (fun c => ?_)
      · have hf := opt_f c hf
        refine v_aload_n 0 0 hX dX7_itself_30 rfl rfl ?_
        refine v_get (C := RX7) (T := TX7) (N := 22) (ci := 7) (v := .ref (ad 5)) 0 8 hX dX7_itself_31 mw_844 rfl inlX7 rfl (lt_b rfl) (lt_b rfl) rfl rfl ?_
        obtain ⟨v4, hc, hf⟩ := opt_b hf
        refine v_callSi (rest := []) (As := [.ref (ad 5)]) hX dX7_itself_34 (c_X7_black_n fuel σ hc) rfl rfl mw_1044 mw_64 mw_1043 mw_1045 gAll ds_X7_black rfl ⟨Nat.le_of_ble_eq_true rfl, Nat.le_of_ble_eq_true rfl⟩ (Nat.le_of_ble_eq_true rfl) ?_
        refine v_istore [(4, .int v4), (0, .ref (ad 0)), (1, .int x1), (2, .int x2), (3, .int x3)] hX dX7_itself_37 (lt_b rfl) rfl ?_
        refine v_aload_n 1 0 hX dX7_itself_39 rfl rfl ?_
        refine v_get (C := RX7) (T := TX7) (N := 22) (ci := 7) (v := .ref (ad 5)) 0 8 hX dX7_itself_40 mw_844 rfl inlX7 rfl (lt_b rfl) (lt_b rfl) rfl rfl ?_
        refine v_iload 0 hX dX7_itself_43 rfl ?_
        refine v_iconst 1 hX dX7_itself_45 (by decide) ?_
        refine v_iload_n 3 2 hX dX7_itself_46 rfl rfl ?_
        refine v_ishl hX dX7_itself_47 ?_
        refine v_iconst (-1) hX dX7_itself_48 (by decide) ?_
        refine v_ixor hX dX7_itself_49 ?_
        refine v_iand hX dX7_itself_50 ?_
        obtain ⟨v5, hc, hf⟩ := opt_b hf
        refine v_callSi (rest := []) (As := [.ref (ad 5), .int (v4 &&& ((1 <<< (x2 &&& 31)) ^^^ (-1)))]) hX dX7_itself_51 (c_X7_standBy_n fuel σ (v4 &&& ((1 <<< (x2 &&& 31)) ^^^ (-1))) hc) rfl rfl mw_1058 mw_64 mw_1057 mw_1059 gAll ds_X7_standBy rfl ⟨Nat.le_of_ble_eq_true rfl, Nat.le_of_ble_eq_true rfl⟩ (Nat.le_of_ble_eq_true rfl) ?_
        refine v_iload_n 2 1 hX dX7_itself_54 rfl rfl ?_
        refine v_ishr hX dX7_itself_55 ?_
        refine v_iconst 1 hX dX7_itself_56 (by decide) ?_
        refine v_iand hX dX7_itself_57 ?_
        refine v_iconst 1 hX dX7_itself_58 (by decide) ?_
        refine v_icmp_ne 66 hX dX7_itself_59 (by decide) (fun c => ?_) (fun c => ?_)
        · have hf := opt_f c hf
          refine v_iconst 0 hX dX7_itself_66 (by decide) ?_
          exact v_sub [1, 2, 4, 0] rfl (s_X7_itself_67 hX fuel σ z  x1 x3 v4 0 hf)
        · have hf := opt_t c hf
          refine v_iconst 1 hX dX7_itself_62 (by decide) ?_
          refine v_goto 67 hX dX7_itself_63 (by decide) ?_
          exact v_sub [1, 2, 4, 0] rfl (s_X7_itself_67 hX fuel σ z  x1 x3 v4 1 hf)
      · have hf := opt_t c hf
        refine v_ldc (-1000001) hX dX7_itself_27 mw_916 ?_
        obtain rfl := Option.some.inj hf
        exact v_iret (r := (-1000001)) hX dX7_itself_29 rfl
set_option maxHeartbeats 4000000 in
set_option maxRecDepth 100000 in
theorem s_X7_years_58 {P : PT} {M : MT} {D : va_G} {cs : ClassId × ClassId × ClassId} {ad : Nat → Nat} (hX : VOk P M (mW D cs ad) 9 cX7_years RX7 (some .int) 2) (fuel : Nat)   (z : Int32 × Mem)  : ∀ (n : Nat) (σ : Mem) (x1 : Int32) (x3 : Int32) (x4 : Int64) (x6 : Int32) (x7 : Int32), f_X7_years_58 fuel n σ x1 x3 x4 x6 x7 = some z → V P M (mW D cs ad) 9 (QI P M (mW D cs ad) z.1 z.2) 58 [(0, .ref (ad 0)), (1, .int x1), (3, .int x3), (4, .long x4), (6, .int x6), (7, .int x7)] [] σ := by
  intro n
  induction n with
  | zero =>
    intro σ x1 x3 x4 x6 x7 hf
    cases hf
  | succ n hk58 =>
    intro σ x1 x3 x4 x6 x7 hf
    rw [f_X7_years_58] at hf
    refine v_iload 5 hX dX7_years_58 rfl ?_
    refine v_iload_n 1 1 hX dX7_years_60 rfl rfl ?_
    refine v_icmp_ge 148 hX dX7_years_61 (by decide) (fun c => ?_) (fun c => ?_)
    · have hf := opt_t c hf
      refine v_iload_n 2 3 hX dX7_years_148 rfl rfl ?_
      refine v_if_ne 157 hX dX7_years_149 (by decide) (fun c => ?_) (fun c => ?_)
      · have hf := opt_f c hf
        refine v_aload_n 0 0 hX dX7_years_157 rfl rfl ?_
        refine v_get (C := RX7) (T := TX7) (N := 22) (ci := 7) (v := .ref (ad 11)) 0 21 hX dX7_years_158 mw_857 rfl inlX7 rfl (lt_b rfl) (lt_b rfl) rfl rfl ?_
        obtain ⟨v5, hc, hf⟩ := opt_b hf
        refine v_callSi (rest := []) (As := [.ref (ad 11)]) hX dX7_years_161 (c_X7_stand_a fuel σ hc) rfl rfl mw_1055 mw_64 mw_1054 mw_1056 gAll ds_X7_stand rfl ⟨Nat.le_of_ble_eq_true rfl, Nat.le_of_ble_eq_true rfl⟩ (Nat.le_of_ble_eq_true rfl) ?_
        obtain rfl := Option.some.inj hf
        exact v_iret (r := v5) hX dX7_years_164 rfl
      · have hf := opt_t c hf
        refine v_iload 4 hX dX7_years_152 rfl ?_
        refine v_goto 164 hX dX7_years_154 (by decide) ?_
        obtain rfl := Option.some.inj hf
        exact v_iret (r := x6) hX dX7_years_164 rfl
    · have hf := opt_f c hf
      refine v_aload_n 0 0 hX dX7_years_64 rfl rfl ?_
      refine v_get (C := RX7) (T := TX7) (N := 22) (ci := 7) (v := .ref (ad 11)) 0 21 hX dX7_years_65 mw_857 rfl inlX7 rfl (lt_b rfl) (lt_b rfl) rfl rfl ?_
      refine v_iconst 3 hX dX7_years_68 (by decide) ?_
      refine v_aldc (v := σ 11 3) 11 3 hX dX7_years_69 (lt_b rfl) ((fun _ => rfl) _) ib_3_85 tn_3 rfl ?_
      refine v_if_le 135 hX dX7_years_70 (by decide) (fun c => ?_) (fun c => ?_)
      · have hf := opt_t c hf
        refine v_aload_n 0 0 hX dX7_years_135 rfl rfl ?_
        refine v_get (C := RX7) (T := TX7) (N := 22) (ci := 7) (v := .ref (ad 11)) 0 21 hX dX7_years_136 mw_857 rfl inlX7 rfl (lt_b rfl) (lt_b rfl) rfl rfl ?_
        obtain ⟨v6, hc, hf⟩ := opt_b hf
        refine v_callSv (rest := []) (As := [.ref (ad 11)]) hX dX7_years_139 (c_X7_dayGoes_a σ fuel hc) rfl rfl mw_1052 mw_64 mw_1051 mw_1053 gAll ds_X7_dayGoes rfl ⟨Nat.le_of_ble_eq_true rfl, Nat.le_of_ble_eq_true rfl⟩ (Nat.le_of_ble_eq_true rfl) ?_
        refine v_iinc 5 (x7 + 1) [(7, .int (x7 + 1)), (0, .ref (ad 0)), (1, .int x1), (3, .int x3), (4, .long x4), (6, .int x6)] hX dX7_years_142 rfl rfl (lt_b rfl) rfl ?_
        refine v_goto 58 hX dX7_years_145 (by decide) ?_
        exact v_sub [1, 2, 3, 4, 5, 0] rfl (hk58 v6 x1 x3 x4 x6 (x7 + 1) hf)
      · have hf := opt_f c hf
        refine v_lload 3 hX dX7_years_73 rfl ?_
        refine v_ldc2 16807 hX dX7_years_75 mw_1185 ?_
        refine v_lmul hX dX7_years_78 ?_
        refine v_ldc2 2147483647 hX dX7_years_79 mw_1186 ?_
        refine v_lrem hX dX7_years_82 (by decide) ?_
        refine v_lstore [(4, .long ((x4 * 16807) - (x4 * 16807) / 2147483647 * 2147483647)), (0, .ref (ad 0)), (1, .int x1), (3, .int x3), (6, .int x6), (7, .int x7)] hX dX7_years_83 (lt_b rfl) rfl ?_
        refine v_lload 0 hX dX7_years_85 rfl ?_
        refine v_aload_n 1 0 hX dX7_years_87 rfl rfl ?_
        refine v_get (C := RX7) (T := TX7) (N := 22) (ci := 7) (v := .ref (ad 11)) 0 21 hX dX7_years_88 mw_857 rfl inlX7 rfl (lt_b rfl) (lt_b rfl) rfl rfl ?_
        refine v_iconst 3 hX dX7_years_91 (by decide) ?_
        refine v_aldc (v := σ 11 3) 11 3 hX dX7_years_92 (lt_b rfl) ((fun _ => rfl) _) ib_3_85 tn_3 rfl ?_
        refine v_i2l hX dX7_years_93 ?_
        obtain ⟨hg7, hf⟩ := gd_some hf
        refine v_lrem hX dX7_years_94 (of_decide_eq_true hg7) ?_
        refine v_l2i hX dX7_years_95 ?_
        refine v_istore [(8, .int ((((x4 * 16807) - (x4 * 16807) / 2147483647 * 2147483647) - ((x4 * 16807) - (x4 * 16807) / 2147483647 * 2147483647) / ((σ 11 3).toInt64) * ((σ 11 3).toInt64)).toInt32)), (4, .long ((x4 * 16807) - (x4 * 16807) / 2147483647 * 2147483647)), (0, .ref (ad 0)), (1, .int x1), (3, .int x3), (6, .int x6), (7, .int x7)] hX dX7_years_96 (lt_b rfl) rfl ?_
        refine v_lload 1 hX dX7_years_98 rfl ?_
        refine v_ldc2 7 hX dX7_years_100 mw_911 ?_
        refine v_lrem hX dX7_years_103 (by decide) ?_
        refine v_lconst 0 hX dX7_years_104 (by decide) ?_
        refine v_lcmp hX dX7_years_105 ?_
        refine v_if_ne 135 hX dX7_years_106 (by decide) (fun c => ?_) (fun c => ?_)
        · have hf := opt_f c hf
          refine v_aload_n 2 0 hX dX7_years_135 rfl rfl ?_
          refine v_get (C := RX7) (T := TX7) (N := 22) (ci := 7) (v := .ref (ad 11)) 0 21 hX dX7_years_136 mw_857 rfl inlX7 rfl (lt_b rfl) (lt_b rfl) rfl rfl ?_
          obtain ⟨v8, hc, hf⟩ := opt_b hf
          refine v_callSv (rest := []) (As := [.ref (ad 11)]) hX dX7_years_139 (c_X7_dayGoes_a σ fuel hc) rfl rfl mw_1052 mw_64 mw_1051 mw_1053 gAll ds_X7_dayGoes rfl ⟨Nat.le_of_ble_eq_true rfl, Nat.le_of_ble_eq_true rfl⟩ (Nat.le_of_ble_eq_true rfl) ?_
          refine v_iinc 6 (x7 + 1) [(7, .int (x7 + 1)), (8, .int ((((x4 * 16807) - (x4 * 16807) / 2147483647 * 2147483647) - ((x4 * 16807) - (x4 * 16807) / 2147483647 * 2147483647) / ((σ 11 3).toInt64) * ((σ 11 3).toInt64)).toInt32)), (4, .long ((x4 * 16807) - (x4 * 16807) / 2147483647 * 2147483647)), (0, .ref (ad 0)), (1, .int x1), (3, .int x3), (6, .int x6)] hX dX7_years_142 rfl rfl (lt_b rfl) rfl ?_
          refine v_goto 58 hX dX7_years_145 (by decide) ?_
          exact v_sub [3, 4, 5, 2, 6, 0] rfl (hk58 v8 x1 x3 ((x4 * 16807) - (x4 * 16807) / 2147483647 * 2147483647) x6 (x7 + 1) hf)
        · have hf := opt_t c hf
          refine v_aload_n 2 0 hX dX7_years_109 rfl rfl ?_
          refine v_get (C := RX7) (T := TX7) (N := 22) (ci := 7) (v := .ref (ad 11)) 0 21 hX dX7_years_110 mw_857 rfl inlX7 rfl (lt_b rfl) (lt_b rfl) rfl rfl ?_
          refine v_iload 0 hX dX7_years_113 rfl ?_
          obtain ⟨v9, hc, hf⟩ := opt_b hf
          refine v_callSi (rest := []) (As := [.ref (ad 11), .int ((((x4 * 16807) - (x4 * 16807) / 2147483647 * 2147483647) - ((x4 * 16807) - (x4 * 16807) / 2147483647 * 2147483647) / ((σ 11 3).toInt64) * ((σ 11 3).toInt64)).toInt32)]) hX dX7_years_115 (c_X7_mayRecall_a σ ((((x4 * 16807) - (x4 * 16807) / 2147483647 * 2147483647) - ((x4 * 16807) - (x4 * 16807) / 2147483647 * 2147483647) / ((σ 11 3).toInt64) * ((σ 11 3).toInt64)).toInt32) hc) rfl rfl mw_1038 mw_64 mw_1037 mw_1039 gAll ds_X7_mayRecall rfl ⟨Nat.le_of_ble_eq_true rfl, Nat.le_of_ble_eq_true rfl⟩ (Nat.le_of_ble_eq_true rfl) ?_
          refine v_if_eq 135 hX dX7_years_118 (by decide) (fun c => ?_) (fun c => ?_)
          · have hf := opt_t c hf
            refine v_aload_n 2 0 hX dX7_years_135 rfl rfl ?_
            refine v_get (C := RX7) (T := TX7) (N := 22) (ci := 7) (v := .ref (ad 11)) 0 21 hX dX7_years_136 mw_857 rfl inlX7 rfl (lt_b rfl) (lt_b rfl) rfl rfl ?_
            obtain ⟨v10, hc, hf⟩ := opt_b hf
            refine v_callSv (rest := []) (As := [.ref (ad 11)]) hX dX7_years_139 (c_X7_dayGoes_a σ fuel hc) rfl rfl mw_1052 mw_64 mw_1051 mw_1053 gAll ds_X7_dayGoes rfl ⟨Nat.le_of_ble_eq_true rfl, Nat.le_of_ble_eq_true rfl⟩ (Nat.le_of_ble_eq_true rfl) ?_
            refine v_iinc 6 (x7 + 1) [(7, .int (x7 + 1)), (8, .int ((((x4 * 16807) - (x4 * 16807) / 2147483647 * 2147483647) - ((x4 * 16807) - (x4 * 16807) / 2147483647 * 2147483647) / ((σ 11 3).toInt64) * ((σ 11 3).toInt64)).toInt32)), (4, .long ((x4 * 16807) - (x4 * 16807) / 2147483647 * 2147483647)), (0, .ref (ad 0)), (1, .int x1), (3, .int x3), (6, .int x6)] hX dX7_years_142 rfl rfl (lt_b rfl) rfl ?_
            refine v_goto 58 hX dX7_years_145 (by decide) ?_
            exact v_sub [3, 4, 5, 2, 6, 0] rfl (hk58 v10 x1 x3 ((x4 * 16807) - (x4 * 16807) / 2147483647 * 2147483647) x6 (x7 + 1) hf)
          · have hf := opt_f c hf
            refine v_aload_n 2 0 hX dX7_years_121 rfl rfl ?_
            refine v_get (C := RX7) (T := TX7) (N := 22) (ci := 7) (v := .ref (ad 11)) 0 21 hX dX7_years_122 mw_857 rfl inlX7 rfl (lt_b rfl) (lt_b rfl) rfl rfl ?_
            refine v_bipush 55 hX dX7_years_125 (by decide) ?_
            refine v_iload 0 hX dX7_years_127 rfl ?_
            refine v_iadd hX dX7_years_129 ?_
            refine v_iconst 1 hX dX7_years_130 (by decide) ?_
            obtain ⟨hi11, hf⟩ := gd_some hf
            refine v_ast 11 hX dX7_years_131 (lt_b rfl) (fun _ => rfl) hi11 ?_
            refine v_iinc 5 (x6 + 1) [(6, .int (x6 + 1)), (8, .int ((((x4 * 16807) - (x4 * 16807) / 2147483647 * 2147483647) - ((x4 * 16807) - (x4 * 16807) / 2147483647 * 2147483647) / ((σ 11 3).toInt64) * ((σ 11 3).toInt64)).toInt32)), (4, .long ((x4 * 16807) - (x4 * 16807) / 2147483647 * 2147483647)), (0, .ref (ad 0)), (1, .int x1), (3, .int x3), (7, .int x7)] hX dX7_years_132 rfl rfl (lt_b rfl) rfl ?_
            refine v_aload_n 3 0 hX dX7_years_135 rfl rfl ?_
            refine v_get (C := RX7) (T := TX7) (N := 22) (ci := 7) (v := .ref (ad 11)) 0 21 hX dX7_years_136 mw_857 rfl inlX7 rfl (lt_b rfl) (lt_b rfl) rfl rfl ?_
            obtain ⟨v12, hc, hf⟩ := opt_b hf
            refine v_callSv (rest := []) (As := [.ref (ad 11)]) hX dX7_years_139 (c_X7_dayGoes_a (mst σ 11 ((55 + ((((x4 * 16807) - (x4 * 16807) / 2147483647 * 2147483647) - ((x4 * 16807) - (x4 * 16807) / 2147483647 * 2147483647) / ((σ 11 3).toInt64) * ((σ 11 3).toInt64)).toInt32)).toNatClampNeg) 1) fuel hc) rfl rfl mw_1052 mw_64 mw_1051 mw_1053 gAll ds_X7_dayGoes rfl ⟨Nat.le_of_ble_eq_true rfl, Nat.le_of_ble_eq_true rfl⟩ (Nat.le_of_ble_eq_true rfl) ?_
            refine v_iinc 6 (x7 + 1) [(7, .int (x7 + 1)), (6, .int (x6 + 1)), (8, .int ((((x4 * 16807) - (x4 * 16807) / 2147483647 * 2147483647) - ((x4 * 16807) - (x4 * 16807) / 2147483647 * 2147483647) / ((σ 11 3).toInt64) * ((σ 11 3).toInt64)).toInt32)), (4, .long ((x4 * 16807) - (x4 * 16807) / 2147483647 * 2147483647)), (0, .ref (ad 0)), (1, .int x1), (3, .int x3)] hX dX7_years_142 rfl rfl (lt_b rfl) rfl ?_
            refine v_goto 58 hX dX7_years_145 (by decide) ?_
            exact v_sub [4, 5, 6, 3, 1, 0] rfl (hk58 v12 x1 x3 ((x4 * 16807) - (x4 * 16807) / 2147483647 * 2147483647) (x6 + 1) (x7 + 1) hf)
set_option maxHeartbeats 4000000 in
set_option maxRecDepth 100000 in
theorem c_X7_years {l : Launch} {D : va_G} {cs : ClassId × ClassId × ClassId} {ad : Nat → Nat} (σ : Mem) (fuel : Nat)  (x1 : Int32) (x2 : Int32) (x3 : Int32) {z : Int32 × Mem} (hf : f_X7_years fuel σ x1 x2 x3 = some z) : CtI l (mW D cs ad) 2 yX7_years cX7_years 9 (some .int) [.ref (ad 0), .int x1, .int x2, .int x3] σ z.1 z.2 := by
  refine ct_I RX7 [(0, .ref (ad 0)), (1, .int x1), (2, .int x2), (3, .int x3)] (by decide +kernel) rfl rfl (Nat.le_of_ble_eq_true rfl) ?_
  intro P M hl0 hX
  unfold f_X7_years at hf
  refine v_aload_n 0 0 hX dX7_years_0 rfl rfl ?_
  refine v_get (C := RX7) (T := TX7) (N := 22) (ci := 7) (v := .int (σ 0 7)) 0 7 hX dX7_years_1 mw_843 rfl inlX7 rfl (lt_b rfl) (lt_b rfl) rfl rfl ?_
  refine v_if_ne 10 hX dX7_years_4 (by decide) (fun c => ?_) (fun c => ?_)
  · have hf := opt_f c hf
    refine v_iload_n 1 1 hX dX7_years_10 rfl rfl ?_
    refine v_i2l hX dX7_years_11 ?_
    refine v_lconst 0 hX dX7_years_12 (by decide) ?_
    refine v_ldc2 100 hX dX7_years_13 mw_1183 ?_
    obtain ⟨v1, hc, hf⟩ := opt_b hf
    refine v_callSi (rest := []) (As := [.long x1.toInt64, .long 0, .long 100]) hX dX7_years_16 (c_X7_in σ x1.toInt64 0 100 hc) rfl rfl mw_913 mw_64 mw_912 mw_914 gAll ds_X7_in rfl ⟨Nat.le_of_ble_eq_true rfl, Nat.le_of_ble_eq_true rfl⟩ (Nat.le_of_ble_eq_true rfl) ?_
    refine v_if_eq 41 hX dX7_years_19 (by decide) (fun c => ?_) (fun c => ?_)
    · have hf := opt_t c hf
      refine v_ldc (-1000001) hX dX7_years_41 mw_916 ?_
      obtain rfl := Option.some.inj hf
      exact v_iret (r := (-1000001)) hX dX7_years_43 rfl
    · have hf := opt_f c hf
      refine v_iload_n 2 2 hX dX7_years_22 rfl rfl ?_
      refine v_i2l hX dX7_years_23 ?_
      refine v_lconst 1 hX dX7_years_24 (by decide) ?_
      refine v_ldc2 999999 hX dX7_years_25 mw_1184 ?_
      obtain ⟨v2, hc, hf⟩ := opt_b hf
      refine v_callSi (rest := []) (As := [.long x2.toInt64, .long 1, .long 999999]) hX dX7_years_28 (c_X7_in σ x2.toInt64 1 999999 hc) rfl rfl mw_913 mw_64 mw_912 mw_914 gAll ds_X7_in rfl ⟨Nat.le_of_ble_eq_true rfl, Nat.le_of_ble_eq_true rfl⟩ (Nat.le_of_ble_eq_true rfl) ?_
      refine v_if_eq 41 hX dX7_years_31 (by decide) (fun c => ?_) (fun c => ?_)
      · have hf := opt_t c hf
        refine v_ldc (-1000001) hX dX7_years_41 mw_916 ?_
        obtain rfl := Option.some.inj hf
        exact v_iret (r := (-1000001)) hX dX7_years_43 rfl
      · have hf := opt_f c hf
        refine v_iload_n 3 3 hX dX7_years_34 rfl rfl ?_
        obtain ⟨v3, hc, hf⟩ := opt_b hf
        refine v_callSi (rest := []) (As := [.int x3]) hX dX7_years_35 (c_X7_isTwo σ x3 hc) rfl rfl mw_1087 mw_64 mw_1086 mw_1088 gAll ds_X7_isTwo rfl ⟨Nat.le_of_ble_eq_true rfl, Nat.le_of_ble_eq_true rfl⟩ (Nat.le_of_ble_eq_true rfl) ?_
        refine v_if_ne 44 hX dX7_years_38 (by decide) (fun c => ?_) (fun c => ?_)
        · have hf := opt_f c hf
          refine v_aload_n 0 0 hX dX7_years_44 rfl rfl ?_
          obtain ⟨v4, hc, hf⟩ := opt_b hf
          refine v_callVv (rest := []) (As := []) (C := RX7) (T := TX7) (N := 22) (ci := 7) 0 hX dX7_years_45 (c_X7_layAside σ fuel hc) rfl rfl (lt_b rfl) rfl rfl rfl mw_1103 mw_47 mw_64 mw_1101 mw_1104 gAll ds_X7_layAside rfl ⟨Nat.le_of_ble_eq_true rfl, Nat.le_of_ble_eq_true rfl⟩ (Nat.le_of_ble_eq_true rfl) ?_
          refine v_iload_n 2 2 hX dX7_years_48 rfl rfl ?_
          refine v_i2l hX dX7_years_49 ?_
          refine v_lstore [(4, .long x2.toInt64), (0, .ref (ad 0)), (1, .int x1), (2, .int x2), (3, .int x3)] hX dX7_years_50 (lt_b rfl) rfl ?_
          refine v_iconst 0 hX dX7_years_52 (by decide) ?_
          refine v_istore [(6, .int 0), (4, .long x2.toInt64), (0, .ref (ad 0)), (1, .int x1), (2, .int x2), (3, .int x3)] hX dX7_years_53 (lt_b rfl) rfl ?_
          refine v_iconst 0 hX dX7_years_55 (by decide) ?_
          refine v_istore [(7, .int 0), (6, .int 0), (4, .long x2.toInt64), (0, .ref (ad 0)), (1, .int x1), (2, .int x2), (3, .int x3)] hX dX7_years_56 (lt_b rfl) rfl ?_
          exact v_sub [3, 4, 6, 2, 1, 0] rfl (s_X7_years_58 hX fuel z  fuel v4 x1 x3 x2.toInt64 0 0 hf)
        · have hf := opt_t c hf
          refine v_ldc (-1000001) hX dX7_years_41 mw_916 ?_
          obtain rfl := Option.some.inj hf
          exact v_iret (r := (-1000001)) hX dX7_years_43 rfl
  · have hf := opt_t c hf
    refine v_ldc (-1000002) hX dX7_years_7 mw_1014 ?_
    obtain rfl := Option.some.inj hf
    exact v_iret (r := (-1000002)) hX dX7_years_9 rfl
set_option maxHeartbeats 4000000 in
set_option maxRecDepth 100000 in
theorem c_X7_image {l : Launch} {D : va_G} {cs : ClassId × ClassId × ClassId} {ad : Nat → Nat} (σ : Mem) (fuel : Nat)  (x1 : Int32) {z : Int32 × Mem} (hf : f_X7_image fuel σ x1 = some z) : CtI l (mW D cs ad) 2 yX7_image cX7_image 2 (some .int) [.ref (ad 0), .int x1] σ z.1 z.2 := by
  refine ct_I RX7 [(0, .ref (ad 0)), (1, .int x1)] (by decide +kernel) rfl rfl (Nat.le_of_ble_eq_true rfl) ?_
  intro P M hl0 hX
  unfold f_X7_image at hf
  refine v_iload_n 1 1 hX dX7_image_0 rfl rfl ?_
  obtain ⟨v1, hc, hf⟩ := opt_b hf
  refine v_callSi (rest := []) (As := [.int x1]) hX dX7_image_1 (c_X7_isTwo σ x1 hc) rfl rfl mw_1087 mw_64 mw_1086 mw_1088 gAll ds_X7_isTwo rfl ⟨Nat.le_of_ble_eq_true rfl, Nat.le_of_ble_eq_true rfl⟩ (Nat.le_of_ble_eq_true rfl) ?_
  refine v_if_ne 10 hX dX7_image_4 (by decide) (fun c => ?_) (fun c => ?_)
  · have hf := opt_f c hf
    refine v_aload_n 0 0 hX dX7_image_10 rfl rfl ?_
    refine v_get (C := RX7) (T := TX7) (N := 22) (ci := 7) (v := .int (σ 0 7)) 0 7 hX dX7_image_11 mw_843 rfl inlX7 rfl (lt_b rfl) (lt_b rfl) rfl rfl ?_
    refine v_if_ne 20 hX dX7_image_14 (by decide) (fun c => ?_) (fun c => ?_)
    · have hf := opt_f c hf
      refine v_aload_n 0 0 hX dX7_image_20 rfl rfl ?_
      refine v_get (C := RX7) (T := TX7) (N := 22) (ci := 7) (v := .ref (ad 5)) 0 8 hX dX7_image_21 mw_844 rfl inlX7 rfl (lt_b rfl) (lt_b rfl) rfl rfl ?_
      refine v_iconst 0 hX dX7_image_24 (by decide) ?_
      refine v_aload_n 0 0 hX dX7_image_25 rfl rfl ?_
      refine v_get (C := RX7) (T := TX7) (N := 22) (ci := 7) (v := .ref (ad 7)) 0 11 hX dX7_image_26 mw_847 rfl inlX7 rfl (lt_b rfl) (lt_b rfl) rfl rfl ?_
      refine v_bipush 85 hX dX7_image_29 (by decide) ?_
      refine v_iload_n 1 1 hX dX7_image_31 rfl rfl ?_
      refine v_imul hX dX7_image_32 ?_
      obtain ⟨v2, hc, hf⟩ := opt_b hf
      refine v_callSv (rest := []) (As := [.ref (ad 5), .int 0, .ref (ad 7), .int (85 * x1)]) hX dX7_image_33 (c_X7_copies_5_7 σ fuel 0 (85 * x1) hc) rfl rfl mw_1004 mw_64 mw_1003 mw_1005 gAll ds_X7_copies rfl ⟨Nat.le_of_ble_eq_true rfl, Nat.le_of_ble_eq_true rfl⟩ (Nat.le_of_ble_eq_true rfl) ?_
      refine v_aload_n 0 0 hX dX7_image_36 rfl rfl ?_
      refine v_get (C := RX7) (T := TX7) (N := 22) (ci := 7) (v := .ref (ad 8)) 0 12 hX dX7_image_37 mw_848 rfl inlX7 rfl (lt_b rfl) (lt_b rfl) rfl rfl ?_
      refine v_iload_n 1 1 hX dX7_image_40 rfl rfl ?_
      refine v_iconst 1 hX dX7_image_41 (by decide) ?_
      obtain ⟨hi3, hf⟩ := gd_some hf
      refine v_zast 8 hX dX7_image_42 (lt_b rfl) (fun _ => rfl) hi3 rfl ?_
      refine v_iconst 1 hX dX7_image_43 (by decide) ?_
      obtain rfl := Option.some.inj hf
      exact v_iret (r := 1) hX dX7_image_44 rfl
    · have hf := opt_t c hf
      refine v_ldc (-1000002) hX dX7_image_17 mw_1014 ?_
      obtain rfl := Option.some.inj hf
      exact v_iret (r := (-1000002)) hX dX7_image_19 rfl
  · have hf := opt_t c hf
    refine v_ldc (-1000001) hX dX7_image_7 mw_916 ?_
    obtain rfl := Option.some.inj hf
    exact v_iret (r := (-1000001)) hX dX7_image_9 rfl
