set_option maxHeartbeats 4000000 in
set_option maxRecDepth 100000 in
theorem s_X7_isOrder_4 {P : PT} {M : MT} {D : va_G} {cs : ClassId × ClassId × ClassId} {ad : Nat → Nat} (hX : VOk P M (mW D cs ad) 4 cX7_isOrder RX7 (some .boolean) 1) (fuel : Nat) (σ : Mem)   (z : Int32)  : ∀ (n : Nat) (x1 : Int32) (x2 : Int32) (x3 : Int32), f_X7_isOrder_4 fuel σ n x1 x2 x3 = some z → V P M (mW D cs ad) 4 (QI P M (mW D cs ad) z σ) 4 [(0, .ref (ad 0)), (1, .int x1), (2, .int x2), (3, .int x3)] [] σ := by
  intro n
  induction n with
  | zero =>
    intro x1 x2 x3 hf
    cases hf
  | succ n hk4 =>
    intro x1 x2 x3 hf
    rw [f_X7_isOrder_4] at hf
    refine v_iload_n 3 3 hX dX7_isOrder_4 rfl rfl ?_
    refine v_aload_n 0 0 hX dX7_isOrder_5 rfl rfl ?_
    refine v_get (C := RX7) (T := TX7) (N := 22) (ci := 7) (v := .ref (ad 5)) 0 8 hX dX7_isOrder_6 mw_844 rfl inlX7 rfl (lt_b rfl) (lt_b rfl) rfl rfl ?_
    refine v_iconst 2 hX dX7_isOrder_9 (by decide) ?_
    refine v_aldc (v := σ 5 2) 5 2 hX dX7_isOrder_10 (lt_b rfl) ((fun _ => rfl) _) ib_2_85 tn_2 rfl ?_
    refine v_icmp_ge 31 hX dX7_isOrder_11 (by decide) (fun c => ?_) (fun c => ?_)
    · have hf := opt_t c hf
      refine v_iload_n 2 2 hX dX7_isOrder_31 rfl rfl ?_
      refine v_iconst 1 hX dX7_isOrder_32 (by decide) ?_
      refine v_aload_n 0 0 hX dX7_isOrder_33 rfl rfl ?_
      refine v_get (C := RX7) (T := TX7) (N := 22) (ci := 7) (v := .ref (ad 5)) 0 8 hX dX7_isOrder_34 mw_844 rfl inlX7 rfl (lt_b rfl) (lt_b rfl) rfl rfl ?_
      refine v_iconst 2 hX dX7_isOrder_37 (by decide) ?_
      refine v_aldc (v := σ 5 2) 5 2 hX dX7_isOrder_38 (lt_b rfl) ((fun _ => rfl) _) ib_2_85 tn_2 rfl ?_
      refine v_ishl hX dX7_isOrder_39 ?_
      refine v_iconst 1 hX dX7_isOrder_40 (by decide) ?_
      refine v_isub hX dX7_isOrder_41 ?_
      refine v_icmp_ne 49 hX dX7_isOrder_42 (by decide) (fun c => ?_) (fun c => ?_)
      · have hf := opt_f c hf
        refine v_iconst 0 hX dX7_isOrder_49 (by decide) ?_
        obtain rfl := Option.some.inj hf
        exact v_iret (r := 0) hX dX7_isOrder_50 rfl
      · have hf := opt_t c hf
        refine v_iconst 1 hX dX7_isOrder_45 (by decide) ?_
        refine v_goto 50 hX dX7_isOrder_46 (by decide) ?_
        obtain rfl := Option.some.inj hf
        exact v_iret (r := 1) hX dX7_isOrder_50 rfl
    · have hf := opt_f c hf
      refine v_iload_n 2 2 hX dX7_isOrder_14 rfl rfl ?_
      refine v_iconst 1 hX dX7_isOrder_15 (by decide) ?_
      refine v_aload_n 0 0 hX dX7_isOrder_16 rfl rfl ?_
      refine v_iload_n 1 1 hX dX7_isOrder_17 rfl rfl ?_
      refine v_iload_n 3 3 hX dX7_isOrder_18 rfl rfl ?_
      obtain ⟨v1, hc, hf⟩ := opt_b hf
      refine v_callVi (rest := [.int 1, .int x2]) (As := [.int x1, .int x3]) (C := RX7) (T := TX7) (N := 22) (ci := 7) 0 hX dX7_isOrder_19 (c_X7_handAt σ x1 x3 hc) rfl rfl (lt_b rfl) rfl rfl rfl mw_1160 mw_50 mw_64 mw_1158 mw_1161 gAll ds_X7_handAt rfl ⟨Nat.le_of_ble_eq_true rfl, Nat.le_of_ble_eq_true rfl⟩ (Nat.le_of_ble_eq_true rfl) ?_
      refine v_ishl hX dX7_isOrder_22 ?_
      refine v_ior hX dX7_isOrder_23 ?_
      refine v_istore_n 2 [(2, .int (x2 ||| (1 <<< (v1 &&& 31)))), (0, .ref (ad 0)), (1, .int x1), (3, .int x3)] hX dX7_isOrder_24 rfl (lt_b rfl) rfl ?_
      refine v_iinc 3 (x3 + 1) [(3, .int (x3 + 1)), (2, .int (x2 ||| (1 <<< (v1 &&& 31)))), (0, .ref (ad 0)), (1, .int x1)] hX dX7_isOrder_25 rfl rfl (lt_b rfl) rfl ?_
      refine v_goto 4 hX dX7_isOrder_28 (by decide) ?_
      exact v_sub [2, 3, 1, 0] rfl (hk4 x1 (x2 ||| (1 <<< (v1 &&& 31))) (x3 + 1) hf)
set_option maxHeartbeats 4000000 in
set_option maxRecDepth 100000 in
theorem c_X7_isOrder {l : Launch} {D : va_G} {cs : ClassId × ClassId × ClassId} {ad : Nat → Nat} (fuel : Nat) (σ : Mem)  (x1 : Int32) {z : Int32} (hf : f_X7_isOrder fuel σ x1 = some z) : CtI l (mW D cs ad) 1 yX7_isOrder cX7_isOrder 4 (some .boolean) [.ref (ad 0), .int x1] σ z σ := by
  refine ct_I RX7 [(0, .ref (ad 0)), (1, .int x1)] (by decide +kernel) rfl rfl (Nat.le_of_ble_eq_true rfl) ?_
  intro P M hl0 hX
  unfold f_X7_isOrder at hf
  refine v_iconst 0 hX dX7_isOrder_0 (by decide) ?_
  refine v_istore_n 2 [(2, .int 0), (0, .ref (ad 0)), (1, .int x1)] hX dX7_isOrder_1 rfl (lt_b rfl) rfl ?_
  refine v_iconst 0 hX dX7_isOrder_2 (by decide) ?_
  refine v_istore_n 3 [(3, .int 0), (2, .int 0), (0, .ref (ad 0)), (1, .int x1)] hX dX7_isOrder_3 rfl (lt_b rfl) rfl ?_
  exact v_sub [2, 3, 1, 0] rfl (s_X7_isOrder_4 hX fuel σ z  fuel x1 0 0 hf)
set_option maxHeartbeats 4000000 in
set_option maxRecDepth 100000 in
theorem s_X7_canBe_108 {P : PT} {M : MT} {D : va_G} {cs : ClassId × ClassId × ClassId} {ad : Nat → Nat} (hX : VOk P M (mW D cs ad) 5 cX7_canBe RX7 (some .boolean) 1) (σ : Mem)   (z : Int32)  (x1 : Int32) (x4 : Int32) (hf : f_X7_canBe_108 σ x1 x4 = some z) : V P M (mW D cs ad) 5 (QI P M (mW D cs ad) z σ) 108 [(0, .ref (ad 0)), (1, .int x1), (4, .int x4)] [] σ := by
  unfold f_X7_canBe_108 at hf
  refine v_iload 2 hX dX7_canBe_108 rfl ?_
  refine v_aload_n 0 0 hX dX7_canBe_110 rfl rfl ?_
  refine v_get (C := RX7) (T := TX7) (N := 22) (ci := 7) (v := .ref (ad 5)) 0 8 hX dX7_canBe_111 mw_844 rfl inlX7 rfl (lt_b rfl) (lt_b rfl) rfl rfl ?_
  refine v_aload_n 0 0 hX dX7_canBe_114 rfl rfl ?_
  refine v_get (C := RX7) (T := TX7) (N := 22) (ci := 7) (v := .ref (ad 5)) 0 8 hX dX7_canBe_115 mw_844 rfl inlX7 rfl (lt_b rfl) (lt_b rfl) rfl rfl ?_
  refine v_bipush 25 hX dX7_canBe_118 (by decide) ?_
  refine v_iload_n 1 1 hX dX7_canBe_120 rfl rfl ?_
  refine v_iadd hX dX7_canBe_121 ?_
  obtain ⟨hi6, hf⟩ := gd_some hf
  refine v_ald (v := σ 5 ((25 + x1).toNatClampNeg)) 5 hX dX7_canBe_122 (lt_b rfl) ((fun _ => rfl) _) hi6 rfl ?_
  obtain ⟨v7, hc, hf⟩ := opt_b hf
  refine v_callSi (rest := [.int x4]) (As := [.ref (ad 5), .int (σ 5 ((25 + x1).toNatClampNeg))]) hX dX7_canBe_123 (c_X7_limit_n σ (σ 5 ((25 + x1).toNatClampNeg)) hc) rfl rfl mw_1041 mw_64 mw_1040 mw_1042 gAll ds_X7_limit rfl ⟨Nat.le_of_ble_eq_true rfl, Nat.le_of_ble_eq_true rfl⟩ (Nat.le_of_ble_eq_true rfl) ?_
  refine v_icmp_gt 133 hX dX7_canBe_126 (by decide) (fun c => ?_) (fun c => ?_)
  · have hf := opt_t c hf
    refine v_iconst 0 hX dX7_canBe_133 (by decide) ?_
    obtain rfl := Option.some.inj hf
    exact v_iret (r := 0) hX dX7_canBe_134 rfl
  · have hf := opt_f c hf
    refine v_iconst 1 hX dX7_canBe_129 (by decide) ?_
    refine v_goto 134 hX dX7_canBe_130 (by decide) ?_
    obtain rfl := Option.some.inj hf
    exact v_iret (r := 1) hX dX7_canBe_134 rfl
set_option maxHeartbeats 4000000 in
set_option maxRecDepth 100000 in
theorem s_X7_canBe_26 {P : PT} {M : MT} {D : va_G} {cs : ClassId × ClassId × ClassId} {ad : Nat → Nat} (hX : VOk P M (mW D cs ad) 5 cX7_canBe RX7 (some .boolean) 1) (σ : Mem)   (z : Int32)  (x1 : Int32) (x2 : Int32) (y0 : Int32) (hf : f_X7_canBe_26 σ x1 x2 y0 = some z) : V P M (mW D cs ad) 5 (QI P M (mW D cs ad) z σ) 26 [(0, .ref (ad 0)), (1, .int x1), (2, .int x2)] [.int y0] σ := by
  unfold f_X7_canBe_26 at hf
  refine v_istore_n 3 [(3, .int y0), (0, .ref (ad 0)), (1, .int x1), (2, .int x2)] hX dX7_canBe_26 rfl (lt_b rfl) rfl ?_
  refine v_iload_n 3 2 hX dX7_canBe_27 rfl rfl ?_
  refine v_iconst (-1) hX dX7_canBe_28 (by decide) ?_
  refine v_icmp_ne 34 hX dX7_canBe_29 (by decide) (fun c => ?_) (fun c => ?_)
  · have hf := opt_f c hf
    refine v_iload_n 3 2 hX dX7_canBe_34 rfl rfl ?_
    refine v_aload_n 1 0 hX dX7_canBe_35 rfl rfl ?_
    refine v_get (C := RX7) (T := TX7) (N := 22) (ci := 7) (v := .ref (ad 5)) 0 8 hX dX7_canBe_36 mw_844 rfl inlX7 rfl (lt_b rfl) (lt_b rfl) rfl rfl ?_
    refine v_bipush 45 hX dX7_canBe_39 (by decide) ?_
    refine v_iload_n 2 1 hX dX7_canBe_41 rfl rfl ?_
    refine v_iadd hX dX7_canBe_42 ?_
    obtain ⟨hi3, hf⟩ := gd_some hf
    refine v_ald (v := σ 5 ((45 + x1).toNatClampNeg)) 5 hX dX7_canBe_43 (lt_b rfl) ((fun _ => rfl) _) hi3 rfl ?_
    refine v_isub hX dX7_canBe_44 ?_
    refine v_istore [(4, .int (x2 - (σ 5 ((45 + x1).toNatClampNeg)))), (3, .int y0), (0, .ref (ad 0)), (1, .int x1), (2, .int x2)] hX dX7_canBe_45 (lt_b rfl) rfl ?_
    refine v_iload_n 4 2 hX dX7_canBe_47 rfl rfl ?_
    refine v_i2l hX dX7_canBe_48 ?_
    refine v_aload_n 2 0 hX dX7_canBe_49 rfl rfl ?_
    refine v_get (C := RX7) (T := TX7) (N := 22) (ci := 7) (v := .ref (ad 5)) 0 8 hX dX7_canBe_50 mw_844 rfl inlX7 rfl (lt_b rfl) (lt_b rfl) rfl rfl ?_
    refine v_bipush 45 hX dX7_canBe_53 (by decide) ?_
    refine v_iload_n 3 1 hX dX7_canBe_55 rfl rfl ?_
    refine v_iadd hX dX7_canBe_56 ?_
    obtain ⟨hi4, hf⟩ := gd_some hf
    refine v_ald (v := σ 5 ((45 + x1).toNatClampNeg)) 5 hX dX7_canBe_57 (lt_b rfl) ((fun _ => rfl) _) hi4 rfl ?_
    refine v_i2l hX dX7_canBe_58 ?_
    refine v_aload_n 2 0 hX dX7_canBe_59 rfl rfl ?_
    refine v_get (C := RX7) (T := TX7) (N := 22) (ci := 7) (v := .ref (ad 5)) 0 8 hX dX7_canBe_60 mw_844 rfl inlX7 rfl (lt_b rfl) (lt_b rfl) rfl rfl ?_
    refine v_iconst 5 hX dX7_canBe_63 (by decide) ?_
    refine v_aldc (v := σ 5 5) 5 5 hX dX7_canBe_64 (lt_b rfl) ((fun _ => rfl) _) ib_5_85 tn_5 rfl ?_
    refine v_i2l hX dX7_canBe_65 ?_
    obtain ⟨v5, hc, hf⟩ := opt_b hf
    refine v_callSi (rest := []) (As := [.long x2.toInt64, .long ((σ 5 ((45 + x1).toNatClampNeg)).toInt64), .long ((σ 5 5).toInt64)]) hX dX7_canBe_66 (c_X7_in σ x2.toInt64 ((σ 5 ((45 + x1).toNatClampNeg)).toInt64) ((σ 5 5).toInt64) hc) rfl rfl mw_913 mw_64 mw_912 mw_914 gAll ds_X7_in rfl ⟨Nat.le_of_ble_eq_true rfl, Nat.le_of_ble_eq_true rfl⟩ (Nat.le_of_ble_eq_true rfl) ?_
    refine v_if_ne 74 hX dX7_canBe_69 (by decide) (fun c => ?_) (fun c => ?_)
    · have hf := opt_f c hf
      refine v_iload_n 1 3 hX dX7_canBe_74 rfl rfl ?_
      refine v_if_eq 108 hX dX7_canBe_75 (by decide) (fun c => ?_) (fun c => ?_)
      · have hf := opt_t c hf
        exact v_sub [2, 3, 0] rfl (s_X7_canBe_108 hX σ z  x1 (x2 - (σ 5 ((45 + x1).toNatClampNeg))) hf)
      · have hf := opt_f c hf
        refine v_iload 0 hX dX7_canBe_78 rfl ?_
        refine v_aload_n 2 0 hX dX7_canBe_80 rfl rfl ?_
        refine v_get (C := RX7) (T := TX7) (N := 22) (ci := 7) (v := .ref (ad 5)) 0 8 hX dX7_canBe_81 mw_844 rfl inlX7 rfl (lt_b rfl) (lt_b rfl) rfl rfl ?_
        refine v_iconst 1 hX dX7_canBe_84 (by decide) ?_
        refine v_aldc (v := σ 5 1) 5 1 hX dX7_canBe_85 (lt_b rfl) ((fun _ => rfl) _) ib_1_85 tn_1 rfl ?_
        refine v_icmp_lt 108 hX dX7_canBe_86 (by decide) (fun c => ?_) (fun c => ?_)
        · have hf := opt_t c hf
          exact v_sub [2, 3, 0] rfl (s_X7_canBe_108 hX σ z  x1 (x2 - (σ 5 ((45 + x1).toNatClampNeg))) hf)
        · have hf := opt_f c hf
          refine v_iload 0 hX dX7_canBe_89 rfl ?_
          refine v_aload_n 2 0 hX dX7_canBe_91 rfl rfl ?_
          refine v_get (C := RX7) (T := TX7) (N := 22) (ci := 7) (v := .ref (ad 5)) 0 8 hX dX7_canBe_92 mw_844 rfl inlX7 rfl (lt_b rfl) (lt_b rfl) rfl rfl ?_
          refine v_iconst 1 hX dX7_canBe_95 (by decide) ?_
          refine v_aldc (v := σ 5 1) 5 1 hX dX7_canBe_96 (lt_b rfl) ((fun _ => rfl) _) ib_1_85 tn_1 rfl ?_
          refine v_icmp_ne 104 hX dX7_canBe_97 (by decide) (fun c => ?_) (fun c => ?_)
          · have hf := opt_f c hf
            refine v_iconst 0 hX dX7_canBe_104 (by decide) ?_
            refine v_goto 134 hX dX7_canBe_105 (by decide) ?_
            obtain rfl := Option.some.inj hf
            exact v_iret (r := 0) hX dX7_canBe_134 rfl
          · have hf := opt_t c hf
            refine v_iconst 1 hX dX7_canBe_100 (by decide) ?_
            refine v_goto 134 hX dX7_canBe_101 (by decide) ?_
            obtain rfl := Option.some.inj hf
            exact v_iret (r := 1) hX dX7_canBe_134 rfl
    · have hf := opt_t c hf
      refine v_iconst 0 hX dX7_canBe_72 (by decide) ?_
      obtain rfl := Option.some.inj hf
      exact v_iret (r := 0) hX dX7_canBe_73 rfl
  · have hf := opt_t c hf
    refine v_iconst 1 hX dX7_canBe_32 (by decide) ?_
    obtain rfl := Option.some.inj hf
    exact v_iret (r := 1) hX dX7_canBe_33 rfl
set_option maxHeartbeats 4000000 in
set_option maxRecDepth 100000 in
theorem c_X7_canBe {l : Launch} {D : va_G} {cs : ClassId × ClassId × ClassId} {ad : Nat → Nat} (σ : Mem)  (x1 : Int32) (x2 : Int32) {z : Int32} (hf : f_X7_canBe σ x1 x2 = some z) : CtI l (mW D cs ad) 1 yX7_canBe cX7_canBe 5 (some .boolean) [.ref (ad 0), .int x1, .int x2] σ z σ := by
  refine ct_I RX7 [(0, .ref (ad 0)), (1, .int x1), (2, .int x2)] (by decide +kernel) rfl rfl (Nat.le_of_ble_eq_true rfl) ?_
  intro P M hl0 hX
  unfold f_X7_canBe at hf
  refine v_aload_n 0 0 hX dX7_canBe_0 rfl rfl ?_
  refine v_get (C := RX7) (T := TX7) (N := 22) (ci := 7) (v := .ref (ad 5)) 0 8 hX dX7_canBe_1 mw_844 rfl inlX7 rfl (lt_b rfl) (lt_b rfl) rfl rfl ?_
  refine v_bipush 7 hX dX7_canBe_4 (by decide) ?_
  refine v_aload_n 0 0 hX dX7_canBe_6 rfl rfl ?_
  refine v_get (C := RX7) (T := TX7) (N := 22) (ci := 7) (v := .ref (ad 5)) 0 8 hX dX7_canBe_7 mw_844 rfl inlX7 rfl (lt_b rfl) (lt_b rfl) rfl rfl ?_
  refine v_bipush 25 hX dX7_canBe_10 (by decide) ?_
  refine v_iload_n 1 1 hX dX7_canBe_12 rfl rfl ?_
  refine v_iadd hX dX7_canBe_13 ?_
  obtain ⟨hi1, hf⟩ := gd_some hf
  refine v_ald (v := σ 5 ((25 + x1).toNatClampNeg)) 5 hX dX7_canBe_14 (lt_b rfl) ((fun _ => rfl) _) hi1 rfl ?_
  refine v_iadd hX dX7_canBe_15 ?_
  obtain ⟨hi2, hf⟩ := gd_some hf
  refine v_ald (v := σ 5 ((7 + (σ 5 ((25 + x1).toNatClampNeg))).toNatClampNeg)) 5 hX dX7_canBe_16 (lt_b rfl) ((fun _ => rfl) _) hi2 rfl ?_
  refine v_iconst 3 hX dX7_canBe_17 (by decide) ?_
  refine v_icmp_ne 25 hX dX7_canBe_18 (by decide) (fun c => ?_) (fun c => ?_)
  · have hf := opt_f c hf
    refine v_iconst 0 hX dX7_canBe_25 (by decide) ?_
    exact (s_X7_canBe_26 hX σ z  x1 x2 0 hf)
  · have hf := opt_t c hf
    refine v_iconst 1 hX dX7_canBe_21 (by decide) ?_
    refine v_goto 26 hX dX7_canBe_22 (by decide) ?_
    exact (s_X7_canBe_26 hX σ z  x1 x2 1 hf)
set_option maxHeartbeats 4000000 in
set_option maxRecDepth 100000 in
theorem s_X7_mark_44 {P : PT} {M : MT} {D : va_G} {cs : ClassId × ClassId × ClassId} {ad : Nat → Nat} (hX : VOk P M (mW D cs ad) 4 cX7_mark RX7 (some .int) 1) (fuel : Nat)   (z : Int32 × Mem)  (σ : Mem) (x2 : Int32) (x3 : Int32) (y0 : Int64) (hf : f_X7_mark_44 fuel σ x2 x3 y0 = some z) : V P M (mW D cs ad) 4 (QI P M (mW D cs ad) z.1 z.2) 44 [(2, .int x2), (3, .int x3)] [.long y0, .ref (ad 0)] σ := by
  unfold f_X7_mark_44 at hf
  obtain ⟨v3, hc, hf⟩ := opt_b hf
  refine v_callVv (rest := []) (As := [.long y0]) (C := RX7) (T := TX7) (N := 22) (ci := 7) 0 hX dX7_mark_44 (c_X7_leave σ fuel y0 hc) rfl rfl (lt_b rfl) rfl rfl rfl mw_1223 mw_54 mw_64 mw_1221 mw_1224 gAll ds_X7_leave rfl ⟨Nat.le_of_ble_eq_true rfl, Nat.le_of_ble_eq_true rfl⟩ (Nat.le_of_ble_eq_true rfl) ?_
  refine v_iload_n 0 2 hX dX7_mark_47 rfl rfl ?_
  refine v_iconst 2 hX dX7_mark_48 (by decide) ?_
  refine v_icmp_ne 58 hX dX7_mark_49 (by decide) (fun c => ?_) (fun c => ?_)
  · have hf := opt_f c hf
    refine v_iload_n 0 2 hX dX7_mark_58 rfl rfl ?_
    refine v_iconst 3 hX dX7_mark_59 (by decide) ?_
    refine v_icmp_ne 71 hX dX7_mark_60 (by decide) (fun c => ?_) (fun c => ?_)
    · have hf := opt_f c hf
      refine v_iload_n 1 3 hX dX7_mark_71 rfl rfl ?_
      obtain rfl := Option.some.inj hf
      exact v_iret (r := x3) hX dX7_mark_72 rfl
    · have hf := opt_t c hf
      refine v_iload_n 1 3 hX dX7_mark_63 rfl rfl ?_
      refine v_sipush 1000 hX dX7_mark_64 (by decide) ?_
      refine v_isub hX dX7_mark_67 ?_
      refine v_goto 72 hX dX7_mark_68 (by decide) ?_
      obtain rfl := Option.some.inj hf
      exact v_iret (r := x3 - 1000) hX dX7_mark_72 rfl
  · have hf := opt_t c hf
    refine v_iconst 2 hX dX7_mark_52 (by decide) ?_
    refine v_iload_n 1 3 hX dX7_mark_53 rfl rfl ?_
    refine v_imul hX dX7_mark_54 ?_
    refine v_goto 72 hX dX7_mark_55 (by decide) ?_
    obtain rfl := Option.some.inj hf
    exact v_iret (r := 2 * x3) hX dX7_mark_72 rfl
set_option maxHeartbeats 4000000 in
set_option maxRecDepth 100000 in
theorem c_X7_mark {l : Launch} {D : va_G} {cs : ClassId × ClassId × ClassId} {ad : Nat → Nat} (σ : Mem) (fuel : Nat)  (x1 : Int32) {z : Int32 × Mem} (hf : f_X7_mark fuel σ x1 = some z) : CtI l (mW D cs ad) 1 yX7_mark cX7_mark 4 (some .int) [.ref (ad 0), .int x1] σ z.1 z.2 := by
  refine ct_I RX7 [(0, .ref (ad 0)), (1, .int x1)] (by decide +kernel) rfl rfl (Nat.le_of_ble_eq_true rfl) ?_
  intro P M hl0 hX
  unfold f_X7_mark at hf
  refine v_aload_n 0 0 hX dX7_mark_0 rfl rfl ?_
  refine v_get (C := RX7) (T := TX7) (N := 22) (ci := 7) (v := .ref (ad 5)) 0 8 hX dX7_mark_1 mw_844 rfl inlX7 rfl (lt_b rfl) (lt_b rfl) rfl rfl ?_
  refine v_bipush 7 hX dX7_mark_4 (by decide) ?_
  refine v_iload_n 1 1 hX dX7_mark_6 rfl rfl ?_
  refine v_iadd hX dX7_mark_7 ?_
  obtain ⟨hi1, hf⟩ := gd_some hf
  refine v_ald (v := σ 5 ((7 + x1).toNatClampNeg)) 5 hX dX7_mark_8 (lt_b rfl) ((fun _ => rfl) _) hi1 rfl ?_
  refine v_istore_n 2 [(2, .int (σ 5 ((7 + x1).toNatClampNeg))), (0, .ref (ad 0)), (1, .int x1)] hX dX7_mark_9 rfl (lt_b rfl) rfl ?_
  refine v_iload_n 2 1 hX dX7_mark_10 rfl rfl ?_
  refine v_aload_n 1 0 hX dX7_mark_11 rfl rfl ?_
  refine v_iload_n 2 1 hX dX7_mark_12 rfl rfl ?_
  obtain ⟨v2, hc, hf⟩ := opt_b hf
  refine v_callVi (rest := [.int x1]) (As := [.int x1]) (C := RX7) (T := TX7) (N := 22) (ci := 7) 0 hX dX7_mark_13 (c_X7_blackOf fuel σ x1 hc) rfl rfl (lt_b rfl) rfl rfl rfl mw_1216 mw_53 mw_64 mw_1214 mw_1217 gAll ds_X7_blackOf rfl ⟨Nat.le_of_ble_eq_true rfl, Nat.le_of_ble_eq_true rfl⟩ (Nat.le_of_ble_eq_true rfl) ?_
  refine v_iadd hX dX7_mark_16 ?_
  refine v_istore_n 3 [(3, .int (x1 + v2)), (2, .int (σ 5 ((7 + x1).toNatClampNeg))), (0, .ref (ad 0)), (1, .int x1)] hX dX7_mark_17 rfl (lt_b rfl) rfl ?_
  refine v_aload_n 2 0 hX dX7_mark_18 rfl rfl ?_
  refine v_iload_n 1 2 hX dX7_mark_19 rfl rfl ?_
  refine v_iconst 2 hX dX7_mark_20 (by decide) ?_
  refine v_icmp_ne 30 hX dX7_mark_21 (by decide) (fun c => ?_) (fun c => ?_)
  · have hf := opt_f c hf
    refine v_iload_n 1 2 hX dX7_mark_30 rfl rfl ?_
    refine v_iconst 3 hX dX7_mark_31 (by decide) ?_
    refine v_icmp_ne 41 hX dX7_mark_32 (by decide) (fun c => ?_) (fun c => ?_)
    · have hf := opt_f c hf
      refine v_ldc2 2120 hX dX7_mark_41 mw_1220 ?_
      exact v_sub [1, 0] rfl (s_X7_mark_44 hX fuel z  σ (σ 5 ((7 + x1).toNatClampNeg)) (x1 + v2) 2120 hf)
    · have hf := opt_t c hf
      refine v_ldc2 222120 hX dX7_mark_35 mw_1219 ?_
      refine v_goto 44 hX dX7_mark_38 (by decide) ?_
      exact v_sub [1, 0] rfl (s_X7_mark_44 hX fuel z  σ (σ 5 ((7 + x1).toNatClampNeg)) (x1 + v2) 222120 hf)
  · have hf := opt_t c hf
    refine v_ldc2 242120 hX dX7_mark_24 mw_1218 ?_
    refine v_goto 44 hX dX7_mark_27 (by decide) ?_
    exact v_sub [1, 0] rfl (s_X7_mark_44 hX fuel z  σ (σ 5 ((7 + x1).toNatClampNeg)) (x1 + v2) 242120 hf)
set_option maxHeartbeats 4000000 in
set_option maxRecDepth 100000 in
theorem s_X7_sizeOf_46 {P : PT} {M : MT} {D : va_G} {cs : ClassId × ClassId × ClassId} {ad : Nat → Nat} (hX : VOk P M (mW D cs ad) 4 cX7_sizeOf RX7 (some .int) 1) (fuel : Nat)   (z : Int32 × Mem)  (σ : Mem) (x2 : Int32) (x3 : Int32) (y0 : Int64) (hf : f_X7_sizeOf_46 fuel σ x2 x3 y0 = some z) : V P M (mW D cs ad) 4 (QI P M (mW D cs ad) z.1 z.2) 46 [(2, .int x2), (3, .int x3)] [.long y0, .ref (ad 0)] σ := by
  unfold f_X7_sizeOf_46 at hf
  obtain ⟨v3, hc, hf⟩ := opt_b hf
  refine v_callVv (rest := []) (As := [.long y0]) (C := RX7) (T := TX7) (N := 22) (ci := 7) 0 hX dX7_sizeOf_46 (c_X7_leave σ fuel y0 hc) rfl rfl (lt_b rfl) rfl rfl rfl mw_1223 mw_54 mw_64 mw_1221 mw_1224 gAll ds_X7_leave rfl ⟨Nat.le_of_ble_eq_true rfl, Nat.le_of_ble_eq_true rfl⟩ (Nat.le_of_ble_eq_true rfl) ?_
  refine v_iload_n 1 3 hX dX7_sizeOf_49 rfl rfl ?_
  refine v_if_eq 59 hX dX7_sizeOf_50 (by decide) (fun c => ?_) (fun c => ?_)
  · have hf := opt_t c hf
    refine v_iload_n 0 2 hX dX7_sizeOf_59 rfl rfl ?_
    obtain rfl := Option.some.inj hf
    exact v_iret (r := x2) hX dX7_sizeOf_60 rfl
  · have hf := opt_f c hf
    refine v_iconst 2 hX dX7_sizeOf_53 (by decide) ?_
    refine v_iload_n 0 2 hX dX7_sizeOf_54 rfl rfl ?_
    refine v_imul hX dX7_sizeOf_55 ?_
    refine v_goto 60 hX dX7_sizeOf_56 (by decide) ?_
    obtain rfl := Option.some.inj hf
    exact v_iret (r := 2 * x2) hX dX7_sizeOf_60 rfl
set_option maxHeartbeats 4000000 in
set_option maxRecDepth 100000 in
theorem s_X7_sizeOf_31 {P : PT} {M : MT} {D : va_G} {cs : ClassId × ClassId × ClassId} {ad : Nat → Nat} (hX : VOk P M (mW D cs ad) 4 cX7_sizeOf RX7 (some .int) 1) (fuel : Nat)   (z : Int32 × Mem)  (σ : Mem) (x2 : Int32) (y0 : Int32) (hf : f_X7_sizeOf_31 fuel σ x2 y0 = some z) : V P M (mW D cs ad) 4 (QI P M (mW D cs ad) z.1 z.2) 31 [(0, .ref (ad 0)), (2, .int x2)] [.int y0] σ := by
  unfold f_X7_sizeOf_31 at hf
  refine v_istore_n 3 [(3, .int y0), (0, .ref (ad 0)), (2, .int x2)] hX dX7_sizeOf_31 rfl (lt_b rfl) rfl ?_
  refine v_aload_n 1 0 hX dX7_sizeOf_32 rfl rfl ?_
  refine v_iload_n 0 3 hX dX7_sizeOf_33 rfl rfl ?_
  refine v_if_eq 43 hX dX7_sizeOf_34 (by decide) (fun c => ?_) (fun c => ?_)
  · have hf := opt_t c hf
    refine v_ldc2 1310 hX dX7_sizeOf_43 mw_1232 ?_
    exact v_sub [2, 0] rfl (s_X7_sizeOf_46 hX fuel z  σ x2 y0 1310 hf)
  · have hf := opt_f c hf
    refine v_ldc2 141310 hX dX7_sizeOf_37 mw_1231 ?_
    refine v_goto 46 hX dX7_sizeOf_40 (by decide) ?_
    exact v_sub [2, 0] rfl (s_X7_sizeOf_46 hX fuel z  σ x2 y0 141310 hf)
set_option maxHeartbeats 4000000 in
set_option maxRecDepth 100000 in
theorem c_X7_sizeOf {l : Launch} {D : va_G} {cs : ClassId × ClassId × ClassId} {ad : Nat → Nat} (σ : Mem) (fuel : Nat)  (x1 : Int32) {z : Int32 × Mem} (hf : f_X7_sizeOf fuel σ x1 = some z) : CtI l (mW D cs ad) 1 yX7_sizeOf cX7_sizeOf 4 (some .int) [.ref (ad 0), .int x1] σ z.1 z.2 := by
  refine ct_I RX7 [(0, .ref (ad 0)), (1, .int x1)] (by decide +kernel) rfl rfl (Nat.le_of_ble_eq_true rfl) ?_
  intro P M hl0 hX
  unfold f_X7_sizeOf at hf
  refine v_aload_n 0 0 hX dX7_sizeOf_0 rfl rfl ?_
  refine v_get (C := RX7) (T := TX7) (N := 22) (ci := 7) (v := .ref (ad 5)) 0 8 hX dX7_sizeOf_1 mw_844 rfl inlX7 rfl (lt_b rfl) (lt_b rfl) rfl rfl ?_
  refine v_bipush 11 hX dX7_sizeOf_4 (by decide) ?_
  refine v_iload_n 1 1 hX dX7_sizeOf_6 rfl rfl ?_
  refine v_iadd hX dX7_sizeOf_7 ?_
  obtain ⟨hi1, hf⟩ := gd_some hf
  refine v_ald (v := σ 5 ((11 + x1).toNatClampNeg)) 5 hX dX7_sizeOf_8 (lt_b rfl) ((fun _ => rfl) _) hi1 rfl ?_
  refine v_bipush 100 hX dX7_sizeOf_9 (by decide) ?_
  refine v_isub hX dX7_sizeOf_11 ?_
  refine v_istore_n 2 [(2, .int ((σ 5 ((11 + x1).toNatClampNeg)) - 100)), (0, .ref (ad 0)), (1, .int x1)] hX dX7_sizeOf_12 rfl (lt_b rfl) rfl ?_
  refine v_aload_n 1 0 hX dX7_sizeOf_13 rfl rfl ?_
  refine v_get (C := RX7) (T := TX7) (N := 22) (ci := 7) (v := .ref (ad 5)) 0 8 hX dX7_sizeOf_14 mw_844 rfl inlX7 rfl (lt_b rfl) (lt_b rfl) rfl rfl ?_
  refine v_bipush 7 hX dX7_sizeOf_17 (by decide) ?_
  refine v_iload_n 2 1 hX dX7_sizeOf_19 rfl rfl ?_
  refine v_iadd hX dX7_sizeOf_20 ?_
  obtain ⟨hi2, hf⟩ := gd_some hf
  refine v_ald (v := σ 5 ((7 + x1).toNatClampNeg)) 5 hX dX7_sizeOf_21 (lt_b rfl) ((fun _ => rfl) _) hi2 rfl ?_
  refine v_iconst 5 hX dX7_sizeOf_22 (by decide) ?_
  refine v_icmp_ne 30 hX dX7_sizeOf_23 (by decide) (fun c => ?_) (fun c => ?_)
  · have hf := opt_f c hf
    refine v_iconst 0 hX dX7_sizeOf_30 (by decide) ?_
    exact v_sub [1, 0] rfl (s_X7_sizeOf_31 hX fuel z  σ ((σ 5 ((11 + x1).toNatClampNeg)) - 100) 0 hf)
  · have hf := opt_t c hf
    refine v_iconst 1 hX dX7_sizeOf_26 (by decide) ?_
    refine v_goto 31 hX dX7_sizeOf_27 (by decide) ?_
    exact v_sub [1, 0] rfl (s_X7_sizeOf_31 hX fuel z  σ ((σ 5 ((11 + x1).toNatClampNeg)) - 100) 1 hf)
set_option maxHeartbeats 4000000 in
set_option maxRecDepth 100000 in
theorem c_X7_trace {l : Launch} {D : va_G} {cs : ClassId × ClassId × ClassId} {ad : Nat → Nat} (σ : Mem)  (x1 : Int32) {z : Int32} (hf : f_X7_trace σ x1 = some z) : CtI l (mW D cs ad) 1 yX7_trace cX7_trace 2 (some .int) [.ref (ad 0), .int x1] σ z σ := by
  refine ct_I RX7 [(0, .ref (ad 0)), (1, .int x1)] (by decide +kernel) rfl rfl (Nat.le_of_ble_eq_true rfl) ?_
  intro P M hl0 hX
  unfold f_X7_trace at hf
  refine v_iload_n 1 1 hX dX7_trace_0 rfl rfl ?_
  refine v_i2l hX dX7_trace_1 ?_
  refine v_lconst 0 hX dX7_trace_2 (by decide) ?_
  refine v_aload_n 0 0 hX dX7_trace_3 rfl rfl ?_
  refine v_get (C := RX7) (T := TX7) (N := 22) (ci := 7) (v := .int (σ 0 13)) 0 13 hX dX7_trace_4 mw_849 rfl inlX7 rfl (lt_b rfl) (lt_b rfl) rfl rfl ?_
  refine v_iconst 1 hX dX7_trace_7 (by decide) ?_
  refine v_isub hX dX7_trace_8 ?_
  refine v_i2l hX dX7_trace_9 ?_
  obtain ⟨v1, hc, hf⟩ := opt_b hf
  refine v_callSi (rest := []) (As := [.long x1.toInt64, .long 0, .long (((σ 0 13) - 1).toInt64)]) hX dX7_trace_10 (c_X7_in σ x1.toInt64 0 (((σ 0 13) - 1).toInt64) hc) rfl rfl mw_913 mw_64 mw_912 mw_914 gAll ds_X7_in rfl ⟨Nat.le_of_ble_eq_true rfl, Nat.le_of_ble_eq_true rfl⟩ (Nat.le_of_ble_eq_true rfl) ?_
  refine v_if_eq 25 hX dX7_trace_13 (by decide) (fun c => ?_) (fun c => ?_)
  · have hf := opt_t c hf
    refine v_ldc (-1000000) hX dX7_trace_25 mw_1081 ?_
    obtain rfl := Option.some.inj hf
    exact v_iret (r := (-1000000)) hX dX7_trace_27 rfl
  · have hf := opt_f c hf
    refine v_aload_n 0 0 hX dX7_trace_16 rfl rfl ?_
    refine v_get (C := RX7) (T := TX7) (N := 22) (ci := 7) (v := .ref (ad 9)) 0 14 hX dX7_trace_17 mw_850 rfl inlX7 rfl (lt_b rfl) (lt_b rfl) rfl rfl ?_
    refine v_iload_n 1 1 hX dX7_trace_20 rfl rfl ?_
    obtain ⟨hi2, hf⟩ := gd_some hf
    refine v_ald (v := σ 9 x1.toNatClampNeg) 9 hX dX7_trace_21 (lt_b rfl) ((fun _ => rfl) _) hi2 rfl ?_
    refine v_goto 27 hX dX7_trace_22 (by decide) ?_
    obtain rfl := Option.some.inj hf
    exact v_iret (r := σ 9 x1.toNatClampNeg) hX dX7_trace_27 rfl
set_option maxHeartbeats 4000000 in
set_option maxRecDepth 100000 in
theorem s_X7_count_4 {P : PT} {M : MT} {D : va_G} {cs : ClassId × ClassId × ClassId} {ad : Nat → Nat} (hX : VOk P M (mW D cs ad) 4 cX7_count RX7 (some .int) 1) (fuel : Nat) (σ : Mem)   (z : Int32)  : ∀ (n : Nat) (x1 : Int32) (x2 : Int32) (x3 : Int32), f_X7_count_4 fuel σ n x1 x2 x3 = some z → V P M (mW D cs ad) 4 (QI P M (mW D cs ad) z σ) 4 [(0, .ref (ad 0)), (1, .int x1), (2, .int x2), (3, .int x3)] [] σ := by
  intro n
  induction n with
  | zero =>
    intro x1 x2 x3 hf
    cases hf
  | succ n hk4 =>
    intro x1 x2 x3 hf
    rw [f_X7_count_4] at hf
    refine v_iload_n 3 3 hX dX7_count_4 rfl rfl ?_
    refine v_bipush 8 hX dX7_count_5 (by decide) ?_
    refine v_icmp_ge 33 hX dX7_count_7 (by decide) (fun c => ?_) (fun c => ?_)
    · have hf := opt_t c hf
      refine v_iload_n 1 1 hX dX7_count_33 rfl rfl ?_
      by_cases cs1 : x1 = 0
      · have hf := opt_t cs1 hf
        refine v_tableIn 50 84 hX dX7_count_34 (by rw [cs1]; decide) (by rw [cs1]; decide) (by rw [cs1]; decide) (by decide) ?_
        refine v_iload_n 2 2 hX dX7_count_84 rfl rfl ?_
        obtain rfl := Option.some.inj hf
        exact v_iret (r := x2) hX dX7_count_85 rfl
      have hf := opt_f cs1 hf
      by_cases cs2 : x1 = 1
      · have hf := opt_t cs2 hf
        refine v_tableIn 52 86 hX dX7_count_34 (by rw [cs2]; decide) (by rw [cs2]; decide) (by rw [cs2]; decide) (by decide) ?_
        refine v_aload_n 0 0 hX dX7_count_86 rfl rfl ?_
        refine v_get (C := RX7) (T := TX7) (N := 22) (ci := 7) (v := .ref (ad 5)) 0 8 hX dX7_count_87 mw_844 rfl inlX7 rfl (lt_b rfl) (lt_b rfl) rfl rfl ?_
        refine v_iconst 2 hX dX7_count_90 (by decide) ?_
        refine v_iload_n 1 1 hX dX7_count_91 rfl rfl ?_
        refine v_iadd hX dX7_count_92 ?_
        refine v_iconst 1 hX dX7_count_93 (by decide) ?_
        refine v_isub hX dX7_count_94 ?_
        obtain ⟨hi3, hf⟩ := gd_some hf
        refine v_ald (v := σ 5 (((2 + x1) - 1).toNatClampNeg)) 5 hX dX7_count_95 (lt_b rfl) ((fun _ => rfl) _) hi3 rfl ?_
        obtain rfl := Option.some.inj hf
        exact v_iret (r := σ 5 (((2 + x1) - 1).toNatClampNeg)) hX dX7_count_96 rfl
      have hf := opt_f cs2 hf
      by_cases cs4 : x1 = 2
      · have hf := opt_t cs4 hf
        refine v_tableIn 52 86 hX dX7_count_34 (by rw [cs4]; decide) (by rw [cs4]; decide) (by rw [cs4]; decide) (by decide) ?_
        refine v_aload_n 0 0 hX dX7_count_86 rfl rfl ?_
        refine v_get (C := RX7) (T := TX7) (N := 22) (ci := 7) (v := .ref (ad 5)) 0 8 hX dX7_count_87 mw_844 rfl inlX7 rfl (lt_b rfl) (lt_b rfl) rfl rfl ?_
        refine v_iconst 2 hX dX7_count_90 (by decide) ?_
        refine v_iload_n 1 1 hX dX7_count_91 rfl rfl ?_
        refine v_iadd hX dX7_count_92 ?_
        refine v_iconst 1 hX dX7_count_93 (by decide) ?_
        refine v_isub hX dX7_count_94 ?_
        obtain ⟨hi5, hf⟩ := gd_some hf
        refine v_ald (v := σ 5 (((2 + x1) - 1).toNatClampNeg)) 5 hX dX7_count_95 (lt_b rfl) ((fun _ => rfl) _) hi5 rfl ?_
        obtain rfl := Option.some.inj hf
        exact v_iret (r := σ 5 (((2 + x1) - 1).toNatClampNeg)) hX dX7_count_96 rfl
      have hf := opt_f cs4 hf
      by_cases cs6 : x1 = 3
      · have hf := opt_t cs6 hf
        refine v_tableIn 52 86 hX dX7_count_34 (by rw [cs6]; decide) (by rw [cs6]; decide) (by rw [cs6]; decide) (by decide) ?_
        refine v_aload_n 0 0 hX dX7_count_86 rfl rfl ?_
        refine v_get (C := RX7) (T := TX7) (N := 22) (ci := 7) (v := .ref (ad 5)) 0 8 hX dX7_count_87 mw_844 rfl inlX7 rfl (lt_b rfl) (lt_b rfl) rfl rfl ?_
        refine v_iconst 2 hX dX7_count_90 (by decide) ?_
        refine v_iload_n 1 1 hX dX7_count_91 rfl rfl ?_
        refine v_iadd hX dX7_count_92 ?_
        refine v_iconst 1 hX dX7_count_93 (by decide) ?_
        refine v_isub hX dX7_count_94 ?_
        obtain ⟨hi7, hf⟩ := gd_some hf
        refine v_ald (v := σ 5 (((2 + x1) - 1).toNatClampNeg)) 5 hX dX7_count_95 (lt_b rfl) ((fun _ => rfl) _) hi7 rfl ?_
        obtain rfl := Option.some.inj hf
        exact v_iret (r := σ 5 (((2 + x1) - 1).toNatClampNeg)) hX dX7_count_96 rfl
      have hf := opt_f cs6 hf
      by_cases cs8 : x1 = 4
      · have hf := opt_t cs8 hf
        refine v_tableIn 52 86 hX dX7_count_34 (by rw [cs8]; decide) (by rw [cs8]; decide) (by rw [cs8]; decide) (by decide) ?_
        refine v_aload_n 0 0 hX dX7_count_86 rfl rfl ?_
        refine v_get (C := RX7) (T := TX7) (N := 22) (ci := 7) (v := .ref (ad 5)) 0 8 hX dX7_count_87 mw_844 rfl inlX7 rfl (lt_b rfl) (lt_b rfl) rfl rfl ?_
        refine v_iconst 2 hX dX7_count_90 (by decide) ?_
        refine v_iload_n 1 1 hX dX7_count_91 rfl rfl ?_
        refine v_iadd hX dX7_count_92 ?_
        refine v_iconst 1 hX dX7_count_93 (by decide) ?_
        refine v_isub hX dX7_count_94 ?_
        obtain ⟨hi9, hf⟩ := gd_some hf
        refine v_ald (v := σ 5 (((2 + x1) - 1).toNatClampNeg)) 5 hX dX7_count_95 (lt_b rfl) ((fun _ => rfl) _) hi9 rfl ?_
        obtain rfl := Option.some.inj hf
        exact v_iret (r := σ 5 (((2 + x1) - 1).toNatClampNeg)) hX dX7_count_96 rfl
      have hf := opt_f cs8 hf
      by_cases cs10 : x1 = 5
      · have hf := opt_t cs10 hf
        refine v_tableIn 52 86 hX dX7_count_34 (by rw [cs10]; decide) (by rw [cs10]; decide) (by rw [cs10]; decide) (by decide) ?_
        refine v_aload_n 0 0 hX dX7_count_86 rfl rfl ?_
        refine v_get (C := RX7) (T := TX7) (N := 22) (ci := 7) (v := .ref (ad 5)) 0 8 hX dX7_count_87 mw_844 rfl inlX7 rfl (lt_b rfl) (lt_b rfl) rfl rfl ?_
        refine v_iconst 2 hX dX7_count_90 (by decide) ?_
        refine v_iload_n 1 1 hX dX7_count_91 rfl rfl ?_
        refine v_iadd hX dX7_count_92 ?_
        refine v_iconst 1 hX dX7_count_93 (by decide) ?_
        refine v_isub hX dX7_count_94 ?_
        obtain ⟨hi11, hf⟩ := gd_some hf
        refine v_ald (v := σ 5 (((2 + x1) - 1).toNatClampNeg)) 5 hX dX7_count_95 (lt_b rfl) ((fun _ => rfl) _) hi11 rfl ?_
        obtain rfl := Option.some.inj hf
        exact v_iret (r := σ 5 (((2 + x1) - 1).toNatClampNeg)) hX dX7_count_96 rfl
      have hf := opt_f cs10 hf
      by_cases cs12 : x1 = 6
      · have hf := opt_t cs12 hf
        refine v_tableIn 63 97 hX dX7_count_34 (by rw [cs12]; decide) (by rw [cs12]; decide) (by rw [cs12]; decide) (by decide) ?_
        refine v_aload_n 0 0 hX dX7_count_97 rfl rfl ?_
        refine v_get (C := RX7) (T := TX7) (N := 22) (ci := 7) (v := .ref (ad 5)) 0 8 hX dX7_count_98 mw_844 rfl inlX7 rfl (lt_b rfl) (lt_b rfl) rfl rfl ?_
        obtain ⟨v13, hc, hf⟩ := opt_b hf
        refine v_callSi (rest := []) (As := [.ref (ad 5)]) hX dX7_count_101 (c_X7_whites fuel σ hc) rfl rfl mw_1243 mw_64 mw_1242 mw_1244 gAll ds_X7_whites rfl ⟨Nat.le_of_ble_eq_true rfl, Nat.le_of_ble_eq_true rfl⟩ (Nat.le_of_ble_eq_true rfl) ?_
        obtain rfl := Option.some.inj hf
        exact v_iret (r := v13) hX dX7_count_104 rfl
      have hf := opt_f cs12 hf
      by_cases cs14 : x1 = 7
      · have hf := opt_t cs14 hf
        refine v_tableIn 71 105 hX dX7_count_34 (by rw [cs14]; decide) (by rw [cs14]; decide) (by rw [cs14]; decide) (by decide) ?_
        refine v_aload_n 0 0 hX dX7_count_105 rfl rfl ?_
        refine v_get (C := RX7) (T := TX7) (N := 22) (ci := 7) (v := .int (σ 0 9)) 0 9 hX dX7_count_106 mw_845 rfl inlX7 rfl (lt_b rfl) (lt_b rfl) rfl rfl ?_
        obtain rfl := Option.some.inj hf
        exact v_iret (r := σ 0 9) hX dX7_count_109 rfl
      have hf := opt_f cs14 hf
      by_cases cs15 : x1 = 8
      · have hf := opt_t cs15 hf
        refine v_tableIn 76 110 hX dX7_count_34 (by rw [cs15]; decide) (by rw [cs15]; decide) (by rw [cs15]; decide) (by decide) ?_
        refine v_aload_n 0 0 hX dX7_count_110 rfl rfl ?_
        refine v_get (C := RX7) (T := TX7) (N := 22) (ci := 7) (v := .int (σ 0 5)) 0 5 hX dX7_count_111 mw_841 rfl inlX7 rfl (lt_b rfl) (lt_b rfl) rfl rfl ?_
        obtain rfl := Option.some.inj hf
        exact v_iret (r := σ 0 5) hX dX7_count_114 rfl
      have hf := opt_f cs15 hf
      refine v_tableOut 115 hX dX7_count_34 (by have h0 := lv_neT cs1 (a := 0) (by decide); have h1 := lv_neT cs2 (a := 1) (by decide); have h2 := lv_neT cs4 (a := 2) (by decide); have h3 := lv_neT cs6 (a := 3) (by decide); have h4 := lv_neT cs8 (a := 4) (by decide); have h5 := lv_neT cs10 (a := 5) (by decide); have h6 := lv_neT cs12 (a := 6) (by decide); have h7 := lv_neT cs14 (a := 7) (by decide); have h8 := lv_neT cs15 (a := 8) (by decide); omega) (by decide) ?_
      refine v_ldc (-1000001) hX dX7_count_115 mw_916 ?_
      obtain rfl := Option.some.inj hf
      exact v_iret (r := (-1000001)) hX dX7_count_117 rfl
    · have hf := opt_f c hf
      refine v_iload_n 2 2 hX dX7_count_10 rfl rfl ?_
      refine v_aload_n 0 0 hX dX7_count_11 rfl rfl ?_
      refine v_get (C := RX7) (T := TX7) (N := 22) (ci := 7) (v := .ref (ad 2)) 0 1 hX dX7_count_12 mw_837 rfl inlX7 rfl (lt_b rfl) (lt_b rfl) rfl rfl ?_
      refine v_iload_n 3 3 hX dX7_count_15 rfl rfl ?_
      obtain ⟨hi16, hf⟩ := gd_some hf
      refine v_ald (v := σ 2 x3.toNatClampNeg) 2 hX dX7_count_16 (lt_b rfl) ((fun _ => rfl) _) hi16 rfl ?_
      refine v_if_ge 24 hX dX7_count_17 (by decide) (fun c => ?_) (fun c => ?_)
      · have hf := opt_t c hf
        refine v_iconst 1 hX dX7_count_24 (by decide) ?_
        refine v_iadd hX dX7_count_25 ?_
        refine v_istore_n 2 [(2, .int (x2 + 1)), (0, .ref (ad 0)), (1, .int x1), (3, .int x3)] hX dX7_count_26 rfl (lt_b rfl) rfl ?_
        refine v_iinc 3 (x3 + 1) [(3, .int (x3 + 1)), (2, .int (x2 + 1)), (0, .ref (ad 0)), (1, .int x1)] hX dX7_count_27 rfl rfl (lt_b rfl) rfl ?_
        refine v_goto 4 hX dX7_count_30 (by decide) ?_
        exact v_sub [2, 3, 1, 0] rfl (hk4 x1 (x2 + 1) (x3 + 1) hf)
      · have hf := opt_f c hf
        refine v_iconst 0 hX dX7_count_20 (by decide) ?_
        refine v_goto 25 hX dX7_count_21 (by decide) ?_
        refine v_iadd hX dX7_count_25 ?_
        refine v_istore_n 2 [(2, .int (x2 + 0)), (0, .ref (ad 0)), (1, .int x1), (3, .int x3)] hX dX7_count_26 rfl (lt_b rfl) rfl ?_
        refine v_iinc 3 (x3 + 1) [(3, .int (x3 + 1)), (2, .int (x2 + 0)), (0, .ref (ad 0)), (1, .int x1)] hX dX7_count_27 rfl rfl (lt_b rfl) rfl ?_
        refine v_goto 4 hX dX7_count_30 (by decide) ?_
        exact v_sub [2, 3, 1, 0] rfl (hk4 x1 (x2 + 0) (x3 + 1) hf)
set_option maxHeartbeats 4000000 in
set_option maxRecDepth 100000 in
theorem c_X7_count {l : Launch} {D : va_G} {cs : ClassId × ClassId × ClassId} {ad : Nat → Nat} (fuel : Nat) (σ : Mem)  (x1 : Int32) {z : Int32} (hf : f_X7_count fuel σ x1 = some z) : CtI l (mW D cs ad) 1 yX7_count cX7_count 4 (some .int) [.ref (ad 0), .int x1] σ z σ := by
  refine ct_I RX7 [(0, .ref (ad 0)), (1, .int x1)] (by decide +kernel) rfl rfl (Nat.le_of_ble_eq_true rfl) ?_
  intro P M hl0 hX
  unfold f_X7_count at hf
  refine v_iconst 0 hX dX7_count_0 (by decide) ?_
  refine v_istore_n 2 [(2, .int 0), (0, .ref (ad 0)), (1, .int x1)] hX dX7_count_1 rfl (lt_b rfl) rfl ?_
  refine v_iconst 0 hX dX7_count_2 (by decide) ?_
  refine v_istore_n 3 [(3, .int 0), (2, .int 0), (0, .ref (ad 0)), (1, .int x1)] hX dX7_count_3 rfl (lt_b rfl) rfl ?_
  exact v_sub [2, 3, 1, 0] rfl (s_X7_count_4 hX fuel σ z  fuel x1 0 0 hf)
set_option maxHeartbeats 4000000 in
set_option maxRecDepth 100000 in
theorem c_X1_mayRecall {l : Launch} {D : va_G} {cs : ClassId × ClassId × ClassId} {ad : Nat → Nat} {ts : Nat × Nat × Nat} (σ : Mem)  (x1 : Int32) (x2 : Int32) (x3 : Int32) {z : Int32} (hf : f_X1_mayRecall σ x1 x2 x3 = some z) : CtI l (xW D cs ad ts) 2 yX1_mayRecall cX1_mayRecall 4 (some .boolean) [.ref (ad 13), .int x1, .int x2, .int x3] σ z σ := by
  refine ct_I RX1 [(0, .ref (ad 13)), (1, .int x1), (2, .int x2), (3, .int x3)] (by decide +kernel) rfl rfl (Nat.le_of_ble_eq_true rfl) ?_
  intro P M hl0 hX
  unfold f_X1_mayRecall at hf
  refine v_iload_n 2 2 hX dX1_mayRecall_0 rfl rfl ?_
  refine v_iload_n 1 1 hX dX1_mayRecall_1 rfl rfl ?_
  obtain ⟨v1, hc, hf⟩ := opt_b hf
  refine v_callNi (rest := []) (As := [.int x2, .int x1]) hX dX1_mayRecall_2 (c_X6_bitOf σ x2 x1 hc) rfl rfl mw_509 mw_57 (ex_RX1_81 hX) mw_510 gAll ds_X6_bitOf rfl ⟨Nat.le_of_ble_eq_true rfl, Nat.le_of_ble_eq_true rfl⟩ (Nat.le_of_ble_eq_true rfl) ?_
  refine v_if_ne 21 hX dX1_mayRecall_5 (by decide) (fun c => ?_) (fun c => ?_)
  · have hf := opt_f c hf
    refine v_iconst 0 hX dX1_mayRecall_21 (by decide) ?_
    obtain rfl := Option.some.inj hf
    exact v_iret (r := 0) hX dX1_mayRecall_22 rfl
  · have hf := opt_t c hf
    refine v_aload_n 0 0 hX dX1_mayRecall_8 rfl rfl ?_
    refine v_iload_n 1 1 hX dX1_mayRecall_9 rfl rfl ?_
    refine v_iload_n 3 3 hX dX1_mayRecall_10 rfl rfl ?_
    obtain ⟨v2, hc, hf⟩ := opt_b hf
    refine v_callVi (rest := []) (As := [.int x1, .int x3]) (C := RX1) (T := TX1) (N := 19) (ci := 1) 13 hX dX1_mayRecall_11 (c_X1_isInLimit σ x1 x3 hc) rfl rfl (lt_b rfl) rfl rfl rfl mw_512 mw_513 mw_59 mw_511 mw_514 gAll ds_X1_isInLimit rfl ⟨Nat.le_of_ble_eq_true rfl, Nat.le_of_ble_eq_true rfl⟩ (Nat.le_of_ble_eq_true rfl) ?_
    refine v_if_eq 21 hX dX1_mayRecall_14 (by decide) (fun c => ?_) (fun c => ?_)
    · have hf := opt_t c hf
      refine v_iconst 0 hX dX1_mayRecall_21 (by decide) ?_
      obtain rfl := Option.some.inj hf
      exact v_iret (r := 0) hX dX1_mayRecall_22 rfl
    · have hf := opt_f c hf
      refine v_iconst 1 hX dX1_mayRecall_17 (by decide) ?_
      refine v_goto 22 hX dX1_mayRecall_18 (by decide) ?_
      obtain rfl := Option.some.inj hf
      exact v_iret (r := 1) hX dX1_mayRecall_22 rfl
set_option maxHeartbeats 4000000 in
set_option maxRecDepth 100000 in
theorem c_X1_whiteAfter {l : Launch} {D : va_G} {cs : ClassId × ClassId × ClassId} {ad : Nat → Nat} {ts : Nat × Nat × Nat} (fuel : Nat) (σ : Mem)  (x1 : Int32) (x2 : Int32) {z : Int32} (hf : f_X1_whiteAfter fuel σ x1 x2 = some z) : CtI l (xW D cs ad ts) 2 yX1_whiteAfter cX1_whiteAfter 3 (some .int) [.ref (ad 13), .int x1, .int x2] σ z σ := by
  refine ct_I RX1 [(0, .ref (ad 13)), (1, .int x1), (2, .int x2)] (by decide +kernel) rfl rfl (Nat.le_of_ble_eq_true rfl) ?_
  intro P M hl0 hX
  unfold f_X1_whiteAfter at hf
  refine v_aload_n 0 0 hX dX1_whiteAfter_0 rfl rfl ?_
  refine v_get (C := RX1) (T := TX1) (N := 19) (ci := 1) (v := .int (σ 13 5)) 13 5 hX dX1_whiteAfter_1 mw_122 rfl inlX1 rfl (lt_b rfl) (lt_b rfl) rfl rfl ?_
  refine v_aload_n 0 0 hX dX1_whiteAfter_4 rfl rfl ?_
  refine v_iload_n 1 1 hX dX1_whiteAfter_5 rfl rfl ?_
  refine v_iload_n 2 2 hX dX1_whiteAfter_6 rfl rfl ?_
  obtain ⟨v1, hc, hf⟩ := opt_b hf
  refine v_callVi (rest := [.int (σ 13 5)]) (As := [.int x1, .int x2]) (C := RX1) (T := TX1) (N := 19) (ci := 1) 13 hX dX1_whiteAfter_7 (c_X1_recallableBy fuel σ x1 x2 hc) rfl rfl (lt_b rfl) rfl rfl rfl mw_596 mw_597 mw_59 mw_595 mw_598 gAll ds_X1_recallableBy rfl ⟨Nat.le_of_ble_eq_true rfl, Nat.le_of_ble_eq_true rfl⟩ (Nat.le_of_ble_eq_true rfl) ?_
  refine v_ior hX dX1_whiteAfter_10 ?_
  obtain rfl := Option.some.inj hf
  exact v_iret (r := (σ 13 5) ||| v1) hX dX1_whiteAfter_11 rfl
set_option maxHeartbeats 4000000 in
set_option maxRecDepth 100000 in
theorem c_X1_standingBy {l : Launch} {D : va_G} {cs : ClassId × ClassId × ClassId} {ad : Nat → Nat} {ts : Nat × Nat × Nat} (fuel : Nat) (σ : Mem)  (x1 : Int32) {z : Int32} (hf : f_X1_standingBy fuel σ x1 = some z) : CtI l (xW D cs ad ts) 2 yX1_standingBy cX1_standingBy 2 (some .int) [.ref (ad 13), .int x1] σ z σ := by
  refine ct_I RX1 [(0, .ref (ad 13)), (1, .int x1)] (by decide +kernel) rfl rfl (Nat.le_of_ble_eq_true rfl) ?_
  intro P M hl0 hX
  unfold f_X1_standingBy at hf
  refine v_aload_n 0 0 hX dX1_standingBy_0 rfl rfl ?_
  refine v_aload_n 0 0 hX dX1_standingBy_1 rfl rfl ?_
  refine v_iload_n 1 1 hX dX1_standingBy_2 rfl rfl ?_
  obtain ⟨v1, hc, hf⟩ := opt_b hf
  refine v_callVi (rest := [.ref (ad 13)]) (As := [.int x1]) (C := RX1) (T := TX1) (N := 19) (ci := 1) 13 hX dX1_standingBy_3 (c_X1_blackBy fuel σ x1 hc) rfl rfl (lt_b rfl) rfl rfl rfl mw_520 mw_521 mw_59 mw_544 mw_522 gAll ds_X1_blackBy rfl ⟨Nat.le_of_ble_eq_true rfl, Nat.le_of_ble_eq_true rfl⟩ (Nat.le_of_ble_eq_true rfl) ?_
  obtain ⟨v2, hc, hf⟩ := opt_b hf
  refine v_callVi (rest := []) (As := [.int v1]) (C := RX1) (T := TX1) (N := 19) (ci := 1) 13 hX dX1_standingBy_6 (c_X1_standingOn fuel σ v1 hc) rfl rfl (lt_b rfl) rfl rfl rfl mw_546 mw_547 mw_59 mw_545 mw_548 gAll ds_X1_standingOn rfl ⟨Nat.le_of_ble_eq_true rfl, Nat.le_of_ble_eq_true rfl⟩ (Nat.le_of_ble_eq_true rfl) ?_
  obtain rfl := Option.some.inj hf
  exact v_iret (r := v2) hX dX1_standingBy_9 rfl
set_option maxHeartbeats 4000000 in
set_option maxRecDepth 100000 in
theorem c_X1_passDay {l : Launch} {D : va_G} {cs : ClassId × ClassId × ClassId} {ad : Nat → Nat} {ts : Nat × Nat × Nat} (σ : Mem) (fuel : Nat)   {z : Mem} (hf : f_X1_passDay fuel σ = some z) : CtV l (xW D cs ad ts) 2 yX1_passDay cX1_passDay 1 [.ref (ad 13)] σ z := by
  refine ct_V RX1 [(0, .ref (ad 13))] (by decide +kernel) rfl rfl (Nat.le_of_ble_eq_true rfl) ?_
  intro P M hl0 hX
  unfold f_X1_passDay at hf
  refine v_aload_n 0 0 hX dX1_passDay_0 rfl rfl ?_
  refine v_dup hX dX1_passDay_1 rfl ?_
  refine v_get (C := RX1) (T := TX1) (N := 19) (ci := 1) (v := .int (σ 13 3)) 13 3 hX dX1_passDay_2 mw_114 rfl inlX1 rfl (lt_b rfl) (lt_b rfl) rfl rfl ?_
  refine v_iconst 1 hX dX1_passDay_5 (by decide) ?_
  refine v_iadd hX dX1_passDay_6 ?_
  refine v_put (C := RX1) (T := TX1) (N := 19) (ci := 1) (ty := .int) tyX1 13 3 hX dX1_passDay_7 mw_114 rfl inlX1 tyX1_ok nmX1 rfl (lt_b rfl) (lt_b rfl) rfl (tyX1_ok 3 (lt_b rfl)) rfl rfl rfl (lt_b rfl) rfl ?_
  refine v_aload_n 0 0 hX dX1_passDay_10 rfl rfl ?_
  refine v_aload_n 0 0 hX dX1_passDay_11 rfl rfl ?_
  refine v_aload_n 0 0 hX dX1_passDay_12 rfl rfl ?_
  refine v_get (C := RX1) (T := TX1) (N := 19) (ci := 1) (v := .int (σ 13 5)) 13 5 hX dX1_passDay_13 mw_122 rfl inlX1 rfl (lt_b rfl) (lt_b rfl) rfl rfl ?_
  refine v_aload_n 0 0 hX dX1_passDay_16 rfl rfl ?_
  refine v_get (C := RX1) (T := TX1) (N := 19) (ci := 1) (v := .int ((σ 13 3) + 1)) 13 3 hX dX1_passDay_17 mw_114 rfl inlX1 rfl (lt_b rfl) (lt_b rfl) rfl rfl ?_
  obtain ⟨v1, hc, hf⟩ := opt_b hf
  refine v_callVi (rest := [.ref (ad 13)]) (As := [.int (σ 13 5), .int ((σ 13 3) + 1)]) (C := RX1) (T := TX1) (N := 19) (ci := 1) 13 hX dX1_passDay_20 (c_X1_whiteOn fuel (mst σ 13 3 ((σ 13 3) + 1)) (σ 13 5) ((σ 13 3) + 1) hc) rfl rfl (lt_b rfl) rfl rfl rfl mw_533 mw_534 mw_59 mw_532 mw_535 gAll ds_X1_whiteOn rfl ⟨Nat.le_of_ble_eq_true rfl, Nat.le_of_ble_eq_true rfl⟩ (Nat.le_of_ble_eq_true rfl) ?_
  refine v_put (C := RX1) (T := TX1) (N := 19) (ci := 1) (ty := .int) tyX1 13 5 hX dX1_passDay_23 mw_122 rfl inlX1 tyX1_ok nmX1 rfl (lt_b rfl) (lt_b rfl) rfl (tyX1_ok 5 (lt_b rfl)) rfl rfl rfl (lt_b rfl) rfl ?_
  obtain rfl := Option.some.inj hf
  exact v_vret hX dX1_passDay_26
set_option maxHeartbeats 4000000 in
set_option maxRecDepth 100000 in
theorem c_X4_readNumberAndSign {l : Launch} {D : va_G} {cs : ClassId × ClassId × ClassId} {ad : Nat → Nat} {ts : Nat × Nat × Nat} (σ : Mem) (fuel : Nat)  (x1 : Int32) (x2 : Int32) (x3 : Int32) {z : Int32 × Mem} (hf : f_X4_readNumberAndSign fuel σ x1 x2 x3 = some z) : CtI l (xW D cs ad ts) 2 yX4_readNumberAndSign cX4_readNumberAndSign 5 (some .int) [.ref (ad 46), .int x1, .int x2, .int x3] σ z.1 z.2 := by
  refine ct_I RX4 [(0, .ref (ad 46)), (1, .int x1), (2, .int x2), (3, .int x3)] (by decide +kernel) rfl rfl (Nat.le_of_ble_eq_true rfl) ?_
  intro P M hl0 hX
  unfold f_X4_readNumberAndSign at hf
  refine v_aload_n 0 0 hX dX4_readNumberAndSign_0 rfl rfl ?_
  refine v_iload_n 1 1 hX dX4_readNumberAndSign_1 rfl rfl ?_
  refine v_iload_n 2 2 hX dX4_readNumberAndSign_2 rfl rfl ?_
  obtain ⟨v1, hc, hf⟩ := opt_b hf
  refine v_callVi (rest := []) (As := [.int x1, .int x2]) (C := RX4) (T := TX4) (N := 5) (ci := 4) 46 hX dX4_readNumberAndSign_3 (c_X4_readNumber σ fuel x1 x2 hc) rfl rfl (lt_b rfl) rfl rfl rfl mw_410 mw_7 mw_60 mw_408 mw_411 gAll ds_X4_readNumber rfl ⟨Nat.le_of_ble_eq_true rfl, Nat.le_of_ble_eq_true rfl⟩ (Nat.le_of_ble_eq_true rfl) ?_
  refine v_istore [(4, .int v1.1), (0, .ref (ad 46)), (1, .int x1), (2, .int x2), (3, .int x3)] hX dX4_readNumberAndSign_6 (lt_b rfl) rfl ?_
  refine v_iload 0 hX dX4_readNumberAndSign_8 rfl ?_
  refine v_if_lt 26 hX dX4_readNumberAndSign_10 (by decide) (fun c => ?_) (fun c => ?_)
  · have hf := opt_t c hf
    refine v_iconst (-1) hX dX4_readNumberAndSign_26 (by decide) ?_
    obtain rfl := Option.some.inj hf
    exact v_iret (r := (-1)) hX dX4_readNumberAndSign_27 rfl
  · have hf := opt_f c hf
    refine v_aload_n 1 0 hX dX4_readNumberAndSign_13 rfl rfl ?_
    refine v_iload_n 4 3 hX dX4_readNumberAndSign_14 rfl rfl ?_
    obtain ⟨v2, hc, hf⟩ := opt_b hf
    refine v_callVi (rest := []) (As := [.int x3]) (C := RX4) (T := TX4) (N := 5) (ci := 4) 46 hX dX4_readNumberAndSign_15 (c_X4_readSign v1.2 x3 hc) rfl rfl (lt_b rfl) rfl rfl rfl mw_394 mw_3 mw_60 mw_392 mw_395 gAll ds_X4_readSign rfl ⟨Nat.le_of_ble_eq_true rfl, Nat.le_of_ble_eq_true rfl⟩ (Nat.le_of_ble_eq_true rfl) ?_
    refine v_if_eq 26 hX dX4_readNumberAndSign_18 (by decide) (fun c => ?_) (fun c => ?_)
    · have hf := opt_t c hf
      refine v_iconst (-1) hX dX4_readNumberAndSign_26 (by decide) ?_
      obtain rfl := Option.some.inj hf
      exact v_iret (r := (-1)) hX dX4_readNumberAndSign_27 rfl
    · have hf := opt_f c hf
      refine v_iload 0 hX dX4_readNumberAndSign_21 rfl ?_
      refine v_goto 27 hX dX4_readNumberAndSign_23 (by decide) ?_
      obtain rfl := Option.some.inj hf
      exact v_iret (r := v1.1) hX dX4_readNumberAndSign_27 rfl
set_option maxHeartbeats 4000000 in
set_option maxRecDepth 100000 in
theorem s_X3_fewestPlaces_32 {P : PT} {M : MT} {D : va_G} {cs : ClassId × ClassId × ClassId} {ad : Nat → Nat} {ts : Nat × Nat × Nat} (hX : VOk P M (xW D cs ad ts) 7 cX3_fewestPlaces RX3 (some .int) 2) (fuel : Nat) (σ : Mem) (k7 : Int32 → Int32 → Int32 → Int32 → Option (Int32))  (z : Int32) (hk7 : ∀ (x2 : Int32) (x3 : Int32) (x4 : Int32) (x5 : Int32), k7 x2 x3 x4 x5 = some z → V P M (xW D cs ad ts) 7 (QI P M (xW D cs ad ts) z σ) 7 [(1, .ref (ad 13)), (2, .int x2), (3, .int x3), (4, .int x4), (5, .int x5)] [] σ) (x2 : Int32) (x3 : Int32) (x4 : Int32) (x5 : Int32) (y0 : Int32) (hf : f_X3_fewestPlaces_32 fuel σ k7 x2 x3 x4 x5 y0 = some z) : V P M (xW D cs ad ts) 7 (QI P M (xW D cs ad ts) z σ) 32 [(1, .ref (ad 13)), (2, .int x2), (3, .int x3), (4, .int x4), (5, .int x5)] [.int y0] σ := by
  unfold f_X3_fewestPlaces_32 at hf
  refine v_istore [(6, .int y0), (1, .ref (ad 13)), (2, .int x2), (3, .int x3), (4, .int x4), (5, .int x5)] hX dX3_fewestPlaces_32 (lt_b rfl) rfl ?_
  refine v_iload 0 hX dX3_fewestPlaces_34 rfl ?_
  refine v_if_eq 59 hX dX3_fewestPlaces_36 (by decide) (fun c => ?_) (fun c => ?_)
  · have hf := opt_t c hf
    refine v_iinc 5 (x5 + 1) [(5, .int (x5 + 1)), (6, .int y0), (1, .ref (ad 13)), (2, .int x2), (3, .int x3), (4, .int x4)] hX dX3_fewestPlaces_59 rfl rfl (lt_b rfl) rfl ?_
    refine v_goto 7 hX dX3_fewestPlaces_62 (by decide) ?_
    exact v_sub [2, 3, 4, 5, 0] rfl (hk7 x2 x3 x4 (x5 + 1) hf)
  · have hf := opt_f c hf
    refine v_aload_n 1 1 hX dX3_fewestPlaces_39 rfl rfl ?_
    refine v_iload_n 3 3 hX dX3_fewestPlaces_40 rfl rfl ?_
    refine v_iload 5 hX dX3_fewestPlaces_41 rfl ?_
    refine v_ior hX dX3_fewestPlaces_43 ?_
    obtain ⟨v3, hc, hf⟩ := opt_b hf
    refine v_callVi (rest := []) (As := [.int (x3 ||| x5)]) (C := RX1) (T := TX1) (N := 19) (ci := 1) 13 hX dX3_fewestPlaces_44 (c_X1_standingOn fuel σ (x3 ||| x5) hc) rfl rfl (lt_b rfl) rfl rfl rfl mw_546 mw_547 mw_59 mw_675 mw_548 gAll ds_X1_standingOn rfl ⟨Nat.le_of_ble_eq_true rfl, Nat.le_of_ble_eq_true rfl⟩ (Nat.le_of_ble_eq_true rfl) ?_
    refine v_iload_n 2 2 hX dX3_fewestPlaces_47 rfl rfl ?_
    obtain ⟨v4, hc, hf⟩ := opt_b hf
    refine v_callNi (rest := []) (As := [.int v3, .int x2]) hX dX3_fewestPlaces_48 (c_X6_bitOf σ v3 x2 hc) rfl rfl mw_509 mw_57 (ex_RX3_45 hX) mw_510 gAll ds_X6_bitOf rfl ⟨Nat.le_of_ble_eq_true rfl, Nat.le_of_ble_eq_true rfl⟩ (Nat.le_of_ble_eq_true rfl) ?_
    refine v_iconst 1 hX dX3_fewestPlaces_51 (by decide) ?_
    refine v_icmp_ne 59 hX dX3_fewestPlaces_52 (by decide) (fun c => ?_) (fun c => ?_)
    · have hf := opt_f c hf
      refine v_iinc 5 (x5 + 1) [(5, .int (x5 + 1)), (6, .int y0), (1, .ref (ad 13)), (2, .int x2), (3, .int x3), (4, .int x4)] hX dX3_fewestPlaces_59 rfl rfl (lt_b rfl) rfl ?_
      refine v_goto 7 hX dX3_fewestPlaces_62 (by decide) ?_
      exact v_sub [2, 3, 4, 5, 0] rfl (hk7 x2 x3 x4 (x5 + 1) hf)
    · have hf := opt_t c hf
      refine v_iload 5 hX dX3_fewestPlaces_55 rfl ?_
      refine v_istore [(4, .int x5), (6, .int y0), (1, .ref (ad 13)), (2, .int x2), (3, .int x3), (5, .int x5)] hX dX3_fewestPlaces_57 (lt_b rfl) rfl ?_
      refine v_iinc 5 (x5 + 1) [(5, .int (x5 + 1)), (4, .int x5), (6, .int y0), (1, .ref (ad 13)), (2, .int x2), (3, .int x3)] hX dX3_fewestPlaces_59 rfl rfl (lt_b rfl) rfl ?_
      refine v_goto 7 hX dX3_fewestPlaces_62 (by decide) ?_
      exact v_sub [3, 4, 5, 1, 0] rfl (hk7 x2 x3 x5 (x5 + 1) hf)
set_option maxHeartbeats 4000000 in
set_option maxRecDepth 100000 in
theorem s_X3_fewestPlaces_7 {P : PT} {M : MT} {D : va_G} {cs : ClassId × ClassId × ClassId} {ad : Nat → Nat} {ts : Nat × Nat × Nat} (hX : VOk P M (xW D cs ad ts) 7 cX3_fewestPlaces RX3 (some .int) 2) (fuel : Nat) (σ : Mem)   (z : Int32)  : ∀ (n : Nat) (x2 : Int32) (x3 : Int32) (x4 : Int32) (x5 : Int32), f_X3_fewestPlaces_7 fuel σ n x2 x3 x4 x5 = some z → V P M (xW D cs ad ts) 7 (QI P M (xW D cs ad ts) z σ) 7 [(1, .ref (ad 13)), (2, .int x2), (3, .int x3), (4, .int x4), (5, .int x5)] [] σ := by
  intro n
  induction n with
  | zero =>
    intro x2 x3 x4 x5 hf
    cases hf
  | succ n hk7 =>
    intro x2 x3 x4 x5 hf
    rw [f_X3_fewestPlaces_7] at hf
    refine v_iload 4 hX dX3_fewestPlaces_7 rfl ?_
    refine v_bipush 64 hX dX3_fewestPlaces_9 (by decide) ?_
    refine v_icmp_ge 65 hX dX3_fewestPlaces_11 (by decide) (fun c => ?_) (fun c => ?_)
    · have hf := opt_t c hf
      refine v_iload 3 hX dX3_fewestPlaces_65 rfl ?_
      obtain rfl := Option.some.inj hf
      exact v_iret (r := x4) hX dX3_fewestPlaces_67 rfl
    · have hf := opt_f c hf
      refine v_iload 4 hX dX3_fewestPlaces_14 rfl ?_
      obtain ⟨v1, hc, hf⟩ := opt_b hf
      refine v_callSi (rest := []) (As := [.int x5]) hX dX3_fewestPlaces_16 (c_J6_bitCount_0f7a4 σ x5 hc) rfl rfl mw_670 mw_68 mw_669 mw_671 gAll ds_J6_bitCount_0f7a4 rfl ⟨Nat.le_of_ble_eq_true rfl, Nat.le_of_ble_eq_true rfl⟩ (Nat.le_of_ble_eq_true rfl) ?_
      refine v_iload 3 hX dX3_fewestPlaces_19 rfl ?_
      obtain ⟨v2, hc, hf⟩ := opt_b hf
      refine v_callSi (rest := [.int v1]) (As := [.int x4]) hX dX3_fewestPlaces_21 (c_J6_bitCount_0f7a4 σ x4 hc) rfl rfl mw_670 mw_68 mw_669 mw_671 gAll ds_J6_bitCount_0f7a4 rfl ⟨Nat.le_of_ble_eq_true rfl, Nat.le_of_ble_eq_true rfl⟩ (Nat.le_of_ble_eq_true rfl) ?_
      refine v_icmp_ge 31 hX dX3_fewestPlaces_24 (by decide) (fun c => ?_) (fun c => ?_)
      · have hf := opt_t c hf
        refine v_iconst 0 hX dX3_fewestPlaces_31 (by decide) ?_
        exact (s_X3_fewestPlaces_32 hX fuel σ (f_X3_fewestPlaces_7 fuel σ n) z hk7 x2 x3 x4 x5 0 hf)
      · have hf := opt_f c hf
        refine v_iconst 1 hX dX3_fewestPlaces_27 (by decide) ?_
        refine v_goto 32 hX dX3_fewestPlaces_28 (by decide) ?_
        exact (s_X3_fewestPlaces_32 hX fuel σ (f_X3_fewestPlaces_7 fuel σ n) z hk7 x2 x3 x4 x5 1 hf)
set_option maxHeartbeats 4000000 in
set_option maxRecDepth 100000 in
theorem c_X3_fewestPlaces {l : Launch} {D : va_G} {cs : ClassId × ClassId × ClassId} {ad : Nat → Nat} {ts : Nat × Nat × Nat} (fuel : Nat) (σ : Mem)  (x2 : Int32) (x3 : Int32) {z : Int32} (hf : f_X3_fewestPlaces fuel σ x2 x3 = some z) : CtI l (xW D cs ad ts) 2 yX3_fewestPlaces cX3_fewestPlaces 7 (some .int) [.ref (ad 62), .ref (ad 13), .int x2, .int x3] σ z σ := by
  refine ct_I RX3 [(0, .ref (ad 62)), (1, .ref (ad 13)), (2, .int x2), (3, .int x3)] (by decide +kernel) rfl rfl (Nat.le_of_ble_eq_true rfl) ?_
  intro P M hl0 hX
  unfold f_X3_fewestPlaces at hf
  refine v_bipush 63 hX dX3_fewestPlaces_0 (by decide) ?_
  refine v_istore [(4, .int 63), (0, .ref (ad 62)), (1, .ref (ad 13)), (2, .int x2), (3, .int x3)] hX dX3_fewestPlaces_2 (lt_b rfl) rfl ?_
  refine v_iconst 0 hX dX3_fewestPlaces_4 (by decide) ?_
  refine v_istore [(5, .int 0), (4, .int 63), (0, .ref (ad 62)), (1, .ref (ad 13)), (2, .int x2), (3, .int x3)] hX dX3_fewestPlaces_5 (lt_b rfl) rfl ?_
  exact v_sub [3, 4, 5, 1, 0] rfl (s_X3_fewestPlaces_7 hX fuel σ z  fuel x2 x3 63 0 hf)
set_option maxHeartbeats 4000000 in
set_option maxRecDepth 100000 in
theorem s_X3_bestOrder_7 {P : PT} {M : MT} {D : va_G} {cs : ClassId × ClassId × ClassId} {ad : Nat → Nat} {ts : Nat × Nat × Nat} (hX : VOk P M (xW D cs ad ts) 6 cX3_bestOrder RX3 (some .int) 2) (fuel : Nat) (σ : Mem)   (z : Int32)  : ∀ (n : Nat) (x2 : Int32) (x3 : Int32) (x4 : Int32), f_X3_bestOrder_7 fuel σ n x2 x3 x4 = some z → V P M (xW D cs ad ts) 6 (QI P M (xW D cs ad ts) z σ) 7 [(0, .ref (ad 62)), (1, .ref (ad 13)), (2, .int x2), (3, .int x3), (4, .int x4)] [] σ := by
  intro n
  induction n with
  | zero =>
    intro x2 x3 x4 hf
    cases hf
  | succ n hk7 =>
    intro x2 x3 x4 hf
    rw [f_X3_bestOrder_7] at hf
    refine v_iload 4 hX dX3_bestOrder_7 rfl ?_
    refine v_iconst 1 hX dX3_bestOrder_9 (by decide) ?_
    refine v_iconst 2 hX dX3_bestOrder_10 (by decide) ?_
    refine v_aload_n 1 1 hX dX3_bestOrder_11 rfl rfl ?_
    refine v_get (C := RX1) (T := TX1) (N := 19) (ci := 1) (v := .int (σ 13 6)) 13 6 hX dX3_bestOrder_12 mw_126 rfl inlX1 rfl (lt_b rfl) (lt_b rfl) rfl rfl ?_
    refine v_imul hX dX3_bestOrder_15 ?_
    refine v_ishl hX dX3_bestOrder_16 ?_
    refine v_icmp_ge 47 hX dX3_bestOrder_17 (by decide) (fun c => ?_) (fun c => ?_)
    · have hf := opt_t c hf
      refine v_iload_n 2 2 hX dX3_bestOrder_47 rfl rfl ?_
      obtain rfl := Option.some.inj hf
      exact v_iret (r := x2) hX dX3_bestOrder_48 rfl
    · have hf := opt_f c hf
      refine v_aload_n 0 0 hX dX3_bestOrder_20 rfl rfl ?_
      refine v_aload_n 1 1 hX dX3_bestOrder_21 rfl rfl ?_
      refine v_iload 4 hX dX3_bestOrder_22 rfl ?_
      obtain ⟨v1, hc, hf⟩ := opt_b hf
      refine v_callVi (rest := []) (As := [.ref (ad 13), .int x4]) (C := RX3) (T := TX3) (N := 3) (ci := 3) 62 hX dX3_bestOrder_24 (c_X3_sumOfOrder fuel σ x4 hc) rfl rfl (lt_b rfl) rfl rfl rfl mw_697 mw_698 mw_62 mw_696 mw_699 gAll ds_X3_sumOfOrder rfl ⟨Nat.le_of_ble_eq_true rfl, Nat.le_of_ble_eq_true rfl⟩ (Nat.le_of_ble_eq_true rfl) ?_
      refine v_istore [(5, .int v1), (0, .ref (ad 62)), (1, .ref (ad 13)), (2, .int x2), (3, .int x3), (4, .int x4)] hX dX3_bestOrder_27 (lt_b rfl) rfl ?_
      refine v_iload 0 hX dX3_bestOrder_29 rfl ?_
      refine v_iload_n 4 3 hX dX3_bestOrder_31 rfl rfl ?_
      refine v_icmp_le 41 hX dX3_bestOrder_32 (by decide) (fun c => ?_) (fun c => ?_)
      · have hf := opt_t c hf
        refine v_iinc 5 (x4 + 1) [(4, .int (x4 + 1)), (5, .int v1), (0, .ref (ad 62)), (1, .ref (ad 13)), (2, .int x2), (3, .int x3)] hX dX3_bestOrder_41 rfl rfl (lt_b rfl) rfl ?_
        refine v_goto 7 hX dX3_bestOrder_44 (by decide) ?_
        exact v_sub [2, 3, 4, 5, 0] rfl (hk7 x2 x3 (x4 + 1) hf)
      · have hf := opt_f c hf
        refine v_iload 5 hX dX3_bestOrder_35 rfl ?_
        refine v_istore_n 2 [(2, .int x4), (5, .int v1), (0, .ref (ad 62)), (1, .ref (ad 13)), (3, .int x3), (4, .int x4)] hX dX3_bestOrder_37 rfl (lt_b rfl) rfl ?_
        refine v_iload 1 hX dX3_bestOrder_38 rfl ?_
        refine v_istore_n 3 [(3, .int v1), (2, .int x4), (5, .int v1), (0, .ref (ad 62)), (1, .ref (ad 13)), (4, .int x4)] hX dX3_bestOrder_40 rfl (lt_b rfl) rfl ?_
        refine v_iinc 5 (x4 + 1) [(4, .int (x4 + 1)), (3, .int v1), (2, .int x4), (5, .int v1), (0, .ref (ad 62)), (1, .ref (ad 13))] hX dX3_bestOrder_41 rfl rfl (lt_b rfl) rfl ?_
        refine v_goto 7 hX dX3_bestOrder_44 (by decide) ?_
        exact v_sub [4, 5, 2, 1, 0] rfl (hk7 x4 v1 (x4 + 1) hf)
set_option maxHeartbeats 4000000 in
set_option maxRecDepth 100000 in
theorem c_X3_bestOrder {l : Launch} {D : va_G} {cs : ClassId × ClassId × ClassId} {ad : Nat → Nat} {ts : Nat × Nat × Nat} (fuel : Nat) (σ : Mem)   {z : Int32} (hf : f_X3_bestOrder fuel σ = some z) : CtI l (xW D cs ad ts) 2 yX3_bestOrder cX3_bestOrder 6 (some .int) [.ref (ad 62), .ref (ad 13)] σ z σ := by
  refine ct_I RX3 [(0, .ref (ad 62)), (1, .ref (ad 13))] (by decide +kernel) rfl rfl (Nat.le_of_ble_eq_true rfl) ?_
  intro P M hl0 hX
  unfold f_X3_bestOrder at hf
  refine v_iconst 0 hX dX3_bestOrder_0 (by decide) ?_
  refine v_istore_n 2 [(2, .int 0), (0, .ref (ad 62)), (1, .ref (ad 13))] hX dX3_bestOrder_1 rfl (lt_b rfl) rfl ?_
  refine v_iconst (-1) hX dX3_bestOrder_2 (by decide) ?_
  refine v_istore_n 3 [(3, .int (-1)), (2, .int 0), (0, .ref (ad 62)), (1, .ref (ad 13))] hX dX3_bestOrder_3 rfl (lt_b rfl) rfl ?_
  refine v_iconst 0 hX dX3_bestOrder_4 (by decide) ?_
  refine v_istore [(4, .int 0), (3, .int (-1)), (2, .int 0), (0, .ref (ad 62)), (1, .ref (ad 13))] hX dX3_bestOrder_5 (lt_b rfl) rfl ?_
  exact v_sub [3, 4, 2, 1, 0] rfl (s_X3_bestOrder_7 hX fuel σ z  fuel 0 (-1) 0 hf)
set_option maxHeartbeats 4000000 in
set_option maxRecDepth 100000 in
theorem s_X3_blanksOf_38 {P : PT} {M : MT} {D : va_G} {cs : ClassId × ClassId × ClassId} {ad : Nat → Nat} {ts : Nat × Nat × Nat} (hX : VOk P M (xW D cs ad ts) 6 cX3_blanksOf RX3 (some .int) 2) (fuel : Nat)   (z : Int32 × Mem)  : ∀ (n : Nat) (σ : Mem) (x2 : Int32) (x3 : Int32) (x4 : Int32) (x5 : Int32), f_X3_blanksOf_38 fuel n σ x2 x3 x4 x5 = some z → V P M (xW D cs ad ts) 6 (QI P M (xW D cs ad ts) z.1 z.2) 38 [(0, .ref (ad 62)), (1, .ref (ad 13)), (2, .int x2), (3, .int x3), (4, .int x4), (5, .int x5)] [] σ := by
  intro n
  induction n with
  | zero =>
    intro σ x2 x3 x4 x5 hf
    cases hf
  | succ n hk38 =>
    intro σ x2 x3 x4 x5 hf
    rw [f_X3_blanksOf_38] at hf
    refine v_iload 5 hX dX3_blanksOf_38 rfl ?_
    refine v_aload_n 1 1 hX dX3_blanksOf_40 rfl rfl ?_
    refine v_get (C := RX1) (T := TX1) (N := 19) (ci := 1) (v := .int (σ 13 7)) 13 7 hX dX3_blanksOf_41 mw_133 rfl inlX1 rfl (lt_b rfl) (lt_b rfl) rfl rfl ?_
    refine v_icmp_ge 72 hX dX3_blanksOf_44 (by decide) (fun c => ?_) (fun c => ?_)
    · have hf := opt_t c hf
      refine v_iload_n 3 3 hX dX3_blanksOf_72 rfl rfl ?_
      refine v_if_ne 83 hX dX3_blanksOf_73 (by decide) (fun c => ?_) (fun c => ?_)
      · have hf := opt_f c hf
        refine v_aload_n 0 0 hX dX3_blanksOf_83 rfl rfl ?_
        refine v_get (C := RX3) (T := TX3) (N := 3) (ci := 3) (v := .ref (ad 64)) 62 1 hX dX3_blanksOf_84 mw_258 rfl inlX3 rfl (lt_b rfl) (lt_b rfl) rfl rfl ?_
        refine v_iload_n 2 2 hX dX3_blanksOf_87 rfl rfl ?_
        obtain ⟨hi4, hf⟩ := gd_some hf
        refine v_ald (v := σ 64 x2.toNatClampNeg) 64 hX dX3_blanksOf_88 (lt_b rfl) ((fun _ => rfl) _) hi4 rfl ?_
        refine v_if_le 101 hX dX3_blanksOf_89 (by decide) (fun c => ?_) (fun c => ?_)
        · have hf := opt_t c hf
          refine v_ldc (-1000000) hX dX3_blanksOf_101 mw_623 ?_
          obtain rfl := Option.some.inj hf
          exact v_iret (r := (-1000000)) hX dX3_blanksOf_103 rfl
        · have hf := opt_f c hf
          refine v_aload_n 0 0 hX dX3_blanksOf_92 rfl rfl ?_
          refine v_get (C := RX3) (T := TX3) (N := 3) (ci := 3) (v := .ref (ad 65)) 62 2 hX dX3_blanksOf_93 mw_259 rfl inlX3 rfl (lt_b rfl) (lt_b rfl) rfl rfl ?_
          refine v_iload_n 2 2 hX dX3_blanksOf_96 rfl rfl ?_
          obtain ⟨hi5, hf⟩ := gd_some hf
          refine v_ald (v := σ 65 x2.toNatClampNeg) 65 hX dX3_blanksOf_97 (lt_b rfl) ((fun _ => rfl) _) hi5 rfl ?_
          refine v_goto 103 hX dX3_blanksOf_98 (by decide) ?_
          obtain rfl := Option.some.inj hf
          exact v_iret (r := σ 65 x2.toNatClampNeg) hX dX3_blanksOf_103 rfl
      · have hf := opt_t c hf
        refine v_aload_n 0 0 hX dX3_blanksOf_76 rfl rfl ?_
        refine v_get (C := RX3) (T := TX3) (N := 3) (ci := 3) (v := .ref (ad 64)) 62 1 hX dX3_blanksOf_77 mw_258 rfl inlX3 rfl (lt_b rfl) (lt_b rfl) rfl rfl ?_
        refine v_iload_n 2 2 hX dX3_blanksOf_80 rfl rfl ?_
        obtain ⟨hi6, hf⟩ := gd_some hf
        refine v_ald (v := σ 64 x2.toNatClampNeg) 64 hX dX3_blanksOf_81 (lt_b rfl) ((fun _ => rfl) _) hi6 rfl ?_
        obtain rfl := Option.some.inj hf
        exact v_iret (r := σ 64 x2.toNatClampNeg) hX dX3_blanksOf_82 rfl
    · have hf := opt_f c hf
      refine v_iload 4 hX dX3_blanksOf_47 rfl ?_
      refine v_iload 5 hX dX3_blanksOf_49 rfl ?_
      obtain ⟨v7, hc, hf⟩ := opt_b hf
      refine v_callNi (rest := []) (As := [.int x4, .int x5]) hX dX3_blanksOf_51 (c_X6_bitOf σ x4 x5 hc) rfl rfl mw_509 mw_57 (ex_RX3_45 hX) mw_510 gAll ds_X6_bitOf rfl ⟨Nat.le_of_ble_eq_true rfl, Nat.le_of_ble_eq_true rfl⟩ (Nat.le_of_ble_eq_true rfl) ?_
      refine v_iconst 1 hX dX3_blanksOf_54 (by decide) ?_
      refine v_icmp_ne 66 hX dX3_blanksOf_55 (by decide) (fun c => ?_) (fun c => ?_)
      · have hf := opt_f c hf
        refine v_iinc 5 (x5 + 1) [(5, .int (x5 + 1)), (0, .ref (ad 62)), (1, .ref (ad 13)), (2, .int x2), (3, .int x3), (4, .int x4)] hX dX3_blanksOf_66 rfl rfl (lt_b rfl) rfl ?_
        refine v_goto 38 hX dX3_blanksOf_69 (by decide) ?_
        exact v_sub [1, 2, 3, 4, 5, 0] rfl (hk38 σ x2 x3 x4 (x5 + 1) hf)
      · have hf := opt_t c hf
        refine v_aload_n 0 0 hX dX3_blanksOf_58 rfl rfl ?_
        refine v_aload_n 1 1 hX dX3_blanksOf_59 rfl rfl ?_
        refine v_iload 5 hX dX3_blanksOf_60 rfl ?_
        refine v_iload_n 2 2 hX dX3_blanksOf_62 rfl rfl ?_
        obtain ⟨v8, hc, hf⟩ := opt_b hf
        refine v_callVv (rest := []) (As := [.ref (ad 13), .int x5, .int x2]) (C := RX3) (T := TX3) (N := 3) (ci := 3) 62 hX dX3_blanksOf_63 (c_X3_widenBy σ fuel x5 x2 hc) rfl rfl (lt_b rfl) rfl rfl rfl mw_718 mw_21 mw_62 mw_716 mw_719 gAll ds_X3_widenBy rfl ⟨Nat.le_of_ble_eq_true rfl, Nat.le_of_ble_eq_true rfl⟩ (Nat.le_of_ble_eq_true rfl) ?_
        refine v_iinc 5 (x5 + 1) [(5, .int (x5 + 1)), (0, .ref (ad 62)), (1, .ref (ad 13)), (2, .int x2), (3, .int x3), (4, .int x4)] hX dX3_blanksOf_66 rfl rfl (lt_b rfl) rfl ?_
        refine v_goto 38 hX dX3_blanksOf_69 (by decide) ?_
        exact v_sub [1, 2, 3, 4, 5, 0] rfl (hk38 v8 x2 x3 x4 (x5 + 1) hf)
set_option maxHeartbeats 4000000 in
set_option maxRecDepth 100000 in
theorem c_X3_blanksOf {l : Launch} {D : va_G} {cs : ClassId × ClassId × ClassId} {ad : Nat → Nat} {ts : Nat × Nat × Nat} (σ : Mem) (fuel : Nat)  (x2 : Int32) (x3 : Int32) {z : Int32 × Mem} (hf : f_X3_blanksOf fuel σ x2 x3 = some z) : CtI l (xW D cs ad ts) 2 yX3_blanksOf cX3_blanksOf 6 (some .int) [.ref (ad 62), .ref (ad 13), .int x2, .int x3] σ z.1 z.2 := by
  refine ct_I RX3 [(0, .ref (ad 62)), (1, .ref (ad 13)), (2, .int x2), (3, .int x3)] (by decide +kernel) rfl rfl (Nat.le_of_ble_eq_true rfl) ?_
  intro P M hl0 hX
  unfold f_X3_blanksOf at hf
  refine v_aload_n 0 0 hX dX3_blanksOf_0 rfl rfl ?_
  refine v_get (C := RX3) (T := TX3) (N := 3) (ci := 3) (v := .ref (ad 64)) 62 1 hX dX3_blanksOf_1 mw_258 rfl inlX3 rfl (lt_b rfl) (lt_b rfl) rfl rfl ?_
  refine v_iconst 0 hX dX3_blanksOf_4 (by decide) ?_
  obtain ⟨v1, hc, hf⟩ := opt_b hf
  refine v_callSv (rest := []) (As := [.ref (ad 64), .int 0]) hX dX3_blanksOf_5 (c_J7_fill_64 σ fuel 0 hc) rfl rfl mw_334 mw_65 mw_714 mw_335 gAll ds_J7_fill_53178 rfl ⟨Nat.le_of_ble_eq_true rfl, Nat.le_of_ble_eq_true rfl⟩ (Nat.le_of_ble_eq_true rfl) ?_
  refine v_aload_n 0 0 hX dX3_blanksOf_8 rfl rfl ?_
  refine v_get (C := RX3) (T := TX3) (N := 3) (ci := 3) (v := .ref (ad 65)) 62 2 hX dX3_blanksOf_9 mw_259 rfl inlX3 rfl (lt_b rfl) (lt_b rfl) rfl rfl ?_
  refine v_iconst 0 hX dX3_blanksOf_12 (by decide) ?_
  obtain ⟨v2, hc, hf⟩ := opt_b hf
  refine v_callSv (rest := []) (As := [.ref (ad 65), .int 0]) hX dX3_blanksOf_13 (c_J7_fill_65 v1 fuel 0 hc) rfl rfl mw_334 mw_65 mw_714 mw_335 gAll ds_J7_fill_53178 rfl ⟨Nat.le_of_ble_eq_true rfl, Nat.le_of_ble_eq_true rfl⟩ (Nat.le_of_ble_eq_true rfl) ?_
  refine v_aload_n 0 0 hX dX3_blanksOf_16 rfl rfl ?_
  refine v_get (C := RX3) (T := TX3) (N := 3) (ci := 3) (v := .ref (ad 64)) 62 1 hX dX3_blanksOf_17 mw_258 rfl inlX3 rfl (lt_b rfl) (lt_b rfl) rfl rfl ?_
  refine v_iconst 0 hX dX3_blanksOf_20 (by decide) ?_
  refine v_iconst 1 hX dX3_blanksOf_21 (by decide) ?_
  refine v_astc 64 0 hX dX3_blanksOf_22 (lt_b rfl) (fun _ => rfl) ib_0_91 tn_0 ?_
  refine v_aload_n 1 1 hX dX3_blanksOf_23 rfl rfl ?_
  refine v_bipush 15 hX dX3_blanksOf_24 (by decide) ?_
  refine v_aload_n 1 1 hX dX3_blanksOf_26 rfl rfl ?_
  refine v_get (C := RX1) (T := TX1) (N := 19) (ci := 1) (v := .int (v2 13 1)) 13 1 hX dX3_blanksOf_27 mw_107 rfl inlX1 rfl (lt_b rfl) (lt_b rfl) rfl rfl ?_
  obtain ⟨v3, hc, hf⟩ := opt_b hf
  refine v_callVi (rest := []) (As := [.int 15, .int (v2 13 1)]) (C := RX1) (T := TX1) (N := 19) (ci := 1) 13 hX dX3_blanksOf_30 (c_X1_recallableBy fuel (mst v2 64 0 1) 15 (v2 13 1) hc) rfl rfl (lt_b rfl) rfl rfl rfl mw_596 mw_597 mw_59 mw_715 mw_598 gAll ds_X1_recallableBy rfl ⟨Nat.le_of_ble_eq_true rfl, Nat.le_of_ble_eq_true rfl⟩ (Nat.le_of_ble_eq_true rfl) ?_
  refine v_istore [(4, .int v3), (0, .ref (ad 62)), (1, .ref (ad 13)), (2, .int x2), (3, .int x3)] hX dX3_blanksOf_33 (lt_b rfl) rfl ?_
  refine v_iconst 0 hX dX3_blanksOf_35 (by decide) ?_
  refine v_istore [(5, .int 0), (4, .int v3), (0, .ref (ad 62)), (1, .ref (ad 13)), (2, .int x2), (3, .int x3)] hX dX3_blanksOf_36 (lt_b rfl) rfl ?_
  exact v_sub [2, 3, 4, 5, 1, 0] rfl (s_X3_blanksOf_38 hX fuel z  fuel (mst v2 64 0 1) x2 x3 v3 0 hf)
set_option maxHeartbeats 4000000 in
set_option maxRecDepth 100000 in
theorem c_X3_couldWhiten {l : Launch} {D : va_G} {cs : ClassId × ClassId × ClassId} {ad : Nat → Nat} {ts : Nat × Nat × Nat} (σ : Mem)  (x2 : Int32) (x3 : Int32) {z : Int32} (hf : f_X3_couldWhiten σ x2 x3 = some z) : CtI l (xW D cs ad ts) 2 yX3_couldWhiten cX3_couldWhiten 6 (some .boolean) [.ref (ad 62), .ref (ad 13), .int x2, .int x3] σ z σ := by
  refine ct_I RX3 [(0, .ref (ad 62)), (1, .ref (ad 13)), (2, .int x2), (3, .int x3)] (by decide +kernel) rfl rfl (Nat.le_of_ble_eq_true rfl) ?_
  intro P M hl0 hX
  unfold f_X3_couldWhiten at hf
  refine v_iload_n 3 3 hX dX3_couldWhiten_0 rfl rfl ?_
  refine v_aload_n 1 1 hX dX3_couldWhiten_1 rfl rfl ?_
  refine v_get (C := RX1) (T := TX1) (N := 19) (ci := 1) (v := .ref (ad 19)) 13 14 hX dX3_couldWhiten_2 mw_156 rfl inlX1 rfl (lt_b rfl) (lt_b rfl) rfl rfl ?_
  refine v_iload_n 2 2 hX dX3_couldWhiten_5 rfl rfl ?_
  obtain ⟨hi1, hf⟩ := gd_some hf
  refine v_ald (v := σ 19 x2.toNatClampNeg) 19 hX dX3_couldWhiten_6 (lt_b rfl) ((fun _ => rfl) _) hi1 rfl ?_
  refine v_icmp_lt 18 hX dX3_couldWhiten_7 (by decide) (fun c => ?_) (fun c => ?_)
  · have hf := opt_t c hf
    refine v_iconst 0 hX dX3_couldWhiten_18 (by decide) ?_
    obtain rfl := Option.some.inj hf
    exact v_iret (r := 0) hX dX3_couldWhiten_19 rfl
  · have hf := opt_f c hf
    refine v_iload_n 3 3 hX dX3_couldWhiten_10 rfl rfl ?_
    refine v_aload_n 1 1 hX dX3_couldWhiten_11 rfl rfl ?_
    refine v_get (C := RX1) (T := TX1) (N := 19) (ci := 1) (v := .int (σ 13 3)) 13 3 hX dX3_couldWhiten_12 mw_116 rfl inlX1 rfl (lt_b rfl) (lt_b rfl) rfl rfl ?_
    refine v_icmp_le 20 hX dX3_couldWhiten_15 (by decide) (fun c => ?_) (fun c => ?_)
    · have hf := opt_t c hf
      refine v_aload_n 1 1 hX dX3_couldWhiten_20 rfl rfl ?_
      refine v_iload_n 2 2 hX dX3_couldWhiten_21 rfl rfl ?_
      refine v_iload_n 3 3 hX dX3_couldWhiten_22 rfl rfl ?_
      obtain ⟨v2, hc, hf⟩ := opt_b hf
      refine v_callVi (rest := []) (As := [.int x2, .int x3]) (C := RX1) (T := TX1) (N := 19) (ci := 1) 13 hX dX3_couldWhiten_23 (c_X1_isInLimit σ x2 x3 hc) rfl rfl (lt_b rfl) rfl rfl rfl mw_512 mw_513 mw_59 mw_732 mw_514 gAll ds_X1_isInLimit rfl ⟨Nat.le_of_ble_eq_true rfl, Nat.le_of_ble_eq_true rfl⟩ (Nat.le_of_ble_eq_true rfl) ?_
      refine v_istore [(4, .int v2), (0, .ref (ad 62)), (1, .ref (ad 13)), (2, .int x2), (3, .int x3)] hX dX3_couldWhiten_26 (lt_b rfl) rfl ?_
      refine v_aload_n 2 1 hX dX3_couldWhiten_28 rfl rfl ?_
      refine v_aload_n 2 1 hX dX3_couldWhiten_29 rfl rfl ?_
      refine v_get (C := RX1) (T := TX1) (N := 19) (ci := 1) (v := .ref (ad 17)) 13 12 hX dX3_couldWhiten_30 mw_150 rfl inlX1 rfl (lt_b rfl) (lt_b rfl) rfl rfl ?_
      refine v_iload_n 3 2 hX dX3_couldWhiten_33 rfl rfl ?_
      obtain ⟨hi3, hf⟩ := gd_some hf
      refine v_ald (v := σ 17 x2.toNatClampNeg) 17 hX dX3_couldWhiten_34 (lt_b rfl) ((fun _ => rfl) _) hi3 rfl ?_
      obtain ⟨v4, hc, hf⟩ := opt_b hf
      refine v_callVi (rest := []) (As := [.int (σ 17 x2.toNatClampNeg)]) (C := RX1) (T := TX1) (N := 19) (ci := 1) 13 hX dX3_couldWhiten_35 (c_X1_isDrunk σ (σ 17 x2.toNatClampNeg) hc) rfl rfl (lt_b rfl) rfl rfl rfl mw_537 mw_538 mw_59 mw_651 mw_539 gAll ds_X1_isDrunk rfl ⟨Nat.le_of_ble_eq_true rfl, Nat.le_of_ble_eq_true rfl⟩ (Nat.le_of_ble_eq_true rfl) ?_
      refine v_if_ne 44 hX dX3_couldWhiten_38 (by decide) (fun c => ?_) (fun c => ?_)
      · have hf := opt_f c hf
        refine v_iload_n 4 3 hX dX3_couldWhiten_44 rfl rfl ?_
        refine v_aload_n 2 1 hX dX3_couldWhiten_45 rfl rfl ?_
        refine v_get (C := RX1) (T := TX1) (N := 19) (ci := 1) (v := .ref (ad 19)) 13 14 hX dX3_couldWhiten_46 mw_156 rfl inlX1 rfl (lt_b rfl) (lt_b rfl) rfl rfl ?_
        refine v_iload_n 3 2 hX dX3_couldWhiten_49 rfl rfl ?_
        obtain ⟨hi5, hf⟩ := gd_some hf
        refine v_ald (v := σ 19 x2.toNatClampNeg) 19 hX dX3_couldWhiten_50 (lt_b rfl) ((fun _ => rfl) _) hi5 rfl ?_
        refine v_isub hX dX3_couldWhiten_51 ?_
        refine v_istore [(5, .int (x3 - (σ 19 x2.toNatClampNeg))), (4, .int v2), (0, .ref (ad 62)), (1, .ref (ad 13)), (2, .int x2), (3, .int x3)] hX dX3_couldWhiten_52 (lt_b rfl) rfl ?_
        refine v_iload 0 hX dX3_couldWhiten_54 rfl ?_
        refine v_aload_n 3 1 hX dX3_couldWhiten_56 rfl rfl ?_
        refine v_get (C := RX1) (T := TX1) (N := 19) (ci := 1) (v := .int (σ 13 2)) 13 2 hX dX3_couldWhiten_57 mw_113 rfl inlX1 rfl (lt_b rfl) (lt_b rfl) rfl rfl ?_
        refine v_icmp_eq 77 hX dX3_couldWhiten_60 (by decide) (fun c => ?_) (fun c => ?_)
        · have hf := opt_t c hf
          refine v_iconst 1 hX dX3_couldWhiten_77 (by decide) ?_
          refine v_goto 82 hX dX3_couldWhiten_78 (by decide) ?_
          obtain rfl := Option.some.inj hf
          exact v_iret (r := 1) hX dX3_couldWhiten_82 rfl
        · have hf := opt_f c hf
          refine v_iload 0 hX dX3_couldWhiten_63 rfl ?_
          refine v_aload_n 3 1 hX dX3_couldWhiten_65 rfl rfl ?_
          refine v_get (C := RX1) (T := TX1) (N := 19) (ci := 1) (v := .int (σ 13 2)) 13 2 hX dX3_couldWhiten_66 mw_113 rfl inlX1 rfl (lt_b rfl) (lt_b rfl) rfl rfl ?_
          refine v_icmp_ge 81 hX dX3_couldWhiten_69 (by decide) (fun c => ?_) (fun c => ?_)
          · have hf := opt_t c hf
            refine v_iconst 0 hX dX3_couldWhiten_81 (by decide) ?_
            obtain rfl := Option.some.inj hf
            exact v_iret (r := 0) hX dX3_couldWhiten_82 rfl
          · have hf := opt_f c hf
            refine v_iload 1 hX dX3_couldWhiten_72 rfl ?_
            refine v_if_eq 81 hX dX3_couldWhiten_74 (by decide) (fun c => ?_) (fun c => ?_)
            · have hf := opt_t c hf
              refine v_iconst 0 hX dX3_couldWhiten_81 (by decide) ?_
              obtain rfl := Option.some.inj hf
              exact v_iret (r := 0) hX dX3_couldWhiten_82 rfl
            · have hf := opt_f c hf
              refine v_iconst 1 hX dX3_couldWhiten_77 (by decide) ?_
              refine v_goto 82 hX dX3_couldWhiten_78 (by decide) ?_
              obtain rfl := Option.some.inj hf
              exact v_iret (r := 1) hX dX3_couldWhiten_82 rfl
      · have hf := opt_t c hf
        refine v_iload 0 hX dX3_couldWhiten_41 rfl ?_
        obtain ⟨hg6, hf⟩ := gd_some hf
        obtain rfl := Option.some.inj hf
        exact v_iret (r := v2) hX dX3_couldWhiten_43 (isB_n hg6)
    · have hf := opt_f c hf
      refine v_iconst 0 hX dX3_couldWhiten_18 (by decide) ?_
      obtain rfl := Option.some.inj hf
      exact v_iret (r := 0) hX dX3_couldWhiten_19 rfl
set_option maxHeartbeats 4000000 in
set_option maxRecDepth 100000 in
theorem s_X3_selfOf_72 {P : PT} {M : MT} {D : va_G} {cs : ClassId × ClassId × ClassId} {ad : Nat → Nat} {ts : Nat × Nat × Nat} (hX : VOk P M (xW D cs ad ts) 8 cX3_selfOf RX3 (some .int) 2) (fuel : Nat) (σ : Mem)   (z : Int32)  (x7 : Int32) (y0 : Int32) (hf : f_X3_selfOf_72 fuel σ x7 y0 = some z) : V P M (xW D cs ad ts) 8 (QI P M (xW D cs ad ts) z σ) 72 [(7, .int x7)] [.int y0] σ := by
  unfold f_X3_selfOf_72 at hf
  refine v_iload 0 hX dX3_selfOf_72 rfl ?_
  refine v_if_eq 81 hX dX3_selfOf_74 (by decide) (fun c => ?_) (fun c => ?_)
  · have hf := opt_t c hf
    refine v_iconst 0 hX dX3_selfOf_81 (by decide) ?_
    refine v_iadd hX dX3_selfOf_82 ?_
    obtain rfl := Option.some.inj hf
    exact v_iret (r := y0 + 0) hX dX3_selfOf_83 rfl
  · have hf := opt_f c hf
    refine v_iconst 1 hX dX3_selfOf_77 (by decide) ?_
    refine v_goto 82 hX dX3_selfOf_78 (by decide) ?_
    refine v_iadd hX dX3_selfOf_82 ?_
    obtain rfl := Option.some.inj hf
    exact v_iret (r := y0 + 1) hX dX3_selfOf_83 rfl
set_option maxHeartbeats 4000000 in
set_option maxRecDepth 100000 in
theorem s_X3_selfOf_55 {P : PT} {M : MT} {D : va_G} {cs : ClassId × ClassId × ClassId} {ad : Nat → Nat} {ts : Nat × Nat × Nat} (hX : VOk P M (xW D cs ad ts) 8 cX3_selfOf RX3 (some .int) 2) (fuel : Nat) (σ : Mem)   (z : Int32)  (x4 : Int32) (x6 : Int32) (y0 : Int32) (hf : f_X3_selfOf_55 fuel σ x4 x6 y0 = some z) : V P M (xW D cs ad ts) 8 (QI P M (xW D cs ad ts) z σ) 55 [(4, .int x4), (6, .int x6)] [.int y0] σ := by
  unfold f_X3_selfOf_55 at hf
  refine v_istore [(7, .int y0), (4, .int x4), (6, .int x6)] hX dX3_selfOf_55 (lt_b rfl) rfl ?_
  refine v_iload 1 hX dX3_selfOf_57 rfl ?_
  refine v_if_ne 84 hX dX3_selfOf_59 (by decide) (fun c => ?_) (fun c => ?_)
  · have hf := opt_f c hf
    refine v_iload 2 hX dX3_selfOf_84 rfl ?_
    refine v_if_eq 100 hX dX3_selfOf_86 (by decide) (fun c => ?_) (fun c => ?_)
    · have hf := opt_t c hf
      refine v_iload 0 hX dX3_selfOf_100 rfl ?_
      refine v_if_eq 109 hX dX3_selfOf_102 (by decide) (fun c => ?_) (fun c => ?_)
      · have hf := opt_t c hf
        refine v_iconst 3 hX dX3_selfOf_109 (by decide) ?_
        obtain rfl := Option.some.inj hf
        exact v_iret (r := 3) hX dX3_selfOf_110 rfl
      · have hf := opt_f c hf
        refine v_iconst 0 hX dX3_selfOf_105 (by decide) ?_
        refine v_goto 110 hX dX3_selfOf_106 (by decide) ?_
        obtain rfl := Option.some.inj hf
        exact v_iret (r := 0) hX dX3_selfOf_110 rfl
    · have hf := opt_f c hf
      refine v_iload 0 hX dX3_selfOf_89 rfl ?_
      refine v_if_eq 98 hX dX3_selfOf_91 (by decide) (fun c => ?_) (fun c => ?_)
      · have hf := opt_t c hf
        refine v_iconst 1 hX dX3_selfOf_98 (by decide) ?_
        obtain rfl := Option.some.inj hf
        exact v_iret (r := 1) hX dX3_selfOf_99 rfl
      · have hf := opt_f c hf
        refine v_iconst 2 hX dX3_selfOf_94 (by decide) ?_
        refine v_goto 99 hX dX3_selfOf_95 (by decide) ?_
        obtain rfl := Option.some.inj hf
        exact v_iret (r := 2) hX dX3_selfOf_99 rfl
  · have hf := opt_t c hf
    refine v_iload 2 hX dX3_selfOf_62 rfl ?_
    refine v_if_eq 71 hX dX3_selfOf_64 (by decide) (fun c => ?_) (fun c => ?_)
    · have hf := opt_t c hf
      refine v_iconst 0 hX dX3_selfOf_71 (by decide) ?_
      exact v_sub [0] rfl (s_X3_selfOf_72 hX fuel σ z  y0 0 hf)
    · have hf := opt_f c hf
      refine v_iconst 1 hX dX3_selfOf_67 (by decide) ?_
      refine v_goto 72 hX dX3_selfOf_68 (by decide) ?_
      exact v_sub [0] rfl (s_X3_selfOf_72 hX fuel σ z  y0 1 hf)
set_option maxHeartbeats 4000000 in
set_option maxRecDepth 100000 in
theorem s_X3_selfOf_35 {P : PT} {M : MT} {D : va_G} {cs : ClassId × ClassId × ClassId} {ad : Nat → Nat} {ts : Nat × Nat × Nat} (hX : VOk P M (xW D cs ad ts) 8 cX3_selfOf RX3 (some .int) 2) (fuel : Nat) (σ : Mem)   (z : Int32)  (x2 : Int32) (x4 : Int32) (x5 : Int32) (y0 : Int32) (hf : f_X3_selfOf_35 fuel σ x2 x4 x5 y0 = some z) : V P M (xW D cs ad ts) 8 (QI P M (xW D cs ad ts) z σ) 35 [(1, .ref (ad 13)), (2, .int x2), (4, .int x4), (5, .int x5)] [.int y0] σ := by
  unfold f_X3_selfOf_35 at hf
  refine v_istore [(6, .int y0), (1, .ref (ad 13)), (2, .int x2), (4, .int x4), (5, .int x5)] hX dX3_selfOf_35 (lt_b rfl) rfl ?_
  refine v_aload_n 1 1 hX dX3_selfOf_37 rfl rfl ?_
  refine v_iload 4 hX dX3_selfOf_38 rfl ?_
  obtain ⟨v4, hc, hf⟩ := opt_b hf
  refine v_callVi (rest := []) (As := [.int x5]) (C := RX1) (T := TX1) (N := 19) (ci := 1) 13 hX dX3_selfOf_40 (c_X1_standingOn fuel σ x5 hc) rfl rfl (lt_b rfl) rfl rfl rfl mw_546 mw_547 mw_59 mw_675 mw_548 gAll ds_X1_standingOn rfl ⟨Nat.le_of_ble_eq_true rfl, Nat.le_of_ble_eq_true rfl⟩ (Nat.le_of_ble_eq_true rfl) ?_
  refine v_iload_n 2 2 hX dX3_selfOf_43 rfl rfl ?_
  obtain ⟨v5, hc, hf⟩ := opt_b hf
  refine v_callNi (rest := []) (As := [.int v4, .int x2]) hX dX3_selfOf_44 (c_X6_bitOf σ v4 x2 hc) rfl rfl mw_509 mw_57 (ex_RX3_45 hX) mw_510 gAll ds_X6_bitOf rfl ⟨Nat.le_of_ble_eq_true rfl, Nat.le_of_ble_eq_true rfl⟩ (Nat.le_of_ble_eq_true rfl) ?_
  refine v_if_ne 54 hX dX3_selfOf_47 (by decide) (fun c => ?_) (fun c => ?_)
  · have hf := opt_f c hf
    refine v_iconst 0 hX dX3_selfOf_54 (by decide) ?_
    exact v_sub [3, 0] rfl (s_X3_selfOf_55 hX fuel σ z  x4 y0 0 hf)
  · have hf := opt_t c hf
    refine v_iconst 1 hX dX3_selfOf_50 (by decide) ?_
    refine v_goto 55 hX dX3_selfOf_51 (by decide) ?_
    exact v_sub [3, 0] rfl (s_X3_selfOf_55 hX fuel σ z  x4 y0 1 hf)
set_option maxHeartbeats 4000000 in
set_option maxRecDepth 100000 in
theorem c_X3_selfOf {l : Launch} {D : va_G} {cs : ClassId × ClassId × ClassId} {ad : Nat → Nat} {ts : Nat × Nat × Nat} (fuel : Nat) (σ : Mem)  (x2 : Int32) (x3 : Int32) (x4 : Int32) {z : Int32} (hf : f_X3_selfOf fuel σ x2 x3 x4 = some z) : CtI l (xW D cs ad ts) 2 yX3_selfOf cX3_selfOf 8 (some .int) [.ref (ad 62), .ref (ad 13), .int x2, .int x3, .int x4] σ z σ := by
  refine ct_I RX3 [(0, .ref (ad 62)), (1, .ref (ad 13)), (2, .int x2), (3, .int x3), (4, .int x4)] (by decide +kernel) rfl rfl (Nat.le_of_ble_eq_true rfl) ?_
  intro P M hl0 hX
  unfold f_X3_selfOf at hf
  refine v_aload_n 1 1 hX dX3_selfOf_0 rfl rfl ?_
  refine v_aload_n 1 1 hX dX3_selfOf_1 rfl rfl ?_
  refine v_get (C := RX1) (T := TX1) (N := 19) (ci := 1) (v := .int (σ 13 5)) 13 5 hX dX3_selfOf_2 mw_121 rfl inlX1 rfl (lt_b rfl) (lt_b rfl) rfl rfl ?_
  obtain ⟨v1, hc, hf⟩ := opt_b hf
  refine v_callVi (rest := []) (As := [.int (σ 13 5)]) (C := RX1) (T := TX1) (N := 19) (ci := 1) 13 hX dX3_selfOf_5 (c_X1_blackBy fuel σ (σ 13 5) hc) rfl rfl (lt_b rfl) rfl rfl rfl mw_520 mw_521 mw_59 mw_664 mw_522 gAll ds_X1_blackBy rfl ⟨Nat.le_of_ble_eq_true rfl, Nat.le_of_ble_eq_true rfl⟩ (Nat.le_of_ble_eq_true rfl) ?_
  refine v_istore [(5, .int v1), (0, .ref (ad 62)), (1, .ref (ad 13)), (2, .int x2), (3, .int x3), (4, .int x4)] hX dX3_selfOf_8 (lt_b rfl) rfl ?_
  refine v_aload_n 2 1 hX dX3_selfOf_10 rfl rfl ?_
  refine v_iload 0 hX dX3_selfOf_11 rfl ?_
  refine v_iconst 1 hX dX3_selfOf_13 (by decide) ?_
  refine v_iload_n 4 3 hX dX3_selfOf_14 rfl rfl ?_
  refine v_ishl hX dX3_selfOf_15 ?_
  refine v_iconst (-1) hX dX3_selfOf_16 (by decide) ?_
  refine v_ixor hX dX3_selfOf_17 ?_
  refine v_iand hX dX3_selfOf_18 ?_
  obtain ⟨v2, hc, hf⟩ := opt_b hf
  refine v_callVi (rest := []) (As := [.int (v1 &&& ((1 <<< (x3 &&& 31)) ^^^ (-1)))]) (C := RX1) (T := TX1) (N := 19) (ci := 1) 13 hX dX3_selfOf_19 (c_X1_standingOn fuel σ (v1 &&& ((1 <<< (x3 &&& 31)) ^^^ (-1))) hc) rfl rfl (lt_b rfl) rfl rfl rfl mw_546 mw_547 mw_59 mw_675 mw_548 gAll ds_X1_standingOn rfl ⟨Nat.le_of_ble_eq_true rfl, Nat.le_of_ble_eq_true rfl⟩ (Nat.le_of_ble_eq_true rfl) ?_
  refine v_iload_n 3 2 hX dX3_selfOf_22 rfl rfl ?_
  obtain ⟨v3, hc, hf⟩ := opt_b hf
  refine v_callNi (rest := []) (As := [.int v2, .int x2]) hX dX3_selfOf_23 (c_X6_bitOf σ v2 x2 hc) rfl rfl mw_509 mw_57 (ex_RX3_45 hX) mw_510 gAll ds_X6_bitOf rfl ⟨Nat.le_of_ble_eq_true rfl, Nat.le_of_ble_eq_true rfl⟩ (Nat.le_of_ble_eq_true rfl) ?_
  refine v_iconst 1 hX dX3_selfOf_26 (by decide) ?_
  refine v_icmp_ne 34 hX dX3_selfOf_27 (by decide) (fun c => ?_) (fun c => ?_)
  · have hf := opt_f c hf
    refine v_iconst 0 hX dX3_selfOf_34 (by decide) ?_
    exact v_sub [2, 3, 5, 0] rfl (s_X3_selfOf_35 hX fuel σ z  x2 x4 v1 0 hf)
  · have hf := opt_t c hf
    refine v_iconst 1 hX dX3_selfOf_30 (by decide) ?_
    refine v_goto 35 hX dX3_selfOf_31 (by decide) ?_
    exact v_sub [2, 3, 5, 0] rfl (s_X3_selfOf_35 hX fuel σ z  x2 x4 v1 1 hf)
