set_option maxHeartbeats 4000000 in
set_option maxRecDepth 100000 in
theorem s_X7_recalls_36 {P : PT} {M : MT} {D : va_G} {cs : ClassId × ClassId × ClassId} {ad : Nat → Nat} (hX : VOk P M (mW D cs ad) 4 cX7_recalls RX7 none 2) (fuel : Nat) (k2 : Mem → Int32 → Int32 → Option (Mem))  (z : Mem) (hk2 : ∀ (σ : Mem) (x1 : Int32) (x2 : Int32), k2 σ x1 x2 = some z → V P M (mW D cs ad) 4 (QV P M (mW D cs ad) z) 2 [(0, .ref (ad 11)), (1, .int x1), (2, .int x2)] [] σ) (σ : Mem) (x1 : Int32) (x2 : Int32) (y0 : Int32) (hf : f_X7_recalls_36 fuel k2 σ x1 x2 y0 = some z) : V P M (mW D cs ad) 4 (QV P M (mW D cs ad) z) 36 [(0, .ref (ad 11)), (1, .int x1), (2, .int x2)] [.int y0] σ := by
  unfold f_X7_recalls_36 at hf
  refine v_istore_n 3 [(3, .int y0), (0, .ref (ad 11)), (1, .int x1), (2, .int x2)] hX dX7_recalls_36 rfl (lt_b rfl) rfl ?_
  refine v_aload_n 1 0 hX dX7_recalls_37 rfl rfl ?_
  refine v_bipush 55 hX dX7_recalls_38 (by decide) ?_
  refine v_iload_n 3 2 hX dX7_recalls_40 rfl rfl ?_
  refine v_iadd hX dX7_recalls_41 ?_
  refine v_iload_n 0 3 hX dX7_recalls_42 rfl rfl ?_
  refine v_if_eq 50 hX dX7_recalls_43 (by decide) (fun c => ?_) (fun c => ?_)
  · have hf := opt_t c hf
    refine v_aload_n 1 0 hX dX7_recalls_50 rfl rfl ?_
    refine v_bipush 55 hX dX7_recalls_51 (by decide) ?_
    refine v_iload_n 3 2 hX dX7_recalls_53 rfl rfl ?_
    refine v_iadd hX dX7_recalls_54 ?_
    obtain ⟨hi3, hf⟩ := gd_some hf
    refine v_ald (v := σ 11 ((55 + x2).toNatClampNeg)) 11 hX dX7_recalls_55 (lt_b rfl) ((fun _ => rfl) _) hi3 rfl ?_
    obtain ⟨hi4, hf⟩ := gd_some hf
    refine v_ast 11 hX dX7_recalls_56 (lt_b rfl) (fun _ => rfl) hi4 ?_
    refine v_iinc 3 (x2 + 1) [(2, .int (x2 + 1)), (3, .int y0), (0, .ref (ad 11)), (1, .int x1)] hX dX7_recalls_57 rfl rfl (lt_b rfl) rfl ?_
    refine v_goto 2 hX dX7_recalls_60 (by decide) ?_
    exact v_sub [2, 3, 0] rfl (hk2 (mst σ 11 ((55 + x2).toNatClampNeg) (σ 11 ((55 + x2).toNatClampNeg))) x1 (x2 + 1) hf)
  · have hf := opt_f c hf
    refine v_iconst 1 hX dX7_recalls_46 (by decide) ?_
    refine v_goto 56 hX dX7_recalls_47 (by decide) ?_
    obtain ⟨hi5, hf⟩ := gd_some hf
    refine v_ast 11 hX dX7_recalls_56 (lt_b rfl) (fun _ => rfl) hi5 ?_
    refine v_iinc 3 (x2 + 1) [(2, .int (x2 + 1)), (3, .int y0), (0, .ref (ad 11)), (1, .int x1)] hX dX7_recalls_57 rfl rfl (lt_b rfl) rfl ?_
    refine v_goto 2 hX dX7_recalls_60 (by decide) ?_
    exact v_sub [2, 3, 0] rfl (hk2 (mst σ 11 ((55 + x2).toNatClampNeg) 1) x1 (x2 + 1) hf)
set_option maxHeartbeats 4000000 in
set_option maxRecDepth 100000 in
theorem s_X7_recalls_2 {P : PT} {M : MT} {D : va_G} {cs : ClassId × ClassId × ClassId} {ad : Nat → Nat} (hX : VOk P M (mW D cs ad) 4 cX7_recalls RX7 none 2) (fuel : Nat)   (z : Mem)  : ∀ (n : Nat) (σ : Mem) (x1 : Int32) (x2 : Int32), f_X7_recalls_2 fuel n σ x1 x2 = some z → V P M (mW D cs ad) 4 (QV P M (mW D cs ad) z) 2 [(0, .ref (ad 11)), (1, .int x1), (2, .int x2)] [] σ := by
  intro n
  induction n with
  | zero =>
    intro σ x1 x2 hf
    cases hf
  | succ n hk2 =>
    intro σ x1 x2 hf
    rw [f_X7_recalls_2] at hf
    refine v_iload_n 2 2 hX dX7_recalls_2 rfl rfl ?_
    refine v_aload_n 0 0 hX dX7_recalls_3 rfl rfl ?_
    refine v_iconst 3 hX dX7_recalls_4 (by decide) ?_
    refine v_aldc (v := σ 11 3) 11 3 hX dX7_recalls_5 (lt_b rfl) ((fun _ => rfl) _) ib_3_85 tn_3 rfl ?_
    refine v_icmp_ge 63 hX dX7_recalls_6 (by decide) (fun c => ?_) (fun c => ?_)
    · have hf := opt_t c hf
      obtain rfl := Option.some.inj hf
      exact v_vret hX dX7_recalls_63
    · have hf := opt_f c hf
      refine v_iload_n 1 1 hX dX7_recalls_9 rfl rfl ?_
      refine v_aload_n 0 0 hX dX7_recalls_10 rfl rfl ?_
      refine v_bipush 25 hX dX7_recalls_11 (by decide) ?_
      refine v_iload_n 2 2 hX dX7_recalls_13 rfl rfl ?_
      refine v_iadd hX dX7_recalls_14 ?_
      obtain ⟨hi1, hf⟩ := gd_some hf
      refine v_ald (v := σ 11 ((25 + x2).toNatClampNeg)) 11 hX dX7_recalls_15 (lt_b rfl) ((fun _ => rfl) _) hi1 rfl ?_
      refine v_ishr hX dX7_recalls_16 ?_
      refine v_iconst 1 hX dX7_recalls_17 (by decide) ?_
      refine v_iand hX dX7_recalls_18 ?_
      refine v_iconst 1 hX dX7_recalls_19 (by decide) ?_
      refine v_icmp_ne 35 hX dX7_recalls_20 (by decide) (fun c => ?_) (fun c => ?_)
      · have hf := opt_f c hf
        refine v_iconst 0 hX dX7_recalls_35 (by decide) ?_
        exact (s_X7_recalls_36 hX fuel (f_X7_recalls_2 fuel n) z hk2 σ x1 x2 0 hf)
      · have hf := opt_t c hf
        refine v_aload_n 0 0 hX dX7_recalls_23 rfl rfl ?_
        refine v_iload_n 2 2 hX dX7_recalls_24 rfl rfl ?_
        obtain ⟨v2, hc, hf⟩ := opt_b hf
        refine v_callSi (rest := []) (As := [.ref (ad 11), .int x2]) hX dX7_recalls_25 (c_X7_mayRecall_a σ x2 hc) rfl rfl mw_1038 mw_64 mw_1037 mw_1039 gAll ds_X7_mayRecall rfl ⟨Nat.le_of_ble_eq_true rfl, Nat.le_of_ble_eq_true rfl⟩ (Nat.le_of_ble_eq_true rfl) ?_
        refine v_if_eq 35 hX dX7_recalls_28 (by decide) (fun c => ?_) (fun c => ?_)
        · have hf := opt_t c hf
          refine v_iconst 0 hX dX7_recalls_35 (by decide) ?_
          exact (s_X7_recalls_36 hX fuel (f_X7_recalls_2 fuel n) z hk2 σ x1 x2 0 hf)
        · have hf := opt_f c hf
          refine v_iconst 1 hX dX7_recalls_31 (by decide) ?_
          refine v_goto 36 hX dX7_recalls_32 (by decide) ?_
          exact (s_X7_recalls_36 hX fuel (f_X7_recalls_2 fuel n) z hk2 σ x1 x2 1 hf)
set_option maxHeartbeats 4000000 in
set_option maxRecDepth 100000 in
theorem c_X7_recalls {l : Launch} {D : va_G} {cs : ClassId × ClassId × ClassId} {ad : Nat → Nat} (σ : Mem) (fuel : Nat)  (x1 : Int32) {z : Mem} (hf : f_X7_recalls fuel σ x1 = some z) : CtV l (mW D cs ad) 2 yX7_recalls cX7_recalls 4 [.ref (ad 11), .int x1] σ z := by
  refine ct_V RX7 [(0, .ref (ad 11)), (1, .int x1)] (by decide +kernel) rfl rfl (Nat.le_of_ble_eq_true rfl) ?_
  intro P M hl0 hX
  unfold f_X7_recalls at hf
  refine v_iconst 0 hX dX7_recalls_0 (by decide) ?_
  refine v_istore_n 2 [(2, .int 0), (0, .ref (ad 11)), (1, .int x1)] hX dX7_recalls_1 rfl (lt_b rfl) rfl ?_
  exact v_sub [1, 2, 0] rfl (s_X7_recalls_2 hX fuel z  fuel σ x1 0 hf)
set_option maxHeartbeats 4000000 in
set_option maxRecDepth 100000 in
theorem s_X7_row_55 {P : PT} {M : MT} {D : va_G} {cs : ClassId × ClassId × ClassId} {ad : Nat → Nat} (hX : VOk P M (mW D cs ad) 5 cX7_row RX7 (some .int) 2) (fuel : Nat)   (z : Int32 × Mem)  : ∀ (n : Nat) (σ : Mem) (x1 : Int32) (x3 : Int32) (x4 : Int32), f_X7_row_55 fuel n σ x1 x3 x4 = some z → V P M (mW D cs ad) 5 (QI P M (mW D cs ad) z.1 z.2) 55 [(0, .ref (ad 0)), (1, .int x1), (3, .int x3), (4, .int x4)] [] σ := by
  intro n
  induction n with
  | zero =>
    intro σ x1 x3 x4 hf
    cases hf
  | succ n hk55 =>
    intro σ x1 x3 x4 hf
    rw [f_X7_row_55] at hf
    refine v_iload 3 hX dX7_row_55 rfl ?_
    refine v_bipush 40 hX dX7_row_57 (by decide) ?_
    refine v_icmp_ge 81 hX dX7_row_59 (by decide) (fun c => ?_) (fun c => ?_)
    · have hf := opt_t c hf
      refine v_aload_n 0 0 hX dX7_row_81 rfl rfl ?_
      refine v_iload_n 2 3 hX dX7_row_82 rfl rfl ?_
      obtain ⟨v6, hc, hf⟩ := opt_b hf
      refine v_callVi (rest := []) (As := [.int x3]) (C := RX7) (T := TX7) (N := 22) (ci := 7) 0 hX dX7_row_83 (c_X7_well σ x3 hc) rfl rfl (lt_b rfl) rfl rfl rfl mw_924 mw_28 mw_64 mw_922 mw_925 gAll ds_X7_well rfl ⟨Nat.le_of_ble_eq_true rfl, Nat.le_of_ble_eq_true rfl⟩ (Nat.le_of_ble_eq_true rfl) ?_
      obtain rfl := Option.some.inj hf
      exact v_iret (r := v6.1) hX dX7_row_86 rfl
    · have hf := opt_f c hf
      refine v_aload_n 0 0 hX dX7_row_62 rfl rfl ?_
      refine v_get (C := RX7) (T := TX7) (N := 22) (ci := 7) (v := .ref (ad 3)) 0 2 hX dX7_row_63 mw_838 rfl inlX7 rfl (lt_b rfl) (lt_b rfl) rfl rfl ?_
      refine v_bipush 40 hX dX7_row_66 (by decide) ?_
      refine v_iload_n 1 1 hX dX7_row_68 rfl rfl ?_
      refine v_imul hX dX7_row_69 ?_
      refine v_iload 3 hX dX7_row_70 rfl ?_
      refine v_iadd hX dX7_row_72 ?_
      refine v_iconst 0 hX dX7_row_73 (by decide) ?_
      obtain ⟨hi7, hf⟩ := gd_some hf
      refine v_ast 3 hX dX7_row_74 (lt_b rfl) (fun _ => rfl) hi7 ?_
      refine v_iinc 3 (x4 + 1) [(4, .int (x4 + 1)), (0, .ref (ad 0)), (1, .int x1), (3, .int x3)] hX dX7_row_75 rfl rfl (lt_b rfl) rfl ?_
      refine v_goto 55 hX dX7_row_78 (by decide) ?_
      exact v_sub [1, 2, 3, 0] rfl (hk55 (mst σ 3 (((40 * x1) + x4).toNatClampNeg) 0) x1 x3 (x4 + 1) hf)
set_option maxHeartbeats 4000000 in
set_option maxRecDepth 100000 in
theorem c_X7_row {l : Launch} {D : va_G} {cs : ClassId × ClassId × ClassId} {ad : Nat → Nat} (σ : Mem) (fuel : Nat)  (x1 : Int32) (x2 : Int32) (x3 : Int32) {z : Int32 × Mem} (hf : f_X7_row fuel σ x1 x2 x3 = some z) : CtI l (mW D cs ad) 2 yX7_row cX7_row 5 (some .int) [.ref (ad 0), .int x1, .int x2, .int x3] σ z.1 z.2 := by
  refine ct_I RX7 [(0, .ref (ad 0)), (1, .int x1), (2, .int x2), (3, .int x3)] (by decide +kernel) rfl rfl (Nat.le_of_ble_eq_true rfl) ?_
  intro P M hl0 hX
  unfold f_X7_row at hf
  refine v_iload_n 1 1 hX dX7_row_0 rfl rfl ?_
  obtain ⟨v1, hc, hf⟩ := opt_b hf
  refine v_callSi (rest := []) (As := [.int x1]) hX dX7_row_1 (c_X7_isRow σ x1 hc) rfl rfl mw_909 mw_64 mw_908 mw_910 gAll ds_X7_isRow rfl ⟨Nat.le_of_ble_eq_true rfl, Nat.le_of_ble_eq_true rfl⟩ (Nat.le_of_ble_eq_true rfl) ?_
  refine v_if_eq 25 hX dX7_row_4 (by decide) (fun c => ?_) (fun c => ?_)
  · have hf := opt_t c hf
    refine v_ldc (-1000001) hX dX7_row_25 mw_916 ?_
    obtain rfl := Option.some.inj hf
    exact v_iret (r := (-1000001)) hX dX7_row_27 rfl
  · have hf := opt_f c hf
    refine v_iload_n 2 2 hX dX7_row_7 rfl rfl ?_
    refine v_i2l hX dX7_row_8 ?_
    refine v_lconst 0 hX dX7_row_9 (by decide) ?_
    refine v_ldc2 2 hX dX7_row_10 mw_915 ?_
    obtain ⟨v2, hc, hf⟩ := opt_b hf
    refine v_callSi (rest := []) (As := [.long x2.toInt64, .long 0, .long 2]) hX dX7_row_13 (c_X7_in σ x2.toInt64 0 2 hc) rfl rfl mw_913 mw_64 mw_912 mw_914 gAll ds_X7_in rfl ⟨Nat.le_of_ble_eq_true rfl, Nat.le_of_ble_eq_true rfl⟩ (Nat.le_of_ble_eq_true rfl) ?_
    refine v_if_eq 25 hX dX7_row_16 (by decide) (fun c => ?_) (fun c => ?_)
    · have hf := opt_t c hf
      refine v_ldc (-1000001) hX dX7_row_25 mw_916 ?_
      obtain rfl := Option.some.inj hf
      exact v_iret (r := (-1000001)) hX dX7_row_27 rfl
    · have hf := opt_f c hf
      refine v_iload_n 3 3 hX dX7_row_19 rfl rfl ?_
      refine v_bipush 40 hX dX7_row_20 (by decide) ?_
      refine v_icmp_le 28 hX dX7_row_22 (by decide) (fun c => ?_) (fun c => ?_)
      · have hf := opt_t c hf
        refine v_iload_n 3 3 hX dX7_row_28 rfl rfl ?_
        refine v_if_ge 38 hX dX7_row_29 (by decide) (fun c => ?_) (fun c => ?_)
        · have hf := opt_t c hf
          refine v_aload_n 0 0 hX dX7_row_38 rfl rfl ?_
          refine v_get (C := RX7) (T := TX7) (N := 22) (ci := 7) (v := .ref (ad 1)) 0 0 hX dX7_row_39 mw_836 rfl inlX7 rfl (lt_b rfl) (lt_b rfl) rfl rfl ?_
          refine v_iload_n 1 1 hX dX7_row_42 rfl rfl ?_
          refine v_iload_n 2 2 hX dX7_row_43 rfl rfl ?_
          obtain ⟨hi3, hf⟩ := gd_some hf
          refine v_ast 1 hX dX7_row_44 (lt_b rfl) (fun _ => rfl) hi3 ?_
          refine v_aload_n 0 0 hX dX7_row_45 rfl rfl ?_
          refine v_get (C := RX7) (T := TX7) (N := 22) (ci := 7) (v := .ref (ad 2)) 0 1 hX dX7_row_46 mw_837 rfl inlX7 rfl (lt_b rfl) (lt_b rfl) rfl rfl ?_
          refine v_iload_n 1 1 hX dX7_row_49 rfl rfl ?_
          refine v_iload_n 3 3 hX dX7_row_50 rfl rfl ?_
          obtain ⟨hi4, hf⟩ := gd_some hf
          refine v_ast 2 hX dX7_row_51 (lt_b rfl) (fun _ => rfl) hi4 ?_
          refine v_iconst 0 hX dX7_row_52 (by decide) ?_
          refine v_istore [(4, .int 0), (0, .ref (ad 0)), (1, .int x1), (2, .int x2), (3, .int x3)] hX dX7_row_53 (lt_b rfl) rfl ?_
          exact v_sub [1, 2, 4, 0] rfl (s_X7_row_55 hX fuel z  fuel (mst (mst σ 1 x1.toNatClampNeg x2) 2 x1.toNatClampNeg x3) x1 x3 0 hf)
        · have hf := opt_f c hf
          refine v_aload_n 0 0 hX dX7_row_32 rfl rfl ?_
          refine v_iconst 4 hX dX7_row_33 (by decide) ?_
          obtain ⟨v5, hc, hf⟩ := opt_b hf
          refine v_callVi (rest := []) (As := [.int 4]) (C := RX7) (T := TX7) (N := 22) (ci := 7) 0 hX dX7_row_34 (c_X7_found σ 4 hc) rfl rfl (lt_b rfl) rfl rfl rfl mw_919 mw_27 mw_64 mw_917 mw_920 gAll ds_X7_found rfl ⟨Nat.le_of_ble_eq_true rfl, Nat.le_of_ble_eq_true rfl⟩ (Nat.le_of_ble_eq_true rfl) ?_
          obtain rfl := Option.some.inj hf
          exact v_iret (r := v5.1) hX dX7_row_37 rfl
      · have hf := opt_f c hf
        refine v_ldc (-1000001) hX dX7_row_25 mw_916 ?_
        obtain rfl := Option.some.inj hf
        exact v_iret (r := (-1000001)) hX dX7_row_27 rfl
set_option maxHeartbeats 4000000 in
set_option maxRecDepth 100000 in
theorem s_X7_set_89 {P : PT} {M : MT} {D : va_G} {cs : ClassId × ClassId × ClassId} {ad : Nat → Nat} (hX : VOk P M (mW D cs ad) 4 cX7_set RX7 (some .int) 2)    (z : Int32 × Mem)  (σ : Mem) (x1 : Int32) (x2 : Int32) (y0 : Int32) (y1 : Int32) (hf : f_X7_set_89  σ x1 x2 y0 y1 = some z) : V P M (mW D cs ad) 4 (QI P M (mW D cs ad) z.1 z.2) 89 [(0, .ref (ad 0)), (1, .int x1), (2, .int x2)] [.int y0, .int y1, .ref (ad 3)] σ := by
  unfold f_X7_set_89 at hf
  obtain ⟨hi9, hf⟩ := gd_some hf
  refine v_ast 3 hX dX7_set_89 (lt_b rfl) (fun _ => rfl) hi9 ?_
  refine v_aload_n 0 0 hX dX7_set_90 rfl rfl ?_
  refine v_aload_n 0 0 hX dX7_set_91 rfl rfl ?_
  refine v_get (C := RX7) (T := TX7) (N := 22) (ci := 7) (v := .ref (ad 3)) 0 2 hX dX7_set_92 mw_838 rfl inlX7 rfl (lt_b rfl) (lt_b rfl) rfl rfl ?_
  refine v_bipush 40 hX dX7_set_95 (by decide) ?_
  refine v_iload_n 1 1 hX dX7_set_97 rfl rfl ?_
  refine v_imul hX dX7_set_98 ?_
  refine v_iload_n 2 2 hX dX7_set_99 rfl rfl ?_
  refine v_iadd hX dX7_set_100 ?_
  obtain ⟨hi10, hf⟩ := gd_some hf
  obtain ⟨s11, hs, hf⟩ := opt_b hf
  refine v_mem (Option.some.inj hs) ?_
  refine v_ald (v := s11 3 (((40 * x1) + x2).toNatClampNeg)) 3 hX dX7_set_101 (lt_b rfl) ((fun _ => rfl) _) hi10 rfl ?_
  obtain ⟨v12, hc, hf⟩ := opt_b hf
  refine v_callVi (rest := []) (As := [.int (s11 3 (((40 * x1) + x2).toNatClampNeg))]) (C := RX7) (T := TX7) (N := 22) (ci := 7) 0 hX dX7_set_102 (c_X7_well s11 (s11 3 (((40 * x1) + x2).toNatClampNeg)) hc) rfl rfl (lt_b rfl) rfl rfl rfl mw_924 mw_28 mw_64 mw_922 mw_925 gAll ds_X7_well rfl ⟨Nat.le_of_ble_eq_true rfl, Nat.le_of_ble_eq_true rfl⟩ (Nat.le_of_ble_eq_true rfl) ?_
  obtain rfl := Option.some.inj hf
  exact v_iret (r := v12.1) hX dX7_set_105 rfl
set_option maxHeartbeats 4000000 in
set_option maxRecDepth 100000 in
theorem c_X7_set {l : Launch} {D : va_G} {cs : ClassId × ClassId × ClassId} {ad : Nat → Nat} (σ : Mem)   (x1 : Int32) (x2 : Int32) (x3 : Int32) {z : Int32 × Mem} (hf : f_X7_set σ x1 x2 x3 = some z) : CtI l (mW D cs ad) 2 yX7_set cX7_set 4 (some .int) [.ref (ad 0), .int x1, .int x2, .int x3] σ z.1 z.2 := by
  refine ct_I RX7 [(0, .ref (ad 0)), (1, .int x1), (2, .int x2), (3, .int x3)] (by decide +kernel) rfl rfl (Nat.le_of_ble_eq_true rfl) ?_
  intro P M hl0 hX
  unfold f_X7_set at hf
  refine v_iload_n 1 1 hX dX7_set_0 rfl rfl ?_
  obtain ⟨v1, hc, hf⟩ := opt_b hf
  refine v_callSi (rest := []) (As := [.int x1]) hX dX7_set_1 (c_X7_isRow σ x1 hc) rfl rfl mw_909 mw_64 mw_908 mw_910 gAll ds_X7_isRow rfl ⟨Nat.le_of_ble_eq_true rfl, Nat.le_of_ble_eq_true rfl⟩ (Nat.le_of_ble_eq_true rfl) ?_
  refine v_if_ne 10 hX dX7_set_4 (by decide) (fun c => ?_) (fun c => ?_)
  · have hf := opt_f c hf
    refine v_aload_n 0 0 hX dX7_set_10 rfl rfl ?_
    refine v_get (C := RX7) (T := TX7) (N := 22) (ci := 7) (v := .ref (ad 2)) 0 1 hX dX7_set_11 mw_837 rfl inlX7 rfl (lt_b rfl) (lt_b rfl) rfl rfl ?_
    refine v_iload_n 1 1 hX dX7_set_14 rfl rfl ?_
    obtain ⟨hi2, hf⟩ := gd_some hf
    refine v_ald (v := σ 2 x1.toNatClampNeg) 2 hX dX7_set_15 (lt_b rfl) ((fun _ => rfl) _) hi2 rfl ?_
    refine v_if_ge 25 hX dX7_set_16 (by decide) (fun c => ?_) (fun c => ?_)
    · have hf := opt_t c hf
      refine v_iload_n 2 2 hX dX7_set_25 rfl rfl ?_
      refine v_i2l hX dX7_set_26 ?_
      refine v_lconst 0 hX dX7_set_27 (by decide) ?_
      refine v_aload_n 0 0 hX dX7_set_28 rfl rfl ?_
      refine v_get (C := RX7) (T := TX7) (N := 22) (ci := 7) (v := .ref (ad 2)) 0 1 hX dX7_set_29 mw_837 rfl inlX7 rfl (lt_b rfl) (lt_b rfl) rfl rfl ?_
      refine v_iload_n 1 1 hX dX7_set_32 rfl rfl ?_
      obtain ⟨hi3, hf⟩ := gd_some hf
      refine v_ald (v := σ 2 x1.toNatClampNeg) 2 hX dX7_set_33 (lt_b rfl) ((fun _ => rfl) _) hi3 rfl ?_
      refine v_iconst 1 hX dX7_set_34 (by decide) ?_
      refine v_isub hX dX7_set_35 ?_
      refine v_i2l hX dX7_set_36 ?_
      obtain ⟨v4, hc, hf⟩ := opt_b hf
      refine v_callSi (rest := []) (As := [.long x2.toInt64, .long 0, .long (((σ 2 x1.toNatClampNeg) - 1).toInt64)]) hX dX7_set_37 (c_X7_in σ x2.toInt64 0 (((σ 2 x1.toNatClampNeg) - 1).toInt64) hc) rfl rfl mw_913 mw_64 mw_912 mw_914 gAll ds_X7_in rfl ⟨Nat.le_of_ble_eq_true rfl, Nat.le_of_ble_eq_true rfl⟩ (Nat.le_of_ble_eq_true rfl) ?_
      refine v_if_ne 49 hX dX7_set_40 (by decide) (fun c => ?_) (fun c => ?_)
      · have hf := opt_f c hf
        refine v_aload_n 0 0 hX dX7_set_49 rfl rfl ?_
        refine v_get (C := RX7) (T := TX7) (N := 22) (ci := 7) (v := .ref (ad 3)) 0 2 hX dX7_set_50 mw_838 rfl inlX7 rfl (lt_b rfl) (lt_b rfl) rfl rfl ?_
        refine v_bipush 40 hX dX7_set_53 (by decide) ?_
        refine v_iload_n 1 1 hX dX7_set_55 rfl rfl ?_
        refine v_imul hX dX7_set_56 ?_
        refine v_iload_n 2 2 hX dX7_set_57 rfl rfl ?_
        refine v_iadd hX dX7_set_58 ?_
        refine v_aload_n 0 0 hX dX7_set_59 rfl rfl ?_
        refine v_get (C := RX7) (T := TX7) (N := 22) (ci := 7) (v := .ref (ad 1)) 0 0 hX dX7_set_60 mw_836 rfl inlX7 rfl (lt_b rfl) (lt_b rfl) rfl rfl ?_
        refine v_iload_n 1 1 hX dX7_set_63 rfl rfl ?_
        obtain ⟨hi5, hf⟩ := gd_some hf
        refine v_ald (v := σ 1 x1.toNatClampNeg) 1 hX dX7_set_64 (lt_b rfl) ((fun _ => rfl) _) hi5 rfl ?_
        refine v_if_ne 73 hX dX7_set_65 (by decide) (fun c => ?_) (fun c => ?_)
        · have hf := opt_f c hf
          refine v_aload_n 0 0 hX dX7_set_73 rfl rfl ?_
          refine v_get (C := RX7) (T := TX7) (N := 22) (ci := 7) (v := .ref (ad 1)) 0 0 hX dX7_set_74 mw_836 rfl inlX7 rfl (lt_b rfl) (lt_b rfl) rfl rfl ?_
          refine v_iload_n 1 1 hX dX7_set_77 rfl rfl ?_
          obtain ⟨hi6, hf⟩ := gd_some hf
          refine v_ald (v := σ 1 x1.toNatClampNeg) 1 hX dX7_set_78 (lt_b rfl) ((fun _ => rfl) _) hi6 rfl ?_
          refine v_iconst 1 hX dX7_set_79 (by decide) ?_
          refine v_icmp_ne 88 hX dX7_set_80 (by decide) (fun c => ?_) (fun c => ?_)
          · have hf := opt_f c hf
            refine v_iload_n 3 3 hX dX7_set_88 rfl rfl ?_
            exact v_sub [0, 1, 2] rfl (s_X7_set_89 hX  z  σ x1 x2 x3 ((40 * x1) + x2) hf)
          · have hf := opt_t c hf
            refine v_iload_n 3 3 hX dX7_set_83 rfl rfl ?_
            refine v_i2s hX dX7_set_84 ?_
            refine v_goto 89 hX dX7_set_85 (by decide) ?_
            exact v_sub [0, 1, 2] rfl (s_X7_set_89 hX  z  σ x1 x2 x3.toInt16.toInt32 ((40 * x1) + x2) hf)
        · have hf := opt_t c hf
          refine v_iload_n 3 3 hX dX7_set_68 rfl rfl ?_
          refine v_i2b hX dX7_set_69 ?_
          refine v_goto 89 hX dX7_set_70 (by decide) ?_
          exact v_sub [0, 1, 2] rfl (s_X7_set_89 hX  z  σ x1 x2 x3.toInt8.toInt32 ((40 * x1) + x2) hf)
      · have hf := opt_t c hf
        refine v_aload_n 0 0 hX dX7_set_43 rfl rfl ?_
        refine v_iconst 2 hX dX7_set_44 (by decide) ?_
        obtain ⟨v7, hc, hf⟩ := opt_b hf
        refine v_callVi (rest := []) (As := [.int 2]) (C := RX7) (T := TX7) (N := 22) (ci := 7) 0 hX dX7_set_45 (c_X7_found σ 2 hc) rfl rfl (lt_b rfl) rfl rfl rfl mw_919 mw_27 mw_64 mw_917 mw_920 gAll ds_X7_found rfl ⟨Nat.le_of_ble_eq_true rfl, Nat.le_of_ble_eq_true rfl⟩ (Nat.le_of_ble_eq_true rfl) ?_
        obtain rfl := Option.some.inj hf
        exact v_iret (r := v7.1) hX dX7_set_48 rfl
    · have hf := opt_f c hf
      refine v_aload_n 0 0 hX dX7_set_19 rfl rfl ?_
      refine v_iconst 1 hX dX7_set_20 (by decide) ?_
      obtain ⟨v8, hc, hf⟩ := opt_b hf
      refine v_callVi (rest := []) (As := [.int 1]) (C := RX7) (T := TX7) (N := 22) (ci := 7) 0 hX dX7_set_21 (c_X7_found σ 1 hc) rfl rfl (lt_b rfl) rfl rfl rfl mw_919 mw_27 mw_64 mw_917 mw_920 gAll ds_X7_found rfl ⟨Nat.le_of_ble_eq_true rfl, Nat.le_of_ble_eq_true rfl⟩ (Nat.le_of_ble_eq_true rfl) ?_
      obtain rfl := Option.some.inj hf
      exact v_iret (r := v8.1) hX dX7_set_24 rfl
  · have hf := opt_t c hf
    refine v_ldc (-1000001) hX dX7_set_7 mw_916 ?_
    obtain rfl := Option.some.inj hf
    exact v_iret (r := (-1000001)) hX dX7_set_9 rfl
set_option maxHeartbeats 4000000 in
set_option maxRecDepth 100000 in
theorem s_X7_copy_145 {P : PT} {M : MT} {D : va_G} {cs : ClassId × ClassId × ClassId} {ad : Nat → Nat} (hX : VOk P M (mW D cs ad) 8 cX7_copy RX7 (some .int) 2) (fuel : Nat) (k120 : Mem → Int32 → Int32 → Int32 → Int32 → Int32 → Int32 → Option (Int32 × Mem))  (z : Int32 × Mem) (hk120 : ∀ (σ : Mem) (x1 : Int32) (x2 : Int32) (x3 : Int32) (x4 : Int32) (x5 : Int32) (x6 : Int32), k120 σ x1 x2 x3 x4 x5 x6 = some z → V P M (mW D cs ad) 8 (QI P M (mW D cs ad) z.1 z.2) 120 [(0, .ref (ad 0)), (1, .int x1), (2, .int x2), (3, .int x3), (4, .int x4), (5, .int x5), (6, .int x6)] [] σ) (σ : Mem) (x1 : Int32) (x2 : Int32) (x3 : Int32) (x4 : Int32) (x5 : Int32) (x6 : Int32) (y0 : Int32) (hf : f_X7_copy_145 fuel k120 σ x1 x2 x3 x4 x5 x6 y0 = some z) : V P M (mW D cs ad) 8 (QI P M (mW D cs ad) z.1 z.2) 145 [(0, .ref (ad 0)), (1, .int x1), (2, .int x2), (3, .int x3), (4, .int x4), (5, .int x5), (6, .int x6)] [.int y0] σ := by
  unfold f_X7_copy_145 at hf
  refine v_istore [(7, .int y0), (0, .ref (ad 0)), (1, .int x1), (2, .int x2), (3, .int x3), (4, .int x4), (5, .int x5), (6, .int x6)] hX dX7_copy_145 (lt_b rfl) rfl ?_
  refine v_aload_n 1 0 hX dX7_copy_147 rfl rfl ?_
  refine v_get (C := RX7) (T := TX7) (N := 22) (ci := 7) (v := .ref (ad 3)) 0 2 hX dX7_copy_148 mw_838 rfl inlX7 rfl (lt_b rfl) (lt_b rfl) rfl rfl ?_
  refine v_bipush 40 hX dX7_copy_151 (by decide) ?_
  refine v_iload_n 4 3 hX dX7_copy_153 rfl rfl ?_
  refine v_imul hX dX7_copy_154 ?_
  refine v_iload 5 hX dX7_copy_155 rfl ?_
  refine v_iadd hX dX7_copy_157 ?_
  refine v_iload 0 hX dX7_copy_158 rfl ?_
  refine v_iadd hX dX7_copy_160 ?_
  refine v_aload_n 1 0 hX dX7_copy_161 rfl rfl ?_
  refine v_get (C := RX7) (T := TX7) (N := 22) (ci := 7) (v := .ref (ad 3)) 0 2 hX dX7_copy_162 mw_838 rfl inlX7 rfl (lt_b rfl) (lt_b rfl) rfl rfl ?_
  refine v_bipush 40 hX dX7_copy_165 (by decide) ?_
  refine v_iload_n 2 1 hX dX7_copy_167 rfl rfl ?_
  refine v_imul hX dX7_copy_168 ?_
  refine v_iload_n 3 2 hX dX7_copy_169 rfl rfl ?_
  refine v_iadd hX dX7_copy_170 ?_
  refine v_iload 0 hX dX7_copy_171 rfl ?_
  refine v_iadd hX dX7_copy_173 ?_
  obtain ⟨hi18, hf⟩ := gd_some hf
  refine v_ald (v := σ 3 ((((40 * x1) + x2) + y0).toNatClampNeg)) 3 hX dX7_copy_174 (lt_b rfl) ((fun _ => rfl) _) hi18 rfl ?_
  obtain ⟨hi19, hf⟩ := gd_some hf
  refine v_ast 3 hX dX7_copy_175 (lt_b rfl) (fun _ => rfl) hi19 ?_
  refine v_iinc 7 (x6 + 1) [(6, .int (x6 + 1)), (7, .int y0), (0, .ref (ad 0)), (1, .int x1), (2, .int x2), (3, .int x3), (4, .int x4), (5, .int x5)] hX dX7_copy_176 rfl rfl (lt_b rfl) rfl ?_
  refine v_goto 120 hX dX7_copy_179 (by decide) ?_
  exact v_sub [2, 3, 4, 5, 6, 7, 0] rfl (hk120 (mst σ 3 ((((40 * x3) + x4) + y0).toNatClampNeg) (σ 3 ((((40 * x1) + x2) + y0).toNatClampNeg))) x1 x2 x3 x4 x5 (x6 + 1) hf)
set_option maxHeartbeats 4000000 in
set_option maxRecDepth 100000 in
theorem s_X7_copy_120 {P : PT} {M : MT} {D : va_G} {cs : ClassId × ClassId × ClassId} {ad : Nat → Nat} (hX : VOk P M (mW D cs ad) 8 cX7_copy RX7 (some .int) 2) (fuel : Nat)   (z : Int32 × Mem)  : ∀ (n : Nat) (σ : Mem) (x1 : Int32) (x2 : Int32) (x3 : Int32) (x4 : Int32) (x5 : Int32) (x6 : Int32), f_X7_copy_120 fuel n σ x1 x2 x3 x4 x5 x6 = some z → V P M (mW D cs ad) 8 (QI P M (mW D cs ad) z.1 z.2) 120 [(0, .ref (ad 0)), (1, .int x1), (2, .int x2), (3, .int x3), (4, .int x4), (5, .int x5), (6, .int x6)] [] σ := by
  intro n
  induction n with
  | zero =>
    intro σ x1 x2 x3 x4 x5 x6 hf
    cases hf
  | succ n hk120 =>
    intro σ x1 x2 x3 x4 x5 x6 hf
    rw [f_X7_copy_120] at hf
    refine v_iload 6 hX dX7_copy_120 rfl ?_
    refine v_iload 5 hX dX7_copy_122 rfl ?_
    refine v_icmp_ge 182 hX dX7_copy_124 (by decide) (fun c => ?_) (fun c => ?_)
    · have hf := opt_t c hf
      refine v_aload_n 0 0 hX dX7_copy_182 rfl rfl ?_
      refine v_iload 5 hX dX7_copy_183 rfl ?_
      obtain ⟨v17, hc, hf⟩ := opt_b hf
      refine v_callVi (rest := []) (As := [.int x5]) (C := RX7) (T := TX7) (N := 22) (ci := 7) 0 hX dX7_copy_185 (c_X7_well σ x5 hc) rfl rfl (lt_b rfl) rfl rfl rfl mw_924 mw_28 mw_64 mw_922 mw_925 gAll ds_X7_well rfl ⟨Nat.le_of_ble_eq_true rfl, Nat.le_of_ble_eq_true rfl⟩ (Nat.le_of_ble_eq_true rfl) ?_
      obtain rfl := Option.some.inj hf
      exact v_iret (r := v17.1) hX dX7_copy_188 rfl
    · have hf := opt_f c hf
      refine v_iload 4 hX dX7_copy_127 rfl ?_
      refine v_iload_n 2 2 hX dX7_copy_129 rfl rfl ?_
      refine v_icmp_le 143 hX dX7_copy_130 (by decide) (fun c => ?_) (fun c => ?_)
      · have hf := opt_t c hf
        refine v_iload 6 hX dX7_copy_143 rfl ?_
        exact (s_X7_copy_145 hX fuel (f_X7_copy_120 fuel n) z hk120 σ x1 x2 x3 x4 x5 x6 x6 hf)
      · have hf := opt_f c hf
        refine v_iload 5 hX dX7_copy_133 rfl ?_
        refine v_iconst 1 hX dX7_copy_135 (by decide) ?_
        refine v_isub hX dX7_copy_136 ?_
        refine v_iload 6 hX dX7_copy_137 rfl ?_
        refine v_isub hX dX7_copy_139 ?_
        refine v_goto 145 hX dX7_copy_140 (by decide) ?_
        exact (s_X7_copy_145 hX fuel (f_X7_copy_120 fuel n) z hk120 σ x1 x2 x3 x4 x5 x6 ((x5 - 1) - x6) hf)
set_option maxHeartbeats 4000000 in
set_option maxRecDepth 100000 in
theorem c_X7_copy {l : Launch} {D : va_G} {cs : ClassId × ClassId × ClassId} {ad : Nat → Nat} (σ : Mem) (fuel : Nat)  (x1 : Int32) (x2 : Int32) (x3 : Int32) (x4 : Int32) (x5 : Int32) {z : Int32 × Mem} (hf : f_X7_copy fuel σ x1 x2 x3 x4 x5 = some z) : CtI l (mW D cs ad) 2 yX7_copy cX7_copy 8 (some .int) [.ref (ad 0), .int x1, .int x2, .int x3, .int x4, .int x5] σ z.1 z.2 := by
  refine ct_I RX7 [(0, .ref (ad 0)), (1, .int x1), (2, .int x2), (3, .int x3), (4, .int x4), (5, .int x5)] (by decide +kernel) rfl rfl (Nat.le_of_ble_eq_true rfl) ?_
  intro P M hl0 hX
  unfold f_X7_copy at hf
  refine v_iload_n 1 1 hX dX7_copy_0 rfl rfl ?_
  obtain ⟨v1, hc, hf⟩ := opt_b hf
  refine v_callSi (rest := []) (As := [.int x1]) hX dX7_copy_1 (c_X7_isRow σ x1 hc) rfl rfl mw_909 mw_64 mw_908 mw_910 gAll ds_X7_isRow rfl ⟨Nat.le_of_ble_eq_true rfl, Nat.le_of_ble_eq_true rfl⟩ (Nat.le_of_ble_eq_true rfl) ?_
  refine v_if_eq 14 hX dX7_copy_4 (by decide) (fun c => ?_) (fun c => ?_)
  · have hf := opt_t c hf
    refine v_ldc (-1000001) hX dX7_copy_14 mw_916 ?_
    obtain rfl := Option.some.inj hf
    exact v_iret (r := (-1000001)) hX dX7_copy_16 rfl
  · have hf := opt_f c hf
    refine v_iload_n 3 3 hX dX7_copy_7 rfl rfl ?_
    obtain ⟨v2, hc, hf⟩ := opt_b hf
    refine v_callSi (rest := []) (As := [.int x3]) hX dX7_copy_8 (c_X7_isRow σ x3 hc) rfl rfl mw_909 mw_64 mw_908 mw_910 gAll ds_X7_isRow rfl ⟨Nat.le_of_ble_eq_true rfl, Nat.le_of_ble_eq_true rfl⟩ (Nat.le_of_ble_eq_true rfl) ?_
    refine v_if_ne 17 hX dX7_copy_11 (by decide) (fun c => ?_) (fun c => ?_)
    · have hf := opt_f c hf
      refine v_aload_n 0 0 hX dX7_copy_17 rfl rfl ?_
      refine v_get (C := RX7) (T := TX7) (N := 22) (ci := 7) (v := .ref (ad 2)) 0 1 hX dX7_copy_18 mw_837 rfl inlX7 rfl (lt_b rfl) (lt_b rfl) rfl rfl ?_
      refine v_iload_n 1 1 hX dX7_copy_21 rfl rfl ?_
      obtain ⟨hi3, hf⟩ := gd_some hf
      refine v_ald (v := σ 2 x1.toNatClampNeg) 2 hX dX7_copy_22 (lt_b rfl) ((fun _ => rfl) _) hi3 rfl ?_
      refine v_if_lt 35 hX dX7_copy_23 (by decide) (fun c => ?_) (fun c => ?_)
      · have hf := opt_t c hf
        refine v_aload_n 0 0 hX dX7_copy_35 rfl rfl ?_
        refine v_iconst 1 hX dX7_copy_36 (by decide) ?_
        obtain ⟨v4, hc, hf⟩ := opt_b hf
        refine v_callVi (rest := []) (As := [.int 1]) (C := RX7) (T := TX7) (N := 22) (ci := 7) 0 hX dX7_copy_37 (c_X7_found σ 1 hc) rfl rfl (lt_b rfl) rfl rfl rfl mw_919 mw_27 mw_64 mw_917 mw_920 gAll ds_X7_found rfl ⟨Nat.le_of_ble_eq_true rfl, Nat.le_of_ble_eq_true rfl⟩ (Nat.le_of_ble_eq_true rfl) ?_
        obtain rfl := Option.some.inj hf
        exact v_iret (r := v4.1) hX dX7_copy_40 rfl
      · have hf := opt_f c hf
        refine v_aload_n 0 0 hX dX7_copy_26 rfl rfl ?_
        refine v_get (C := RX7) (T := TX7) (N := 22) (ci := 7) (v := .ref (ad 2)) 0 1 hX dX7_copy_27 mw_837 rfl inlX7 rfl (lt_b rfl) (lt_b rfl) rfl rfl ?_
        refine v_iload_n 3 3 hX dX7_copy_30 rfl rfl ?_
        obtain ⟨hi5, hf⟩ := gd_some hf
        refine v_ald (v := σ 2 x3.toNatClampNeg) 2 hX dX7_copy_31 (lt_b rfl) ((fun _ => rfl) _) hi5 rfl ?_
        refine v_if_ge 41 hX dX7_copy_32 (by decide) (fun c => ?_) (fun c => ?_)
        · have hf := opt_t c hf
          refine v_aload_n 0 0 hX dX7_copy_41 rfl rfl ?_
          refine v_get (C := RX7) (T := TX7) (N := 22) (ci := 7) (v := .ref (ad 1)) 0 0 hX dX7_copy_42 mw_836 rfl inlX7 rfl (lt_b rfl) (lt_b rfl) rfl rfl ?_
          refine v_iload_n 1 1 hX dX7_copy_45 rfl rfl ?_
          obtain ⟨hi6, hf⟩ := gd_some hf
          refine v_ald (v := σ 1 x1.toNatClampNeg) 1 hX dX7_copy_46 (lt_b rfl) ((fun _ => rfl) _) hi6 rfl ?_
          refine v_aload_n 0 0 hX dX7_copy_47 rfl rfl ?_
          refine v_get (C := RX7) (T := TX7) (N := 22) (ci := 7) (v := .ref (ad 1)) 0 0 hX dX7_copy_48 mw_836 rfl inlX7 rfl (lt_b rfl) (lt_b rfl) rfl rfl ?_
          refine v_iload_n 3 3 hX dX7_copy_51 rfl rfl ?_
          obtain ⟨hi7, hf⟩ := gd_some hf
          refine v_ald (v := σ 1 x3.toNatClampNeg) 1 hX dX7_copy_52 (lt_b rfl) ((fun _ => rfl) _) hi7 rfl ?_
          refine v_icmp_eq 62 hX dX7_copy_53 (by decide) (fun c => ?_) (fun c => ?_)
          · have hf := opt_t c hf
            refine v_iload_n 2 2 hX dX7_copy_62 rfl rfl ?_
            refine v_if_lt 111 hX dX7_copy_63 (by decide) (fun c => ?_) (fun c => ?_)
            · have hf := opt_t c hf
              refine v_aload_n 0 0 hX dX7_copy_111 rfl rfl ?_
              refine v_iconst 2 hX dX7_copy_112 (by decide) ?_
              obtain ⟨v8, hc, hf⟩ := opt_b hf
              refine v_callVi (rest := []) (As := [.int 2]) (C := RX7) (T := TX7) (N := 22) (ci := 7) 0 hX dX7_copy_113 (c_X7_found σ 2 hc) rfl rfl (lt_b rfl) rfl rfl rfl mw_919 mw_27 mw_64 mw_917 mw_920 gAll ds_X7_found rfl ⟨Nat.le_of_ble_eq_true rfl, Nat.le_of_ble_eq_true rfl⟩ (Nat.le_of_ble_eq_true rfl) ?_
              obtain rfl := Option.some.inj hf
              exact v_iret (r := v8.1) hX dX7_copy_116 rfl
            · have hf := opt_f c hf
              refine v_iload 4 hX dX7_copy_66 rfl ?_
              refine v_if_lt 111 hX dX7_copy_68 (by decide) (fun c => ?_) (fun c => ?_)
              · have hf := opt_t c hf
                refine v_aload_n 0 0 hX dX7_copy_111 rfl rfl ?_
                refine v_iconst 2 hX dX7_copy_112 (by decide) ?_
                obtain ⟨v9, hc, hf⟩ := opt_b hf
                refine v_callVi (rest := []) (As := [.int 2]) (C := RX7) (T := TX7) (N := 22) (ci := 7) 0 hX dX7_copy_113 (c_X7_found σ 2 hc) rfl rfl (lt_b rfl) rfl rfl rfl mw_919 mw_27 mw_64 mw_917 mw_920 gAll ds_X7_found rfl ⟨Nat.le_of_ble_eq_true rfl, Nat.le_of_ble_eq_true rfl⟩ (Nat.le_of_ble_eq_true rfl) ?_
                obtain rfl := Option.some.inj hf
                exact v_iret (r := v9.1) hX dX7_copy_116 rfl
              · have hf := opt_f c hf
                refine v_iload 5 hX dX7_copy_71 rfl ?_
                refine v_if_lt 111 hX dX7_copy_73 (by decide) (fun c => ?_) (fun c => ?_)
                · have hf := opt_t c hf
                  refine v_aload_n 0 0 hX dX7_copy_111 rfl rfl ?_
                  refine v_iconst 2 hX dX7_copy_112 (by decide) ?_
                  obtain ⟨v10, hc, hf⟩ := opt_b hf
                  refine v_callVi (rest := []) (As := [.int 2]) (C := RX7) (T := TX7) (N := 22) (ci := 7) 0 hX dX7_copy_113 (c_X7_found σ 2 hc) rfl rfl (lt_b rfl) rfl rfl rfl mw_919 mw_27 mw_64 mw_917 mw_920 gAll ds_X7_found rfl ⟨Nat.le_of_ble_eq_true rfl, Nat.le_of_ble_eq_true rfl⟩ (Nat.le_of_ble_eq_true rfl) ?_
                  obtain rfl := Option.some.inj hf
                  exact v_iret (r := v10.1) hX dX7_copy_116 rfl
                · have hf := opt_f c hf
                  refine v_iload_n 2 2 hX dX7_copy_76 rfl rfl ?_
                  refine v_i2l hX dX7_copy_77 ?_
                  refine v_iload 5 hX dX7_copy_78 rfl ?_
                  refine v_i2l hX dX7_copy_80 ?_
                  refine v_ladd hX dX7_copy_81 ?_
                  refine v_aload_n 0 0 hX dX7_copy_82 rfl rfl ?_
                  refine v_get (C := RX7) (T := TX7) (N := 22) (ci := 7) (v := .ref (ad 2)) 0 1 hX dX7_copy_83 mw_837 rfl inlX7 rfl (lt_b rfl) (lt_b rfl) rfl rfl ?_
                  refine v_iload_n 1 1 hX dX7_copy_86 rfl rfl ?_
                  obtain ⟨hi11, hf⟩ := gd_some hf
                  refine v_ald (v := σ 2 x1.toNatClampNeg) 2 hX dX7_copy_87 (lt_b rfl) ((fun _ => rfl) _) hi11 rfl ?_
                  refine v_i2l hX dX7_copy_88 ?_
                  refine v_lcmp hX dX7_copy_89 ?_
                  refine v_if_gt 111 hX dX7_copy_90 (by decide) (fun c => ?_) (fun c => ?_)
                  · have hf := opt_t c hf
                    refine v_aload_n 0 0 hX dX7_copy_111 rfl rfl ?_
                    refine v_iconst 2 hX dX7_copy_112 (by decide) ?_
                    obtain ⟨v12, hc, hf⟩ := opt_b hf
                    refine v_callVi (rest := []) (As := [.int 2]) (C := RX7) (T := TX7) (N := 22) (ci := 7) 0 hX dX7_copy_113 (c_X7_found σ 2 hc) rfl rfl (lt_b rfl) rfl rfl rfl mw_919 mw_27 mw_64 mw_917 mw_920 gAll ds_X7_found rfl ⟨Nat.le_of_ble_eq_true rfl, Nat.le_of_ble_eq_true rfl⟩ (Nat.le_of_ble_eq_true rfl) ?_
                    obtain rfl := Option.some.inj hf
                    exact v_iret (r := v12.1) hX dX7_copy_116 rfl
                  · have hf := opt_f c hf
                    refine v_iload 4 hX dX7_copy_93 rfl ?_
                    refine v_i2l hX dX7_copy_95 ?_
                    refine v_iload 5 hX dX7_copy_96 rfl ?_
                    refine v_i2l hX dX7_copy_98 ?_
                    refine v_ladd hX dX7_copy_99 ?_
                    refine v_aload_n 0 0 hX dX7_copy_100 rfl rfl ?_
                    refine v_get (C := RX7) (T := TX7) (N := 22) (ci := 7) (v := .ref (ad 2)) 0 1 hX dX7_copy_101 mw_837 rfl inlX7 rfl (lt_b rfl) (lt_b rfl) rfl rfl ?_
                    refine v_iload_n 3 3 hX dX7_copy_104 rfl rfl ?_
                    obtain ⟨hi13, hf⟩ := gd_some hf
                    refine v_ald (v := σ 2 x3.toNatClampNeg) 2 hX dX7_copy_105 (lt_b rfl) ((fun _ => rfl) _) hi13 rfl ?_
                    refine v_i2l hX dX7_copy_106 ?_
                    refine v_lcmp hX dX7_copy_107 ?_
                    refine v_if_le 117 hX dX7_copy_108 (by decide) (fun c => ?_) (fun c => ?_)
                    · have hf := opt_t c hf
                      refine v_iconst 0 hX dX7_copy_117 (by decide) ?_
                      refine v_istore [(6, .int 0), (0, .ref (ad 0)), (1, .int x1), (2, .int x2), (3, .int x3), (4, .int x4), (5, .int x5)] hX dX7_copy_118 (lt_b rfl) rfl ?_
                      exact v_sub [1, 2, 3, 4, 5, 6, 0] rfl (s_X7_copy_120 hX fuel z  fuel σ x1 x2 x3 x4 x5 0 hf)
                    · have hf := opt_f c hf
                      refine v_aload_n 0 0 hX dX7_copy_111 rfl rfl ?_
                      refine v_iconst 2 hX dX7_copy_112 (by decide) ?_
                      obtain ⟨v14, hc, hf⟩ := opt_b hf
                      refine v_callVi (rest := []) (As := [.int 2]) (C := RX7) (T := TX7) (N := 22) (ci := 7) 0 hX dX7_copy_113 (c_X7_found σ 2 hc) rfl rfl (lt_b rfl) rfl rfl rfl mw_919 mw_27 mw_64 mw_917 mw_920 gAll ds_X7_found rfl ⟨Nat.le_of_ble_eq_true rfl, Nat.le_of_ble_eq_true rfl⟩ (Nat.le_of_ble_eq_true rfl) ?_
                      obtain rfl := Option.some.inj hf
                      exact v_iret (r := v14.1) hX dX7_copy_116 rfl
          · have hf := opt_f c hf
            refine v_aload_n 0 0 hX dX7_copy_56 rfl rfl ?_
            refine v_iconst 5 hX dX7_copy_57 (by decide) ?_
            obtain ⟨v15, hc, hf⟩ := opt_b hf
            refine v_callVi (rest := []) (As := [.int 5]) (C := RX7) (T := TX7) (N := 22) (ci := 7) 0 hX dX7_copy_58 (c_X7_found σ 5 hc) rfl rfl (lt_b rfl) rfl rfl rfl mw_919 mw_27 mw_64 mw_917 mw_920 gAll ds_X7_found rfl ⟨Nat.le_of_ble_eq_true rfl, Nat.le_of_ble_eq_true rfl⟩ (Nat.le_of_ble_eq_true rfl) ?_
            obtain rfl := Option.some.inj hf
            exact v_iret (r := v15.1) hX dX7_copy_61 rfl
        · have hf := opt_f c hf
          refine v_aload_n 0 0 hX dX7_copy_35 rfl rfl ?_
          refine v_iconst 1 hX dX7_copy_36 (by decide) ?_
          obtain ⟨v16, hc, hf⟩ := opt_b hf
          refine v_callVi (rest := []) (As := [.int 1]) (C := RX7) (T := TX7) (N := 22) (ci := 7) 0 hX dX7_copy_37 (c_X7_found σ 1 hc) rfl rfl (lt_b rfl) rfl rfl rfl mw_919 mw_27 mw_64 mw_917 mw_920 gAll ds_X7_found rfl ⟨Nat.le_of_ble_eq_true rfl, Nat.le_of_ble_eq_true rfl⟩ (Nat.le_of_ble_eq_true rfl) ?_
          obtain rfl := Option.some.inj hf
          exact v_iret (r := v16.1) hX dX7_copy_40 rfl
    · have hf := opt_t c hf
      refine v_ldc (-1000001) hX dX7_copy_14 mw_916 ?_
      obtain rfl := Option.some.inj hf
      exact v_iret (r := (-1000001)) hX dX7_copy_16 rfl
set_option maxHeartbeats 4000000 in
set_option maxRecDepth 100000 in
theorem c_X7_drop {l : Launch} {D : va_G} {cs : ClassId × ClassId × ClassId} {ad : Nat → Nat} (σ : Mem)   (x1 : Int32) {z : Int32 × Mem} (hf : f_X7_drop σ x1 = some z) : CtI l (mW D cs ad) 2 yX7_drop cX7_drop 3 (some .int) [.ref (ad 0), .int x1] σ z.1 z.2 := by
  refine ct_I RX7 [(0, .ref (ad 0)), (1, .int x1)] (by decide +kernel) rfl rfl (Nat.le_of_ble_eq_true rfl) ?_
  intro P M hl0 hX
  unfold f_X7_drop at hf
  refine v_iload_n 1 1 hX dX7_drop_0 rfl rfl ?_
  obtain ⟨v1, hc, hf⟩ := opt_b hf
  refine v_callSi (rest := []) (As := [.int x1]) hX dX7_drop_1 (c_X7_isRow σ x1 hc) rfl rfl mw_909 mw_64 mw_908 mw_910 gAll ds_X7_isRow rfl ⟨Nat.le_of_ble_eq_true rfl, Nat.le_of_ble_eq_true rfl⟩ (Nat.le_of_ble_eq_true rfl) ?_
  refine v_if_ne 10 hX dX7_drop_4 (by decide) (fun c => ?_) (fun c => ?_)
  · have hf := opt_f c hf
    refine v_aload_n 0 0 hX dX7_drop_10 rfl rfl ?_
    refine v_get (C := RX7) (T := TX7) (N := 22) (ci := 7) (v := .ref (ad 2)) 0 1 hX dX7_drop_11 mw_837 rfl inlX7 rfl (lt_b rfl) (lt_b rfl) rfl rfl ?_
    refine v_iload_n 1 1 hX dX7_drop_14 rfl rfl ?_
    obtain ⟨hi2, hf⟩ := gd_some hf
    refine v_ald (v := σ 2 x1.toNatClampNeg) 2 hX dX7_drop_15 (lt_b rfl) ((fun _ => rfl) _) hi2 rfl ?_
    refine v_if_ge 25 hX dX7_drop_16 (by decide) (fun c => ?_) (fun c => ?_)
    · have hf := opt_t c hf
      refine v_aload_n 0 0 hX dX7_drop_25 rfl rfl ?_
      refine v_get (C := RX7) (T := TX7) (N := 22) (ci := 7) (v := .ref (ad 2)) 0 1 hX dX7_drop_26 mw_837 rfl inlX7 rfl (lt_b rfl) (lt_b rfl) rfl rfl ?_
      refine v_iload_n 1 1 hX dX7_drop_29 rfl rfl ?_
      obtain ⟨hi3, hf⟩ := gd_some hf
      refine v_ald (v := σ 2 x1.toNatClampNeg) 2 hX dX7_drop_30 (lt_b rfl) ((fun _ => rfl) _) hi3 rfl ?_
      refine v_istore_n 2 [(2, .int (σ 2 x1.toNatClampNeg)), (0, .ref (ad 0)), (1, .int x1)] hX dX7_drop_31 rfl (lt_b rfl) rfl ?_
      refine v_aload_n 1 0 hX dX7_drop_32 rfl rfl ?_
      refine v_get (C := RX7) (T := TX7) (N := 22) (ci := 7) (v := .ref (ad 2)) 0 1 hX dX7_drop_33 mw_837 rfl inlX7 rfl (lt_b rfl) (lt_b rfl) rfl rfl ?_
      refine v_iload_n 2 1 hX dX7_drop_36 rfl rfl ?_
      refine v_iconst (-1) hX dX7_drop_37 (by decide) ?_
      obtain ⟨hi4, hf⟩ := gd_some hf
      refine v_ast 2 hX dX7_drop_38 (lt_b rfl) (fun _ => rfl) hi4 ?_
      refine v_aload_n 1 0 hX dX7_drop_39 rfl rfl ?_
      refine v_iload_n 0 2 hX dX7_drop_40 rfl rfl ?_
      obtain ⟨v5, hc, hf⟩ := opt_b hf
      refine v_callVi (rest := []) (As := [.int (σ 2 x1.toNatClampNeg)]) (C := RX7) (T := TX7) (N := 22) (ci := 7) 0 hX dX7_drop_41 (c_X7_well (mst σ 2 x1.toNatClampNeg (-1)) (σ 2 x1.toNatClampNeg) hc) rfl rfl (lt_b rfl) rfl rfl rfl mw_924 mw_28 mw_64 mw_922 mw_925 gAll ds_X7_well rfl ⟨Nat.le_of_ble_eq_true rfl, Nat.le_of_ble_eq_true rfl⟩ (Nat.le_of_ble_eq_true rfl) ?_
      obtain rfl := Option.some.inj hf
      exact v_iret (r := v5.1) hX dX7_drop_44 rfl
    · have hf := opt_f c hf
      refine v_aload_n 0 0 hX dX7_drop_19 rfl rfl ?_
      refine v_iconst 1 hX dX7_drop_20 (by decide) ?_
      obtain ⟨v6, hc, hf⟩ := opt_b hf
      refine v_callVi (rest := []) (As := [.int 1]) (C := RX7) (T := TX7) (N := 22) (ci := 7) 0 hX dX7_drop_21 (c_X7_found σ 1 hc) rfl rfl (lt_b rfl) rfl rfl rfl mw_919 mw_27 mw_64 mw_917 mw_920 gAll ds_X7_found rfl ⟨Nat.le_of_ble_eq_true rfl, Nat.le_of_ble_eq_true rfl⟩ (Nat.le_of_ble_eq_true rfl) ?_
      obtain rfl := Option.some.inj hf
      exact v_iret (r := v6.1) hX dX7_drop_24 rfl
  · have hf := opt_t c hf
    refine v_ldc (-1000001) hX dX7_drop_7 mw_916 ?_
    obtain rfl := Option.some.inj hf
    exact v_iret (r := (-1000001)) hX dX7_drop_9 rfl
set_option maxHeartbeats 4000000 in
set_option maxRecDepth 100000 in
theorem s_X7_next_216 {P : PT} {M : MT} {D : va_G} {cs : ClassId × ClassId × ClassId} {ad : Nat → Nat} (hX : VOk P M (mW D cs ad) 2 cX7_next RX7 none 2) (fuel : Nat) (k141 : Mem → Option (Mem))  (z : Mem) (hk141 : ∀ (σ : Mem), k141 σ = some z → V P M (mW D cs ad) 2 (QV P M (mW D cs ad) z) 141 [(0, .ref (ad 0))] [] σ) (σ : Mem) (y0 : Int32) (hf : f_X7_next_216 fuel k141 σ y0 = some z) : V P M (mW D cs ad) 2 (QV P M (mW D cs ad) z) 216 [(0, .ref (ad 0))] [.int y0, .ref (ad 0)] σ := by
  unfold f_X7_next_216 at hf
  refine v_put (C := RX7) (T := TX7) (N := 22) (ci := 7) (ty := .int) tyX7 0 18 hX dX7_next_216 mw_854 rfl inlX7 tyX7_ok nmX7 rfl (lt_b rfl) (lt_b rfl) rfl (tyX7_ok 18 (lt_b rfl)) rfl rfl rfl (lt_b rfl) rfl ?_
  refine v_aload_n 0 0 hX dX7_next_219 rfl rfl ?_
  refine v_dup hX dX7_next_220 rfl ?_
  refine v_get (C := RX7) (T := TX7) (N := 22) (ci := 7) (v := .int (σ 0 15)) 0 15 hX dX7_next_221 mw_851 rfl inlX7 rfl (lt_b rfl) (lt_b rfl) rfl rfl ?_
  refine v_iconst 1 hX dX7_next_224 (by decide) ?_
  refine v_iadd hX dX7_next_225 ?_
  refine v_put (C := RX7) (T := TX7) (N := 22) (ci := 7) (ty := .int) tyX7 0 15 hX dX7_next_226 mw_851 rfl inlX7 tyX7_ok nmX7 rfl (lt_b rfl) (lt_b rfl) rfl (tyX7_ok 15 (lt_b rfl)) rfl rfl rfl (lt_b rfl) rfl ?_
  refine v_goto 141 hX dX7_next_229 (by decide) ?_
  exact (hk141 (mst (mst σ 0 18 y0) 0 15 ((σ 0 15) + 1)) hf)
set_option maxHeartbeats 4000000 in
set_option maxRecDepth 100000 in
theorem s_X7_next_232 {P : PT} {M : MT} {D : va_G} {cs : ClassId × ClassId × ClassId} {ad : Nat → Nat} (hX : VOk P M (mW D cs ad) 2 cX7_next RX7 none 2) (fuel : Nat)   (z : Mem)  (σ : Mem) (hf : f_X7_next_232 fuel σ = some z) : V P M (mW D cs ad) 2 (QV P M (mW D cs ad) z) 232 [(0, .ref (ad 0))] [] σ := by
  unfold f_X7_next_232 at hf
  refine v_aload_n 0 0 hX dX7_next_232 rfl rfl ?_
  refine v_aload_n 0 0 hX dX7_next_233 rfl rfl ?_
  refine v_get (C := RX7) (T := TX7) (N := 22) (ci := 7) (v := .int (σ 0 17)) 0 17 hX dX7_next_234 mw_853 rfl inlX7 rfl (lt_b rfl) (lt_b rfl) rfl rfl ?_
  refine v_iconst 2 hX dX7_next_237 (by decide) ?_
  refine v_icmp_ne 258 hX dX7_next_238 (by decide) (fun c => ?_) (fun c => ?_)
  · have hf := opt_f c hf
    refine v_aload_n 0 0 hX dX7_next_258 rfl rfl ?_
    refine v_get (C := RX7) (T := TX7) (N := 22) (ci := 7) (v := .int (σ 0 17)) 0 17 hX dX7_next_259 mw_853 rfl inlX7 rfl (lt_b rfl) (lt_b rfl) rfl rfl ?_
    refine v_put (C := RX7) (T := TX7) (N := 22) (ci := 7) (ty := .int) tyX7 0 17 hX dX7_next_262 mw_853 rfl inlX7 tyX7_ok nmX7 rfl (lt_b rfl) (lt_b rfl) rfl (tyX7_ok 17 (lt_b rfl)) rfl rfl rfl (lt_b rfl) rfl ?_
    obtain rfl := Option.some.inj hf
    exact v_vret hX dX7_next_265
  · have hf := opt_t c hf
    refine v_aload_n 0 0 hX dX7_next_241 rfl rfl ?_
    refine v_get (C := RX7) (T := TX7) (N := 22) (ci := 7) (v := .int (σ 0 15)) 0 15 hX dX7_next_242 mw_851 rfl inlX7 rfl (lt_b rfl) (lt_b rfl) rfl rfl ?_
    refine v_aload_n 0 0 hX dX7_next_245 rfl rfl ?_
    refine v_get (C := RX7) (T := TX7) (N := 22) (ci := 7) (v := .int (σ 0 16)) 0 16 hX dX7_next_246 mw_852 rfl inlX7 rfl (lt_b rfl) (lt_b rfl) rfl rfl ?_
    refine v_isub hX dX7_next_249 ?_
    refine v_iconst 2 hX dX7_next_250 (by decide) ?_
    refine v_icmp_le 258 hX dX7_next_251 (by decide) (fun c => ?_) (fun c => ?_)
    · have hf := opt_t c hf
      refine v_aload_n 0 0 hX dX7_next_258 rfl rfl ?_
      refine v_get (C := RX7) (T := TX7) (N := 22) (ci := 7) (v := .int (σ 0 17)) 0 17 hX dX7_next_259 mw_853 rfl inlX7 rfl (lt_b rfl) (lt_b rfl) rfl rfl ?_
      refine v_put (C := RX7) (T := TX7) (N := 22) (ci := 7) (ty := .int) tyX7 0 17 hX dX7_next_262 mw_853 rfl inlX7 tyX7_ok nmX7 rfl (lt_b rfl) (lt_b rfl) rfl (tyX7_ok 17 (lt_b rfl)) rfl rfl rfl (lt_b rfl) rfl ?_
      obtain rfl := Option.some.inj hf
      exact v_vret hX dX7_next_265
    · have hf := opt_f c hf
      refine v_iconst 5 hX dX7_next_254 (by decide) ?_
      refine v_goto 262 hX dX7_next_255 (by decide) ?_
      refine v_put (C := RX7) (T := TX7) (N := 22) (ci := 7) (ty := .int) tyX7 0 17 hX dX7_next_262 mw_853 rfl inlX7 tyX7_ok nmX7 rfl (lt_b rfl) (lt_b rfl) rfl (tyX7_ok 17 (lt_b rfl)) rfl rfl rfl (lt_b rfl) rfl ?_
      obtain rfl := Option.some.inj hf
      exact v_vret hX dX7_next_265
set_option maxHeartbeats 4000000 in
set_option maxRecDepth 100000 in
theorem s_X7_next_141 {P : PT} {M : MT} {D : va_G} {cs : ClassId × ClassId × ClassId} {ad : Nat → Nat} (hX : VOk P M (mW D cs ad) 2 cX7_next RX7 none 2) (fuel : Nat)   (z : Mem)  : ∀ (n : Nat) (σ : Mem), f_X7_next_141 fuel n σ = some z → V P M (mW D cs ad) 2 (QV P M (mW D cs ad) z) 141 [(0, .ref (ad 0))] [] σ := by
  intro n
  induction n with
  | zero =>
    intro σ hf
    cases hf
  | succ n hk141 =>
    intro σ hf
    rw [f_X7_next_141] at hf
    refine v_aload_n 0 0 hX dX7_next_141 rfl rfl ?_
    refine v_get (C := RX7) (T := TX7) (N := 22) (ci := 7) (v := .int (σ 0 17)) 0 17 hX dX7_next_142 mw_853 rfl inlX7 rfl (lt_b rfl) (lt_b rfl) rfl rfl ?_
    refine v_iconst 2 hX dX7_next_145 (by decide) ?_
    refine v_icmp_ne 232 hX dX7_next_146 (by decide) (fun c => ?_) (fun c => ?_)
    · have hf := opt_f c hf
      exact (s_X7_next_232 hX fuel z  σ hf)
    · have hf := opt_t c hf
      refine v_aload_n 0 0 hX dX7_next_149 rfl rfl ?_
      refine v_get (C := RX7) (T := TX7) (N := 22) (ci := 7) (v := .int (σ 0 15)) 0 15 hX dX7_next_150 mw_851 rfl inlX7 rfl (lt_b rfl) (lt_b rfl) rfl rfl ?_
      refine v_aload_n 0 0 hX dX7_next_153 rfl rfl ?_
      refine v_get (C := RX7) (T := TX7) (N := 22) (ci := 7) (v := .int (σ 0 19)) 0 19 hX dX7_next_154 mw_855 rfl inlX7 rfl (lt_b rfl) (lt_b rfl) rfl rfl ?_
      refine v_icmp_ge 232 hX dX7_next_157 (by decide) (fun c => ?_) (fun c => ?_)
      · have hf := opt_t c hf
        exact (s_X7_next_232 hX fuel z  σ hf)
      · have hf := opt_f c hf
        refine v_aload_n 0 0 hX dX7_next_160 rfl rfl ?_
        refine v_get (C := RX7) (T := TX7) (N := 22) (ci := 7) (v := .ref (ad 4)) 0 4 hX dX7_next_161 mw_840 rfl inlX7 rfl (lt_b rfl) (lt_b rfl) rfl rfl ?_
        refine v_aload_n 0 0 hX dX7_next_164 rfl rfl ?_
        refine v_get (C := RX7) (T := TX7) (N := 22) (ci := 7) (v := .int (σ 0 15)) 0 15 hX dX7_next_165 mw_851 rfl inlX7 rfl (lt_b rfl) (lt_b rfl) rfl rfl ?_
        obtain ⟨hi4, hf⟩ := gd_some hf
        refine v_ald (v := σ 4 ((σ 0 15).toNatClampNeg)) 4 hX dX7_next_168 (lt_b rfl) ((fun _ => rfl) _) hi4 rfl ?_
        obtain ⟨v5, hc, hf⟩ := opt_b hf
        refine v_callSi (rest := []) (As := [.int (σ 4 ((σ 0 15).toNatClampNeg))]) hX dX7_next_169 (c_X7_isFigure σ (σ 4 ((σ 0 15).toNatClampNeg)) hc) rfl rfl mw_963 mw_64 mw_962 mw_964 gAll ds_X7_isFigure rfl ⟨Nat.le_of_ble_eq_true rfl, Nat.le_of_ble_eq_true rfl⟩ (Nat.le_of_ble_eq_true rfl) ?_
        refine v_if_eq 232 hX dX7_next_172 (by decide) (fun c => ?_) (fun c => ?_)
        · have hf := opt_t c hf
          exact (s_X7_next_232 hX fuel z  σ hf)
        · have hf := opt_f c hf
          refine v_aload_n 0 0 hX dX7_next_175 rfl rfl ?_
          refine v_aload_n 0 0 hX dX7_next_176 rfl rfl ?_
          refine v_get (C := RX7) (T := TX7) (N := 22) (ci := 7) (v := .int (σ 0 15)) 0 15 hX dX7_next_177 mw_851 rfl inlX7 rfl (lt_b rfl) (lt_b rfl) rfl rfl ?_
          refine v_aload_n 0 0 hX dX7_next_180 rfl rfl ?_
          refine v_get (C := RX7) (T := TX7) (N := 22) (ci := 7) (v := .int (σ 0 16)) 0 16 hX dX7_next_181 mw_852 rfl inlX7 rfl (lt_b rfl) (lt_b rfl) rfl rfl ?_
          refine v_isub hX dX7_next_184 ?_
          refine v_iconst 2 hX dX7_next_185 (by decide) ?_
          refine v_icmp_ge 212 hX dX7_next_186 (by decide) (fun c => ?_) (fun c => ?_)
          · have hf := opt_t c hf
            refine v_aload_n 0 0 hX dX7_next_212 rfl rfl ?_
            refine v_get (C := RX7) (T := TX7) (N := 22) (ci := 7) (v := .int (σ 0 18)) 0 18 hX dX7_next_213 mw_854 rfl inlX7 rfl (lt_b rfl) (lt_b rfl) rfl rfl ?_
            exact (s_X7_next_216 hX fuel (f_X7_next_141 fuel n) z hk141 σ (σ 0 18) hf)
          · have hf := opt_f c hf
            refine v_bipush 10 hX dX7_next_189 (by decide) ?_
            refine v_aload_n 0 0 hX dX7_next_191 rfl rfl ?_
            refine v_get (C := RX7) (T := TX7) (N := 22) (ci := 7) (v := .int (σ 0 18)) 0 18 hX dX7_next_192 mw_854 rfl inlX7 rfl (lt_b rfl) (lt_b rfl) rfl rfl ?_
            refine v_imul hX dX7_next_195 ?_
            refine v_aload_n 0 0 hX dX7_next_196 rfl rfl ?_
            refine v_get (C := RX7) (T := TX7) (N := 22) (ci := 7) (v := .ref (ad 4)) 0 4 hX dX7_next_197 mw_840 rfl inlX7 rfl (lt_b rfl) (lt_b rfl) rfl rfl ?_
            refine v_aload_n 0 0 hX dX7_next_200 rfl rfl ?_
            refine v_get (C := RX7) (T := TX7) (N := 22) (ci := 7) (v := .int (σ 0 15)) 0 15 hX dX7_next_201 mw_851 rfl inlX7 rfl (lt_b rfl) (lt_b rfl) rfl rfl ?_
            obtain ⟨hi6, hf⟩ := gd_some hf
            refine v_ald (v := σ 4 ((σ 0 15).toNatClampNeg)) 4 hX dX7_next_204 (lt_b rfl) ((fun _ => rfl) _) hi6 rfl ?_
            refine v_iadd hX dX7_next_205 ?_
            refine v_bipush 48 hX dX7_next_206 (by decide) ?_
            refine v_isub hX dX7_next_208 ?_
            refine v_goto 216 hX dX7_next_209 (by decide) ?_
            exact (s_X7_next_216 hX fuel (f_X7_next_141 fuel n) z hk141 σ (((10 * (σ 0 18)) + (σ 4 ((σ 0 15).toNatClampNeg))) - 48) hf)
set_option maxHeartbeats 4000000 in
set_option maxRecDepth 100000 in
theorem s_X7_next_109 {P : PT} {M : MT} {D : va_G} {cs : ClassId × ClassId × ClassId} {ad : Nat → Nat} (hX : VOk P M (mW D cs ad) 2 cX7_next RX7 none 2) (fuel : Nat)   (z : Mem)  (σ : Mem) (y0 : Int32) (hf : f_X7_next_109 fuel σ y0 = some z) : V P M (mW D cs ad) 2 (QV P M (mW D cs ad) z) 109 [(0, .ref (ad 0))] [.int y0, .ref (ad 0)] σ := by
  unfold f_X7_next_109 at hf
  refine v_put (C := RX7) (T := TX7) (N := 22) (ci := 7) (ty := .int) tyX7 0 18 hX dX7_next_109 mw_854 rfl inlX7 tyX7_ok nmX7 rfl (lt_b rfl) (lt_b rfl) rfl (tyX7_ok 18 (lt_b rfl)) rfl rfl rfl (lt_b rfl) rfl ?_
  refine v_aload_n 0 0 hX dX7_next_112 rfl rfl ?_
  refine v_dup hX dX7_next_113 rfl ?_
  refine v_get (C := RX7) (T := TX7) (N := 22) (ci := 7) (v := .int (σ 0 15)) 0 15 hX dX7_next_114 mw_851 rfl inlX7 rfl (lt_b rfl) (lt_b rfl) rfl rfl ?_
  refine v_aload_n 0 0 hX dX7_next_117 rfl rfl ?_
  refine v_get (C := RX7) (T := TX7) (N := 22) (ci := 7) (v := .int (σ 0 17)) 0 17 hX dX7_next_118 mw_853 rfl inlX7 rfl (lt_b rfl) (lt_b rfl) rfl rfl ?_
  refine v_if_le 136 hX dX7_next_121 (by decide) (fun c => ?_) (fun c => ?_)
  · have hf := opt_t c hf
    refine v_iconst 0 hX dX7_next_136 (by decide) ?_
    refine v_iadd hX dX7_next_137 ?_
    refine v_put (C := RX7) (T := TX7) (N := 22) (ci := 7) (ty := .int) tyX7 0 15 hX dX7_next_138 mw_851 rfl inlX7 tyX7_ok nmX7 rfl (lt_b rfl) (lt_b rfl) rfl (tyX7_ok 15 (lt_b rfl)) rfl rfl rfl (lt_b rfl) rfl ?_
    exact (s_X7_next_141 hX fuel z  fuel (mst (mst σ 0 18 y0) 0 15 ((σ 0 15) + 0)) hf)
  · have hf := opt_f c hf
    refine v_aload_n 0 0 hX dX7_next_124 rfl rfl ?_
    refine v_get (C := RX7) (T := TX7) (N := 22) (ci := 7) (v := .int (σ 0 17)) 0 17 hX dX7_next_125 mw_853 rfl inlX7 rfl (lt_b rfl) (lt_b rfl) rfl rfl ?_
    refine v_iconst 2 hX dX7_next_128 (by decide) ?_
    refine v_icmp_eq 136 hX dX7_next_129 (by decide) (fun c => ?_) (fun c => ?_)
    · have hf := opt_t c hf
      refine v_iconst 0 hX dX7_next_136 (by decide) ?_
      refine v_iadd hX dX7_next_137 ?_
      refine v_put (C := RX7) (T := TX7) (N := 22) (ci := 7) (ty := .int) tyX7 0 15 hX dX7_next_138 mw_851 rfl inlX7 tyX7_ok nmX7 rfl (lt_b rfl) (lt_b rfl) rfl (tyX7_ok 15 (lt_b rfl)) rfl rfl rfl (lt_b rfl) rfl ?_
      exact (s_X7_next_141 hX fuel z  fuel (mst (mst σ 0 18 y0) 0 15 ((σ 0 15) + 0)) hf)
    · have hf := opt_f c hf
      refine v_iconst 1 hX dX7_next_132 (by decide) ?_
      refine v_goto 137 hX dX7_next_133 (by decide) ?_
      refine v_iadd hX dX7_next_137 ?_
      refine v_put (C := RX7) (T := TX7) (N := 22) (ci := 7) (ty := .int) tyX7 0 15 hX dX7_next_138 mw_851 rfl inlX7 tyX7_ok nmX7 rfl (lt_b rfl) (lt_b rfl) rfl (tyX7_ok 15 (lt_b rfl)) rfl rfl rfl (lt_b rfl) rfl ?_
      exact (s_X7_next_141 hX fuel z  fuel (mst (mst σ 0 18 y0) 0 15 ((σ 0 15) + 1)) hf)
set_option maxHeartbeats 4000000 in
set_option maxRecDepth 100000 in
theorem s_X7_next_92 {P : PT} {M : MT} {D : va_G} {cs : ClassId × ClassId × ClassId} {ad : Nat → Nat} (hX : VOk P M (mW D cs ad) 2 cX7_next RX7 none 2) (fuel : Nat)   (z : Mem)  (σ : Mem) (x1 : Int32) (y0 : Int32) (hf : f_X7_next_92 fuel σ x1 y0 = some z) : V P M (mW D cs ad) 2 (QV P M (mW D cs ad) z) 92 [(0, .ref (ad 0)), (1, .int x1)] [.int y0, .ref (ad 0)] σ := by
  unfold f_X7_next_92 at hf
  refine v_put (C := RX7) (T := TX7) (N := 22) (ci := 7) (ty := .int) tyX7 0 17 hX dX7_next_92 mw_853 rfl inlX7 tyX7_ok nmX7 rfl (lt_b rfl) (lt_b rfl) rfl (tyX7_ok 17 (lt_b rfl)) rfl rfl rfl (lt_b rfl) rfl ?_
  refine v_aload_n 0 0 hX dX7_next_95 rfl rfl ?_
  refine v_aload_n 0 0 hX dX7_next_96 rfl rfl ?_
  refine v_get (C := RX7) (T := TX7) (N := 22) (ci := 7) (v := .int y0) 0 17 hX dX7_next_97 mw_853 rfl inlX7 rfl (lt_b rfl) (lt_b rfl) rfl rfl ?_
  refine v_iconst 1 hX dX7_next_100 (by decide) ?_
  refine v_icmp_ne 108 hX dX7_next_101 (by decide) (fun c => ?_) (fun c => ?_)
  · have hf := opt_f c hf
    refine v_iconst 0 hX dX7_next_108 (by decide) ?_
    exact v_sub [0] rfl (s_X7_next_109 hX fuel z  (mst σ 0 17 y0) 0 hf)
  · have hf := opt_t c hf
    refine v_iload_n 1 1 hX dX7_next_104 rfl rfl ?_
    refine v_goto 109 hX dX7_next_105 (by decide) ?_
    exact v_sub [0] rfl (s_X7_next_109 hX fuel z  (mst σ 0 17 y0) x1 hf)
set_option maxHeartbeats 4000000 in
set_option maxRecDepth 100000 in
theorem s_X7_next_32 {P : PT} {M : MT} {D : va_G} {cs : ClassId × ClassId × ClassId} {ad : Nat → Nat} (hX : VOk P M (mW D cs ad) 2 cX7_next RX7 none 2) (fuel : Nat)   (z : Mem)  (σ : Mem) (y0 : Int32) (hf : f_X7_next_32 fuel σ y0 = some z) : V P M (mW D cs ad) 2 (QV P M (mW D cs ad) z) 32 [(0, .ref (ad 0))] [.int y0] σ := by
  unfold f_X7_next_32 at hf
  refine v_istore_n 1 [(1, .int y0), (0, .ref (ad 0))] hX dX7_next_32 rfl (lt_b rfl) rfl ?_
  refine v_aload_n 1 0 hX dX7_next_33 rfl rfl ?_
  refine v_iload_n 0 1 hX dX7_next_34 rfl rfl ?_
  refine v_if_ge 42 hX dX7_next_35 (by decide) (fun c => ?_) (fun c => ?_)
  · have hf := opt_t c hf
    refine v_iload_n 0 1 hX dX7_next_42 rfl rfl ?_
    refine v_i2l hX dX7_next_43 ?_
    refine v_ldc2 97 hX dX7_next_44 mw_960 ?_
    refine v_ldc2 122 hX dX7_next_47 mw_961 ?_
    obtain ⟨v2, hc, hf⟩ := opt_b hf
    refine v_callSi (rest := [.ref (ad 0)]) (As := [.long y0.toInt64, .long 97, .long 122]) hX dX7_next_50 (c_X7_in σ y0.toInt64 97 122 hc) rfl rfl mw_913 mw_64 mw_912 mw_914 gAll ds_X7_in rfl ⟨Nat.le_of_ble_eq_true rfl, Nat.le_of_ble_eq_true rfl⟩ (Nat.le_of_ble_eq_true rfl) ?_
    refine v_if_eq 60 hX dX7_next_53 (by decide) (fun c => ?_) (fun c => ?_)
    · have hf := opt_t c hf
      refine v_iload_n 0 1 hX dX7_next_60 rfl rfl ?_
      obtain ⟨v3, hc, hf⟩ := opt_b hf
      refine v_callSi (rest := [.ref (ad 0)]) (As := [.int y0]) hX dX7_next_61 (c_X7_isFigure σ y0 hc) rfl rfl mw_963 mw_64 mw_962 mw_964 gAll ds_X7_isFigure rfl ⟨Nat.le_of_ble_eq_true rfl, Nat.le_of_ble_eq_true rfl⟩ (Nat.le_of_ble_eq_true rfl) ?_
      refine v_if_eq 71 hX dX7_next_64 (by decide) (fun c => ?_) (fun c => ?_)
      · have hf := opt_t c hf
        refine v_iload_n 0 1 hX dX7_next_71 rfl rfl ?_
        refine v_bipush 44 hX dX7_next_72 (by decide) ?_
        refine v_icmp_ne 81 hX dX7_next_74 (by decide) (fun c => ?_) (fun c => ?_)
        · have hf := opt_f c hf
          refine v_iload_n 0 1 hX dX7_next_81 rfl rfl ?_
          refine v_bipush 59 hX dX7_next_82 (by decide) ?_
          refine v_icmp_ne 91 hX dX7_next_84 (by decide) (fun c => ?_) (fun c => ?_)
          · have hf := opt_f c hf
            refine v_iconst 5 hX dX7_next_91 (by decide) ?_
            exact v_sub [1, 0] rfl (s_X7_next_92 hX fuel z  σ y0 5 hf)
          · have hf := opt_t c hf
            refine v_iconst 4 hX dX7_next_87 (by decide) ?_
            refine v_goto 92 hX dX7_next_88 (by decide) ?_
            exact v_sub [1, 0] rfl (s_X7_next_92 hX fuel z  σ y0 4 hf)
        · have hf := opt_t c hf
          refine v_iconst 3 hX dX7_next_77 (by decide) ?_
          refine v_goto 92 hX dX7_next_78 (by decide) ?_
          exact v_sub [1, 0] rfl (s_X7_next_92 hX fuel z  σ y0 3 hf)
      · have hf := opt_f c hf
        refine v_iconst 2 hX dX7_next_67 (by decide) ?_
        refine v_goto 92 hX dX7_next_68 (by decide) ?_
        exact v_sub [1, 0] rfl (s_X7_next_92 hX fuel z  σ y0 2 hf)
    · have hf := opt_f c hf
      refine v_iconst 1 hX dX7_next_56 (by decide) ?_
      refine v_goto 92 hX dX7_next_57 (by decide) ?_
      exact v_sub [1, 0] rfl (s_X7_next_92 hX fuel z  σ y0 1 hf)
  · have hf := opt_f c hf
    refine v_iconst 0 hX dX7_next_38 (by decide) ?_
    refine v_goto 92 hX dX7_next_39 (by decide) ?_
    exact v_sub [1, 0] rfl (s_X7_next_92 hX fuel z  σ y0 0 hf)
set_option maxHeartbeats 4000000 in
set_option maxRecDepth 100000 in
theorem c_X7_next {l : Launch} {D : va_G} {cs : ClassId × ClassId × ClassId} {ad : Nat → Nat} (σ : Mem) (fuel : Nat)   {z : Mem} (hf : f_X7_next fuel σ = some z) : CtV l (mW D cs ad) 2 yX7_next cX7_next 2 [.ref (ad 0)] σ z := by
  refine ct_V RX7 [(0, .ref (ad 0))] (by decide +kernel) rfl rfl (Nat.le_of_ble_eq_true rfl) ?_
  intro P M hl0 hX
  unfold f_X7_next at hf
  refine v_aload_n 0 0 hX dX7_next_0 rfl rfl ?_
  refine v_aload_n 0 0 hX dX7_next_1 rfl rfl ?_
  refine v_get (C := RX7) (T := TX7) (N := 22) (ci := 7) (v := .int (σ 0 15)) 0 15 hX dX7_next_2 mw_851 rfl inlX7 rfl (lt_b rfl) (lt_b rfl) rfl rfl ?_
  refine v_put (C := RX7) (T := TX7) (N := 22) (ci := 7) (ty := .int) tyX7 0 16 hX dX7_next_5 mw_852 rfl inlX7 tyX7_ok nmX7 rfl (lt_b rfl) (lt_b rfl) rfl (tyX7_ok 16 (lt_b rfl)) rfl rfl rfl (lt_b rfl) rfl ?_
  refine v_aload_n 0 0 hX dX7_next_8 rfl rfl ?_
  refine v_get (C := RX7) (T := TX7) (N := 22) (ci := 7) (v := .int (σ 0 15)) 0 15 hX dX7_next_9 mw_851 rfl inlX7 rfl (lt_b rfl) (lt_b rfl) rfl rfl ?_
  refine v_aload_n 0 0 hX dX7_next_12 rfl rfl ?_
  refine v_get (C := RX7) (T := TX7) (N := 22) (ci := 7) (v := .int (σ 0 19)) 0 19 hX dX7_next_13 mw_855 rfl inlX7 rfl (lt_b rfl) (lt_b rfl) rfl rfl ?_
  refine v_icmp_ge 31 hX dX7_next_16 (by decide) (fun c => ?_) (fun c => ?_)
  · have hf := opt_t c hf
    refine v_iconst (-1) hX dX7_next_31 (by decide) ?_
    exact (s_X7_next_32 hX fuel z  (mst σ 0 16 (σ 0 15)) (-1) hf)
  · have hf := opt_f c hf
    refine v_aload_n 0 0 hX dX7_next_19 rfl rfl ?_
    refine v_get (C := RX7) (T := TX7) (N := 22) (ci := 7) (v := .ref (ad 4)) 0 4 hX dX7_next_20 mw_840 rfl inlX7 rfl (lt_b rfl) (lt_b rfl) rfl rfl ?_
    refine v_aload_n 0 0 hX dX7_next_23 rfl rfl ?_
    refine v_get (C := RX7) (T := TX7) (N := 22) (ci := 7) (v := .int (σ 0 15)) 0 15 hX dX7_next_24 mw_851 rfl inlX7 rfl (lt_b rfl) (lt_b rfl) rfl rfl ?_
    obtain ⟨hi1, hf⟩ := gd_some hf
    refine v_ald (v := σ 4 ((σ 0 15).toNatClampNeg)) 4 hX dX7_next_27 (lt_b rfl) ((fun _ => rfl) _) hi1 rfl ?_
    refine v_goto 32 hX dX7_next_28 (by decide) ?_
    exact (s_X7_next_32 hX fuel z  (mst σ 0 16 (σ 0 15)) (σ 4 ((σ 0 15).toNatClampNeg)) hf)
set_option maxHeartbeats 4000000 in
set_option maxRecDepth 100000 in
theorem c_X7_write {l : Launch} {D : va_G} {cs : ClassId × ClassId × ClassId} {ad : Nat → Nat} (σ : Mem) (fuel : Nat)  (x1 : Int32) (x2 : Int32) (x3 : Int32) {z : Int32 × Mem} (hf : f_X7_write fuel σ x1 x2 x3 = some z) : CtI l (mW D cs ad) 2 yX7_write cX7_write 5 (some .int) [.ref (ad 0), .int x1, .int x2, .int x3] σ z.1 z.2 := by
  refine ct_I RX7 [(0, .ref (ad 0)), (1, .int x1), (2, .int x2), (3, .int x3)] (by decide +kernel) rfl rfl (Nat.le_of_ble_eq_true rfl) ?_
  intro P M hl0 hX
  unfold f_X7_write at hf
  refine v_iload_n 1 1 hX dX7_write_0 rfl rfl ?_
  refine v_i2l hX dX7_write_1 ?_
  refine v_lconst 0 hX dX7_write_2 (by decide) ?_
  refine v_ldc2 5 hX dX7_write_3 mw_1019 ?_
  obtain ⟨v1, hc, hf⟩ := opt_b hf
  refine v_callSi (rest := []) (As := [.long x1.toInt64, .long 0, .long 5]) hX dX7_write_6 (c_X7_in σ x1.toInt64 0 5 hc) rfl rfl mw_913 mw_64 mw_912 mw_914 gAll ds_X7_in rfl ⟨Nat.le_of_ble_eq_true rfl, Nat.le_of_ble_eq_true rfl⟩ (Nat.le_of_ble_eq_true rfl) ?_
  refine v_if_eq 32 hX dX7_write_9 (by decide) (fun c => ?_) (fun c => ?_)
  · have hf := opt_t c hf
    refine v_ldc (-1000001) hX dX7_write_32 mw_916 ?_
    obtain rfl := Option.some.inj hf
    exact v_iret (r := (-1000001)) hX dX7_write_34 rfl
  · have hf := opt_f c hf
    refine v_aload_n 0 0 hX dX7_write_12 rfl rfl ?_
    refine v_iload_n 2 2 hX dX7_write_13 rfl rfl ?_
    obtain ⟨v2, hc, hf⟩ := opt_b hf
    refine v_callVi (rest := []) (As := [.int x2]) (C := RX7) (T := TX7) (N := 22) (ci := 7) 0 hX dX7_write_14 (c_X7_isHand σ x2 hc) rfl rfl (lt_b rfl) rfl rfl rfl mw_1022 mw_40 mw_64 mw_1020 mw_1023 gAll ds_X7_isHand rfl ⟨Nat.le_of_ble_eq_true rfl, Nat.le_of_ble_eq_true rfl⟩ (Nat.le_of_ble_eq_true rfl) ?_
    refine v_if_eq 32 hX dX7_write_17 (by decide) (fun c => ?_) (fun c => ?_)
    · have hf := opt_t c hf
      refine v_ldc (-1000001) hX dX7_write_32 mw_916 ?_
      obtain rfl := Option.some.inj hf
      exact v_iret (r := (-1000001)) hX dX7_write_34 rfl
    · have hf := opt_f c hf
      refine v_iload_n 3 3 hX dX7_write_20 rfl rfl ?_
      refine v_i2l hX dX7_write_21 ?_
      refine v_lconst 1 hX dX7_write_22 (by decide) ?_
      refine v_ldc2 9 hX dX7_write_23 mw_1024 ?_
      obtain ⟨v3, hc, hf⟩ := opt_b hf
      refine v_callSi (rest := []) (As := [.long x3.toInt64, .long 1, .long 9]) hX dX7_write_26 (c_X7_in σ x3.toInt64 1 9 hc) rfl rfl mw_913 mw_64 mw_912 mw_914 gAll ds_X7_in rfl ⟨Nat.le_of_ble_eq_true rfl, Nat.le_of_ble_eq_true rfl⟩ (Nat.le_of_ble_eq_true rfl) ?_
      refine v_if_ne 35 hX dX7_write_29 (by decide) (fun c => ?_) (fun c => ?_)
      · have hf := opt_f c hf
        refine v_aload_n 0 0 hX dX7_write_35 rfl rfl ?_
        refine v_get (C := RX7) (T := TX7) (N := 22) (ci := 7) (v := .ref (ad 5)) 0 8 hX dX7_write_36 mw_844 rfl inlX7 rfl (lt_b rfl) (lt_b rfl) rfl rfl ?_
        refine v_iconst 3 hX dX7_write_39 (by decide) ?_
        refine v_aldc (v := σ 5 3) 5 3 hX dX7_write_40 (lt_b rfl) ((fun _ => rfl) _) ib_3_85 tn_3 rfl ?_
        refine v_istore [(4, .int (σ 5 3)), (0, .ref (ad 0)), (1, .int x1), (2, .int x2), (3, .int x3)] hX dX7_write_41 (lt_b rfl) rfl ?_
        refine v_iload 0 hX dX7_write_43 rfl ?_
        refine v_bipush 10 hX dX7_write_45 (by decide) ?_
        refine v_icmp_ne 53 hX dX7_write_47 (by decide) (fun c => ?_) (fun c => ?_)
        · have hf := opt_f c hf
          refine v_aload_n 1 0 hX dX7_write_53 rfl rfl ?_
          obtain ⟨v4, hc, hf⟩ := opt_b hf
          refine v_callVv (rest := []) (As := []) (C := RX7) (T := TX7) (N := 22) (ci := 7) 0 hX dX7_write_54 (c_X7_remember σ fuel hc) rfl rfl (lt_b rfl) rfl rfl rfl mw_1027 mw_41 mw_64 mw_1025 mw_1028 gAll ds_X7_remember rfl ⟨Nat.le_of_ble_eq_true rfl, Nat.le_of_ble_eq_true rfl⟩ (Nat.le_of_ble_eq_true rfl) ?_
          refine v_aload_n 1 0 hX dX7_write_57 rfl rfl ?_
          refine v_get (C := RX7) (T := TX7) (N := 22) (ci := 7) (v := .ref (ad 5)) 0 8 hX dX7_write_58 mw_844 rfl inlX7 rfl (lt_b rfl) (lt_b rfl) rfl rfl ?_
          refine v_bipush 15 hX dX7_write_61 (by decide) ?_
          refine v_iload 0 hX dX7_write_63 rfl ?_
          refine v_iadd hX dX7_write_65 ?_
          refine v_iload_n 2 1 hX dX7_write_66 rfl rfl ?_
          obtain ⟨hi5, hf⟩ := gd_some hf
          refine v_ast 5 hX dX7_write_67 (lt_b rfl) (fun _ => rfl) hi5 ?_
          refine v_aload_n 1 0 hX dX7_write_68 rfl rfl ?_
          refine v_get (C := RX7) (T := TX7) (N := 22) (ci := 7) (v := .ref (ad 5)) 0 8 hX dX7_write_69 mw_844 rfl inlX7 rfl (lt_b rfl) (lt_b rfl) rfl rfl ?_
          refine v_bipush 25 hX dX7_write_72 (by decide) ?_
          refine v_iload 0 hX dX7_write_74 rfl ?_
          refine v_iadd hX dX7_write_76 ?_
          refine v_iload_n 3 2 hX dX7_write_77 rfl rfl ?_
          obtain ⟨hi6, hf⟩ := gd_some hf
          refine v_ast 5 hX dX7_write_78 (lt_b rfl) (fun _ => rfl) hi6 ?_
          refine v_aload_n 1 0 hX dX7_write_79 rfl rfl ?_
          refine v_get (C := RX7) (T := TX7) (N := 22) (ci := 7) (v := .ref (ad 5)) 0 8 hX dX7_write_80 mw_844 rfl inlX7 rfl (lt_b rfl) (lt_b rfl) rfl rfl ?_
          refine v_bipush 35 hX dX7_write_83 (by decide) ?_
          refine v_iload 0 hX dX7_write_85 rfl ?_
          refine v_iadd hX dX7_write_87 ?_
          refine v_iload_n 4 3 hX dX7_write_88 rfl rfl ?_
          obtain ⟨hi7, hf⟩ := gd_some hf
          refine v_ast 5 hX dX7_write_89 (lt_b rfl) (fun _ => rfl) hi7 ?_
          refine v_aload_n 1 0 hX dX7_write_90 rfl rfl ?_
          refine v_get (C := RX7) (T := TX7) (N := 22) (ci := 7) (v := .ref (ad 5)) 0 8 hX dX7_write_91 mw_844 rfl inlX7 rfl (lt_b rfl) (lt_b rfl) rfl rfl ?_
          refine v_bipush 45 hX dX7_write_94 (by decide) ?_
          refine v_iload 0 hX dX7_write_96 rfl ?_
          refine v_iadd hX dX7_write_98 ?_
          refine v_aload_n 1 0 hX dX7_write_99 rfl rfl ?_
          refine v_get (C := RX7) (T := TX7) (N := 22) (ci := 7) (v := .ref (ad 5)) 0 8 hX dX7_write_100 mw_844 rfl inlX7 rfl (lt_b rfl) (lt_b rfl) rfl rfl ?_
          refine v_iconst 5 hX dX7_write_103 (by decide) ?_
          obtain ⟨s8, hs, hf⟩ := opt_b hf
          refine v_mem (Option.some.inj hs) ?_
          refine v_aldc (v := s8 5 5) 5 5 hX dX7_write_104 (lt_b rfl) ((fun _ => rfl) _) ib_5_85 tn_5 rfl ?_
          obtain ⟨hi9, hf⟩ := gd_some hf
          refine v_ast 5 hX dX7_write_105 (lt_b rfl) (fun _ => rfl) hi9 ?_
          refine v_aload_n 1 0 hX dX7_write_106 rfl rfl ?_
          refine v_get (C := RX7) (T := TX7) (N := 22) (ci := 7) (v := .ref (ad 5)) 0 8 hX dX7_write_107 mw_844 rfl inlX7 rfl (lt_b rfl) (lt_b rfl) rfl rfl ?_
          refine v_bipush 55 hX dX7_write_110 (by decide) ?_
          refine v_iload 0 hX dX7_write_112 rfl ?_
          refine v_iadd hX dX7_write_114 ?_
          refine v_iconst 0 hX dX7_write_115 (by decide) ?_
          obtain ⟨hi10, hf⟩ := gd_some hf
          refine v_ast 5 hX dX7_write_116 (lt_b rfl) (fun _ => rfl) hi10 ?_
          refine v_aload_n 1 0 hX dX7_write_117 rfl rfl ?_
          refine v_get (C := RX7) (T := TX7) (N := 22) (ci := 7) (v := .ref (ad 5)) 0 8 hX dX7_write_118 mw_844 rfl inlX7 rfl (lt_b rfl) (lt_b rfl) rfl rfl ?_
          refine v_bipush 6 hX dX7_write_121 (by decide) ?_
          refine v_dup2 hX dX7_write_123 rfl rfl ?_
          obtain ⟨s11, hs, hf⟩ := opt_b hf
          refine v_mem (Option.some.inj hs) ?_
          refine v_aldc (v := s11 5 6) 5 6 hX dX7_write_124 (lt_b rfl) ((fun _ => rfl) _) ib_6_85 tn_6 rfl ?_
          refine v_aload_n 1 0 hX dX7_write_125 rfl rfl ?_
          refine v_get (C := RX7) (T := TX7) (N := 22) (ci := 7) (v := .ref (ad 5)) 0 8 hX dX7_write_126 mw_844 rfl inlX7 rfl (lt_b rfl) (lt_b rfl) rfl rfl ?_
          refine v_bipush 11 hX dX7_write_129 (by decide) ?_
          refine v_iload_n 3 2 hX dX7_write_131 rfl rfl ?_
          refine v_iadd hX dX7_write_132 ?_
          obtain ⟨hi12, hf⟩ := gd_some hf
          refine v_ald (v := s11 5 ((11 + x2).toNatClampNeg)) 5 hX dX7_write_133 (lt_b rfl) ((fun _ => rfl) _) hi12 rfl ?_
          refine v_iadd hX dX7_write_134 ?_
          refine v_astc 5 6 hX dX7_write_135 (lt_b rfl) (fun _ => rfl) ib_6_85 tn_6 ?_
          refine v_aload_n 1 0 hX dX7_write_136 rfl rfl ?_
          refine v_get (C := RX7) (T := TX7) (N := 22) (ci := 7) (v := .ref (ad 5)) 0 8 hX dX7_write_137 mw_844 rfl inlX7 rfl (lt_b rfl) (lt_b rfl) rfl rfl ?_
          refine v_iconst 3 hX dX7_write_140 (by decide) ?_
          refine v_dup2 hX dX7_write_141 rfl rfl ?_
          refine v_aldc (v := s11 5 3) 5 3 hX dX7_write_142 (lt_b rfl) ((fun _ => rfl) _) ib_3_85 tn_3 rfl ?_
          refine v_iconst 1 hX dX7_write_143 (by decide) ?_
          refine v_iadd hX dX7_write_144 ?_
          refine v_astc 5 3 hX dX7_write_145 (lt_b rfl) (fun _ => rfl) ib_3_85 tn_3 ?_
          refine v_iload 0 hX dX7_write_146 rfl ?_
          obtain rfl := Option.some.inj hf
          exact v_iret (r := σ 5 3) hX dX7_write_148 rfl
        · have hf := opt_t c hf
          refine v_ldc (-1000003) hX dX7_write_50 mw_943 ?_
          obtain rfl := Option.some.inj hf
          exact v_iret (r := (-1000003)) hX dX7_write_52 rfl
      · have hf := opt_t c hf
        refine v_ldc (-1000001) hX dX7_write_32 mw_916 ?_
        obtain rfl := Option.some.inj hf
        exact v_iret (r := (-1000001)) hX dX7_write_34 rfl
set_option maxHeartbeats 4000000 in
set_option maxRecDepth 100000 in
theorem c_X7_recall {l : Launch} {D : va_G} {cs : ClassId × ClassId × ClassId} {ad : Nat → Nat} (σ : Mem) (fuel : Nat)  (x1 : Int32) {z : Int32 × Mem} (hf : f_X7_recall fuel σ x1 = some z) : CtI l (mW D cs ad) 2 yX7_recall cX7_recall 2 (some .int) [.ref (ad 0), .int x1] σ z.1 z.2 := by
  refine ct_I RX7 [(0, .ref (ad 0)), (1, .int x1)] (by decide +kernel) rfl rfl (Nat.le_of_ble_eq_true rfl) ?_
  intro P M hl0 hX
  unfold f_X7_recall at hf
  refine v_aload_n 0 0 hX dX7_recall_0 rfl rfl ?_
  refine v_iload_n 1 1 hX dX7_recall_1 rfl rfl ?_
  obtain ⟨v1, hc, hf⟩ := opt_b hf
  refine v_callVi (rest := []) (As := [.int x1]) (C := RX7) (T := TX7) (N := 22) (ci := 7) 0 hX dX7_recall_2 (c_X7_isCopy σ x1 hc) rfl rfl (lt_b rfl) rfl rfl rfl mw_1035 mw_42 mw_64 mw_1033 mw_1036 gAll ds_X7_isCopy rfl ⟨Nat.le_of_ble_eq_true rfl, Nat.le_of_ble_eq_true rfl⟩ (Nat.le_of_ble_eq_true rfl) ?_
  refine v_if_ne 11 hX dX7_recall_5 (by decide) (fun c => ?_) (fun c => ?_)
  · have hf := opt_f c hf
    refine v_aload_n 0 0 hX dX7_recall_11 rfl rfl ?_
    refine v_get (C := RX7) (T := TX7) (N := 22) (ci := 7) (v := .ref (ad 5)) 0 8 hX dX7_recall_12 mw_844 rfl inlX7 rfl (lt_b rfl) (lt_b rfl) rfl rfl ?_
    refine v_iload_n 1 1 hX dX7_recall_15 rfl rfl ?_
    obtain ⟨v2, hc, hf⟩ := opt_b hf
    refine v_callSi (rest := []) (As := [.ref (ad 5), .int x1]) hX dX7_recall_16 (c_X7_mayRecall_n σ x1 hc) rfl rfl mw_1038 mw_64 mw_1037 mw_1039 gAll ds_X7_mayRecall rfl ⟨Nat.le_of_ble_eq_true rfl, Nat.le_of_ble_eq_true rfl⟩ (Nat.le_of_ble_eq_true rfl) ?_
    refine v_if_ne 25 hX dX7_recall_19 (by decide) (fun c => ?_) (fun c => ?_)
    · have hf := opt_f c hf
      refine v_aload_n 0 0 hX dX7_recall_25 rfl rfl ?_
      obtain ⟨v3, hc, hf⟩ := opt_b hf
      refine v_callVv (rest := []) (As := []) (C := RX7) (T := TX7) (N := 22) (ci := 7) 0 hX dX7_recall_26 (c_X7_remember σ fuel hc) rfl rfl (lt_b rfl) rfl rfl rfl mw_1027 mw_41 mw_64 mw_1025 mw_1028 gAll ds_X7_remember rfl ⟨Nat.le_of_ble_eq_true rfl, Nat.le_of_ble_eq_true rfl⟩ (Nat.le_of_ble_eq_true rfl) ?_
      refine v_aload_n 0 0 hX dX7_recall_29 rfl rfl ?_
      refine v_get (C := RX7) (T := TX7) (N := 22) (ci := 7) (v := .ref (ad 5)) 0 8 hX dX7_recall_30 mw_844 rfl inlX7 rfl (lt_b rfl) (lt_b rfl) rfl rfl ?_
      refine v_bipush 55 hX dX7_recall_33 (by decide) ?_
      refine v_iload_n 1 1 hX dX7_recall_35 rfl rfl ?_
      refine v_iadd hX dX7_recall_36 ?_
      refine v_iconst 1 hX dX7_recall_37 (by decide) ?_
      obtain ⟨hi4, hf⟩ := gd_some hf
      refine v_ast 5 hX dX7_recall_38 (lt_b rfl) (fun _ => rfl) hi4 ?_
      refine v_aload_n 0 0 hX dX7_recall_39 rfl rfl ?_
      refine v_get (C := RX7) (T := TX7) (N := 22) (ci := 7) (v := .ref (ad 5)) 0 8 hX dX7_recall_40 mw_844 rfl inlX7 rfl (lt_b rfl) (lt_b rfl) rfl rfl ?_
      obtain ⟨v5, hc, hf⟩ := opt_b hf
      refine v_callSi (rest := []) (As := [.ref (ad 5)]) hX dX7_recall_43 (c_X7_black_n fuel (mst v3 5 ((55 + x1).toNatClampNeg) 1) hc) rfl rfl mw_1044 mw_64 mw_1043 mw_1045 gAll ds_X7_black rfl ⟨Nat.le_of_ble_eq_true rfl, Nat.le_of_ble_eq_true rfl⟩ (Nat.le_of_ble_eq_true rfl) ?_
      refine v_aload_n 0 0 hX dX7_recall_46 rfl rfl ?_
      refine v_get (C := RX7) (T := TX7) (N := 22) (ci := 7) (v := .ref (ad 5)) 0 8 hX dX7_recall_47 mw_844 rfl inlX7 rfl (lt_b rfl) (lt_b rfl) rfl rfl ?_
      refine v_bipush 15 hX dX7_recall_50 (by decide) ?_
      refine v_iload_n 1 1 hX dX7_recall_52 rfl rfl ?_
      refine v_iadd hX dX7_recall_53 ?_
      obtain ⟨hi6, hf⟩ := gd_some hf
      obtain ⟨s7, hs, hf⟩ := opt_b hf
      refine v_mem (Option.some.inj hs) ?_
      refine v_ald (v := s7 5 ((15 + x1).toNatClampNeg)) 5 hX dX7_recall_54 (lt_b rfl) ((fun _ => rfl) _) hi6 rfl ?_
      refine v_ishr hX dX7_recall_55 ?_
      refine v_iconst 1 hX dX7_recall_56 (by decide) ?_
      refine v_iand hX dX7_recall_57 ?_
      obtain rfl := Option.some.inj hf
      exact v_iret (r := (v5 >>> ((s7 5 ((15 + x1).toNatClampNeg)) &&& 31)) &&& 1) hX dX7_recall_58 rfl
    · have hf := opt_t c hf
      refine v_ldc (-1000002) hX dX7_recall_22 mw_1014 ?_
      obtain rfl := Option.some.inj hf
      exact v_iret (r := (-1000002)) hX dX7_recall_24 rfl
  · have hf := opt_t c hf
    refine v_ldc (-1000001) hX dX7_recall_8 mw_916 ?_
    obtain rfl := Option.some.inj hf
    exact v_iret (r := (-1000001)) hX dX7_recall_10 rfl
set_option maxHeartbeats 4000000 in
set_option maxRecDepth 100000 in
theorem s_X7_days_44 {P : PT} {M : MT} {D : va_G} {cs : ClassId × ClassId × ClassId} {ad : Nat → Nat} (hX : VOk P M (mW D cs ad) 3 cX7_days RX7 (some .int) 2) (fuel : Nat)   (z : Int32 × Mem)  : ∀ (n : Nat) (σ : Mem) (x1 : Int32) (x2 : Int32), f_X7_days_44 fuel n σ x1 x2 = some z → V P M (mW D cs ad) 3 (QI P M (mW D cs ad) z.1 z.2) 44 [(0, .ref (ad 0)), (1, .int x1), (2, .int x2)] [] σ := by
  intro n
  induction n with
  | zero =>
    intro σ x1 x2 hf
    cases hf
  | succ n hk44 =>
    intro σ x1 x2 hf
    rw [f_X7_days_44] at hf
    refine v_iload_n 2 2 hX dX7_days_44 rfl rfl ?_
    refine v_iload_n 1 1 hX dX7_days_45 rfl rfl ?_
    refine v_icmp_ge 66 hX dX7_days_46 (by decide) (fun c => ?_) (fun c => ?_)
    · have hf := opt_t c hf
      refine v_aload_n 0 0 hX dX7_days_66 rfl rfl ?_
      refine v_get (C := RX7) (T := TX7) (N := 22) (ci := 7) (v := .ref (ad 5)) 0 8 hX dX7_days_67 mw_844 rfl inlX7 rfl (lt_b rfl) (lt_b rfl) rfl rfl ?_
      obtain ⟨v2, hc, hf⟩ := opt_b hf
      refine v_callSi (rest := []) (As := [.ref (ad 5)]) hX dX7_days_70 (c_X7_stand_n fuel σ hc) rfl rfl mw_1055 mw_64 mw_1054 mw_1056 gAll ds_X7_stand rfl ⟨Nat.le_of_ble_eq_true rfl, Nat.le_of_ble_eq_true rfl⟩ (Nat.le_of_ble_eq_true rfl) ?_
      obtain rfl := Option.some.inj hf
      exact v_iret (r := v2) hX dX7_days_73 rfl
    · have hf := opt_f c hf
      refine v_aload_n 0 0 hX dX7_days_49 rfl rfl ?_
      obtain ⟨v3, hc, hf⟩ := opt_b hf
      refine v_callVv (rest := []) (As := []) (C := RX7) (T := TX7) (N := 22) (ci := 7) 0 hX dX7_days_50 (c_X7_remember σ fuel hc) rfl rfl (lt_b rfl) rfl rfl rfl mw_1027 mw_41 mw_64 mw_1025 mw_1028 gAll ds_X7_remember rfl ⟨Nat.le_of_ble_eq_true rfl, Nat.le_of_ble_eq_true rfl⟩ (Nat.le_of_ble_eq_true rfl) ?_
      refine v_aload_n 0 0 hX dX7_days_53 rfl rfl ?_
      refine v_get (C := RX7) (T := TX7) (N := 22) (ci := 7) (v := .ref (ad 5)) 0 8 hX dX7_days_54 mw_844 rfl inlX7 rfl (lt_b rfl) (lt_b rfl) rfl rfl ?_
      obtain ⟨v4, hc, hf⟩ := opt_b hf
      refine v_callSv (rest := []) (As := [.ref (ad 5)]) hX dX7_days_57 (c_X7_dayGoes_n v3 fuel hc) rfl rfl mw_1052 mw_64 mw_1051 mw_1053 gAll ds_X7_dayGoes rfl ⟨Nat.le_of_ble_eq_true rfl, Nat.le_of_ble_eq_true rfl⟩ (Nat.le_of_ble_eq_true rfl) ?_
      refine v_iinc 2 (x2 + 1) [(2, .int (x2 + 1)), (0, .ref (ad 0)), (1, .int x1)] hX dX7_days_60 rfl rfl (lt_b rfl) rfl ?_
      refine v_goto 44 hX dX7_days_63 (by decide) ?_
      exact v_sub [1, 2, 0] rfl (hk44 v4 x1 (x2 + 1) hf)
set_option maxHeartbeats 4000000 in
set_option maxRecDepth 100000 in
theorem c_X7_days {l : Launch} {D : va_G} {cs : ClassId × ClassId × ClassId} {ad : Nat → Nat} (σ : Mem) (fuel : Nat)  (x1 : Int32) {z : Int32 × Mem} (hf : f_X7_days fuel σ x1 = some z) : CtI l (mW D cs ad) 2 yX7_days cX7_days 3 (some .int) [.ref (ad 0), .int x1] σ z.1 z.2 := by
  refine ct_I RX7 [(0, .ref (ad 0)), (1, .int x1)] (by decide +kernel) rfl rfl (Nat.le_of_ble_eq_true rfl) ?_
  intro P M hl0 hX
  unfold f_X7_days at hf
  refine v_aload_n 0 0 hX dX7_days_0 rfl rfl ?_
  refine v_get (C := RX7) (T := TX7) (N := 22) (ci := 7) (v := .int (σ 0 7)) 0 7 hX dX7_days_1 mw_843 rfl inlX7 rfl (lt_b rfl) (lt_b rfl) rfl rfl ?_
  refine v_if_ne 10 hX dX7_days_4 (by decide) (fun c => ?_) (fun c => ?_)
  · have hf := opt_f c hf
    refine v_iload_n 1 1 hX dX7_days_10 rfl rfl ?_
    refine v_i2l hX dX7_days_11 ?_
    refine v_lconst 1 hX dX7_days_12 (by decide) ?_
    refine v_ldc2 24 hX dX7_days_13 mw_1050 ?_
    obtain ⟨v1, hc, hf⟩ := opt_b hf
    refine v_callSi (rest := []) (As := [.long x1.toInt64, .long 1, .long 24]) hX dX7_days_16 (c_X7_in σ x1.toInt64 1 24 hc) rfl rfl mw_913 mw_64 mw_912 mw_914 gAll ds_X7_in rfl ⟨Nat.le_of_ble_eq_true rfl, Nat.le_of_ble_eq_true rfl⟩ (Nat.le_of_ble_eq_true rfl) ?_
    refine v_if_ne 25 hX dX7_days_19 (by decide) (fun c => ?_) (fun c => ?_)
    · have hf := opt_f c hf
      refine v_aload_n 0 0 hX dX7_days_25 rfl rfl ?_
      refine v_get (C := RX7) (T := TX7) (N := 22) (ci := 7) (v := .ref (ad 5)) 0 8 hX dX7_days_26 mw_844 rfl inlX7 rfl (lt_b rfl) (lt_b rfl) rfl rfl ?_
      refine v_iconst 5 hX dX7_days_29 (by decide) ?_
      refine v_aldc (v := σ 5 5) 5 5 hX dX7_days_30 (lt_b rfl) ((fun _ => rfl) _) ib_5_85 tn_5 rfl ?_
      refine v_iload_n 1 1 hX dX7_days_31 rfl rfl ?_
      refine v_iadd hX dX7_days_32 ?_
      refine v_sipush 999 hX dX7_days_33 (by decide) ?_
      refine v_icmp_le 42 hX dX7_days_36 (by decide) (fun c => ?_) (fun c => ?_)
      · have hf := opt_t c hf
        refine v_iconst 0 hX dX7_days_42 (by decide) ?_
        refine v_istore_n 2 [(2, .int 0), (0, .ref (ad 0)), (1, .int x1)] hX dX7_days_43 rfl (lt_b rfl) rfl ?_
        exact v_sub [1, 2, 0] rfl (s_X7_days_44 hX fuel z  fuel σ x1 0 hf)
      · have hf := opt_f c hf
        refine v_ldc (-1000003) hX dX7_days_39 mw_943 ?_
        obtain rfl := Option.some.inj hf
        exact v_iret (r := (-1000003)) hX dX7_days_41 rfl
    · have hf := opt_t c hf
      refine v_ldc (-1000001) hX dX7_days_22 mw_916 ?_
      obtain rfl := Option.some.inj hf
      exact v_iret (r := (-1000001)) hX dX7_days_24 rfl
  · have hf := opt_t c hf
    refine v_ldc (-1000002) hX dX7_days_7 mw_1014 ?_
    obtain rfl := Option.some.inj hf
    exact v_iret (r := (-1000002)) hX dX7_days_9 rfl
set_option maxHeartbeats 4000000 in
set_option maxRecDepth 100000 in
theorem c_X7_copyOf {l : Launch} {D : va_G} {cs : ClassId × ClassId × ClassId} {ad : Nat → Nat} (σ : Mem)  (x1 : Int32) (x2 : Int32) {z : Int32} (hf : f_X7_copyOf σ x1 x2 = some z) : CtI l (mW D cs ad) 2 yX7_copyOf cX7_copyOf 3 (some .int) [.ref (ad 0), .int x1, .int x2] σ z σ := by
  refine ct_I RX7 [(0, .ref (ad 0)), (1, .int x1), (2, .int x2)] (by decide +kernel) rfl rfl (Nat.le_of_ble_eq_true rfl) ?_
  intro P M hl0 hX
  unfold f_X7_copyOf at hf
  refine v_aload_n 0 0 hX dX7_copyOf_0 rfl rfl ?_
  refine v_iload_n 1 1 hX dX7_copyOf_1 rfl rfl ?_
  obtain ⟨v1, hc, hf⟩ := opt_b hf
  refine v_callVi (rest := []) (As := [.int x1]) (C := RX7) (T := TX7) (N := 22) (ci := 7) 0 hX dX7_copyOf_2 (c_X7_isCopy σ x1 hc) rfl rfl (lt_b rfl) rfl rfl rfl mw_1035 mw_42 mw_64 mw_1033 mw_1036 gAll ds_X7_isCopy rfl ⟨Nat.le_of_ble_eq_true rfl, Nat.le_of_ble_eq_true rfl⟩ (Nat.le_of_ble_eq_true rfl) ?_
  refine v_if_eq 20 hX dX7_copyOf_5 (by decide) (fun c => ?_) (fun c => ?_)
  · have hf := opt_t c hf
    refine v_ldc (-1000001) hX dX7_copyOf_20 mw_916 ?_
    obtain rfl := Option.some.inj hf
    exact v_iret (r := (-1000001)) hX dX7_copyOf_22 rfl
  · have hf := opt_f c hf
    refine v_iload_n 2 2 hX dX7_copyOf_8 rfl rfl ?_
    refine v_i2l hX dX7_copyOf_9 ?_
    refine v_lconst 0 hX dX7_copyOf_10 (by decide) ?_
    refine v_ldc2 5 hX dX7_copyOf_11 mw_1019 ?_
    obtain ⟨v2, hc, hf⟩ := opt_b hf
    refine v_callSi (rest := []) (As := [.long x2.toInt64, .long 0, .long 5]) hX dX7_copyOf_14 (c_X7_in σ x2.toInt64 0 5 hc) rfl rfl mw_913 mw_64 mw_912 mw_914 gAll ds_X7_in rfl ⟨Nat.le_of_ble_eq_true rfl, Nat.le_of_ble_eq_true rfl⟩ (Nat.le_of_ble_eq_true rfl) ?_
    refine v_if_ne 23 hX dX7_copyOf_17 (by decide) (fun c => ?_) (fun c => ?_)
    · have hf := opt_f c hf
      refine v_iload_n 2 2 hX dX7_copyOf_23 rfl rfl ?_
      refine v_iconst 5 hX dX7_copyOf_24 (by decide) ?_
      refine v_icmp_ge 45 hX dX7_copyOf_25 (by decide) (fun c => ?_) (fun c => ?_)
      · have hf := opt_t c hf
        refine v_aload_n 0 0 hX dX7_copyOf_45 rfl rfl ?_
        refine v_get (C := RX7) (T := TX7) (N := 22) (ci := 7) (v := .ref (ad 5)) 0 8 hX dX7_copyOf_46 mw_844 rfl inlX7 rfl (lt_b rfl) (lt_b rfl) rfl rfl ?_
        refine v_iload_n 1 1 hX dX7_copyOf_49 rfl rfl ?_
        obtain ⟨v3, hc, hf⟩ := opt_b hf
        refine v_callSi (rest := []) (As := [.ref (ad 5), .int x1]) hX dX7_copyOf_50 (c_X7_mayRecall_n σ x1 hc) rfl rfl mw_1038 mw_64 mw_1037 mw_1039 gAll ds_X7_mayRecall rfl ⟨Nat.le_of_ble_eq_true rfl, Nat.le_of_ble_eq_true rfl⟩ (Nat.le_of_ble_eq_true rfl) ?_
        refine v_if_eq 60 hX dX7_copyOf_53 (by decide) (fun c => ?_) (fun c => ?_)
        · have hf := opt_t c hf
          refine v_iconst 0 hX dX7_copyOf_60 (by decide) ?_
          obtain rfl := Option.some.inj hf
          exact v_iret (r := 0) hX dX7_copyOf_61 rfl
        · have hf := opt_f c hf
          refine v_iconst 1 hX dX7_copyOf_56 (by decide) ?_
          refine v_goto 61 hX dX7_copyOf_57 (by decide) ?_
          obtain rfl := Option.some.inj hf
          exact v_iret (r := 1) hX dX7_copyOf_61 rfl
      · have hf := opt_f c hf
        refine v_aload_n 0 0 hX dX7_copyOf_28 rfl rfl ?_
        refine v_get (C := RX7) (T := TX7) (N := 22) (ci := 7) (v := .ref (ad 5)) 0 8 hX dX7_copyOf_29 mw_844 rfl inlX7 rfl (lt_b rfl) (lt_b rfl) rfl rfl ?_
        refine v_bipush 15 hX dX7_copyOf_32 (by decide) ?_
        refine v_bipush 10 hX dX7_copyOf_34 (by decide) ?_
        refine v_iload_n 2 2 hX dX7_copyOf_36 rfl rfl ?_
        refine v_imul hX dX7_copyOf_37 ?_
        refine v_iadd hX dX7_copyOf_38 ?_
        refine v_iload_n 1 1 hX dX7_copyOf_39 rfl rfl ?_
        refine v_iadd hX dX7_copyOf_40 ?_
        obtain ⟨hi4, hf⟩ := gd_some hf
        refine v_ald (v := σ 5 (((15 + (10 * x2)) + x1).toNatClampNeg)) 5 hX dX7_copyOf_41 (lt_b rfl) ((fun _ => rfl) _) hi4 rfl ?_
        refine v_goto 61 hX dX7_copyOf_42 (by decide) ?_
        obtain rfl := Option.some.inj hf
        exact v_iret (r := σ 5 (((15 + (10 * x2)) + x1).toNatClampNeg)) hX dX7_copyOf_61 rfl
    · have hf := opt_t c hf
      refine v_ldc (-1000001) hX dX7_copyOf_20 mw_916 ?_
      obtain rfl := Option.some.inj hf
      exact v_iret (r := (-1000001)) hX dX7_copyOf_22 rfl
set_option maxHeartbeats 4000000 in
set_option maxRecDepth 100000 in
theorem c_X7_hand {l : Launch} {D : va_G} {cs : ClassId × ClassId × ClassId} {ad : Nat → Nat} (fuel : Nat) (σ : Mem)  (x1 : Int32) (x2 : Int32) {z : Int32} (hf : f_X7_hand fuel σ x1 x2 = some z) : CtI l (mW D cs ad) 2 yX7_hand cX7_hand 3 (some .int) [.ref (ad 0), .int x1, .int x2] σ z σ := by
  refine ct_I RX7 [(0, .ref (ad 0)), (1, .int x1), (2, .int x2)] (by decide +kernel) rfl rfl (Nat.le_of_ble_eq_true rfl) ?_
  intro P M hl0 hX
  unfold f_X7_hand at hf
  refine v_aload_n 0 0 hX dX7_hand_0 rfl rfl ?_
  refine v_iload_n 1 1 hX dX7_hand_1 rfl rfl ?_
  obtain ⟨v1, hc, hf⟩ := opt_b hf
  refine v_callVi (rest := []) (As := [.int x1]) (C := RX7) (T := TX7) (N := 22) (ci := 7) 0 hX dX7_hand_2 (c_X7_isHand σ x1 hc) rfl rfl (lt_b rfl) rfl rfl rfl mw_1022 mw_40 mw_64 mw_1020 mw_1023 gAll ds_X7_isHand rfl ⟨Nat.le_of_ble_eq_true rfl, Nat.le_of_ble_eq_true rfl⟩ (Nat.le_of_ble_eq_true rfl) ?_
  refine v_if_eq 20 hX dX7_hand_5 (by decide) (fun c => ?_) (fun c => ?_)
  · have hf := opt_t c hf
    refine v_ldc (-1000001) hX dX7_hand_20 mw_916 ?_
    obtain rfl := Option.some.inj hf
    exact v_iret (r := (-1000001)) hX dX7_hand_22 rfl
  · have hf := opt_f c hf
    refine v_iload_n 2 2 hX dX7_hand_8 rfl rfl ?_
    refine v_i2l hX dX7_hand_9 ?_
    refine v_lconst 0 hX dX7_hand_10 (by decide) ?_
    refine v_ldc2 2 hX dX7_hand_11 mw_915 ?_
    obtain ⟨v2, hc, hf⟩ := opt_b hf
    refine v_callSi (rest := []) (As := [.long x2.toInt64, .long 0, .long 2]) hX dX7_hand_14 (c_X7_in σ x2.toInt64 0 2 hc) rfl rfl mw_913 mw_64 mw_912 mw_914 gAll ds_X7_in rfl ⟨Nat.le_of_ble_eq_true rfl, Nat.le_of_ble_eq_true rfl⟩ (Nat.le_of_ble_eq_true rfl) ?_
    refine v_if_ne 23 hX dX7_hand_17 (by decide) (fun c => ?_) (fun c => ?_)
    · have hf := opt_f c hf
      refine v_iload_n 2 2 hX dX7_hand_23 rfl rfl ?_
      refine v_if_ne 39 hX dX7_hand_24 (by decide) (fun c => ?_) (fun c => ?_)
      · have hf := opt_f c hf
        refine v_iload_n 2 2 hX dX7_hand_39 rfl rfl ?_
        refine v_iconst 1 hX dX7_hand_40 (by decide) ?_
        refine v_icmp_ne 55 hX dX7_hand_41 (by decide) (fun c => ?_) (fun c => ?_)
        · have hf := opt_f c hf
          refine v_aload_n 0 0 hX dX7_hand_55 rfl rfl ?_
          refine v_bipush 25 hX dX7_hand_56 (by decide) ?_
          refine v_iload_n 1 1 hX dX7_hand_58 rfl rfl ?_
          obtain ⟨v3, hc, hf⟩ := opt_b hf
          refine v_callVi (rest := []) (As := [.int 25, .int x1]) (C := RX7) (T := TX7) (N := 22) (ci := 7) 0 hX dX7_hand_59 (c_X7_copiesOf fuel σ 25 x1 hc) rfl rfl (lt_b rfl) rfl rfl rfl mw_1070 mw_43 mw_64 mw_1068 mw_1071 gAll ds_X7_copiesOf rfl ⟨Nat.le_of_ble_eq_true rfl, Nat.le_of_ble_eq_true rfl⟩ (Nat.le_of_ble_eq_true rfl) ?_
          obtain rfl := Option.some.inj hf
          exact v_iret (r := v3) hX dX7_hand_62 rfl
        · have hf := opt_t c hf
          refine v_aload_n 0 0 hX dX7_hand_44 rfl rfl ?_
          refine v_get (C := RX7) (T := TX7) (N := 22) (ci := 7) (v := .ref (ad 5)) 0 8 hX dX7_hand_45 mw_844 rfl inlX7 rfl (lt_b rfl) (lt_b rfl) rfl rfl ?_
          refine v_iload_n 1 1 hX dX7_hand_48 rfl rfl ?_
          obtain ⟨v4, hc, hf⟩ := opt_b hf
          refine v_callSi (rest := []) (As := [.ref (ad 5), .int x1]) hX dX7_hand_49 (c_X7_limit_n σ x1 hc) rfl rfl mw_1041 mw_64 mw_1040 mw_1042 gAll ds_X7_limit rfl ⟨Nat.le_of_ble_eq_true rfl, Nat.le_of_ble_eq_true rfl⟩ (Nat.le_of_ble_eq_true rfl) ?_
          refine v_goto 62 hX dX7_hand_52 (by decide) ?_
          obtain rfl := Option.some.inj hf
          exact v_iret (r := v4) hX dX7_hand_62 rfl
      · have hf := opt_t c hf
        refine v_aload_n 0 0 hX dX7_hand_27 rfl rfl ?_
        refine v_get (C := RX7) (T := TX7) (N := 22) (ci := 7) (v := .ref (ad 5)) 0 8 hX dX7_hand_28 mw_844 rfl inlX7 rfl (lt_b rfl) (lt_b rfl) rfl rfl ?_
        refine v_bipush 11 hX dX7_hand_31 (by decide) ?_
        refine v_iload_n 1 1 hX dX7_hand_33 rfl rfl ?_
        refine v_iadd hX dX7_hand_34 ?_
        obtain ⟨hi5, hf⟩ := gd_some hf
        refine v_ald (v := σ 5 ((11 + x1).toNatClampNeg)) 5 hX dX7_hand_35 (lt_b rfl) ((fun _ => rfl) _) hi5 rfl ?_
        refine v_goto 62 hX dX7_hand_36 (by decide) ?_
        obtain rfl := Option.some.inj hf
        exact v_iret (r := σ 5 ((11 + x1).toNatClampNeg)) hX dX7_hand_62 rfl
    · have hf := opt_t c hf
      refine v_ldc (-1000001) hX dX7_hand_20 mw_916 ?_
      obtain rfl := Option.some.inj hf
      exact v_iret (r := (-1000001)) hX dX7_hand_22 rfl
