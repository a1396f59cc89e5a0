set_option maxHeartbeats 4000000 in
set_option maxRecDepth 100000 in
theorem s_X6_days_47 {P : PT} {M : MT} {D : va_G} {cs : ClassId × ClassId × ClassId} {ad : Nat → Nat} {ts : Nat × Nat × Nat} (hX : VOk P M (xW D cs ad ts) 3 cX6_days RX6 (some .int) 3) (fuel : Nat)   (z : Int32 × Mem)  : ∀ (n : Nat) (σ : Mem) (x1 : Int32) (x2 : Int32), f_X6_days_47 fuel n σ x1 x2 = some z → V P M (xW D cs ad ts) 3 (QI P M (xW D cs ad ts) z.1 z.2) 47 [(0, .ref (ad 0)), (1, .int x1), (2, .int x2)] [] σ := by
  intro n
  induction n with
  | zero =>
    intro σ x1 x2 hf
    cases hf
  | succ n hk47 =>
    intro σ x1 x2 hf
    rw [f_X6_days_47] at hf
    refine v_iload_n 2 2 hX dX6_days_47 rfl rfl ?_
    refine v_iload_n 1 1 hX dX6_days_48 rfl rfl ?_
    refine v_icmp_ge 80 hX dX6_days_49 (by decide) (fun c => ?_) (fun c => ?_)
    · have hf := opt_t c hf
      refine v_aload_n 0 0 hX dX6_days_80 rfl rfl ?_
      refine v_get (C := RX6) (T := TX6) (N := 10) (ci := 6) (v := .ref (ad 13)) 0 1 hX dX6_days_81 mw_283 rfl inlX6 rfl (lt_b rfl) (lt_b rfl) rfl rfl ?_
      refine v_aload_n 0 0 hX dX6_days_84 rfl rfl ?_
      refine v_get (C := RX6) (T := TX6) (N := 10) (ci := 6) (v := .ref (ad 13)) 0 1 hX dX6_days_85 mw_283 rfl inlX6 rfl (lt_b rfl) (lt_b rfl) rfl rfl ?_
      refine v_get (C := RX1) (T := TX1) (N := 19) (ci := 1) (v := .int (σ 13 5)) 13 5 hX dX6_days_88 mw_124 rfl inlX1 rfl (lt_b rfl) (lt_b rfl) rfl rfl ?_
      obtain ⟨v1, hc, hf⟩ := opt_b hf
      refine v_callVi (rest := []) (As := [.int (σ 13 5)]) (C := RX1) (T := TX1) (N := 19) (ci := 1) 13 hX dX6_days_91 (c_X1_standingBy fuel σ (σ 13 5) hc) rfl rfl (lt_b rfl) rfl rfl rfl mw_541 mw_542 mw_59 mw_540 mw_543 gAll ds_X1_standingBy rfl ⟨Nat.le_of_ble_eq_true rfl, Nat.le_of_ble_eq_true rfl⟩ (Nat.le_of_ble_eq_true rfl) ?_
      obtain rfl := Option.some.inj hf
      exact v_iret (r := v1) hX dX6_days_94 rfl
    · have hf := opt_f c hf
      refine v_aload_n 0 0 hX dX6_days_52 rfl rfl ?_
      refine v_get (C := RX6) (T := TX6) (N := 10) (ci := 6) (v := .ref (ad 59)) 0 5 hX dX6_days_53 mw_287 rfl inlX6 rfl (lt_b rfl) (lt_b rfl) rfl rfl ?_
      refine v_iconst 2 hX dX6_days_56 (by decide) ?_
      refine v_aload_n 0 0 hX dX6_days_57 rfl rfl ?_
      refine v_get (C := RX6) (T := TX6) (N := 10) (ci := 6) (v := .ref (ad 13)) 0 1 hX dX6_days_58 mw_283 rfl inlX6 rfl (lt_b rfl) (lt_b rfl) rfl rfl ?_
      refine v_get (C := RX1) (T := TX1) (N := 19) (ci := 1) (v := .int (σ 13 5)) 13 5 hX dX6_days_61 mw_124 rfl inlX1 rfl (lt_b rfl) (lt_b rfl) rfl rfl ?_
      obtain ⟨v2, hc, hf⟩ := opt_b hf
      refine v_callVv (rest := []) (As := [.int 2, .int (σ 13 5)]) (C := RX0) (T := TX0) (N := 3) (ci := 0) 59 hX dX6_days_64 (c_X0_keep σ 2 (σ 13 5) hc) rfl rfl (lt_b rfl) rfl rfl rfl mw_487 mw_488 mw_61 mw_486 mw_489 gAll ds_X0_keep rfl ⟨Nat.le_of_ble_eq_true rfl, Nat.le_of_ble_eq_true rfl⟩ (Nat.le_of_ble_eq_true rfl) ?_
      refine v_aload_n 0 0 hX dX6_days_67 rfl rfl ?_
      refine v_get (C := RX6) (T := TX6) (N := 10) (ci := 6) (v := .ref (ad 13)) 0 1 hX dX6_days_68 mw_283 rfl inlX6 rfl (lt_b rfl) (lt_b rfl) rfl rfl ?_
      obtain ⟨v3, hc, hf⟩ := opt_b hf
      refine v_callVv (rest := []) (As := []) (C := RX1) (T := TX1) (N := 19) (ci := 1) 13 hX dX6_days_71 (c_X1_passDay v2 fuel hc) rfl rfl (lt_b rfl) rfl rfl rfl mw_529 mw_530 mw_59 mw_528 mw_531 gAll ds_X1_passDay rfl ⟨Nat.le_of_ble_eq_true rfl, Nat.le_of_ble_eq_true rfl⟩ (Nat.le_of_ble_eq_true rfl) ?_
      refine v_iinc 2 (x2 + 1) [(2, .int (x2 + 1)), (0, .ref (ad 0)), (1, .int x1)] hX dX6_days_74 rfl rfl (lt_b rfl) rfl ?_
      refine v_goto 47 hX dX6_days_77 (by decide) ?_
      exact v_sub [1, 2, 0] rfl (hk47 v3 x1 (x2 + 1) hf)
set_option maxHeartbeats 4000000 in
set_option maxRecDepth 100000 in
theorem c_X6_days {l : Launch} {D : va_G} {cs : ClassId × ClassId × ClassId} {ad : Nat → Nat} {ts : Nat × Nat × Nat} (σ : Mem) (fuel : Nat)  (x1 : Int32) {z : Int32 × Mem} (hf : f_X6_days fuel σ x1 = some z) : CtI l (xW D cs ad ts) 3 yX6_days cX6_days 3 (some .int) [.ref (ad 0), .int x1] σ z.1 z.2 := by
  refine ct_I RX6 [(0, .ref (ad 0)), (1, .int x1)] (by decide +kernel) rfl rfl (Nat.le_of_ble_eq_true rfl) ?_
  intro P M hl0 hX
  unfold f_X6_days at hf
  refine v_aload_n 0 0 hX dX6_days_0 rfl rfl ?_
  refine v_get (C := RX6) (T := TX6) (N := 10) (ci := 6) (v := .ref (ad 13)) 0 1 hX dX6_days_1 mw_283 rfl inlX6 rfl (lt_b rfl) (lt_b rfl) rfl rfl ?_
  refine v_get (C := RX1) (T := TX1) (N := 19) (ci := 1) (v := .int (σ 13 0)) 13 0 hX dX6_days_4 mw_106 rfl inlX1 rfl (lt_b rfl) (lt_b rfl) rfl rfl ?_
  refine v_if_ne 13 hX dX6_days_7 (by decide) (fun c => ?_) (fun c => ?_)
  · have hf := opt_f c hf
    refine v_iload_n 1 1 hX dX6_days_13 rfl rfl ?_
    refine v_iconst 1 hX dX6_days_14 (by decide) ?_
    refine v_icmp_lt 24 hX dX6_days_15 (by decide) (fun c => ?_) (fun c => ?_)
    · have hf := opt_t c hf
      refine v_ldc (-1000001) hX dX6_days_24 mw_323 ?_
      obtain rfl := Option.some.inj hf
      exact v_iret (r := (-1000001)) hX dX6_days_26 rfl
    · have hf := opt_f c hf
      refine v_iload_n 1 1 hX dX6_days_18 rfl rfl ?_
      refine v_bipush 24 hX dX6_days_19 (by decide) ?_
      refine v_icmp_le 27 hX dX6_days_21 (by decide) (fun c => ?_) (fun c => ?_)
      · have hf := opt_t c hf
        refine v_aload_n 0 0 hX dX6_days_27 rfl rfl ?_
        refine v_get (C := RX6) (T := TX6) (N := 10) (ci := 6) (v := .ref (ad 13)) 0 1 hX dX6_days_28 mw_283 rfl inlX6 rfl (lt_b rfl) (lt_b rfl) rfl rfl ?_
        refine v_get (C := RX1) (T := TX1) (N := 19) (ci := 1) (v := .int (σ 13 3)) 13 3 hX dX6_days_31 mw_117 rfl inlX1 rfl (lt_b rfl) (lt_b rfl) rfl rfl ?_
        refine v_iload_n 1 1 hX dX6_days_34 rfl rfl ?_
        refine v_iadd hX dX6_days_35 ?_
        refine v_sipush 999 hX dX6_days_36 (by decide) ?_
        refine v_icmp_le 45 hX dX6_days_39 (by decide) (fun c => ?_) (fun c => ?_)
        · have hf := opt_t c hf
          refine v_iconst 0 hX dX6_days_45 (by decide) ?_
          refine v_istore_n 2 [(2, .int 0), (0, .ref (ad 0)), (1, .int x1)] hX dX6_days_46 rfl (lt_b rfl) rfl ?_
          exact v_sub [1, 2, 0] rfl (s_X6_days_47 hX fuel z  fuel σ x1 0 hf)
        · have hf := opt_f c hf
          refine v_ldc (-1000003) hX dX6_days_42 mw_371 ?_
          obtain rfl := Option.some.inj hf
          exact v_iret (r := (-1000003)) hX dX6_days_44 rfl
      · have hf := opt_f c hf
        refine v_ldc (-1000001) hX dX6_days_24 mw_323 ?_
        obtain rfl := Option.some.inj hf
        exact v_iret (r := (-1000001)) hX dX6_days_26 rfl
  · have hf := opt_t c hf
    refine v_ldc (-1000002) hX dX6_days_10 mw_473 ?_
    obtain rfl := Option.some.inj hf
    exact v_iret (r := (-1000002)) hX dX6_days_12 rfl
set_option maxHeartbeats 4000000 in
set_option maxRecDepth 100000 in
theorem c_X6_deed {l : Launch} {D : va_G} {cs : ClassId × ClassId × ClassId} {ad : Nat → Nat} {ts : Nat × Nat × Nat} (fuel : Nat) (σ : Mem)  (x1 : Int32) (x2 : Int32) {z : Int32} (hf : f_X6_deed fuel σ x1 x2 = some z) : CtI l (xW D cs ad ts) 3 yX6_deed cX6_deed 3 (some .int) [.ref (ad 0), .int x1, .int x2] σ z σ := by
  refine ct_I RX6 [(0, .ref (ad 0)), (1, .int x1), (2, .int x2)] (by decide +kernel) rfl rfl (Nat.le_of_ble_eq_true rfl) ?_
  intro P M hl0 hX
  unfold f_X6_deed at hf
  refine v_aload_n 0 0 hX dX6_deed_0 rfl rfl ?_
  refine v_iload_n 1 1 hX dX6_deed_1 rfl rfl ?_
  obtain ⟨v1, hc, hf⟩ := opt_b hf
  refine v_callVi (rest := []) (As := [.int x1]) (C := RX6) (T := TX6) (N := 10) (ci := 6) 0 hX dX6_deed_2 (c_X6_isDeed σ x1 hc) rfl rfl (lt_b rfl) rfl rfl rfl mw_568 mw_17 mw_57 mw_566 mw_569 gAll ds_X6_isDeed rfl ⟨Nat.le_of_ble_eq_true rfl, Nat.le_of_ble_eq_true rfl⟩ (Nat.le_of_ble_eq_true rfl) ?_
  refine v_if_ne 11 hX dX6_deed_5 (by decide) (fun c => ?_) (fun c => ?_)
  · have hf := opt_f c hf
    refine v_iload_n 2 2 hX dX6_deed_11 rfl rfl ?_
    by_cases cs2 : x2 = 0
    · have hf := opt_t cs2 hf
      refine v_tableIn 36 48 hX dX6_deed_12 (by rw [cs2]; decide) (by rw [cs2]; decide) (by rw [cs2]; decide) (by decide) ?_
      refine v_aload_n 0 0 hX dX6_deed_48 rfl rfl ?_
      refine v_get (C := RX6) (T := TX6) (N := 10) (ci := 6) (v := .ref (ad 13)) 0 1 hX dX6_deed_49 mw_283 rfl inlX6 rfl (lt_b rfl) (lt_b rfl) rfl rfl ?_
      refine v_get (C := RX1) (T := TX1) (N := 19) (ci := 1) (v := .ref (ad 20)) 13 15 hX dX6_deed_52 mw_159 rfl inlX1 rfl (lt_b rfl) (lt_b rfl) rfl rfl ?_
      refine v_iload_n 1 1 hX dX6_deed_55 rfl rfl ?_
      obtain ⟨hi3, hf⟩ := gd_some hf
      refine v_ald (v := σ 20 x1.toNatClampNeg) 20 hX dX6_deed_56 (lt_b rfl) ((fun _ => rfl) _) hi3 rfl ?_
      obtain rfl := Option.some.inj hf
      exact v_iret (r := σ 20 x1.toNatClampNeg) hX dX6_deed_57 rfl
    have hf := opt_f cs2 hf
    by_cases cs4 : x2 = 1
    · have hf := opt_t cs4 hf
      refine v_tableIn 46 58 hX dX6_deed_12 (by rw [cs4]; decide) (by rw [cs4]; decide) (by rw [cs4]; decide) (by decide) ?_
      refine v_aload_n 0 0 hX dX6_deed_58 rfl rfl ?_
      refine v_get (C := RX6) (T := TX6) (N := 10) (ci := 6) (v := .ref (ad 13)) 0 1 hX dX6_deed_59 mw_283 rfl inlX6 rfl (lt_b rfl) (lt_b rfl) rfl rfl ?_
      refine v_get (C := RX1) (T := TX1) (N := 19) (ci := 1) (v := .ref (ad 21)) 13 16 hX dX6_deed_62 mw_161 rfl inlX1 rfl (lt_b rfl) (lt_b rfl) rfl rfl ?_
      refine v_iload_n 1 1 hX dX6_deed_65 rfl rfl ?_
      obtain ⟨hi5, hf⟩ := gd_some hf
      refine v_ald (v := σ 21 x1.toNatClampNeg) 21 hX dX6_deed_66 (lt_b rfl) ((fun _ => rfl) _) hi5 rfl ?_
      obtain rfl := Option.some.inj hf
      exact v_iret (r := σ 21 x1.toNatClampNeg) hX dX6_deed_67 rfl
    have hf := opt_f cs4 hf
    by_cases cs6 : x2 = 2
    · have hf := opt_t cs6 hf
      refine v_tableIn 56 68 hX dX6_deed_12 (by rw [cs6]; decide) (by rw [cs6]; decide) (by rw [cs6]; decide) (by decide) ?_
      refine v_aload_n 0 0 hX dX6_deed_68 rfl rfl ?_
      refine v_get (C := RX6) (T := TX6) (N := 10) (ci := 6) (v := .ref (ad 13)) 0 1 hX dX6_deed_69 mw_283 rfl inlX6 rfl (lt_b rfl) (lt_b rfl) rfl rfl ?_
      refine v_get (C := RX1) (T := TX1) (N := 19) (ci := 1) (v := .ref (ad 22)) 13 17 hX dX6_deed_72 mw_163 rfl inlX1 rfl (lt_b rfl) (lt_b rfl) rfl rfl ?_
      refine v_iload_n 1 1 hX dX6_deed_75 rfl rfl ?_
      obtain ⟨hi7, hf⟩ := gd_some hf
      refine v_ald (v := σ 22 x1.toNatClampNeg) 22 hX dX6_deed_76 (lt_b rfl) ((fun _ => rfl) _) hi7 rfl ?_
      refine v_if_lt 92 hX dX6_deed_77 (by decide) (fun c => ?_) (fun c => ?_)
      · have hf := opt_t c hf
        refine v_ldc (-1000000) hX dX6_deed_92 mw_570 ?_
        obtain rfl := Option.some.inj hf
        exact v_iret (r := (-1000000)) hX dX6_deed_94 rfl
      · have hf := opt_f c hf
        refine v_aload_n 0 0 hX dX6_deed_80 rfl rfl ?_
        refine v_get (C := RX6) (T := TX6) (N := 10) (ci := 6) (v := .ref (ad 13)) 0 1 hX dX6_deed_81 mw_283 rfl inlX6 rfl (lt_b rfl) (lt_b rfl) rfl rfl ?_
        refine v_get (C := RX1) (T := TX1) (N := 19) (ci := 1) (v := .ref (ad 22)) 13 17 hX dX6_deed_84 mw_163 rfl inlX1 rfl (lt_b rfl) (lt_b rfl) rfl rfl ?_
        refine v_iload_n 1 1 hX dX6_deed_87 rfl rfl ?_
        obtain ⟨hi8, hf⟩ := gd_some hf
        refine v_ald (v := σ 22 x1.toNatClampNeg) 22 hX dX6_deed_88 (lt_b rfl) ((fun _ => rfl) _) hi8 rfl ?_
        refine v_goto 94 hX dX6_deed_89 (by decide) ?_
        obtain rfl := Option.some.inj hf
        exact v_iret (r := σ 22 x1.toNatClampNeg) hX dX6_deed_94 rfl
    have hf := opt_f cs6 hf
    by_cases cs9 : x2 = 3
    · have hf := opt_t cs9 hf
      refine v_tableIn 83 95 hX dX6_deed_12 (by rw [cs9]; decide) (by rw [cs9]; decide) (by rw [cs9]; decide) (by decide) ?_
      refine v_aload_n 0 0 hX dX6_deed_95 rfl rfl ?_
      refine v_get (C := RX6) (T := TX6) (N := 10) (ci := 6) (v := .ref (ad 13)) 0 1 hX dX6_deed_96 mw_283 rfl inlX6 rfl (lt_b rfl) (lt_b rfl) rfl rfl ?_
      refine v_get (C := RX1) (T := TX1) (N := 19) (ci := 1) (v := .ref (ad 23)) 13 18 hX dX6_deed_99 mw_166 rfl inlX1 rfl (lt_b rfl) (lt_b rfl) rfl rfl ?_
      refine v_iload_n 1 1 hX dX6_deed_102 rfl rfl ?_
      obtain ⟨hi10, hf⟩ := gd_some hf
      refine v_ald (v := σ 23 x1.toNatClampNeg) 23 hX dX6_deed_103 (lt_b rfl) ((fun _ => rfl) _) hi10 rfl ?_
      obtain rfl := Option.some.inj hf
      exact v_iret (r := σ 23 x1.toNatClampNeg) hX dX6_deed_104 rfl
    have hf := opt_f cs9 hf
    by_cases cs11 : x2 = 4
    · have hf := opt_t cs11 hf
      refine v_tableIn 93 105 hX dX6_deed_12 (by rw [cs11]; decide) (by rw [cs11]; decide) (by rw [cs11]; decide) (by decide) ?_
      refine v_aload_n 0 0 hX dX6_deed_105 rfl rfl ?_
      refine v_get (C := RX6) (T := TX6) (N := 10) (ci := 6) (v := .ref (ad 13)) 0 1 hX dX6_deed_106 mw_283 rfl inlX6 rfl (lt_b rfl) (lt_b rfl) rfl rfl ?_
      refine v_aload_n 0 0 hX dX6_deed_109 rfl rfl ?_
      refine v_get (C := RX6) (T := TX6) (N := 10) (ci := 6) (v := .ref (ad 13)) 0 1 hX dX6_deed_110 mw_283 rfl inlX6 rfl (lt_b rfl) (lt_b rfl) rfl rfl ?_
      refine v_get (C := RX1) (T := TX1) (N := 19) (ci := 1) (v := .int (σ 13 5)) 13 5 hX dX6_deed_113 mw_124 rfl inlX1 rfl (lt_b rfl) (lt_b rfl) rfl rfl ?_
      obtain ⟨v12, hc, hf⟩ := opt_b hf
      refine v_callVi (rest := []) (As := [.int (σ 13 5)]) (C := RX1) (T := TX1) (N := 19) (ci := 1) 13 hX dX6_deed_116 (c_X1_standingBy fuel σ (σ 13 5) hc) rfl rfl (lt_b rfl) rfl rfl rfl mw_541 mw_542 mw_59 mw_540 mw_543 gAll ds_X1_standingBy rfl ⟨Nat.le_of_ble_eq_true rfl, Nat.le_of_ble_eq_true rfl⟩ (Nat.le_of_ble_eq_true rfl) ?_
      refine v_iload_n 1 1 hX dX6_deed_119 rfl rfl ?_
      obtain ⟨v13, hc, hf⟩ := opt_b hf
      refine v_callSi (rest := []) (As := [.int v12, .int x1]) hX dX6_deed_120 (c_X6_bitOf σ v12 x1 hc) rfl rfl mw_509 mw_57 mw_523 mw_510 gAll ds_X6_bitOf rfl ⟨Nat.le_of_ble_eq_true rfl, Nat.le_of_ble_eq_true rfl⟩ (Nat.le_of_ble_eq_true rfl) ?_
      obtain rfl := Option.some.inj hf
      exact v_iret (r := v13) hX dX6_deed_123 rfl
    have hf := opt_f cs11 hf
    refine v_tableOut 124 hX dX6_deed_12 (by have h0 := lv_neT cs2 (a := 0) (by decide); have h1 := lv_neT cs4 (a := 1) (by decide); have h2 := lv_neT cs6 (a := 2) (by decide); have h3 := lv_neT cs9 (a := 3) (by decide); have h4 := lv_neT cs11 (a := 4) (by decide); omega) (by decide) ?_
    refine v_ldc (-1000001) hX dX6_deed_124 mw_323 ?_
    obtain rfl := Option.some.inj hf
    exact v_iret (r := (-1000001)) hX dX6_deed_126 rfl
  · have hf := opt_t c hf
    refine v_ldc (-1000001) hX dX6_deed_8 mw_323 ?_
    obtain rfl := Option.some.inj hf
    exact v_iret (r := (-1000001)) hX dX6_deed_10 rfl
set_option maxHeartbeats 4000000 in
set_option maxRecDepth 100000 in
theorem c_X6_ahead {l : Launch} {D : va_G} {cs : ClassId × ClassId × ClassId} {ad : Nat → Nat} {ts : Nat × Nat × Nat} (fuel : Nat) (σ : Mem)  (x1 : Int32) (x2 : Int32) {z : Int32} (hf : f_X6_ahead fuel σ x1 x2 = some z) : CtI l (xW D cs ad ts) 3 yX6_ahead cX6_ahead 4 (some .int) [.ref (ad 0), .int x1, .int x2] σ z σ := by
  refine ct_I RX6 [(0, .ref (ad 0)), (1, .int x1), (2, .int x2)] (by decide +kernel) rfl rfl (Nat.le_of_ble_eq_true rfl) ?_
  intro P M hl0 hX
  unfold f_X6_ahead at hf
  refine v_aload_n 0 0 hX dX6_ahead_0 rfl rfl ?_
  refine v_get (C := RX6) (T := TX6) (N := 10) (ci := 6) (v := .ref (ad 13)) 0 1 hX dX6_ahead_1 mw_283 rfl inlX6 rfl (lt_b rfl) (lt_b rfl) rfl rfl ?_
  refine v_get (C := RX1) (T := TX1) (N := 19) (ci := 1) (v := .int (σ 13 0)) 13 0 hX dX6_ahead_4 mw_106 rfl inlX1 rfl (lt_b rfl) (lt_b rfl) rfl rfl ?_
  refine v_if_ne 13 hX dX6_ahead_7 (by decide) (fun c => ?_) (fun c => ?_)
  · have hf := opt_f c hf
    refine v_iload_n 1 1 hX dX6_ahead_13 rfl rfl ?_
    refine v_if_lt 32 hX dX6_ahead_14 (by decide) (fun c => ?_) (fun c => ?_)
    · have hf := opt_t c hf
      refine v_ldc (-1000001) hX dX6_ahead_32 mw_323 ?_
      obtain rfl := Option.some.inj hf
      exact v_iret (r := (-1000001)) hX dX6_ahead_34 rfl
    · have hf := opt_f c hf
      refine v_iload_n 1 1 hX dX6_ahead_17 rfl rfl ?_
      refine v_sipush 200 hX dX6_ahead_18 (by decide) ?_
      refine v_icmp_gt 32 hX dX6_ahead_21 (by decide) (fun c => ?_) (fun c => ?_)
      · have hf := opt_t c hf
        refine v_ldc (-1000001) hX dX6_ahead_32 mw_323 ?_
        obtain rfl := Option.some.inj hf
        exact v_iret (r := (-1000001)) hX dX6_ahead_34 rfl
      · have hf := opt_f c hf
        refine v_iload_n 2 2 hX dX6_ahead_24 rfl rfl ?_
        refine v_iconst 3 hX dX6_ahead_25 (by decide) ?_
        obtain ⟨v1, hc, hf⟩ := opt_b hf
        refine v_callSi (rest := []) (As := [.int x2, .int 3]) hX dX6_ahead_26 (c_X6_isBelow σ x2 3 hc) rfl rfl mw_321 mw_57 mw_320 mw_322 gAll ds_X6_isBelow rfl ⟨Nat.le_of_ble_eq_true rfl, Nat.le_of_ble_eq_true rfl⟩ (Nat.le_of_ble_eq_true rfl) ?_
        refine v_if_ne 35 hX dX6_ahead_29 (by decide) (fun c => ?_) (fun c => ?_)
        · have hf := opt_f c hf
          refine v_aload_n 0 0 hX dX6_ahead_35 rfl rfl ?_
          refine v_get (C := RX6) (T := TX6) (N := 10) (ci := 6) (v := .ref (ad 13)) 0 1 hX dX6_ahead_36 mw_283 rfl inlX6 rfl (lt_b rfl) (lt_b rfl) rfl rfl ?_
          refine v_aload_n 0 0 hX dX6_ahead_39 rfl rfl ?_
          refine v_get (C := RX6) (T := TX6) (N := 10) (ci := 6) (v := .ref (ad 13)) 0 1 hX dX6_ahead_40 mw_283 rfl inlX6 rfl (lt_b rfl) (lt_b rfl) rfl rfl ?_
          refine v_get (C := RX1) (T := TX1) (N := 19) (ci := 1) (v := .int (σ 13 5)) 13 5 hX dX6_ahead_43 mw_124 rfl inlX1 rfl (lt_b rfl) (lt_b rfl) rfl rfl ?_
          refine v_aload_n 0 0 hX dX6_ahead_46 rfl rfl ?_
          refine v_get (C := RX6) (T := TX6) (N := 10) (ci := 6) (v := .ref (ad 13)) 0 1 hX dX6_ahead_47 mw_283 rfl inlX6 rfl (lt_b rfl) (lt_b rfl) rfl rfl ?_
          refine v_get (C := RX1) (T := TX1) (N := 19) (ci := 1) (v := .int (σ 13 3)) 13 3 hX dX6_ahead_50 mw_117 rfl inlX1 rfl (lt_b rfl) (lt_b rfl) rfl rfl ?_
          refine v_iload_n 1 1 hX dX6_ahead_53 rfl rfl ?_
          refine v_iadd hX dX6_ahead_54 ?_
          obtain ⟨v2, hc, hf⟩ := opt_b hf
          refine v_callVi (rest := []) (As := [.int (σ 13 5), .int ((σ 13 3) + x1)]) (C := RX1) (T := TX1) (N := 19) (ci := 1) 13 hX dX6_ahead_55 (c_X1_whiteOn fuel σ (σ 13 5) ((σ 13 3) + x1) hc) rfl rfl (lt_b rfl) rfl rfl rfl mw_533 mw_534 mw_59 mw_633 mw_535 gAll ds_X1_whiteOn rfl ⟨Nat.le_of_ble_eq_true rfl, Nat.le_of_ble_eq_true rfl⟩ (Nat.le_of_ble_eq_true rfl) ?_
          refine v_istore_n 3 [(3, .int v2), (0, .ref (ad 0)), (1, .int x1), (2, .int x2)] hX dX6_ahead_58 rfl (lt_b rfl) rfl ?_
          refine v_iload_n 3 2 hX dX6_ahead_59 rfl rfl ?_
          by_cases cs3 : x2 = 0
          · have hf := opt_t cs3 hf
            refine v_lookup 28 88 hX dX6_ahead_60 (by decide) (by rw [cs3]; decide) (by decide) ?_
            refine v_aload_n 1 0 hX dX6_ahead_88 rfl rfl ?_
            refine v_get (C := RX6) (T := TX6) (N := 10) (ci := 6) (v := .ref (ad 13)) 0 1 hX dX6_ahead_89 mw_283 rfl inlX6 rfl (lt_b rfl) (lt_b rfl) rfl rfl ?_
            refine v_iload_n 0 3 hX dX6_ahead_92 rfl rfl ?_
            obtain ⟨v4, hc, hf⟩ := opt_b hf
            refine v_callVi (rest := []) (As := [.int v2]) (C := RX1) (T := TX1) (N := 19) (ci := 1) 13 hX dX6_ahead_93 (c_X1_blackBy fuel σ v2 hc) rfl rfl (lt_b rfl) rfl rfl rfl mw_520 mw_521 mw_59 mw_519 mw_522 gAll ds_X1_blackBy rfl ⟨Nat.le_of_ble_eq_true rfl, Nat.le_of_ble_eq_true rfl⟩ (Nat.le_of_ble_eq_true rfl) ?_
            obtain rfl := Option.some.inj hf
            exact v_iret (r := v4) hX dX6_ahead_96 rfl
          have hf := opt_f cs3 hf
          by_cases cs5 : x2 = 1
          · have hf := opt_t cs5 hf
            refine v_lookup 37 97 hX dX6_ahead_60 (by decide) (by rw [cs5]; decide) (by decide) ?_
            refine v_aload_n 1 0 hX dX6_ahead_97 rfl rfl ?_
            refine v_get (C := RX6) (T := TX6) (N := 10) (ci := 6) (v := .ref (ad 13)) 0 1 hX dX6_ahead_98 mw_283 rfl inlX6 rfl (lt_b rfl) (lt_b rfl) rfl rfl ?_
            refine v_iload_n 0 3 hX dX6_ahead_101 rfl rfl ?_
            obtain ⟨v6, hc, hf⟩ := opt_b hf
            refine v_callVi (rest := []) (As := [.int v2]) (C := RX1) (T := TX1) (N := 19) (ci := 1) 13 hX dX6_ahead_102 (c_X1_standingBy fuel σ v2 hc) rfl rfl (lt_b rfl) rfl rfl rfl mw_541 mw_542 mw_59 mw_540 mw_543 gAll ds_X1_standingBy rfl ⟨Nat.le_of_ble_eq_true rfl, Nat.le_of_ble_eq_true rfl⟩ (Nat.le_of_ble_eq_true rfl) ?_
            obtain rfl := Option.some.inj hf
            exact v_iret (r := v6) hX dX6_ahead_105 rfl
          have hf := opt_f cs5 hf
          refine v_lookup 46 106 hX dX6_ahead_60 (by decide) ((lv_osw cs3 (by decide)).trans ((lv_osw cs5 (by decide)).trans (rfl))) (by decide) ?_
          refine v_iload_n 0 3 hX dX6_ahead_106 rfl rfl ?_
          obtain rfl := Option.some.inj hf
          exact v_iret (r := v2) hX dX6_ahead_107 rfl
        · have hf := opt_t c hf
          refine v_ldc (-1000001) hX dX6_ahead_32 mw_323 ?_
          obtain rfl := Option.some.inj hf
          exact v_iret (r := (-1000001)) hX dX6_ahead_34 rfl
  · have hf := opt_t c hf
    refine v_ldc (-1000002) hX dX6_ahead_10 mw_473 ?_
    obtain rfl := Option.some.inj hf
    exact v_iret (r := (-1000002)) hX dX6_ahead_12 rfl
set_option maxHeartbeats 4000000 in
set_option maxRecDepth 100000 in
theorem c_X6_blanks {l : Launch} {D : va_G} {cs : ClassId × ClassId × ClassId} {ad : Nat → Nat} {ts : Nat × Nat × Nat} (σ : Mem) (fuel : Nat)  (x1 : Int32) (x2 : Int32) {z : Int32 × Mem} (hf : f_X6_blanks fuel σ x1 x2 = some z) : CtI l (xW D cs ad ts) 3 yX6_blanks cX6_blanks 3 (some .int) [.ref (ad 0), .int x1, .int x2] σ z.1 z.2 := by
  refine ct_I RX6 [(0, .ref (ad 0)), (1, .int x1), (2, .int x2)] (by decide +kernel) rfl rfl (Nat.le_of_ble_eq_true rfl) ?_
  intro P M hl0 hX
  unfold f_X6_blanks at hf
  refine v_aload_n 0 0 hX dX6_blanks_0 rfl rfl ?_
  refine v_get (C := RX6) (T := TX6) (N := 10) (ci := 6) (v := .ref (ad 13)) 0 1 hX dX6_blanks_1 mw_283 rfl inlX6 rfl (lt_b rfl) (lt_b rfl) rfl rfl ?_
  refine v_get (C := RX1) (T := TX1) (N := 19) (ci := 1) (v := .int (σ 13 0)) 13 0 hX dX6_blanks_4 mw_106 rfl inlX1 rfl (lt_b rfl) (lt_b rfl) rfl rfl ?_
  refine v_if_ne 13 hX dX6_blanks_7 (by decide) (fun c => ?_) (fun c => ?_)
  · have hf := opt_f c hf
    refine v_iload_n 1 1 hX dX6_blanks_13 rfl rfl ?_
    refine v_iconst 1 hX dX6_blanks_14 (by decide) ?_
    refine v_icmp_lt 32 hX dX6_blanks_15 (by decide) (fun c => ?_) (fun c => ?_)
    · have hf := opt_t c hf
      refine v_ldc (-1000001) hX dX6_blanks_32 mw_323 ?_
      obtain rfl := Option.some.inj hf
      exact v_iret (r := (-1000001)) hX dX6_blanks_34 rfl
    · have hf := opt_f c hf
      refine v_iload_n 1 1 hX dX6_blanks_18 rfl rfl ?_
      refine v_bipush 90 hX dX6_blanks_19 (by decide) ?_
      refine v_icmp_gt 32 hX dX6_blanks_21 (by decide) (fun c => ?_) (fun c => ?_)
      · have hf := opt_t c hf
        refine v_ldc (-1000001) hX dX6_blanks_32 mw_323 ?_
        obtain rfl := Option.some.inj hf
        exact v_iret (r := (-1000001)) hX dX6_blanks_34 rfl
      · have hf := opt_f c hf
        refine v_iload_n 2 2 hX dX6_blanks_24 rfl rfl ?_
        refine v_iconst 2 hX dX6_blanks_25 (by decide) ?_
        obtain ⟨v1, hc, hf⟩ := opt_b hf
        refine v_callSi (rest := []) (As := [.int x2, .int 2]) hX dX6_blanks_26 (c_X6_isBelow σ x2 2 hc) rfl rfl mw_321 mw_57 mw_320 mw_322 gAll ds_X6_isBelow rfl ⟨Nat.le_of_ble_eq_true rfl, Nat.le_of_ble_eq_true rfl⟩ (Nat.le_of_ble_eq_true rfl) ?_
        refine v_if_ne 35 hX dX6_blanks_29 (by decide) (fun c => ?_) (fun c => ?_)
        · have hf := opt_f c hf
          refine v_aload_n 0 0 hX dX6_blanks_35 rfl rfl ?_
          refine v_get (C := RX6) (T := TX6) (N := 10) (ci := 6) (v := .ref (ad 62)) 0 6 hX dX6_blanks_36 mw_288 rfl inlX6 rfl (lt_b rfl) (lt_b rfl) rfl rfl ?_
          refine v_aload_n 0 0 hX dX6_blanks_39 rfl rfl ?_
          refine v_get (C := RX6) (T := TX6) (N := 10) (ci := 6) (v := .ref (ad 13)) 0 1 hX dX6_blanks_40 mw_283 rfl inlX6 rfl (lt_b rfl) (lt_b rfl) rfl rfl ?_
          refine v_iload_n 1 1 hX dX6_blanks_43 rfl rfl ?_
          refine v_iload_n 2 2 hX dX6_blanks_44 rfl rfl ?_
          obtain ⟨v2, hc, hf⟩ := opt_b hf
          refine v_callVi (rest := []) (As := [.ref (ad 13), .int x1, .int x2]) (C := RX3) (T := TX3) (N := 3) (ci := 3) 62 hX dX6_blanks_45 (c_X3_blanksOf σ fuel x1 x2 hc) rfl rfl (lt_b rfl) rfl rfl rfl mw_711 mw_712 mw_62 mw_710 mw_713 gAll ds_X3_blanksOf rfl ⟨Nat.le_of_ble_eq_true rfl, Nat.le_of_ble_eq_true rfl⟩ (Nat.le_of_ble_eq_true rfl) ?_
          obtain rfl := Option.some.inj hf
          exact v_iret (r := v2.1) hX dX6_blanks_48 rfl
        · have hf := opt_t c hf
          refine v_ldc (-1000001) hX dX6_blanks_32 mw_323 ?_
          obtain rfl := Option.some.inj hf
          exact v_iret (r := (-1000001)) hX dX6_blanks_34 rfl
  · have hf := opt_t c hf
    refine v_ldc (-1000002) hX dX6_blanks_10 mw_473 ?_
    obtain rfl := Option.some.inj hf
    exact v_iret (r := (-1000002)) hX dX6_blanks_12 rfl
set_option maxHeartbeats 4000000 in
set_option maxRecDepth 100000 in
theorem c_X6_itself {l : Launch} {D : va_G} {cs : ClassId × ClassId × ClassId} {ad : Nat → Nat} {ts : Nat × Nat × Nat} (fuel : Nat) (σ : Mem)  (x1 : Int32) (x2 : Int32) (x3 : Int32) {z : Int32} (hf : f_X6_itself fuel σ x1 x2 x3 = some z) : CtI l (xW D cs ad ts) 3 yX6_itself cX6_itself 4 (some .int) [.ref (ad 0), .int x1, .int x2, .int x3] σ z σ := by
  refine ct_I RX6 [(0, .ref (ad 0)), (1, .int x1), (2, .int x2), (3, .int x3)] (by decide +kernel) rfl rfl (Nat.le_of_ble_eq_true rfl) ?_
  intro P M hl0 hX
  unfold f_X6_itself at hf
  refine v_aload_n 0 0 hX dX6_itself_0 rfl rfl ?_
  refine v_iload_n 1 1 hX dX6_itself_1 rfl rfl ?_
  obtain ⟨v1, hc, hf⟩ := opt_b hf
  refine v_callVi (rest := []) (As := [.int x1]) (C := RX6) (T := TX6) (N := 10) (ci := 6) 0 hX dX6_itself_2 (c_X6_isDeed σ x1 hc) rfl rfl (lt_b rfl) rfl rfl rfl mw_568 mw_17 mw_57 mw_566 mw_569 gAll ds_X6_isDeed rfl ⟨Nat.le_of_ble_eq_true rfl, Nat.le_of_ble_eq_true rfl⟩ (Nat.le_of_ble_eq_true rfl) ?_
  refine v_if_eq 25 hX dX6_itself_5 (by decide) (fun c => ?_) (fun c => ?_)
  · have hf := opt_t c hf
    refine v_ldc (-1000001) hX dX6_itself_25 mw_323 ?_
    obtain rfl := Option.some.inj hf
    exact v_iret (r := (-1000001)) hX dX6_itself_27 rfl
  · have hf := opt_f c hf
    refine v_iload_n 2 2 hX dX6_itself_8 rfl rfl ?_
    refine v_bipush 6 hX dX6_itself_9 (by decide) ?_
    obtain ⟨v2, hc, hf⟩ := opt_b hf
    refine v_callSi (rest := []) (As := [.int x2, .int 6]) hX dX6_itself_11 (c_X6_isBelow σ x2 6 hc) rfl rfl mw_321 mw_57 mw_320 mw_322 gAll ds_X6_isBelow rfl ⟨Nat.le_of_ble_eq_true rfl, Nat.le_of_ble_eq_true rfl⟩ (Nat.le_of_ble_eq_true rfl) ?_
    refine v_if_eq 25 hX dX6_itself_14 (by decide) (fun c => ?_) (fun c => ?_)
    · have hf := opt_t c hf
      refine v_ldc (-1000001) hX dX6_itself_25 mw_323 ?_
      obtain rfl := Option.some.inj hf
      exact v_iret (r := (-1000001)) hX dX6_itself_27 rfl
    · have hf := opt_f c hf
      refine v_iload_n 3 3 hX dX6_itself_17 rfl rfl ?_
      refine v_iconst 2 hX dX6_itself_18 (by decide) ?_
      obtain ⟨v3, hc, hf⟩ := opt_b hf
      refine v_callSi (rest := []) (As := [.int x3, .int 2]) hX dX6_itself_19 (c_X6_isBelow σ x3 2 hc) rfl rfl mw_321 mw_57 mw_320 mw_322 gAll ds_X6_isBelow rfl ⟨Nat.le_of_ble_eq_true rfl, Nat.le_of_ble_eq_true rfl⟩ (Nat.le_of_ble_eq_true rfl) ?_
      refine v_if_ne 28 hX dX6_itself_22 (by decide) (fun c => ?_) (fun c => ?_)
      · have hf := opt_f c hf
        refine v_aload_n 0 0 hX dX6_itself_28 rfl rfl ?_
        refine v_get (C := RX6) (T := TX6) (N := 10) (ci := 6) (v := .ref (ad 62)) 0 6 hX dX6_itself_29 mw_288 rfl inlX6 rfl (lt_b rfl) (lt_b rfl) rfl rfl ?_
        refine v_aload_n 0 0 hX dX6_itself_32 rfl rfl ?_
        refine v_get (C := RX6) (T := TX6) (N := 10) (ci := 6) (v := .ref (ad 13)) 0 1 hX dX6_itself_33 mw_283 rfl inlX6 rfl (lt_b rfl) (lt_b rfl) rfl rfl ?_
        refine v_iload_n 1 1 hX dX6_itself_36 rfl rfl ?_
        refine v_iload_n 2 2 hX dX6_itself_37 rfl rfl ?_
        refine v_iload_n 3 3 hX dX6_itself_38 rfl rfl ?_
        obtain ⟨v4, hc, hf⟩ := opt_b hf
        refine v_callVi (rest := []) (As := [.ref (ad 13), .int x1, .int x2, .int x3]) (C := RX3) (T := TX3) (N := 3) (ci := 3) 62 hX dX6_itself_39 (c_X3_selfOf fuel σ x1 x2 x3 hc) rfl rfl (lt_b rfl) rfl rfl rfl mw_738 mw_739 mw_62 mw_737 mw_740 gAll ds_X3_selfOf rfl ⟨Nat.le_of_ble_eq_true rfl, Nat.le_of_ble_eq_true rfl⟩ (Nat.le_of_ble_eq_true rfl) ?_
        obtain rfl := Option.some.inj hf
        exact v_iret (r := v4) hX dX6_itself_42 rfl
      · have hf := opt_t c hf
        refine v_ldc (-1000001) hX dX6_itself_25 mw_323 ?_
        obtain rfl := Option.some.inj hf
        exact v_iret (r := (-1000001)) hX dX6_itself_27 rfl
set_option maxHeartbeats 4000000 in
set_option maxRecDepth 100000 in
theorem c_X7_number {l : Launch} {D : va_G} {cs : ClassId × ClassId × ClassId} {ad : Nat → Nat} (σ : Mem) (fuel : Nat)  (x1 : Int32) (x2 : Int32) (x3 : Int32) {z : Int32 × Mem} (hf : f_X7_number fuel σ x1 x2 x3 = some z) : CtI l (mW D cs ad) 3 yX7_number cX7_number 4 (some .boolean) [.ref (ad 0), .int x1, .int x2, .int x3] σ z.1 z.2 := by
  refine ct_I RX7 [(0, .ref (ad 0)), (1, .int x1), (2, .int x2), (3, .int x3)] (by decide +kernel) rfl rfl (Nat.le_of_ble_eq_true rfl) ?_
  intro P M hl0 hX
  unfold f_X7_number at hf
  refine v_aload_n 0 0 hX dX7_number_0 rfl rfl ?_
  obtain ⟨v1, hc, hf⟩ := opt_b hf
  refine v_callVv (rest := []) (As := []) (C := RX7) (T := TX7) (N := 22) (ci := 7) 0 hX dX7_number_1 (c_X7_next σ fuel hc) rfl rfl (lt_b rfl) rfl rfl rfl mw_958 mw_31 mw_64 mw_956 mw_959 gAll ds_X7_next rfl ⟨Nat.le_of_ble_eq_true rfl, Nat.le_of_ble_eq_true rfl⟩ (Nat.le_of_ble_eq_true rfl) ?_
  refine v_aload_n 0 0 hX dX7_number_4 rfl rfl ?_
  refine v_get (C := RX7) (T := TX7) (N := 22) (ci := 7) (v := .int (v1 0 17)) 0 17 hX dX7_number_5 mw_853 rfl inlX7 rfl (lt_b rfl) (lt_b rfl) rfl rfl ?_
  refine v_iconst 2 hX dX7_number_8 (by decide) ?_
  refine v_icmp_eq 18 hX dX7_number_9 (by decide) (fun c => ?_) (fun c => ?_)
  · have hf := opt_t c hf
    refine v_aload_n 0 0 hX dX7_number_18 rfl rfl ?_
    refine v_get (C := RX7) (T := TX7) (N := 22) (ci := 7) (v := .int (v1 0 18)) 0 18 hX dX7_number_19 mw_854 rfl inlX7 rfl (lt_b rfl) (lt_b rfl) rfl rfl ?_
    refine v_i2l hX dX7_number_22 ?_
    refine v_iload_n 2 2 hX dX7_number_23 rfl rfl ?_
    refine v_i2l hX dX7_number_24 ?_
    refine v_iload_n 3 3 hX dX7_number_25 rfl rfl ?_
    refine v_i2l hX dX7_number_26 ?_
    obtain ⟨v2, hc, hf⟩ := opt_b hf
    refine v_callSi (rest := []) (As := [.long ((v1 0 18).toInt64), .long x2.toInt64, .long x3.toInt64]) hX dX7_number_27 (c_X7_in v1 ((v1 0 18).toInt64) x2.toInt64 x3.toInt64 hc) rfl rfl mw_913 mw_64 mw_912 mw_914 gAll ds_X7_in rfl ⟨Nat.le_of_ble_eq_true rfl, Nat.le_of_ble_eq_true rfl⟩ (Nat.le_of_ble_eq_true rfl) ?_
    refine v_if_ne 39 hX dX7_number_30 (by decide) (fun c => ?_) (fun c => ?_)
    · have hf := opt_f c hf
      refine v_aload_n 0 0 hX dX7_number_39 rfl rfl ?_
      refine v_get (C := RX7) (T := TX7) (N := 22) (ci := 7) (v := .ref (ad 10)) 0 20 hX dX7_number_40 mw_856 rfl inlX7 rfl (lt_b rfl) (lt_b rfl) rfl rfl ?_
      refine v_iload_n 1 1 hX dX7_number_43 rfl rfl ?_
      refine v_aload_n 0 0 hX dX7_number_44 rfl rfl ?_
      refine v_get (C := RX7) (T := TX7) (N := 22) (ci := 7) (v := .int (v1 0 18)) 0 18 hX dX7_number_45 mw_854 rfl inlX7 rfl (lt_b rfl) (lt_b rfl) rfl rfl ?_
      obtain ⟨hi3, hf⟩ := gd_some hf
      refine v_ast 10 hX dX7_number_48 (lt_b rfl) (fun _ => rfl) hi3 ?_
      refine v_iconst 1 hX dX7_number_49 (by decide) ?_
      obtain rfl := Option.some.inj hf
      exact v_iret (r := 1) hX dX7_number_50 rfl
    · have hf := opt_t c hf
      refine v_aload_n 0 0 hX dX7_number_33 rfl rfl ?_
      refine v_iconst 2 hX dX7_number_34 (by decide) ?_
      obtain ⟨v4, hc, hf⟩ := opt_b hf
      refine v_callVi (rest := []) (As := [.int 2]) (C := RX7) (T := TX7) (N := 22) (ci := 7) 0 hX dX7_number_35 (c_X7_fails v1 2 hc) rfl rfl (lt_b rfl) rfl rfl rfl mw_973 mw_33 mw_64 mw_971 mw_974 gAll ds_X7_fails rfl ⟨Nat.le_of_ble_eq_true rfl, Nat.le_of_ble_eq_true rfl⟩ (Nat.le_of_ble_eq_true rfl) ?_
      obtain ⟨hg5, hf⟩ := gd_some hf
      obtain rfl := Option.some.inj hf
      exact v_iret (r := v4.1) hX dX7_number_38 (isB_n hg5)
  · have hf := opt_f c hf
    refine v_aload_n 0 0 hX dX7_number_12 rfl rfl ?_
    refine v_iconst 1 hX dX7_number_13 (by decide) ?_
    obtain ⟨v6, hc, hf⟩ := opt_b hf
    refine v_callVi (rest := []) (As := [.int 1]) (C := RX7) (T := TX7) (N := 22) (ci := 7) 0 hX dX7_number_14 (c_X7_fails v1 1 hc) rfl rfl (lt_b rfl) rfl rfl rfl mw_973 mw_33 mw_64 mw_971 mw_974 gAll ds_X7_fails rfl ⟨Nat.le_of_ble_eq_true rfl, Nat.le_of_ble_eq_true rfl⟩ (Nat.le_of_ble_eq_true rfl) ?_
    obtain ⟨hg7, hf⟩ := gd_some hf
    obtain rfl := Option.some.inj hf
    exact v_iret (r := v6.1) hX dX7_number_17 (isB_n hg7)
set_option maxHeartbeats 4000000 in
set_option maxRecDepth 100000 in
theorem c_X7_sign {l : Launch} {D : va_G} {cs : ClassId × ClassId × ClassId} {ad : Nat → Nat} (σ : Mem) (fuel : Nat)  (x1 : Int32) {z : Int32 × Mem} (hf : f_X7_sign fuel σ x1 = some z) : CtI l (mW D cs ad) 3 yX7_sign cX7_sign 2 (some .boolean) [.ref (ad 0), .int x1] σ z.1 z.2 := by
  refine ct_I RX7 [(0, .ref (ad 0)), (1, .int x1)] (by decide +kernel) rfl rfl (Nat.le_of_ble_eq_true rfl) ?_
  intro P M hl0 hX
  unfold f_X7_sign at hf
  refine v_aload_n 0 0 hX dX7_sign_0 rfl rfl ?_
  obtain ⟨v1, hc, hf⟩ := opt_b hf
  refine v_callVv (rest := []) (As := []) (C := RX7) (T := TX7) (N := 22) (ci := 7) 0 hX dX7_sign_1 (c_X7_next σ fuel hc) rfl rfl (lt_b rfl) rfl rfl rfl mw_958 mw_31 mw_64 mw_956 mw_959 gAll ds_X7_next rfl ⟨Nat.le_of_ble_eq_true rfl, Nat.le_of_ble_eq_true rfl⟩ (Nat.le_of_ble_eq_true rfl) ?_
  refine v_aload_n 0 0 hX dX7_sign_4 rfl rfl ?_
  refine v_get (C := RX7) (T := TX7) (N := 22) (ci := 7) (v := .int (v1 0 17)) 0 17 hX dX7_sign_5 mw_853 rfl inlX7 rfl (lt_b rfl) (lt_b rfl) rfl rfl ?_
  refine v_iload_n 1 1 hX dX7_sign_8 rfl rfl ?_
  refine v_icmp_eq 20 hX dX7_sign_9 (by decide) (fun c => ?_) (fun c => ?_)
  · have hf := opt_t c hf
    refine v_iconst 1 hX dX7_sign_20 (by decide) ?_
    refine v_goto 25 hX dX7_sign_21 (by decide) ?_
    obtain rfl := Option.some.inj hf
    exact v_iret (r := 1) hX dX7_sign_25 rfl
  · have hf := opt_f c hf
    refine v_aload_n 0 0 hX dX7_sign_12 rfl rfl ?_
    refine v_iconst 1 hX dX7_sign_13 (by decide) ?_
    obtain ⟨v2, hc, hf⟩ := opt_b hf
    refine v_callVi (rest := []) (As := [.int 1]) (C := RX7) (T := TX7) (N := 22) (ci := 7) 0 hX dX7_sign_14 (c_X7_fails v1 1 hc) rfl rfl (lt_b rfl) rfl rfl rfl mw_973 mw_33 mw_64 mw_971 mw_974 gAll ds_X7_fails rfl ⟨Nat.le_of_ble_eq_true rfl, Nat.le_of_ble_eq_true rfl⟩ (Nat.le_of_ble_eq_true rfl) ?_
    refine v_if_eq 24 hX dX7_sign_17 (by decide) (fun c => ?_) (fun c => ?_)
    · have hf := opt_t c hf
      refine v_iconst 0 hX dX7_sign_24 (by decide) ?_
      obtain rfl := Option.some.inj hf
      exact v_iret (r := 0) hX dX7_sign_25 rfl
    · have hf := opt_f c hf
      refine v_iconst 1 hX dX7_sign_20 (by decide) ?_
      refine v_goto 25 hX dX7_sign_21 (by decide) ?_
      obtain rfl := Option.some.inj hf
      exact v_iret (r := 1) hX dX7_sign_25 rfl
set_option maxHeartbeats 4000000 in
set_option maxRecDepth 100000 in
theorem c_X7_fallsBy {l : Launch} {D : va_G} {cs : ClassId × ClassId × ClassId} {ad : Nat → Nat} (σ : Mem) (fuel : Nat)  (x1 : Int32) {z : Int32 × Mem} (hf : f_X7_fallsBy fuel σ x1 = some z) : CtI l (mW D cs ad) 3 yX7_fallsBy cX7_fallsBy 2 (some .int) [.ref (ad 0), .int x1] σ z.1 z.2 := by
  refine ct_I RX7 [(0, .ref (ad 0)), (1, .int x1)] (by decide +kernel) rfl rfl (Nat.le_of_ble_eq_true rfl) ?_
  intro P M hl0 hX
  unfold f_X7_fallsBy at hf
  refine v_aload_n 0 0 hX dX7_fallsBy_0 rfl rfl ?_
  obtain ⟨v1, hc, hf⟩ := opt_b hf
  refine v_callVv (rest := []) (As := []) (C := RX7) (T := TX7) (N := 22) (ci := 7) 0 hX dX7_fallsBy_1 (c_X7_layAside σ fuel hc) rfl rfl (lt_b rfl) rfl rfl rfl mw_1103 mw_47 mw_64 mw_1101 mw_1104 gAll ds_X7_layAside rfl ⟨Nat.le_of_ble_eq_true rfl, Nat.le_of_ble_eq_true rfl⟩ (Nat.le_of_ble_eq_true rfl) ?_
  refine v_aload_n 0 0 hX dX7_fallsBy_4 rfl rfl ?_
  refine v_get (C := RX7) (T := TX7) (N := 22) (ci := 7) (v := .ref (ad 11)) 0 21 hX dX7_fallsBy_5 mw_857 rfl inlX7 rfl (lt_b rfl) (lt_b rfl) rfl rfl ?_
  refine v_iload_n 1 1 hX dX7_fallsBy_8 rfl rfl ?_
  obtain ⟨v2, hc, hf⟩ := opt_b hf
  refine v_callSv (rest := []) (As := [.ref (ad 11), .int x1]) hX dX7_fallsBy_9 (c_X7_recalls v1 fuel x1 hc) rfl rfl mw_1106 mw_64 mw_1105 mw_1107 gAll ds_X7_recalls rfl ⟨Nat.le_of_ble_eq_true rfl, Nat.le_of_ble_eq_true rfl⟩ (Nat.le_of_ble_eq_true rfl) ?_
  refine v_aload_n 0 0 hX dX7_fallsBy_12 rfl rfl ?_
  refine v_get (C := RX7) (T := TX7) (N := 22) (ci := 7) (v := .ref (ad 5)) 0 8 hX dX7_fallsBy_13 mw_844 rfl inlX7 rfl (lt_b rfl) (lt_b rfl) rfl rfl ?_
  obtain ⟨v3, hc, hf⟩ := opt_b hf
  refine v_callSi (rest := []) (As := [.ref (ad 5)]) hX dX7_fallsBy_16 (c_X7_stand_n fuel v2 hc) rfl rfl mw_1055 mw_64 mw_1054 mw_1056 gAll ds_X7_stand rfl ⟨Nat.le_of_ble_eq_true rfl, Nat.le_of_ble_eq_true rfl⟩ (Nat.le_of_ble_eq_true rfl) ?_
  refine v_aload_n 0 0 hX dX7_fallsBy_19 rfl rfl ?_
  refine v_get (C := RX7) (T := TX7) (N := 22) (ci := 7) (v := .ref (ad 11)) 0 21 hX dX7_fallsBy_20 mw_857 rfl inlX7 rfl (lt_b rfl) (lt_b rfl) rfl rfl ?_
  obtain ⟨v4, hc, hf⟩ := opt_b hf
  refine v_callSi (rest := [.int v3]) (As := [.ref (ad 11)]) hX dX7_fallsBy_23 (c_X7_stand_a fuel v2 hc) rfl rfl mw_1055 mw_64 mw_1054 mw_1056 gAll ds_X7_stand rfl ⟨Nat.le_of_ble_eq_true rfl, Nat.le_of_ble_eq_true rfl⟩ (Nat.le_of_ble_eq_true rfl) ?_
  refine v_iconst (-1) hX dX7_fallsBy_26 (by decide) ?_
  refine v_ixor hX dX7_fallsBy_27 ?_
  refine v_iand hX dX7_fallsBy_28 ?_
  obtain rfl := Option.some.inj hf
  exact v_iret (r := v3 &&& (v4 ^^^ (-1))) hX dX7_fallsBy_29 rfl
set_option maxHeartbeats 4000000 in
set_option maxRecDepth 100000 in
theorem s_X7_doubles_91 {P : PT} {M : MT} {D : va_G} {cs : ClassId × ClassId × ClassId} {ad : Nat → Nat} (hX : VOk P M (mW D cs ad) 9 cX7_doubles RX7 (some .int) 3) (fuel : Nat) (k59 : Mem → Int32 → Int32 → Int32 → Int32 → Int32 → Int32 → Option (Int32 × Mem))  (z : Int32 × Mem) (hk59 : ∀ (σ : Mem) (x1 : Int32) (x2 : Int32) (x3 : Int32) (x4 : Int32) (x5 : Int32) (x6 : Int32), k59 σ x1 x2 x3 x4 x5 x6 = some z → V P M (mW D cs ad) 9 (QI P M (mW D cs ad) z.1 z.2) 59 [(0, .ref (ad 0)), (1, .int x1), (2, .int x2), (3, .int x3), (4, .int x4), (5, .int x5), (6, .int x6)] [] σ) (σ : Mem) (x1 : Int32) (x2 : Int32) (x3 : Int32) (x4 : Int32) (x5 : Int32) (x6 : Int32) (y0 : Int32) (hf : f_X7_doubles_91 fuel k59 σ x1 x2 x3 x4 x5 x6 y0 = some z) : V P M (mW D cs ad) 9 (QI P M (mW D cs ad) z.1 z.2) 91 [(0, .ref (ad 0)), (1, .int x1), (2, .int x2), (3, .int x3), (4, .int x4), (5, .int x5), (6, .int x6)] [.int y0] σ := by
  unfold f_X7_doubles_91 at hf
  refine v_istore [(7, .int y0), (0, .ref (ad 0)), (1, .int x1), (2, .int x2), (3, .int x3), (4, .int x4), (5, .int x5), (6, .int x6)] hX dX7_doubles_91 (lt_b rfl) rfl ?_
  refine v_iload 0 hX dX7_doubles_93 rfl ?_
  refine v_if_eq 116 hX dX7_doubles_95 (by decide) (fun c => ?_) (fun c => ?_)
  · have hf := opt_t c hf
    refine v_iload 6 hX dX7_doubles_116 rfl ?_
    refine v_istore [(5, .int x5), (7, .int y0), (0, .ref (ad 0)), (1, .int x1), (2, .int x2), (3, .int x3), (4, .int x4), (6, .int x6)] hX dX7_doubles_118 (lt_b rfl) rfl ?_
    refine v_iinc 7 (x6 + 1) [(6, .int (x6 + 1)), (5, .int x5), (7, .int y0), (0, .ref (ad 0)), (1, .int x1), (2, .int x2), (3, .int x3), (4, .int x4)] hX dX7_doubles_120 rfl rfl (lt_b rfl) rfl ?_
    refine v_goto 59 hX dX7_doubles_123 (by decide) ?_
    exact v_sub [3, 4, 5, 6, 7, 1, 0] rfl (hk59 σ x1 x2 x3 x4 x5 (x6 + 1) hf)
  · have hf := opt_f c hf
    refine v_iload 7 hX dX7_doubles_98 rfl ?_
    obtain ⟨v11, hc, hf⟩ := opt_b hf
    refine v_callSi (rest := []) (As := [.int x6]) hX dX7_doubles_100 (c_X7_bits σ fuel x6 hc) rfl rfl mw_1141 mw_64 mw_1140 mw_1142 gAll ds_X7_bits rfl ⟨Nat.le_of_ble_eq_true rfl, Nat.le_of_ble_eq_true rfl⟩ (Nat.le_of_ble_eq_true rfl) ?_
    refine v_iload 6 hX dX7_doubles_103 rfl ?_
    obtain ⟨v12, hc, hf⟩ := opt_b hf
    refine v_callSi (rest := [.int v11]) (As := [.int x5]) hX dX7_doubles_105 (c_X7_bits σ fuel x5 hc) rfl rfl mw_1141 mw_64 mw_1140 mw_1142 gAll ds_X7_bits rfl ⟨Nat.le_of_ble_eq_true rfl, Nat.le_of_ble_eq_true rfl⟩ (Nat.le_of_ble_eq_true rfl) ?_
    refine v_icmp_ge 116 hX dX7_doubles_108 (by decide) (fun c => ?_) (fun c => ?_)
    · have hf := opt_t c hf
      refine v_iload 6 hX dX7_doubles_116 rfl ?_
      refine v_istore [(5, .int x5), (7, .int y0), (0, .ref (ad 0)), (1, .int x1), (2, .int x2), (3, .int x3), (4, .int x4), (6, .int x6)] hX dX7_doubles_118 (lt_b rfl) rfl ?_
      refine v_iinc 7 (x6 + 1) [(6, .int (x6 + 1)), (5, .int x5), (7, .int y0), (0, .ref (ad 0)), (1, .int x1), (2, .int x2), (3, .int x3), (4, .int x4)] hX dX7_doubles_120 rfl rfl (lt_b rfl) rfl ?_
      refine v_goto 59 hX dX7_doubles_123 (by decide) ?_
      exact v_sub [3, 4, 5, 6, 7, 1, 0] rfl (hk59 σ x1 x2 x3 x4 x5 (x6 + 1) hf)
    · have hf := opt_f c hf
      refine v_iload 7 hX dX7_doubles_111 rfl ?_
      refine v_goto 118 hX dX7_doubles_113 (by decide) ?_
      refine v_istore [(5, .int x6), (7, .int y0), (0, .ref (ad 0)), (1, .int x1), (2, .int x2), (3, .int x3), (4, .int x4), (6, .int x6)] hX dX7_doubles_118 (lt_b rfl) rfl ?_
      refine v_iinc 7 (x6 + 1) [(6, .int (x6 + 1)), (5, .int x6), (7, .int y0), (0, .ref (ad 0)), (1, .int x1), (2, .int x2), (3, .int x3), (4, .int x4)] hX dX7_doubles_120 rfl rfl (lt_b rfl) rfl ?_
      refine v_goto 59 hX dX7_doubles_123 (by decide) ?_
      exact v_sub [3, 4, 5, 6, 7, 1, 0] rfl (hk59 σ x1 x2 x3 x4 x6 (x6 + 1) hf)
set_option maxHeartbeats 4000000 in
set_option maxRecDepth 100000 in
theorem s_X7_doubles_172 {P : PT} {M : MT} {D : va_G} {cs : ClassId × ClassId × ClassId} {ad : Nat → Nat} (hX : VOk P M (mW D cs ad) 9 cX7_doubles RX7 (some .int) 3) (fuel : Nat) (k133 : Mem → Int32 → Int32 → Int32 → Int32 → Int32 → Option (Int32 × Mem))  (z : Int32 × Mem) (hk133 : ∀ (σ : Mem) (x2 : Int32) (x3 : Int32) (x5 : Int32) (x6 : Int32) (x7 : Int32), k133 σ x2 x3 x5 x6 x7 = some z → V P M (mW D cs ad) 9 (QI P M (mW D cs ad) z.1 z.2) 133 [(0, .ref (ad 0)), (2, .int x2), (3, .int x3), (5, .int x5), (6, .int x6), (7, .int x7)] [] σ) (σ : Mem) (x2 : Int32) (x3 : Int32) (x5 : Int32) (x6 : Int32) (x7 : Int32) (y0 : Int32) (hf : f_X7_doubles_172 fuel k133 σ x2 x3 x5 x6 x7 y0 = some z) : V P M (mW D cs ad) 9 (QI P M (mW D cs ad) z.1 z.2) 172 [(0, .ref (ad 0)), (2, .int x2), (3, .int x3), (5, .int x5), (6, .int x6), (7, .int x7)] [.int y0] σ := by
  unfold f_X7_doubles_172 at hf
  refine v_istore [(8, .int y0), (0, .ref (ad 0)), (2, .int x2), (3, .int x3), (5, .int x5), (6, .int x6), (7, .int x7)] hX dX7_doubles_172 (lt_b rfl) rfl ?_
  refine v_iload 0 hX dX7_doubles_174 rfl ?_
  refine v_if_eq 207 hX dX7_doubles_176 (by decide) (fun c => ?_) (fun c => ?_)
  · have hf := opt_t c hf
    refine v_iload 5 hX dX7_doubles_207 rfl ?_
    refine v_istore [(6, .int x6), (8, .int y0), (0, .ref (ad 0)), (2, .int x2), (3, .int x3), (5, .int x5), (7, .int x7)] hX dX7_doubles_209 (lt_b rfl) rfl ?_
    refine v_iinc 6 (x7 + 1) [(7, .int (x7 + 1)), (6, .int x6), (8, .int y0), (0, .ref (ad 0)), (2, .int x2), (3, .int x3), (5, .int x5)] hX dX7_doubles_211 rfl rfl (lt_b rfl) rfl ?_
    refine v_goto 133 hX dX7_doubles_214 (by decide) ?_
    exact v_sub [3, 4, 5, 6, 1, 0] rfl (hk133 σ x2 x3 x5 x6 (x7 + 1) hf)
  · have hf := opt_f c hf
    refine v_aload_n 1 0 hX dX7_doubles_179 rfl rfl ?_
    refine v_get (C := RX7) (T := TX7) (N := 22) (ci := 7) (v := .ref (ad 5)) 0 8 hX dX7_doubles_180 mw_844 rfl inlX7 rfl (lt_b rfl) (lt_b rfl) rfl rfl ?_
    refine v_bipush 11 hX dX7_doubles_183 (by decide) ?_
    refine v_iload 6 hX dX7_doubles_185 rfl ?_
    refine v_iadd hX dX7_doubles_187 ?_
    obtain ⟨hi13, hf⟩ := gd_some hf
    refine v_ald (v := σ 5 ((11 + x7).toNatClampNeg)) 5 hX dX7_doubles_188 (lt_b rfl) ((fun _ => rfl) _) hi13 rfl ?_
    refine v_iload 5 hX dX7_doubles_189 rfl ?_
    refine v_icmp_ge 207 hX dX7_doubles_191 (by decide) (fun c => ?_) (fun c => ?_)
    · have hf := opt_t c hf
      refine v_iload 5 hX dX7_doubles_207 rfl ?_
      refine v_istore [(6, .int x6), (8, .int y0), (0, .ref (ad 0)), (2, .int x2), (3, .int x3), (5, .int x5), (7, .int x7)] hX dX7_doubles_209 (lt_b rfl) rfl ?_
      refine v_iinc 6 (x7 + 1) [(7, .int (x7 + 1)), (6, .int x6), (8, .int y0), (0, .ref (ad 0)), (2, .int x2), (3, .int x3), (5, .int x5)] hX dX7_doubles_211 rfl rfl (lt_b rfl) rfl ?_
      refine v_goto 133 hX dX7_doubles_214 (by decide) ?_
      exact v_sub [3, 4, 5, 6, 1, 0] rfl (hk133 σ x2 x3 x5 x6 (x7 + 1) hf)
    · have hf := opt_f c hf
      refine v_aload_n 1 0 hX dX7_doubles_194 rfl rfl ?_
      refine v_get (C := RX7) (T := TX7) (N := 22) (ci := 7) (v := .ref (ad 5)) 0 8 hX dX7_doubles_195 mw_844 rfl inlX7 rfl (lt_b rfl) (lt_b rfl) rfl rfl ?_
      refine v_bipush 11 hX dX7_doubles_198 (by decide) ?_
      refine v_iload 6 hX dX7_doubles_200 rfl ?_
      refine v_iadd hX dX7_doubles_202 ?_
      obtain ⟨hi14, hf⟩ := gd_some hf
      refine v_ald (v := σ 5 ((11 + x7).toNatClampNeg)) 5 hX dX7_doubles_203 (lt_b rfl) ((fun _ => rfl) _) hi14 rfl ?_
      refine v_goto 209 hX dX7_doubles_204 (by decide) ?_
      refine v_istore [(6, .int (σ 5 ((11 + x7).toNatClampNeg))), (8, .int y0), (0, .ref (ad 0)), (2, .int x2), (3, .int x3), (5, .int x5), (7, .int x7)] hX dX7_doubles_209 (lt_b rfl) rfl ?_
      refine v_iinc 6 (x7 + 1) [(7, .int (x7 + 1)), (6, .int (σ 5 ((11 + x7).toNatClampNeg))), (8, .int y0), (0, .ref (ad 0)), (2, .int x2), (3, .int x3), (5, .int x5)] hX dX7_doubles_211 rfl rfl (lt_b rfl) rfl ?_
      refine v_goto 133 hX dX7_doubles_214 (by decide) ?_
      exact v_sub [3, 4, 5, 6, 1, 0] rfl (hk133 σ x2 x3 x5 (σ 5 ((11 + x7).toNatClampNeg)) (x7 + 1) hf)
set_option maxHeartbeats 4000000 in
set_option maxRecDepth 100000 in
theorem s_X7_doubles_133 {P : PT} {M : MT} {D : va_G} {cs : ClassId × ClassId × ClassId} {ad : Nat → Nat} (hX : VOk P M (mW D cs ad) 9 cX7_doubles RX7 (some .int) 3) (fuel : Nat)   (z : Int32 × Mem)  : ∀ (n : Nat) (σ : Mem) (x2 : Int32) (x3 : Int32) (x5 : Int32) (x6 : Int32) (x7 : Int32), f_X7_doubles_133 fuel n σ x2 x3 x5 x6 x7 = some z → V P M (mW D cs ad) 9 (QI P M (mW D cs ad) z.1 z.2) 133 [(0, .ref (ad 0)), (2, .int x2), (3, .int x3), (5, .int x5), (6, .int x6), (7, .int x7)] [] σ := by
  intro n
  induction n with
  | zero =>
    intro σ x2 x3 x5 x6 x7 hf
    cases hf
  | succ n hk133 =>
    intro σ x2 x3 x5 x6 x7 hf
    rw [f_X7_doubles_133] at hf
    refine v_iload 5 hX dX7_doubles_133 rfl ?_
    refine v_aload_n 0 0 hX dX7_doubles_135 rfl rfl ?_
    refine v_get (C := RX7) (T := TX7) (N := 22) (ci := 7) (v := .ref (ad 5)) 0 8 hX dX7_doubles_136 mw_844 rfl inlX7 rfl (lt_b rfl) (lt_b rfl) rfl rfl ?_
    refine v_iconst 2 hX dX7_doubles_139 (by decide) ?_
    refine v_aldc (v := σ 5 2) 5 2 hX dX7_doubles_140 (lt_b rfl) ((fun _ => rfl) _) ib_2_85 tn_2 rfl ?_
    refine v_icmp_ge 217 hX dX7_doubles_141 (by decide) (fun c => ?_) (fun c => ?_)
    · have hf := opt_t c hf
      refine v_iload 3 hX dX7_doubles_217 rfl ?_
      refine v_if_ne 224 hX dX7_doubles_219 (by decide) (fun c => ?_) (fun c => ?_)
      · have hf := opt_f c hf
        refine v_iload 4 hX dX7_doubles_224 rfl ?_
        refine v_ldc 1000000 hX dX7_doubles_226 mw_1143 ?_
        refine v_icmp_ne 234 hX dX7_doubles_228 (by decide) (fun c => ?_) (fun c => ?_)
        · have hf := opt_f c hf
          refine v_iload_n 2 3 hX dX7_doubles_234 rfl rfl ?_
          refine v_if_ne 246 hX dX7_doubles_235 (by decide) (fun c => ?_) (fun c => ?_)
          · have hf := opt_f c hf
            refine v_iload_n 2 3 hX dX7_doubles_246 rfl rfl ?_
            refine v_iconst 1 hX dX7_doubles_247 (by decide) ?_
            refine v_icmp_ne 262 hX dX7_doubles_248 (by decide) (fun c => ?_) (fun c => ?_)
            · have hf := opt_f c hf
              refine v_iload 3 hX dX7_doubles_262 rfl ?_
              obtain rfl := Option.some.inj hf
              exact v_iret (r := x5) hX dX7_doubles_264 rfl
            · have hf := opt_t c hf
              refine v_iload 4 hX dX7_doubles_251 rfl ?_
              refine v_iload 3 hX dX7_doubles_253 rfl ?_
              obtain ⟨v8, hc, hf⟩ := opt_b hf
              refine v_callSi (rest := [.int x6]) (As := [.int x5]) hX dX7_doubles_255 (c_X7_bits σ fuel x5 hc) rfl rfl mw_1141 mw_64 mw_1140 mw_1142 gAll ds_X7_bits rfl ⟨Nat.le_of_ble_eq_true rfl, Nat.le_of_ble_eq_true rfl⟩ (Nat.le_of_ble_eq_true rfl) ?_
              refine v_imul hX dX7_doubles_258 ?_
              refine v_goto 264 hX dX7_doubles_259 (by decide) ?_
              obtain rfl := Option.some.inj hf
              exact v_iret (r := x6 * v8) hX dX7_doubles_264 rfl
          · have hf := opt_t c hf
            refine v_iload 3 hX dX7_doubles_238 rfl ?_
            obtain ⟨v9, hc, hf⟩ := opt_b hf
            refine v_callSi (rest := []) (As := [.int x5]) hX dX7_doubles_240 (c_X7_bits σ fuel x5 hc) rfl rfl mw_1141 mw_64 mw_1140 mw_1142 gAll ds_X7_bits rfl ⟨Nat.le_of_ble_eq_true rfl, Nat.le_of_ble_eq_true rfl⟩ (Nat.le_of_ble_eq_true rfl) ?_
            refine v_goto 264 hX dX7_doubles_243 (by decide) ?_
            obtain rfl := Option.some.inj hf
            exact v_iret (r := v9) hX dX7_doubles_264 rfl
        · have hf := opt_t c hf
          refine v_ldc (-1000000) hX dX7_doubles_231 mw_1081 ?_
          obtain rfl := Option.some.inj hf
          exact v_iret (r := (-1000000)) hX dX7_doubles_233 rfl
      · have hf := opt_t c hf
        refine v_iconst 0 hX dX7_doubles_222 (by decide) ?_
        obtain rfl := Option.some.inj hf
        exact v_iret (r := 0) hX dX7_doubles_223 rfl
    · have hf := opt_f c hf
      refine v_iload_n 1 2 hX dX7_doubles_144 rfl rfl ?_
      refine v_iload 5 hX dX7_doubles_145 rfl ?_
      refine v_ishr hX dX7_doubles_147 ?_
      refine v_iconst 1 hX dX7_doubles_148 (by decide) ?_
      refine v_iand hX dX7_doubles_149 ?_
      refine v_if_ne 171 hX dX7_doubles_150 (by decide) (fun c => ?_) (fun c => ?_)
      · have hf := opt_f c hf
        refine v_iconst 0 hX dX7_doubles_171 (by decide) ?_
        exact (s_X7_doubles_172 hX fuel (f_X7_doubles_133 fuel n) z hk133 σ x2 x3 x5 x6 x7 0 hf)
      · have hf := opt_t c hf
        refine v_aload_n 0 0 hX dX7_doubles_153 rfl rfl ?_
        refine v_get (C := RX7) (T := TX7) (N := 22) (ci := 7) (v := .ref (ad 5)) 0 8 hX dX7_doubles_154 mw_844 rfl inlX7 rfl (lt_b rfl) (lt_b rfl) rfl rfl ?_
        refine v_bipush 7 hX dX7_doubles_157 (by decide) ?_
        refine v_iload 5 hX dX7_doubles_159 rfl ?_
        refine v_iadd hX dX7_doubles_161 ?_
        obtain ⟨hi10, hf⟩ := gd_some hf
        refine v_ald (v := σ 5 ((7 + x7).toNatClampNeg)) 5 hX dX7_doubles_162 (lt_b rfl) ((fun _ => rfl) _) hi10 rfl ?_
        refine v_iconst 3 hX dX7_doubles_163 (by decide) ?_
        refine v_icmp_eq 171 hX dX7_doubles_164 (by decide) (fun c => ?_) (fun c => ?_)
        · have hf := opt_t c hf
          refine v_iconst 0 hX dX7_doubles_171 (by decide) ?_
          exact (s_X7_doubles_172 hX fuel (f_X7_doubles_133 fuel n) z hk133 σ x2 x3 x5 x6 x7 0 hf)
        · have hf := opt_f c hf
          refine v_iconst 1 hX dX7_doubles_167 (by decide) ?_
          refine v_goto 172 hX dX7_doubles_168 (by decide) ?_
          exact (s_X7_doubles_172 hX fuel (f_X7_doubles_133 fuel n) z hk133 σ x2 x3 x5 x6 x7 1 hf)
set_option maxHeartbeats 4000000 in
set_option maxRecDepth 100000 in
theorem s_X7_doubles_59 {P : PT} {M : MT} {D : va_G} {cs : ClassId × ClassId × ClassId} {ad : Nat → Nat} (hX : VOk P M (mW D cs ad) 9 cX7_doubles RX7 (some .int) 3) (fuel : Nat)   (z : Int32 × Mem)  : ∀ (n : Nat) (σ : Mem) (x1 : Int32) (x2 : Int32) (x3 : Int32) (x4 : Int32) (x5 : Int32) (x6 : Int32), f_X7_doubles_59 fuel n σ x1 x2 x3 x4 x5 x6 = some z → V P M (mW D cs ad) 9 (QI P M (mW D cs ad) z.1 z.2) 59 [(0, .ref (ad 0)), (1, .int x1), (2, .int x2), (3, .int x3), (4, .int x4), (5, .int x5), (6, .int x6)] [] σ := by
  intro n
  induction n with
  | zero =>
    intro σ x1 x2 x3 x4 x5 x6 hf
    cases hf
  | succ n hk59 =>
    intro σ x1 x2 x3 x4 x5 x6 hf
    rw [f_X7_doubles_59] at hf
    refine v_iload 6 hX dX7_doubles_59 rfl ?_
    refine v_bipush 64 hX dX7_doubles_61 (by decide) ?_
    refine v_icmp_ge 126 hX dX7_doubles_63 (by decide) (fun c => ?_) (fun c => ?_)
    · have hf := opt_t c hf
      refine v_ldc 1000000 hX dX7_doubles_126 mw_1143 ?_
      refine v_istore [(6, .int 1000000), (0, .ref (ad 0)), (1, .int x1), (2, .int x2), (3, .int x3), (4, .int x4), (5, .int x5)] hX dX7_doubles_128 (lt_b rfl) rfl ?_
      refine v_iconst 0 hX dX7_doubles_130 (by decide) ?_
      refine v_istore [(7, .int 0), (6, .int 1000000), (0, .ref (ad 0)), (1, .int x1), (2, .int x2), (3, .int x3), (4, .int x4), (5, .int x5)] hX dX7_doubles_131 (lt_b rfl) rfl ?_
      exact v_sub [2, 4, 5, 7, 1, 0] rfl (s_X7_doubles_133 hX fuel z  fuel σ x2 x3 x5 1000000 0 hf)
    · have hf := opt_f c hf
      refine v_aload_n 0 0 hX dX7_doubles_66 rfl rfl ?_
      refine v_get (C := RX7) (T := TX7) (N := 22) (ci := 7) (v := .ref (ad 11)) 0 21 hX dX7_doubles_67 mw_857 rfl inlX7 rfl (lt_b rfl) (lt_b rfl) rfl rfl ?_
      refine v_iload 4 hX dX7_doubles_70 rfl ?_
      refine v_iload 6 hX dX7_doubles_72 rfl ?_
      refine v_ior hX dX7_doubles_74 ?_
      obtain ⟨v7, hc, hf⟩ := opt_b hf
      refine v_callSi (rest := []) (As := [.ref (ad 11), .int (x4 ||| x6)]) hX dX7_doubles_75 (c_X7_standBy_a fuel σ (x4 ||| x6) hc) rfl rfl mw_1058 mw_64 mw_1057 mw_1059 gAll ds_X7_standBy rfl ⟨Nat.le_of_ble_eq_true rfl, Nat.le_of_ble_eq_true rfl⟩ (Nat.le_of_ble_eq_true rfl) ?_
      refine v_iload_n 1 1 hX dX7_doubles_78 rfl rfl ?_
      refine v_ishr hX dX7_doubles_79 ?_
      refine v_iconst 1 hX dX7_doubles_80 (by decide) ?_
      refine v_iand hX dX7_doubles_81 ?_
      refine v_iconst 1 hX dX7_doubles_82 (by decide) ?_
      refine v_icmp_ne 90 hX dX7_doubles_83 (by decide) (fun c => ?_) (fun c => ?_)
      · have hf := opt_f c hf
        refine v_iconst 0 hX dX7_doubles_90 (by decide) ?_
        exact (s_X7_doubles_91 hX fuel (f_X7_doubles_59 fuel n) z hk59 σ x1 x2 x3 x4 x5 x6 0 hf)
      · have hf := opt_t c hf
        refine v_iconst 1 hX dX7_doubles_86 (by decide) ?_
        refine v_goto 91 hX dX7_doubles_87 (by decide) ?_
        exact (s_X7_doubles_91 hX fuel (f_X7_doubles_59 fuel n) z hk59 σ x1 x2 x3 x4 x5 x6 1 hf)
set_option maxHeartbeats 4000000 in
set_option maxRecDepth 100000 in
theorem c_X7_doubles {l : Launch} {D : va_G} {cs : ClassId × ClassId × ClassId} {ad : Nat → Nat} (σ : Mem) (fuel : Nat)  (x1 : Int32) (x2 : Int32) (x3 : Int32) {z : Int32 × Mem} (hf : f_X7_doubles fuel σ x1 x2 x3 = some z) : CtI l (mW D cs ad) 3 yX7_doubles cX7_doubles 9 (some .int) [.ref (ad 0), .int x1, .int x2, .int x3] σ z.1 z.2 := by
  refine ct_I RX7 [(0, .ref (ad 0)), (1, .int x1), (2, .int x2), (3, .int x3)] (by decide +kernel) rfl rfl (Nat.le_of_ble_eq_true rfl) ?_
  intro P M hl0 hX
  unfold f_X7_doubles at hf
  refine v_aload_n 0 0 hX dX7_doubles_0 rfl rfl ?_
  refine v_iload_n 1 1 hX dX7_doubles_1 rfl rfl ?_
  obtain ⟨v1, hc, hf⟩ := opt_b hf
  refine v_callVi (rest := []) (As := [.int x1]) (C := RX7) (T := TX7) (N := 22) (ci := 7) 0 hX dX7_doubles_2 (c_X7_isDeed σ x1 hc) rfl rfl (lt_b rfl) rfl rfl rfl mw_1078 mw_44 mw_64 mw_1076 mw_1079 gAll ds_X7_isDeed rfl ⟨Nat.le_of_ble_eq_true rfl, Nat.le_of_ble_eq_true rfl⟩ (Nat.le_of_ble_eq_true rfl) ?_
  refine v_if_eq 28 hX dX7_doubles_5 (by decide) (fun c => ?_) (fun c => ?_)
  · have hf := opt_t c hf
    refine v_ldc (-1000001) hX dX7_doubles_28 mw_916 ?_
    obtain rfl := Option.some.inj hf
    exact v_iret (r := (-1000001)) hX dX7_doubles_30 rfl
  · have hf := opt_f c hf
    refine v_aload_n 0 0 hX dX7_doubles_8 rfl rfl ?_
    refine v_iload_n 2 2 hX dX7_doubles_9 rfl rfl ?_
    obtain ⟨v2, hc, hf⟩ := opt_b hf
    refine v_callVi (rest := []) (As := [.int x2]) (C := RX7) (T := TX7) (N := 22) (ci := 7) 0 hX dX7_doubles_10 (c_X7_areHands σ x2 hc) rfl rfl (lt_b rfl) rfl rfl rfl mw_1095 mw_45 mw_64 mw_1093 mw_1096 gAll ds_X7_areHands rfl ⟨Nat.le_of_ble_eq_true rfl, Nat.le_of_ble_eq_true rfl⟩ (Nat.le_of_ble_eq_true rfl) ?_
    refine v_if_eq 28 hX dX7_doubles_13 (by decide) (fun c => ?_) (fun c => ?_)
    · have hf := opt_t c hf
      refine v_ldc (-1000001) hX dX7_doubles_28 mw_916 ?_
      obtain rfl := Option.some.inj hf
      exact v_iret (r := (-1000001)) hX dX7_doubles_30 rfl
    · have hf := opt_f c hf
      refine v_iload_n 3 3 hX dX7_doubles_16 rfl rfl ?_
      refine v_i2l hX dX7_doubles_17 ?_
      refine v_lconst 0 hX dX7_doubles_18 (by decide) ?_
      refine v_ldc2 2 hX dX7_doubles_19 mw_915 ?_
      obtain ⟨v3, hc, hf⟩ := opt_b hf
      refine v_callSi (rest := []) (As := [.long x3.toInt64, .long 0, .long 2]) hX dX7_doubles_22 (c_X7_in σ x3.toInt64 0 2 hc) rfl rfl mw_913 mw_64 mw_912 mw_914 gAll ds_X7_in rfl ⟨Nat.le_of_ble_eq_true rfl, Nat.le_of_ble_eq_true rfl⟩ (Nat.le_of_ble_eq_true rfl) ?_
      refine v_if_ne 31 hX dX7_doubles_25 (by decide) (fun c => ?_) (fun c => ?_)
      · have hf := opt_f c hf
        refine v_aload_n 0 0 hX dX7_doubles_31 rfl rfl ?_
        obtain ⟨v4, hc, hf⟩ := opt_b hf
        refine v_callVv (rest := []) (As := []) (C := RX7) (T := TX7) (N := 22) (ci := 7) 0 hX dX7_doubles_32 (c_X7_layAside σ fuel hc) rfl rfl (lt_b rfl) rfl rfl rfl mw_1103 mw_47 mw_64 mw_1101 mw_1104 gAll ds_X7_layAside rfl ⟨Nat.le_of_ble_eq_true rfl, Nat.le_of_ble_eq_true rfl⟩ (Nat.le_of_ble_eq_true rfl) ?_
        refine v_aload_n 0 0 hX dX7_doubles_35 rfl rfl ?_
        refine v_get (C := RX7) (T := TX7) (N := 22) (ci := 7) (v := .ref (ad 11)) 0 21 hX dX7_doubles_36 mw_857 rfl inlX7 rfl (lt_b rfl) (lt_b rfl) rfl rfl ?_
        refine v_iload_n 2 2 hX dX7_doubles_39 rfl rfl ?_
        obtain ⟨v5, hc, hf⟩ := opt_b hf
        refine v_callSv (rest := []) (As := [.ref (ad 11), .int x2]) hX dX7_doubles_40 (c_X7_recalls v4 fuel x2 hc) rfl rfl mw_1106 mw_64 mw_1105 mw_1107 gAll ds_X7_recalls rfl ⟨Nat.le_of_ble_eq_true rfl, Nat.le_of_ble_eq_true rfl⟩ (Nat.le_of_ble_eq_true rfl) ?_
        refine v_aload_n 0 0 hX dX7_doubles_43 rfl rfl ?_
        refine v_get (C := RX7) (T := TX7) (N := 22) (ci := 7) (v := .ref (ad 11)) 0 21 hX dX7_doubles_44 mw_857 rfl inlX7 rfl (lt_b rfl) (lt_b rfl) rfl rfl ?_
        obtain ⟨v6, hc, hf⟩ := opt_b hf
        refine v_callSi (rest := []) (As := [.ref (ad 11)]) hX dX7_doubles_47 (c_X7_black_a fuel v5 hc) rfl rfl mw_1044 mw_64 mw_1043 mw_1045 gAll ds_X7_black rfl ⟨Nat.le_of_ble_eq_true rfl, Nat.le_of_ble_eq_true rfl⟩ (Nat.le_of_ble_eq_true rfl) ?_
        refine v_istore [(4, .int v6), (0, .ref (ad 0)), (1, .int x1), (2, .int x2), (3, .int x3)] hX dX7_doubles_50 (lt_b rfl) rfl ?_
        refine v_bipush 63 hX dX7_doubles_52 (by decide) ?_
        refine v_istore [(5, .int 63), (4, .int v6), (0, .ref (ad 0)), (1, .int x1), (2, .int x2), (3, .int x3)] hX dX7_doubles_54 (lt_b rfl) rfl ?_
        refine v_iconst 0 hX dX7_doubles_56 (by decide) ?_
        refine v_istore [(6, .int 0), (5, .int 63), (4, .int v6), (0, .ref (ad 0)), (1, .int x1), (2, .int x2), (3, .int x3)] hX dX7_doubles_57 (lt_b rfl) rfl ?_
        exact v_sub [3, 4, 5, 6, 2, 1, 0] rfl (s_X7_doubles_59 hX fuel z  fuel v5 x1 x2 x3 v6 63 0 hf)
      · have hf := opt_t c hf
        refine v_ldc (-1000001) hX dX7_doubles_28 mw_916 ?_
        obtain rfl := Option.some.inj hf
        exact v_iret (r := (-1000001)) hX dX7_doubles_30 rfl
set_option maxHeartbeats 4000000 in
set_option maxRecDepth 100000 in
theorem s_X7_law_21 {P : PT} {M : MT} {D : va_G} {cs : ClassId × ClassId × ClassId} {ad : Nat → Nat} (hX : VOk P M (mW D cs ad) 4 cX7_law RX7 (some .int) 3) (fuel : Nat)   (z : Int32 × Mem)  : ∀ (n : Nat) (σ : Mem) (x1 : Int32) (x2 : Int32) (x3 : Int32), f_X7_law_21 fuel n σ x1 x2 x3 = some z → V P M (mW D cs ad) 4 (QI P M (mW D cs ad) z.1 z.2) 21 [(0, .ref (ad 0)), (1, .int x1), (2, .int x2), (3, .int x3)] [] σ := by
  intro n
  induction n with
  | zero =>
    intro σ x1 x2 x3 hf
    cases hf
  | succ n hk21 =>
    intro σ x1 x2 x3 hf
    rw [f_X7_law_21] at hf
    refine v_iload_n 3 3 hX dX7_law_21 rfl rfl ?_
    refine v_bipush 100 hX dX7_law_22 (by decide) ?_
    refine v_icmp_ge 68 hX dX7_law_24 (by decide) (fun c => ?_) (fun c => ?_)
    · have hf := opt_t c hf
      refine v_ldc (-1000000) hX dX7_law_68 mw_1081 ?_
      obtain rfl := Option.some.inj hf
      exact v_iret (r := (-1000000)) hX dX7_law_70 rfl
    · have hf := opt_f c hf
      refine v_aload_n 0 0 hX dX7_law_27 rfl rfl ?_
      obtain ⟨v3, hc, hf⟩ := opt_b hf
      refine v_callVv (rest := []) (As := []) (C := RX7) (T := TX7) (N := 22) (ci := 7) 0 hX dX7_law_28 (c_X7_layAside σ fuel hc) rfl rfl (lt_b rfl) rfl rfl rfl mw_1103 mw_47 mw_64 mw_1101 mw_1104 gAll ds_X7_layAside rfl ⟨Nat.le_of_ble_eq_true rfl, Nat.le_of_ble_eq_true rfl⟩ (Nat.le_of_ble_eq_true rfl) ?_
      refine v_aload_n 0 0 hX dX7_law_31 rfl rfl ?_
      refine v_get (C := RX7) (T := TX7) (N := 22) (ci := 7) (v := .ref (ad 11)) 0 21 hX dX7_law_32 mw_857 rfl inlX7 rfl (lt_b rfl) (lt_b rfl) rfl rfl ?_
      refine v_iconst 0 hX dX7_law_35 (by decide) ?_
      refine v_iload_n 3 3 hX dX7_law_36 rfl rfl ?_
      refine v_astc 11 0 hX dX7_law_37 (lt_b rfl) (fun _ => rfl) ib_0_85 tn_0 ?_
      refine v_aload_n 0 0 hX dX7_law_38 rfl rfl ?_
      refine v_get (C := RX7) (T := TX7) (N := 22) (ci := 7) (v := .ref (ad 11)) 0 21 hX dX7_law_39 mw_857 rfl inlX7 rfl (lt_b rfl) (lt_b rfl) rfl rfl ?_
      refine v_iload_n 2 2 hX dX7_law_42 rfl rfl ?_
      obtain ⟨v4, hc, hf⟩ := opt_b hf
      refine v_callSv (rest := []) (As := [.ref (ad 11), .int x2]) hX dX7_law_43 (c_X7_recalls (mst v3 11 0 x3) fuel x2 hc) rfl rfl mw_1106 mw_64 mw_1105 mw_1107 gAll ds_X7_recalls rfl ⟨Nat.le_of_ble_eq_true rfl, Nat.le_of_ble_eq_true rfl⟩ (Nat.le_of_ble_eq_true rfl) ?_
      refine v_aload_n 0 0 hX dX7_law_46 rfl rfl ?_
      refine v_get (C := RX7) (T := TX7) (N := 22) (ci := 7) (v := .ref (ad 11)) 0 21 hX dX7_law_47 mw_857 rfl inlX7 rfl (lt_b rfl) (lt_b rfl) rfl rfl ?_
      obtain ⟨v5, hc, hf⟩ := opt_b hf
      refine v_callSi (rest := []) (As := [.ref (ad 11)]) hX dX7_law_50 (c_X7_stand_a fuel v4 hc) rfl rfl mw_1055 mw_64 mw_1054 mw_1056 gAll ds_X7_stand rfl ⟨Nat.le_of_ble_eq_true rfl, Nat.le_of_ble_eq_true rfl⟩ (Nat.le_of_ble_eq_true rfl) ?_
      refine v_iload_n 1 1 hX dX7_law_53 rfl rfl ?_
      refine v_ishr hX dX7_law_54 ?_
      refine v_iconst 1 hX dX7_law_55 (by decide) ?_
      refine v_iand hX dX7_law_56 ?_
      refine v_if_ne 62 hX dX7_law_57 (by decide) (fun c => ?_) (fun c => ?_)
      · have hf := opt_f c hf
        refine v_iinc 3 (x3 + 1) [(3, .int (x3 + 1)), (0, .ref (ad 0)), (1, .int x1), (2, .int x2)] hX dX7_law_62 rfl rfl (lt_b rfl) rfl ?_
        refine v_goto 21 hX dX7_law_65 (by decide) ?_
        exact v_sub [1, 2, 3, 0] rfl (hk21 v4 x1 x2 (x3 + 1) hf)
      · have hf := opt_t c hf
        refine v_iload_n 3 3 hX dX7_law_60 rfl rfl ?_
        obtain rfl := Option.some.inj hf
        exact v_iret (r := x3) hX dX7_law_61 rfl
set_option maxHeartbeats 4000000 in
set_option maxRecDepth 100000 in
theorem c_X7_law {l : Launch} {D : va_G} {cs : ClassId × ClassId × ClassId} {ad : Nat → Nat} (σ : Mem) (fuel : Nat)  (x1 : Int32) (x2 : Int32) {z : Int32 × Mem} (hf : f_X7_law fuel σ x1 x2 = some z) : CtI l (mW D cs ad) 3 yX7_law cX7_law 4 (some .int) [.ref (ad 0), .int x1, .int x2] σ z.1 z.2 := by
  refine ct_I RX7 [(0, .ref (ad 0)), (1, .int x1), (2, .int x2)] (by decide +kernel) rfl rfl (Nat.le_of_ble_eq_true rfl) ?_
  intro P M hl0 hX
  unfold f_X7_law at hf
  refine v_aload_n 0 0 hX dX7_law_0 rfl rfl ?_
  refine v_iload_n 1 1 hX dX7_law_1 rfl rfl ?_
  obtain ⟨v1, hc, hf⟩ := opt_b hf
  refine v_callVi (rest := []) (As := [.int x1]) (C := RX7) (T := TX7) (N := 22) (ci := 7) 0 hX dX7_law_2 (c_X7_isDeed σ x1 hc) rfl rfl (lt_b rfl) rfl rfl rfl mw_1078 mw_44 mw_64 mw_1076 mw_1079 gAll ds_X7_isDeed rfl ⟨Nat.le_of_ble_eq_true rfl, Nat.le_of_ble_eq_true rfl⟩ (Nat.le_of_ble_eq_true rfl) ?_
  refine v_if_eq 16 hX dX7_law_5 (by decide) (fun c => ?_) (fun c => ?_)
  · have hf := opt_t c hf
    refine v_ldc (-1000001) hX dX7_law_16 mw_916 ?_
    obtain rfl := Option.some.inj hf
    exact v_iret (r := (-1000001)) hX dX7_law_18 rfl
  · have hf := opt_f c hf
    refine v_aload_n 0 0 hX dX7_law_8 rfl rfl ?_
    refine v_iload_n 2 2 hX dX7_law_9 rfl rfl ?_
    obtain ⟨v2, hc, hf⟩ := opt_b hf
    refine v_callVi (rest := []) (As := [.int x2]) (C := RX7) (T := TX7) (N := 22) (ci := 7) 0 hX dX7_law_10 (c_X7_areHands σ x2 hc) rfl rfl (lt_b rfl) rfl rfl rfl mw_1095 mw_45 mw_64 mw_1093 mw_1096 gAll ds_X7_areHands rfl ⟨Nat.le_of_ble_eq_true rfl, Nat.le_of_ble_eq_true rfl⟩ (Nat.le_of_ble_eq_true rfl) ?_
    refine v_if_ne 19 hX dX7_law_13 (by decide) (fun c => ?_) (fun c => ?_)
    · have hf := opt_f c hf
      refine v_iconst 1 hX dX7_law_19 (by decide) ?_
      refine v_istore_n 3 [(3, .int 1), (0, .ref (ad 0)), (1, .int x1), (2, .int x2)] hX dX7_law_20 rfl (lt_b rfl) rfl ?_
      exact v_sub [1, 2, 3, 0] rfl (s_X7_law_21 hX fuel z  fuel σ x1 x2 1 hf)
    · have hf := opt_t c hf
      refine v_ldc (-1000001) hX dX7_law_16 mw_916 ?_
      obtain rfl := Option.some.inj hf
      exact v_iret (r := (-1000001)) hX dX7_law_18 rfl
set_option maxHeartbeats 4000000 in
set_option maxRecDepth 100000 in
theorem s_X4_readHands_32 {P : PT} {M : MT} {D : va_G} {cs : ClassId × ClassId × ClassId} {ad : Nat → Nat} {ts : Nat × Nat × Nat} (hX : VOk P M (xW D cs ad ts) 2 cX4_readHands RX4 (some .boolean) 4) (fuel : Nat)   (z : Int32 × Mem)  (σ : Mem) (hf : f_X4_readHands_32 fuel σ = some z) : V P M (xW D cs ad ts) 2 (QI P M (xW D cs ad ts) z.1 z.2) 32 [(0, .ref (ad 46))] [] σ := by
  unfold f_X4_readHands_32 at hf
  refine v_aload_n 0 0 hX dX4_readHands_32 rfl rfl ?_
  refine v_get (C := RX4) (T := TX4) (N := 5) (ci := 4) (v := .ref (ad 48)) 46 1 hX dX4_readHands_33 mw_215 rfl inlX4 rfl (lt_b rfl) (lt_b rfl) rfl rfl ?_
  refine v_get (C := RX1) (T := TX1) (N := 19) (ci := 1) (v := .int (σ 48 6)) 48 6 hX dX4_readHands_36 mw_128 rfl inlX1 rfl (lt_b rfl) (lt_b rfl) rfl rfl ?_
  refine v_if_gt 50 hX dX4_readHands_39 (by decide) (fun c => ?_) (fun c => ?_)
  · have hf := opt_t c hf
    refine v_iconst 1 hX dX4_readHands_50 (by decide) ?_
    refine v_goto 55 hX dX4_readHands_51 (by decide) ?_
    obtain rfl := Option.some.inj hf
    exact v_iret (r := 1) hX dX4_readHands_55 rfl
  · have hf := opt_f c hf
    refine v_aload_n 0 0 hX dX4_readHands_42 rfl rfl ?_
    refine v_iconst 1 hX dX4_readHands_43 (by decide) ?_
    obtain ⟨v4, hc, hf⟩ := opt_b hf
    refine v_callVi (rest := []) (As := [.int 1]) (C := RX4) (T := TX4) (N := 5) (ci := 4) 46 hX dX4_readHands_44 (c_X4_fail σ 1 hc) rfl rfl (lt_b rfl) rfl rfl rfl mw_402 mw_5 mw_60 mw_400 mw_403 gAll ds_X4_fail rfl ⟨Nat.le_of_ble_eq_true rfl, Nat.le_of_ble_eq_true rfl⟩ (Nat.le_of_ble_eq_true rfl) ?_
    refine v_if_eq 54 hX dX4_readHands_47 (by decide) (fun c => ?_) (fun c => ?_)
    · have hf := opt_t c hf
      refine v_iconst 0 hX dX4_readHands_54 (by decide) ?_
      obtain rfl := Option.some.inj hf
      exact v_iret (r := 0) hX dX4_readHands_55 rfl
    · have hf := opt_f c hf
      refine v_iconst 1 hX dX4_readHands_50 (by decide) ?_
      refine v_goto 55 hX dX4_readHands_51 (by decide) ?_
      obtain rfl := Option.some.inj hf
      exact v_iret (r := 1) hX dX4_readHands_55 rfl
set_option maxHeartbeats 4000000 in
set_option maxRecDepth 100000 in
theorem s_X4_readHands_2 {P : PT} {M : MT} {D : va_G} {cs : ClassId × ClassId × ClassId} {ad : Nat → Nat} {ts : Nat × Nat × Nat} (hX : VOk P M (xW D cs ad ts) 2 cX4_readHands RX4 (some .boolean) 4) (fuel : Nat)   (z : Int32 × Mem)  : ∀ (n : Nat) (σ : Mem) (x1 : Int32), f_X4_readHands_2 fuel n σ x1 = some z → V P M (xW D cs ad ts) 2 (QI P M (xW D cs ad ts) z.1 z.2) 2 [(0, .ref (ad 46)), (1, .int x1)] [] σ := by
  intro n
  induction n with
  | zero =>
    intro σ x1 hf
    cases hf
  | succ n hk2 =>
    intro σ x1 hf
    rw [f_X4_readHands_2] at hf
    refine v_iload_n 1 1 hX dX4_readHands_2 rfl rfl ?_
    refine v_iconst 4 hX dX4_readHands_3 (by decide) ?_
    refine v_icmp_gt 32 hX dX4_readHands_4 (by decide) (fun c => ?_) (fun c => ?_)
    · have hf := opt_t c hf
      exact v_sub [0] rfl (s_X4_readHands_32 hX fuel z  σ hf)
    · have hf := opt_f c hf
      refine v_aload_n 0 0 hX dX4_readHands_7 rfl rfl ?_
      obtain ⟨v1, hc, hf⟩ := opt_b hf
      refine v_callVi (rest := []) (As := []) (C := RX4) (T := TX4) (N := 5) (ci := 4) 46 hX dX4_readHands_8 (c_X4_next σ hc) rfl rfl (lt_b rfl) rfl rfl rfl mw_398 mw_4 mw_60 mw_396 mw_399 gAll ds_X4_next rfl ⟨Nat.le_of_ble_eq_true rfl, Nat.le_of_ble_eq_true rfl⟩ (Nat.le_of_ble_eq_true rfl) ?_
      obtain ⟨v2, hc, hf⟩ := opt_b hf
      refine v_callSi (rest := []) (As := [.int v1]) hX dX4_readHands_11 (c_X4_kindOfSort σ v1 hc) rfl rfl mw_421 mw_60 mw_420 mw_422 gAll ds_X4_kindOfSort rfl ⟨Nat.le_of_ble_eq_true rfl, Nat.le_of_ble_eq_true rfl⟩ (Nat.le_of_ble_eq_true rfl) ?_
      refine v_if_eq 32 hX dX4_readHands_14 (by decide) (fun c => ?_) (fun c => ?_)
      · have hf := opt_t c hf
        exact v_sub [0] rfl (s_X4_readHands_32 hX fuel z  σ hf)
      · have hf := opt_f c hf
        refine v_aload_n 0 0 hX dX4_readHands_17 rfl rfl ?_
        obtain ⟨v3, hc, hf⟩ := opt_b hf
        refine v_callVi (rest := []) (As := []) (C := RX4) (T := TX4) (N := 5) (ci := 4) 46 hX dX4_readHands_18 (c_X4_readHand σ fuel hc) rfl rfl (lt_b rfl) rfl rfl rfl mw_425 mw_10 mw_60 mw_423 mw_426 gAll ds_X4_readHand rfl ⟨Nat.le_of_ble_eq_true rfl, Nat.le_of_ble_eq_true rfl⟩ (Nat.le_of_ble_eq_true rfl) ?_
        refine v_if_ne 26 hX dX4_readHands_21 (by decide) (fun c => ?_) (fun c => ?_)
        · have hf := opt_f c hf
          refine v_iinc 1 (x1 + 1) [(1, .int (x1 + 1)), (0, .ref (ad 46))] hX dX4_readHands_26 rfl rfl (lt_b rfl) rfl ?_
          refine v_goto 2 hX dX4_readHands_29 (by decide) ?_
          exact v_sub [1, 0] rfl (hk2 v3.2 (x1 + 1) hf)
        · have hf := opt_t c hf
          refine v_iconst 0 hX dX4_readHands_24 (by decide) ?_
          obtain rfl := Option.some.inj hf
          exact v_iret (r := 0) hX dX4_readHands_25 rfl
set_option maxHeartbeats 4000000 in
set_option maxRecDepth 100000 in
theorem c_X4_readHands {l : Launch} {D : va_G} {cs : ClassId × ClassId × ClassId} {ad : Nat → Nat} {ts : Nat × Nat × Nat} (σ : Mem) (fuel : Nat)   {z : Int32 × Mem} (hf : f_X4_readHands fuel σ = some z) : CtI l (xW D cs ad ts) 4 yX4_readHands cX4_readHands 2 (some .boolean) [.ref (ad 46)] σ z.1 z.2 := by
  refine ct_I RX4 [(0, .ref (ad 46))] (by decide +kernel) rfl rfl (Nat.le_of_ble_eq_true rfl) ?_
  intro P M hl0 hX
  unfold f_X4_readHands at hf
  refine v_iconst 0 hX dX4_readHands_0 (by decide) ?_
  refine v_istore_n 1 [(1, .int 0), (0, .ref (ad 46))] hX dX4_readHands_1 rfl (lt_b rfl) rfl ?_
  exact v_sub [1, 0] rfl (s_X4_readHands_2 hX fuel z  fuel σ 0 hf)
set_option maxHeartbeats 4000000 in
set_option maxRecDepth 100000 in
theorem s_X4_readCopies_2 {P : PT} {M : MT} {D : va_G} {cs : ClassId × ClassId × ClassId} {ad : Nat → Nat} {ts : Nat × Nat × Nat} (hX : VOk P M (xW D cs ad ts) 2 cX4_readCopies RX4 (some .boolean) 4) (fuel : Nat)   (z : Int32 × Mem)  : ∀ (n : Nat) (σ : Mem) (x1 : Int32), f_X4_readCopies_2 fuel n σ x1 = some z → V P M (xW D cs ad ts) 2 (QI P M (xW D cs ad ts) z.1 z.2) 2 [(0, .ref (ad 46)), (1, .int x1)] [] σ := by
  intro n
  induction n with
  | zero =>
    intro σ x1 hf
    cases hf
  | succ n hk2 =>
    intro σ x1 hf
    rw [f_X4_readCopies_2] at hf
    refine v_iload_n 1 1 hX dX4_readCopies_2 rfl rfl ?_
    refine v_bipush 10 hX dX4_readCopies_3 (by decide) ?_
    refine v_icmp_gt 32 hX dX4_readCopies_5 (by decide) (fun c => ?_) (fun c => ?_)
    · have hf := opt_t c hf
      refine v_iconst 1 hX dX4_readCopies_32 (by decide) ?_
      obtain rfl := Option.some.inj hf
      exact v_iret (r := 1) hX dX4_readCopies_33 rfl
    · have hf := opt_f c hf
      refine v_aload_n 0 0 hX dX4_readCopies_8 rfl rfl ?_
      obtain ⟨v1, hc, hf⟩ := opt_b hf
      refine v_callVi (rest := []) (As := []) (C := RX4) (T := TX4) (N := 5) (ci := 4) 46 hX dX4_readCopies_9 (c_X4_next σ hc) rfl rfl (lt_b rfl) rfl rfl rfl mw_398 mw_4 mw_60 mw_396 mw_399 gAll ds_X4_next rfl ⟨Nat.le_of_ble_eq_true rfl, Nat.le_of_ble_eq_true rfl⟩ (Nat.le_of_ble_eq_true rfl) ?_
      refine v_bipush 119 hX dX4_readCopies_12 (by decide) ?_
      refine v_icmp_ne 32 hX dX4_readCopies_14 (by decide) (fun c => ?_) (fun c => ?_)
      · have hf := opt_f c hf
        refine v_iconst 1 hX dX4_readCopies_32 (by decide) ?_
        obtain rfl := Option.some.inj hf
        exact v_iret (r := 1) hX dX4_readCopies_33 rfl
      · have hf := opt_t c hf
        refine v_aload_n 0 0 hX dX4_readCopies_17 rfl rfl ?_
        obtain ⟨v2, hc, hf⟩ := opt_b hf
        refine v_callVi (rest := []) (As := []) (C := RX4) (T := TX4) (N := 5) (ci := 4) 46 hX dX4_readCopies_18 (c_X4_readCopy σ fuel hc) rfl rfl (lt_b rfl) rfl rfl rfl mw_437 mw_12 mw_60 mw_435 mw_438 gAll ds_X4_readCopy rfl ⟨Nat.le_of_ble_eq_true rfl, Nat.le_of_ble_eq_true rfl⟩ (Nat.le_of_ble_eq_true rfl) ?_
        refine v_if_ne 26 hX dX4_readCopies_21 (by decide) (fun c => ?_) (fun c => ?_)
        · have hf := opt_f c hf
          refine v_iinc 1 (x1 + 1) [(1, .int (x1 + 1)), (0, .ref (ad 46))] hX dX4_readCopies_26 rfl rfl (lt_b rfl) rfl ?_
          refine v_goto 2 hX dX4_readCopies_29 (by decide) ?_
          exact v_sub [1, 0] rfl (hk2 v2.2 (x1 + 1) hf)
        · have hf := opt_t c hf
          refine v_iconst 0 hX dX4_readCopies_24 (by decide) ?_
          obtain rfl := Option.some.inj hf
          exact v_iret (r := 0) hX dX4_readCopies_25 rfl
set_option maxHeartbeats 4000000 in
set_option maxRecDepth 100000 in
theorem c_X4_readCopies {l : Launch} {D : va_G} {cs : ClassId × ClassId × ClassId} {ad : Nat → Nat} {ts : Nat × Nat × Nat} (σ : Mem) (fuel : Nat)   {z : Int32 × Mem} (hf : f_X4_readCopies fuel σ = some z) : CtI l (xW D cs ad ts) 4 yX4_readCopies cX4_readCopies 2 (some .boolean) [.ref (ad 46)] σ z.1 z.2 := by
  refine ct_I RX4 [(0, .ref (ad 46))] (by decide +kernel) rfl rfl (Nat.le_of_ble_eq_true rfl) ?_
  intro P M hl0 hX
  unfold f_X4_readCopies at hf
  refine v_iconst 0 hX dX4_readCopies_0 (by decide) ?_
  refine v_istore_n 1 [(1, .int 0), (0, .ref (ad 46))] hX dX4_readCopies_1 rfl (lt_b rfl) rfl ?_
  exact v_sub [1, 0] rfl (s_X4_readCopies_2 hX fuel z  fuel σ 0 hf)
set_option maxHeartbeats 4000000 in
set_option maxRecDepth 100000 in
theorem s_X4_readDeeds_2 {P : PT} {M : MT} {D : va_G} {cs : ClassId × ClassId × ClassId} {ad : Nat → Nat} {ts : Nat × Nat × Nat} (hX : VOk P M (xW D cs ad ts) 2 cX4_readDeeds RX4 (some .boolean) 4) (fuel : Nat)   (z : Int32 × Mem)  : ∀ (n : Nat) (σ : Mem) (x1 : Int32), f_X4_readDeeds_2 fuel n σ x1 = some z → V P M (xW D cs ad ts) 2 (QI P M (xW D cs ad ts) z.1 z.2) 2 [(0, .ref (ad 46)), (1, .int x1)] [] σ := by
  intro n
  induction n with
  | zero =>
    intro σ x1 hf
    cases hf
  | succ n hk2 =>
    intro σ x1 hf
    rw [f_X4_readDeeds_2] at hf
    refine v_iload_n 1 1 hX dX4_readDeeds_2 rfl rfl ?_
    refine v_iconst 5 hX dX4_readDeeds_3 (by decide) ?_
    refine v_icmp_gt 40 hX dX4_readDeeds_4 (by decide) (fun c => ?_) (fun c => ?_)
    · have hf := opt_t c hf
      refine v_iconst 1 hX dX4_readDeeds_40 (by decide) ?_
      obtain rfl := Option.some.inj hf
      exact v_iret (r := 1) hX dX4_readDeeds_41 rfl
    · have hf := opt_f c hf
      refine v_aload_n 0 0 hX dX4_readDeeds_7 rfl rfl ?_
      obtain ⟨v1, hc, hf⟩ := opt_b hf
      refine v_callVi (rest := []) (As := []) (C := RX4) (T := TX4) (N := 5) (ci := 4) 46 hX dX4_readDeeds_8 (c_X4_next σ hc) rfl rfl (lt_b rfl) rfl rfl rfl mw_398 mw_4 mw_60 mw_396 mw_399 gAll ds_X4_next rfl ⟨Nat.le_of_ble_eq_true rfl, Nat.le_of_ble_eq_true rfl⟩ (Nat.le_of_ble_eq_true rfl) ?_
      refine v_bipush 97 hX dX4_readDeeds_11 (by decide) ?_
      refine v_icmp_eq 25 hX dX4_readDeeds_13 (by decide) (fun c => ?_) (fun c => ?_)
      · have hf := opt_t c hf
        refine v_aload_n 0 0 hX dX4_readDeeds_25 rfl rfl ?_
        obtain ⟨v2, hc, hf⟩ := opt_b hf
        refine v_callVi (rest := []) (As := []) (C := RX4) (T := TX4) (N := 5) (ci := 4) 46 hX dX4_readDeeds_26 (c_X4_readDeed σ fuel hc) rfl rfl (lt_b rfl) rfl rfl rfl mw_449 mw_14 mw_60 mw_447 mw_450 gAll ds_X4_readDeed rfl ⟨Nat.le_of_ble_eq_true rfl, Nat.le_of_ble_eq_true rfl⟩ (Nat.le_of_ble_eq_true rfl) ?_
        refine v_if_ne 34 hX dX4_readDeeds_29 (by decide) (fun c => ?_) (fun c => ?_)
        · have hf := opt_f c hf
          refine v_iinc 1 (x1 + 1) [(1, .int (x1 + 1)), (0, .ref (ad 46))] hX dX4_readDeeds_34 rfl rfl (lt_b rfl) rfl ?_
          refine v_goto 2 hX dX4_readDeeds_37 (by decide) ?_
          exact v_sub [1, 0] rfl (hk2 v2.2 (x1 + 1) hf)
        · have hf := opt_t c hf
          refine v_iconst 0 hX dX4_readDeeds_32 (by decide) ?_
          obtain rfl := Option.some.inj hf
          exact v_iret (r := 0) hX dX4_readDeeds_33 rfl
      · have hf := opt_f c hf
        refine v_aload_n 0 0 hX dX4_readDeeds_16 rfl rfl ?_
        obtain ⟨v3, hc, hf⟩ := opt_b hf
        refine v_callVi (rest := []) (As := []) (C := RX4) (T := TX4) (N := 5) (ci := 4) 46 hX dX4_readDeeds_17 (c_X4_next σ hc) rfl rfl (lt_b rfl) rfl rfl rfl mw_398 mw_4 mw_60 mw_396 mw_399 gAll ds_X4_next rfl ⟨Nat.le_of_ble_eq_true rfl, Nat.le_of_ble_eq_true rfl⟩ (Nat.le_of_ble_eq_true rfl) ?_
        refine v_bipush 121 hX dX4_readDeeds_20 (by decide) ?_
        refine v_icmp_ne 40 hX dX4_readDeeds_22 (by decide) (fun c => ?_) (fun c => ?_)
        · have hf := opt_f c hf
          refine v_iconst 1 hX dX4_readDeeds_40 (by decide) ?_
          obtain rfl := Option.some.inj hf
          exact v_iret (r := 1) hX dX4_readDeeds_41 rfl
        · have hf := opt_t c hf
          refine v_aload_n 0 0 hX dX4_readDeeds_25 rfl rfl ?_
          obtain ⟨v4, hc, hf⟩ := opt_b hf
          refine v_callVi (rest := []) (As := []) (C := RX4) (T := TX4) (N := 5) (ci := 4) 46 hX dX4_readDeeds_26 (c_X4_readDeed σ fuel hc) rfl rfl (lt_b rfl) rfl rfl rfl mw_449 mw_14 mw_60 mw_447 mw_450 gAll ds_X4_readDeed rfl ⟨Nat.le_of_ble_eq_true rfl, Nat.le_of_ble_eq_true rfl⟩ (Nat.le_of_ble_eq_true rfl) ?_
          refine v_if_ne 34 hX dX4_readDeeds_29 (by decide) (fun c => ?_) (fun c => ?_)
          · have hf := opt_f c hf
            refine v_iinc 1 (x1 + 1) [(1, .int (x1 + 1)), (0, .ref (ad 46))] hX dX4_readDeeds_34 rfl rfl (lt_b rfl) rfl ?_
            refine v_goto 2 hX dX4_readDeeds_37 (by decide) ?_
            exact v_sub [1, 0] rfl (hk2 v4.2 (x1 + 1) hf)
          · have hf := opt_t c hf
            refine v_iconst 0 hX dX4_readDeeds_32 (by decide) ?_
            obtain rfl := Option.some.inj hf
            exact v_iret (r := 0) hX dX4_readDeeds_33 rfl
set_option maxHeartbeats 4000000 in
set_option maxRecDepth 100000 in
theorem c_X4_readDeeds {l : Launch} {D : va_G} {cs : ClassId × ClassId × ClassId} {ad : Nat → Nat} {ts : Nat × Nat × Nat} (σ : Mem) (fuel : Nat)   {z : Int32 × Mem} (hf : f_X4_readDeeds fuel σ = some z) : CtI l (xW D cs ad ts) 4 yX4_readDeeds cX4_readDeeds 2 (some .boolean) [.ref (ad 46)] σ z.1 z.2 := by
  refine ct_I RX4 [(0, .ref (ad 46))] (by decide +kernel) rfl rfl (Nat.le_of_ble_eq_true rfl) ?_
  intro P M hl0 hX
  unfold f_X4_readDeeds at hf
  refine v_iconst 0 hX dX4_readDeeds_0 (by decide) ?_
  refine v_istore_n 1 [(1, .int 0), (0, .ref (ad 46))] hX dX4_readDeeds_1 rfl (lt_b rfl) rfl ?_
  exact v_sub [1, 0] rfl (s_X4_readDeeds_2 hX fuel z  fuel σ 0 hf)
set_option maxHeartbeats 4000000 in
set_option maxRecDepth 100000 in
theorem s_X3_lossBy_13 {P : PT} {M : MT} {D : va_G} {cs : ClassId × ClassId × ClassId} {ad : Nat → Nat} {ts : Nat × Nat × Nat} (hX : VOk P M (xW D cs ad ts) 6 cX3_lossBy RX3 (some .int) 4) (fuel : Nat) (σ : Mem)   (z : Int32)  : ∀ (n : Nat) (x3 : Int32) (x4 : Int32) (x5 : Int32), f_X3_lossBy_13 fuel σ n x3 x4 x5 = some z → V P M (xW D cs ad ts) 6 (QI P M (xW D cs ad ts) z σ) 13 [(1, .ref (ad 13)), (3, .int x3), (4, .int x4), (5, .int x5)] [] σ := by
  intro n
  induction n with
  | zero =>
    intro x3 x4 x5 hf
    cases hf
  | succ n hk13 =>
    intro x3 x4 x5 hf
    rw [f_X3_lossBy_13] at hf
    refine v_iload 3 hX dX3_lossBy_13 rfl ?_
    refine v_aload_n 0 1 hX dX3_lossBy_15 rfl rfl ?_
    refine v_get (C := RX1) (T := TX1) (N := 19) (ci := 1) (v := .int (σ 13 8)) 13 8 hX dX3_lossBy_16 mw_135 rfl inlX1 rfl (lt_b rfl) (lt_b rfl) rfl rfl ?_
    refine v_icmp_ge 50 hX dX3_lossBy_19 (by decide) (fun c => ?_) (fun c => ?_)
    · have hf := opt_t c hf
      refine v_iload 2 hX dX3_lossBy_50 rfl ?_
      obtain rfl := Option.some.inj hf
      exact v_iret (r := x4) hX dX3_lossBy_52 rfl
    · have hf := opt_f c hf
      refine v_iload_n 1 3 hX dX3_lossBy_22 rfl rfl ?_
      refine v_iload 3 hX dX3_lossBy_23 rfl ?_
      obtain ⟨v2, hc, hf⟩ := opt_b hf
      refine v_callNi (rest := []) (As := [.int x3, .int x5]) hX dX3_lossBy_25 (c_X6_bitOf σ x3 x5 hc) rfl rfl mw_509 mw_57 (ex_RX3_45 hX) mw_510 gAll ds_X6_bitOf rfl ⟨Nat.le_of_ble_eq_true rfl, Nat.le_of_ble_eq_true rfl⟩ (Nat.le_of_ble_eq_true rfl) ?_
      refine v_iconst 1 hX dX3_lossBy_28 (by decide) ?_
      refine v_icmp_ne 44 hX dX3_lossBy_29 (by decide) (fun c => ?_) (fun c => ?_)
      · have hf := opt_f c hf
        refine v_iinc 3 (x5 + 1) [(5, .int (x5 + 1)), (1, .ref (ad 13)), (3, .int x3), (4, .int x4)] hX dX3_lossBy_44 rfl rfl (lt_b rfl) rfl ?_
        refine v_goto 13 hX dX3_lossBy_47 (by decide) ?_
        exact v_sub [1, 2, 3, 0] rfl (hk13 x3 x4 (x5 + 1) hf)
      · have hf := opt_t c hf
        refine v_iload 2 hX dX3_lossBy_32 rfl ?_
        refine v_aload_n 0 1 hX dX3_lossBy_34 rfl rfl ?_
        refine v_get (C := RX1) (T := TX1) (N := 19) (ci := 1) (v := .ref (ad 23)) 13 18 hX dX3_lossBy_35 mw_165 rfl inlX1 rfl (lt_b rfl) (lt_b rfl) rfl rfl ?_
        refine v_iload 3 hX dX3_lossBy_38 rfl ?_
        obtain ⟨hi3, hf⟩ := gd_some hf
        refine v_ald (v := σ 23 x5.toNatClampNeg) 23 hX dX3_lossBy_40 (lt_b rfl) ((fun _ => rfl) _) hi3 rfl ?_
        refine v_iadd hX dX3_lossBy_41 ?_
        refine v_istore [(4, .int (x4 + (σ 23 x5.toNatClampNeg))), (1, .ref (ad 13)), (3, .int x3), (5, .int x5)] hX dX3_lossBy_42 (lt_b rfl) rfl ?_
        refine v_iinc 3 (x5 + 1) [(5, .int (x5 + 1)), (4, .int (x4 + (σ 23 x5.toNatClampNeg))), (1, .ref (ad 13)), (3, .int x3)] hX dX3_lossBy_44 rfl rfl (lt_b rfl) rfl ?_
        refine v_goto 13 hX dX3_lossBy_47 (by decide) ?_
        exact v_sub [2, 3, 1, 0] rfl (hk13 x3 (x4 + (σ 23 x5.toNatClampNeg)) (x5 + 1) hf)
set_option maxHeartbeats 4000000 in
set_option maxRecDepth 100000 in
theorem c_X3_lossBy {l : Launch} {D : va_G} {cs : ClassId × ClassId × ClassId} {ad : Nat → Nat} {ts : Nat × Nat × Nat} (fuel : Nat) (σ : Mem)  (x2 : Int32) {z : Int32} (hf : f_X3_lossBy fuel σ x2 = some z) : CtI l (xW D cs ad ts) 4 yX3_lossBy cX3_lossBy 6 (some .int) [.ref (ad 62), .ref (ad 13), .int x2] σ z σ := by
  refine ct_I RX3 [(0, .ref (ad 62)), (1, .ref (ad 13)), (2, .int x2)] (by decide +kernel) rfl rfl (Nat.le_of_ble_eq_true rfl) ?_
  intro P M hl0 hX
  unfold f_X3_lossBy at hf
  refine v_aload_n 0 0 hX dX3_lossBy_0 rfl rfl ?_
  refine v_aload_n 1 1 hX dX3_lossBy_1 rfl rfl ?_
  refine v_iload_n 2 2 hX dX3_lossBy_2 rfl rfl ?_
  obtain ⟨v1, hc, hf⟩ := opt_b hf
  refine v_callVi (rest := []) (As := [.ref (ad 13), .int x2]) (C := RX3) (T := TX3) (N := 3) (ci := 3) 62 hX dX3_lossBy_3 (c_X3_fallenBy fuel σ x2 hc) rfl rfl (lt_b rfl) rfl rfl rfl mw_588 mw_589 mw_62 mw_604 mw_590 gAll ds_X3_fallenBy rfl ⟨Nat.le_of_ble_eq_true rfl, Nat.le_of_ble_eq_true rfl⟩ (Nat.le_of_ble_eq_true rfl) ?_
  refine v_istore_n 3 [(3, .int v1), (0, .ref (ad 62)), (1, .ref (ad 13)), (2, .int x2)] hX dX3_lossBy_6 rfl (lt_b rfl) rfl ?_
  refine v_iconst 0 hX dX3_lossBy_7 (by decide) ?_
  refine v_istore [(4, .int 0), (3, .int v1), (0, .ref (ad 62)), (1, .ref (ad 13)), (2, .int x2)] hX dX3_lossBy_8 (lt_b rfl) rfl ?_
  refine v_iconst 0 hX dX3_lossBy_10 (by decide) ?_
  refine v_istore [(5, .int 0), (4, .int 0), (3, .int v1), (0, .ref (ad 62)), (1, .ref (ad 13)), (2, .int x2)] hX dX3_lossBy_11 (lt_b rfl) rfl ?_
  exact v_sub [4, 2, 1, 0] rfl (s_X3_lossBy_13 hX fuel σ z  fuel v1 0 0 hf)
