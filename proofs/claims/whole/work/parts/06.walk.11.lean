set_option maxHeartbeats 4000000 in
set_option maxRecDepth 100000 in
theorem c_X6_recall {l : Launch} {D : va_G} {cs : ClassId × ClassId × ClassId} {ad : Nat → Nat} {ts : Nat × Nat × Nat} (σ : Mem) (fuel : Nat)  (x1 : Int32) {z : Int32 × Mem} (hf : f_X6_recall fuel σ x1 = some z) : CtI l (xW D cs ad ts) 4 yX6_recall cX6_recall 2 (some .int) [.ref (ad 0), .int x1] σ z.1 z.2 := by
  refine ct_I RX6 [(0, .ref (ad 0)), (1, .int x1)] (by decide +kernel) rfl rfl (Nat.le_of_ble_eq_true rfl) ?_
  intro P M hl0 hX
  unfold f_X6_recall at hf
  refine v_aload_n 0 0 hX dX6_recall_0 rfl rfl ?_
  refine v_iload_n 1 1 hX dX6_recall_1 rfl rfl ?_
  obtain ⟨v1, hc, hf⟩ := opt_b hf
  refine v_callVi (rest := []) (As := [.int x1]) (C := RX6) (T := TX6) (N := 10) (ci := 6) 0 hX dX6_recall_2 (c_X6_isCopy σ x1 hc) rfl rfl (lt_b rfl) rfl rfl rfl mw_498 mw_16 mw_57 mw_496 mw_499 gAll ds_X6_isCopy rfl ⟨Nat.le_of_ble_eq_true rfl, Nat.le_of_ble_eq_true rfl⟩ (Nat.le_of_ble_eq_true rfl) ?_
  refine v_if_ne 11 hX dX6_recall_5 (by decide) (fun c => ?_) (fun c => ?_)
  · have hf := opt_f c hf
    refine v_aload_n 0 0 hX dX6_recall_11 rfl rfl ?_
    refine v_get (C := RX6) (T := TX6) (N := 10) (ci := 6) (v := .ref (ad 13)) 0 1 hX dX6_recall_12 mw_283 rfl inlX6 rfl (lt_b rfl) (lt_b rfl) rfl rfl ?_
    refine v_iload_n 1 1 hX dX6_recall_15 rfl rfl ?_
    obtain ⟨v2, hc, hf⟩ := opt_b hf
    refine v_callVi (rest := []) (As := [.int x1]) (C := RX1) (T := TX1) (N := 19) (ci := 1) 13 hX dX6_recall_16 (c_X1_mayRecallNow σ x1 hc) rfl rfl (lt_b rfl) rfl rfl rfl mw_501 mw_502 mw_59 mw_500 mw_503 gAll ds_X1_mayRecallNow rfl ⟨Nat.le_of_ble_eq_true rfl, Nat.le_of_ble_eq_true rfl⟩ (Nat.le_of_ble_eq_true rfl) ?_
    refine v_if_ne 25 hX dX6_recall_19 (by decide) (fun c => ?_) (fun c => ?_)
    · have hf := opt_f c hf
      refine v_aload_n 0 0 hX dX6_recall_25 rfl rfl ?_
      refine v_get (C := RX6) (T := TX6) (N := 10) (ci := 6) (v := .ref (ad 59)) 0 5 hX dX6_recall_26 mw_287 rfl inlX6 rfl (lt_b rfl) (lt_b rfl) rfl rfl ?_
      refine v_iconst 1 hX dX6_recall_29 (by decide) ?_
      refine v_aload_n 0 0 hX dX6_recall_30 rfl rfl ?_
      refine v_get (C := RX6) (T := TX6) (N := 10) (ci := 6) (v := .ref (ad 13)) 0 1 hX dX6_recall_31 mw_283 rfl inlX6 rfl (lt_b rfl) (lt_b rfl) rfl rfl ?_
      refine v_get (C := RX1) (T := TX1) (N := 19) (ci := 1) (v := .int (σ 13 5)) 13 5 hX dX6_recall_34 mw_124 rfl inlX1 rfl (lt_b rfl) (lt_b rfl) rfl rfl ?_
      obtain ⟨v3, hc, hf⟩ := opt_b hf
      refine v_callVv (rest := []) (As := [.int 1, .int (σ 13 5)]) (C := RX0) (T := TX0) (N := 3) (ci := 0) 59 hX dX6_recall_37 (c_X0_keep σ 1 (σ 13 5) hc) rfl rfl (lt_b rfl) rfl rfl rfl mw_487 mw_488 mw_61 mw_486 mw_489 gAll ds_X0_keep rfl ⟨Nat.le_of_ble_eq_true rfl, Nat.le_of_ble_eq_true rfl⟩ (Nat.le_of_ble_eq_true rfl) ?_
      refine v_aload_n 0 0 hX dX6_recall_40 rfl rfl ?_
      refine v_get (C := RX6) (T := TX6) (N := 10) (ci := 6) (v := .ref (ad 13)) 0 1 hX dX6_recall_41 mw_283 rfl inlX6 rfl (lt_b rfl) (lt_b rfl) rfl rfl ?_
      refine v_dup hX dX6_recall_44 rfl ?_
      refine v_get (C := RX1) (T := TX1) (N := 19) (ci := 1) (v := .int (v3 13 5)) 13 5 hX dX6_recall_45 mw_124 rfl inlX1 rfl (lt_b rfl) (lt_b rfl) rfl rfl ?_
      refine v_iconst 1 hX dX6_recall_48 (by decide) ?_
      refine v_iload_n 1 1 hX dX6_recall_49 rfl rfl ?_
      refine v_ishl hX dX6_recall_50 ?_
      refine v_ior hX dX6_recall_51 ?_
      refine v_put (C := RX1) (T := TX1) (N := 19) (ci := 1) (ty := .int) tyX1 13 5 hX dX6_recall_52 mw_124 rfl inlX1 tyX1_ok nmX1 rfl (lt_b rfl) (lt_b rfl) rfl (tyX1_ok 5 (lt_b rfl)) rfl rfl rfl (lt_b rfl) rfl ?_
      refine v_aload_n 0 0 hX dX6_recall_55 rfl rfl ?_
      refine v_get (C := RX6) (T := TX6) (N := 10) (ci := 6) (v := .ref (ad 13)) 0 1 hX dX6_recall_56 mw_283 rfl inlX6 rfl (lt_b rfl) (lt_b rfl) rfl rfl ?_
      refine v_aload_n 0 0 hX dX6_recall_59 rfl rfl ?_
      refine v_get (C := RX6) (T := TX6) (N := 10) (ci := 6) (v := .ref (ad 13)) 0 1 hX dX6_recall_60 mw_283 rfl inlX6 rfl (lt_b rfl) (lt_b rfl) rfl rfl ?_
      refine v_get (C := RX1) (T := TX1) (N := 19) (ci := 1) (v := .int ((v3 13 5) ||| (1 <<< (x1 &&& 31)))) 13 5 hX dX6_recall_63 mw_124 rfl inlX1 rfl (lt_b rfl) (lt_b rfl) rfl rfl ?_
      obtain ⟨v4, hc, hf⟩ := opt_b hf
      refine v_callVi (rest := []) (As := [.int ((v3 13 5) ||| (1 <<< (x1 &&& 31)))]) (C := RX1) (T := TX1) (N := 19) (ci := 1) 13 hX dX6_recall_66 (c_X1_blackBy fuel (mst v3 13 5 ((v3 13 5) ||| (1 <<< (x1 &&& 31)))) ((v3 13 5) ||| (1 <<< (x1 &&& 31))) hc) rfl rfl (lt_b rfl) rfl rfl rfl mw_520 mw_521 mw_59 mw_519 mw_522 gAll ds_X1_blackBy rfl ⟨Nat.le_of_ble_eq_true rfl, Nat.le_of_ble_eq_true rfl⟩ (Nat.le_of_ble_eq_true rfl) ?_
      refine v_aload_n 0 0 hX dX6_recall_69 rfl rfl ?_
      refine v_get (C := RX6) (T := TX6) (N := 10) (ci := 6) (v := .ref (ad 13)) 0 1 hX dX6_recall_70 mw_283 rfl inlX6 rfl (lt_b rfl) (lt_b rfl) rfl rfl ?_
      refine v_get (C := RX1) (T := TX1) (N := 19) (ci := 1) (v := .ref (ad 16)) 13 11 hX dX6_recall_73 mw_147 rfl inlX1 rfl (lt_b rfl) (lt_b rfl) rfl rfl ?_
      refine v_iload_n 1 1 hX dX6_recall_76 rfl rfl ?_
      obtain ⟨hi5, hf⟩ := gd_some hf
      refine v_ald (v := v3 16 x1.toNatClampNeg) 16 hX dX6_recall_77 (lt_b rfl) ((fun _ => rfl) _) hi5 rfl ?_
      obtain ⟨v6, hc, hf⟩ := opt_b hf
      refine v_callSi (rest := []) (As := [.int v4, .int (v3 16 x1.toNatClampNeg)]) hX dX6_recall_78 (c_X6_bitOf (mst v3 13 5 ((v3 13 5) ||| (1 <<< (x1 &&& 31)))) v4 (v3 16 x1.toNatClampNeg) hc) rfl rfl mw_509 mw_57 mw_523 mw_510 gAll ds_X6_bitOf rfl ⟨Nat.le_of_ble_eq_true rfl, Nat.le_of_ble_eq_true rfl⟩ (Nat.le_of_ble_eq_true rfl) ?_
      obtain rfl := Option.some.inj hf
      exact v_iret (r := v6) hX dX6_recall_81 rfl
    · have hf := opt_t c hf
      refine v_ldc (-1000002) hX dX6_recall_22 mw_473 ?_
      obtain rfl := Option.some.inj hf
      exact v_iret (r := (-1000002)) hX dX6_recall_24 rfl
  · have hf := opt_t c hf
    refine v_ldc (-1000001) hX dX6_recall_8 mw_323 ?_
    obtain rfl := Option.some.inj hf
    exact v_iret (r := (-1000001)) hX dX6_recall_10 rfl
set_option maxHeartbeats 4000000 in
set_option maxRecDepth 100000 in
theorem c_X6_copyOf {l : Launch} {D : va_G} {cs : ClassId × ClassId × ClassId} {ad : Nat → Nat} {ts : Nat × Nat × Nat} (σ : Mem)  (x1 : Int32) (x2 : Int32) {z : Int32} (hf : f_X6_copyOf σ x1 x2 = some z) : CtI l (xW D cs ad ts) 4 yX6_copyOf cX6_copyOf 3 (some .int) [.ref (ad 0), .int x1, .int x2] σ z σ := by
  refine ct_I RX6 [(0, .ref (ad 0)), (1, .int x1), (2, .int x2)] (by decide +kernel) rfl rfl (Nat.le_of_ble_eq_true rfl) ?_
  intro P M hl0 hX
  unfold f_X6_copyOf at hf
  refine v_aload_n 0 0 hX dX6_copyOf_0 rfl rfl ?_
  refine v_iload_n 1 1 hX dX6_copyOf_1 rfl rfl ?_
  obtain ⟨v1, hc, hf⟩ := opt_b hf
  refine v_callVi (rest := []) (As := [.int x1]) (C := RX6) (T := TX6) (N := 10) (ci := 6) 0 hX dX6_copyOf_2 (c_X6_isCopy σ x1 hc) rfl rfl (lt_b rfl) rfl rfl rfl mw_498 mw_16 mw_57 mw_496 mw_499 gAll ds_X6_isCopy rfl ⟨Nat.le_of_ble_eq_true rfl, Nat.le_of_ble_eq_true rfl⟩ (Nat.le_of_ble_eq_true rfl) ?_
  refine v_if_ne 11 hX dX6_copyOf_5 (by decide) (fun c => ?_) (fun c => ?_)
  · have hf := opt_f c hf
    refine v_iload_n 2 2 hX dX6_copyOf_11 rfl rfl ?_
    by_cases cs2 : x2 = 0
    · have hf := opt_t cs2 hf
      refine v_tableIn 40 52 hX dX6_copyOf_12 (by rw [cs2]; decide) (by rw [cs2]; decide) (by rw [cs2]; decide) (by decide) ?_
      refine v_aload_n 0 0 hX dX6_copyOf_52 rfl rfl ?_
      refine v_get (C := RX6) (T := TX6) (N := 10) (ci := 6) (v := .ref (ad 13)) 0 1 hX dX6_copyOf_53 mw_283 rfl inlX6 rfl (lt_b rfl) (lt_b rfl) rfl rfl ?_
      refine v_get (C := RX1) (T := TX1) (N := 19) (ci := 1) (v := .ref (ad 16)) 13 11 hX dX6_copyOf_56 mw_147 rfl inlX1 rfl (lt_b rfl) (lt_b rfl) rfl rfl ?_
      refine v_iload_n 1 1 hX dX6_copyOf_59 rfl rfl ?_
      obtain ⟨hi3, hf⟩ := gd_some hf
      refine v_ald (v := σ 16 x1.toNatClampNeg) 16 hX dX6_copyOf_60 (lt_b rfl) ((fun _ => rfl) _) hi3 rfl ?_
      obtain rfl := Option.some.inj hf
      exact v_iret (r := σ 16 x1.toNatClampNeg) hX dX6_copyOf_61 rfl
    have hf := opt_f cs2 hf
    by_cases cs4 : x2 = 1
    · have hf := opt_t cs4 hf
      refine v_tableIn 50 62 hX dX6_copyOf_12 (by rw [cs4]; decide) (by rw [cs4]; decide) (by rw [cs4]; decide) (by decide) ?_
      refine v_aload_n 0 0 hX dX6_copyOf_62 rfl rfl ?_
      refine v_get (C := RX6) (T := TX6) (N := 10) (ci := 6) (v := .ref (ad 13)) 0 1 hX dX6_copyOf_63 mw_283 rfl inlX6 rfl (lt_b rfl) (lt_b rfl) rfl rfl ?_
      refine v_get (C := RX1) (T := TX1) (N := 19) (ci := 1) (v := .ref (ad 17)) 13 12 hX dX6_copyOf_66 mw_151 rfl inlX1 rfl (lt_b rfl) (lt_b rfl) rfl rfl ?_
      refine v_iload_n 1 1 hX dX6_copyOf_69 rfl rfl ?_
      obtain ⟨hi5, hf⟩ := gd_some hf
      refine v_ald (v := σ 17 x1.toNatClampNeg) 17 hX dX6_copyOf_70 (lt_b rfl) ((fun _ => rfl) _) hi5 rfl ?_
      obtain rfl := Option.some.inj hf
      exact v_iret (r := σ 17 x1.toNatClampNeg) hX dX6_copyOf_71 rfl
    have hf := opt_f cs4 hf
    by_cases cs6 : x2 = 2
    · have hf := opt_t cs6 hf
      refine v_tableIn 60 72 hX dX6_copyOf_12 (by rw [cs6]; decide) (by rw [cs6]; decide) (by rw [cs6]; decide) (by decide) ?_
      refine v_aload_n 0 0 hX dX6_copyOf_72 rfl rfl ?_
      refine v_get (C := RX6) (T := TX6) (N := 10) (ci := 6) (v := .ref (ad 13)) 0 1 hX dX6_copyOf_73 mw_283 rfl inlX6 rfl (lt_b rfl) (lt_b rfl) rfl rfl ?_
      refine v_get (C := RX1) (T := TX1) (N := 19) (ci := 1) (v := .ref (ad 18)) 13 13 hX dX6_copyOf_76 mw_153 rfl inlX1 rfl (lt_b rfl) (lt_b rfl) rfl rfl ?_
      refine v_iload_n 1 1 hX dX6_copyOf_79 rfl rfl ?_
      obtain ⟨hi7, hf⟩ := gd_some hf
      refine v_ald (v := σ 18 x1.toNatClampNeg) 18 hX dX6_copyOf_80 (lt_b rfl) ((fun _ => rfl) _) hi7 rfl ?_
      obtain rfl := Option.some.inj hf
      exact v_iret (r := σ 18 x1.toNatClampNeg) hX dX6_copyOf_81 rfl
    have hf := opt_f cs6 hf
    by_cases cs8 : x2 = 3
    · have hf := opt_t cs8 hf
      refine v_tableIn 70 82 hX dX6_copyOf_12 (by rw [cs8]; decide) (by rw [cs8]; decide) (by rw [cs8]; decide) (by decide) ?_
      refine v_aload_n 0 0 hX dX6_copyOf_82 rfl rfl ?_
      refine v_get (C := RX6) (T := TX6) (N := 10) (ci := 6) (v := .ref (ad 13)) 0 1 hX dX6_copyOf_83 mw_283 rfl inlX6 rfl (lt_b rfl) (lt_b rfl) rfl rfl ?_
      refine v_get (C := RX1) (T := TX1) (N := 19) (ci := 1) (v := .ref (ad 19)) 13 14 hX dX6_copyOf_86 mw_157 rfl inlX1 rfl (lt_b rfl) (lt_b rfl) rfl rfl ?_
      refine v_iload_n 1 1 hX dX6_copyOf_89 rfl rfl ?_
      obtain ⟨hi9, hf⟩ := gd_some hf
      refine v_ald (v := σ 19 x1.toNatClampNeg) 19 hX dX6_copyOf_90 (lt_b rfl) ((fun _ => rfl) _) hi9 rfl ?_
      obtain rfl := Option.some.inj hf
      exact v_iret (r := σ 19 x1.toNatClampNeg) hX dX6_copyOf_91 rfl
    have hf := opt_f cs8 hf
    by_cases cs10 : x2 = 4
    · have hf := opt_t cs10 hf
      refine v_tableIn 80 92 hX dX6_copyOf_12 (by rw [cs10]; decide) (by rw [cs10]; decide) (by rw [cs10]; decide) (by decide) ?_
      refine v_aload_n 0 0 hX dX6_copyOf_92 rfl rfl ?_
      refine v_get (C := RX6) (T := TX6) (N := 10) (ci := 6) (v := .ref (ad 13)) 0 1 hX dX6_copyOf_93 mw_283 rfl inlX6 rfl (lt_b rfl) (lt_b rfl) rfl rfl ?_
      refine v_get (C := RX1) (T := TX1) (N := 19) (ci := 1) (v := .int (σ 13 5)) 13 5 hX dX6_copyOf_96 mw_124 rfl inlX1 rfl (lt_b rfl) (lt_b rfl) rfl rfl ?_
      refine v_iload_n 1 1 hX dX6_copyOf_99 rfl rfl ?_
      obtain ⟨v11, hc, hf⟩ := opt_b hf
      refine v_callSi (rest := []) (As := [.int (σ 13 5), .int x1]) hX dX6_copyOf_100 (c_X6_bitOf σ (σ 13 5) x1 hc) rfl rfl mw_509 mw_57 mw_523 mw_510 gAll ds_X6_bitOf rfl ⟨Nat.le_of_ble_eq_true rfl, Nat.le_of_ble_eq_true rfl⟩ (Nat.le_of_ble_eq_true rfl) ?_
      obtain rfl := Option.some.inj hf
      exact v_iret (r := v11) hX dX6_copyOf_103 rfl
    have hf := opt_f cs10 hf
    by_cases cs12 : x2 = 5
    · have hf := opt_t cs12 hf
      refine v_tableIn 92 104 hX dX6_copyOf_12 (by rw [cs12]; decide) (by rw [cs12]; decide) (by rw [cs12]; decide) (by decide) ?_
      refine v_aload_n 0 0 hX dX6_copyOf_104 rfl rfl ?_
      refine v_get (C := RX6) (T := TX6) (N := 10) (ci := 6) (v := .ref (ad 13)) 0 1 hX dX6_copyOf_105 mw_283 rfl inlX6 rfl (lt_b rfl) (lt_b rfl) rfl rfl ?_
      refine v_iload_n 1 1 hX dX6_copyOf_108 rfl rfl ?_
      obtain ⟨v13, hc, hf⟩ := opt_b hf
      refine v_callVi (rest := []) (As := [.int x1]) (C := RX1) (T := TX1) (N := 19) (ci := 1) 13 hX dX6_copyOf_109 (c_X1_mayRecallNow σ x1 hc) rfl rfl (lt_b rfl) rfl rfl rfl mw_501 mw_502 mw_59 mw_500 mw_503 gAll ds_X1_mayRecallNow rfl ⟨Nat.le_of_ble_eq_true rfl, Nat.le_of_ble_eq_true rfl⟩ (Nat.le_of_ble_eq_true rfl) ?_
      refine v_if_eq 119 hX dX6_copyOf_112 (by decide) (fun c => ?_) (fun c => ?_)
      · have hf := opt_t c hf
        refine v_iconst 0 hX dX6_copyOf_119 (by decide) ?_
        obtain rfl := Option.some.inj hf
        exact v_iret (r := 0) hX dX6_copyOf_120 rfl
      · have hf := opt_f c hf
        refine v_iconst 1 hX dX6_copyOf_115 (by decide) ?_
        refine v_goto 120 hX dX6_copyOf_116 (by decide) ?_
        obtain rfl := Option.some.inj hf
        exact v_iret (r := 1) hX dX6_copyOf_120 rfl
    have hf := opt_f cs12 hf
    refine v_tableOut 121 hX dX6_copyOf_12 (by have h0 := lv_neT cs2 (a := 0) (by decide); have h1 := lv_neT cs4 (a := 1) (by decide); have h2 := lv_neT cs6 (a := 2) (by decide); have h3 := lv_neT cs8 (a := 3) (by decide); have h4 := lv_neT cs10 (a := 4) (by decide); have h5 := lv_neT cs12 (a := 5) (by decide); omega) (by decide) ?_
    refine v_ldc (-1000001) hX dX6_copyOf_121 mw_323 ?_
    obtain rfl := Option.some.inj hf
    exact v_iret (r := (-1000001)) hX dX6_copyOf_123 rfl
  · have hf := opt_t c hf
    refine v_ldc (-1000001) hX dX6_copyOf_8 mw_323 ?_
    obtain rfl := Option.some.inj hf
    exact v_iret (r := (-1000001)) hX dX6_copyOf_10 rfl
set_option maxHeartbeats 4000000 in
set_option maxRecDepth 100000 in
theorem c_X6_first {l : Launch} {D : va_G} {cs : ClassId × ClassId × ClassId} {ad : Nat → Nat} {ts : Nat × Nat × Nat} (fuel : Nat) (σ : Mem)  (x1 : Int32) (x2 : Int32) {z : Int32} (hf : f_X6_first fuel σ x1 x2 = some z) : CtI l (xW D cs ad ts) 4 yX6_first cX6_first 3 (some .int) [.ref (ad 0), .int x1, .int x2] σ z σ := by
  refine ct_I RX6 [(0, .ref (ad 0)), (1, .int x1), (2, .int x2)] (by decide +kernel) rfl rfl (Nat.le_of_ble_eq_true rfl) ?_
  intro P M hl0 hX
  unfold f_X6_first at hf
  refine v_aload_n 0 0 hX dX6_first_0 rfl rfl ?_
  refine v_iload_n 1 1 hX dX6_first_1 rfl rfl ?_
  obtain ⟨v1, hc, hf⟩ := opt_b hf
  refine v_callVi (rest := []) (As := [.int x1]) (C := RX6) (T := TX6) (N := 10) (ci := 6) 0 hX dX6_first_2 (c_X6_isDeed σ x1 hc) rfl rfl (lt_b rfl) rfl rfl rfl mw_568 mw_17 mw_57 mw_566 mw_569 gAll ds_X6_isDeed rfl ⟨Nat.le_of_ble_eq_true rfl, Nat.le_of_ble_eq_true rfl⟩ (Nat.le_of_ble_eq_true rfl) ?_
  refine v_if_eq 20 hX dX6_first_5 (by decide) (fun c => ?_) (fun c => ?_)
  · have hf := opt_t c hf
    refine v_ldc (-1000001) hX dX6_first_20 mw_323 ?_
    obtain rfl := Option.some.inj hf
    exact v_iret (r := (-1000001)) hX dX6_first_22 rfl
  · have hf := opt_f c hf
    refine v_iload_n 2 2 hX dX6_first_8 rfl rfl ?_
    refine v_iconst 1 hX dX6_first_9 (by decide) ?_
    refine v_icmp_lt 20 hX dX6_first_10 (by decide) (fun c => ?_) (fun c => ?_)
    · have hf := opt_t c hf
      refine v_ldc (-1000001) hX dX6_first_20 mw_323 ?_
      obtain rfl := Option.some.inj hf
      exact v_iret (r := (-1000001)) hX dX6_first_22 rfl
    · have hf := opt_f c hf
      refine v_iload_n 2 2 hX dX6_first_13 rfl rfl ?_
      refine v_sipush 200 hX dX6_first_14 (by decide) ?_
      refine v_icmp_le 23 hX dX6_first_17 (by decide) (fun c => ?_) (fun c => ?_)
      · have hf := opt_t c hf
        refine v_aload_n 0 0 hX dX6_first_23 rfl rfl ?_
        refine v_get (C := RX6) (T := TX6) (N := 10) (ci := 6) (v := .ref (ad 62)) 0 6 hX dX6_first_24 mw_288 rfl inlX6 rfl (lt_b rfl) (lt_b rfl) rfl rfl ?_
        refine v_aload_n 0 0 hX dX6_first_27 rfl rfl ?_
        refine v_get (C := RX6) (T := TX6) (N := 10) (ci := 6) (v := .ref (ad 13)) 0 1 hX dX6_first_28 mw_283 rfl inlX6 rfl (lt_b rfl) (lt_b rfl) rfl rfl ?_
        refine v_iload_n 1 1 hX dX6_first_31 rfl rfl ?_
        refine v_iload_n 2 2 hX dX6_first_32 rfl rfl ?_
        obtain ⟨v2, hc, hf⟩ := opt_b hf
        refine v_callVi (rest := []) (As := [.ref (ad 13), .int x1, .int x2]) (C := RX3) (T := TX3) (N := 3) (ci := 3) 62 hX dX6_first_33 (c_X3_firstFall fuel σ x1 x2 hc) rfl rfl (lt_b rfl) rfl rfl rfl mw_639 mw_640 mw_62 mw_638 mw_641 gAll ds_X3_firstFall rfl ⟨Nat.le_of_ble_eq_true rfl, Nat.le_of_ble_eq_true rfl⟩ (Nat.le_of_ble_eq_true rfl) ?_
        obtain rfl := Option.some.inj hf
        exact v_iret (r := v2) hX dX6_first_36 rfl
      · have hf := opt_f c hf
        refine v_ldc (-1000001) hX dX6_first_20 mw_323 ?_
        obtain rfl := Option.some.inj hf
        exact v_iret (r := (-1000001)) hX dX6_first_22 rfl
set_option maxHeartbeats 4000000 in
set_option maxRecDepth 100000 in
theorem c_X6_doubles {l : Launch} {D : va_G} {cs : ClassId × ClassId × ClassId} {ad : Nat → Nat} {ts : Nat × Nat × Nat} (fuel : Nat) (σ : Mem)  (x1 : Int32) (x2 : Int32) (x3 : Int32) {z : Int32} (hf : f_X6_doubles fuel σ x1 x2 x3 = some z) : CtI l (xW D cs ad ts) 4 yX6_doubles cX6_doubles 4 (some .int) [.ref (ad 0), .int x1, .int x2, .int x3] σ z σ := by
  refine ct_I RX6 [(0, .ref (ad 0)), (1, .int x1), (2, .int x2), (3, .int x3)] (by decide +kernel) rfl rfl (Nat.le_of_ble_eq_true rfl) ?_
  intro P M hl0 hX
  unfold f_X6_doubles at hf
  refine v_aload_n 0 0 hX dX6_doubles_0 rfl rfl ?_
  refine v_iload_n 1 1 hX dX6_doubles_1 rfl rfl ?_
  obtain ⟨v1, hc, hf⟩ := opt_b hf
  refine v_callVi (rest := []) (As := [.int x1]) (C := RX6) (T := TX6) (N := 10) (ci := 6) 0 hX dX6_doubles_2 (c_X6_isDeed σ x1 hc) rfl rfl (lt_b rfl) rfl rfl rfl mw_568 mw_17 mw_57 mw_566 mw_569 gAll ds_X6_isDeed rfl ⟨Nat.le_of_ble_eq_true rfl, Nat.le_of_ble_eq_true rfl⟩ (Nat.le_of_ble_eq_true rfl) ?_
  refine v_if_eq 24 hX dX6_doubles_5 (by decide) (fun c => ?_) (fun c => ?_)
  · have hf := opt_t c hf
    refine v_ldc (-1000001) hX dX6_doubles_24 mw_323 ?_
    obtain rfl := Option.some.inj hf
    exact v_iret (r := (-1000001)) hX dX6_doubles_26 rfl
  · have hf := opt_f c hf
    refine v_aload_n 0 0 hX dX6_doubles_8 rfl rfl ?_
    refine v_iload_n 2 2 hX dX6_doubles_9 rfl rfl ?_
    obtain ⟨v2, hc, hf⟩ := opt_b hf
    refine v_callVi (rest := []) (As := [.int x2]) (C := RX6) (T := TX6) (N := 10) (ci := 6) 0 hX dX6_doubles_10 (c_X6_isHandSet σ x2 hc) rfl rfl (lt_b rfl) rfl rfl rfl mw_585 mw_18 mw_57 mw_583 mw_586 gAll ds_X6_isHandSet rfl ⟨Nat.le_of_ble_eq_true rfl, Nat.le_of_ble_eq_true rfl⟩ (Nat.le_of_ble_eq_true rfl) ?_
    refine v_if_eq 24 hX dX6_doubles_13 (by decide) (fun c => ?_) (fun c => ?_)
    · have hf := opt_t c hf
      refine v_ldc (-1000001) hX dX6_doubles_24 mw_323 ?_
      obtain rfl := Option.some.inj hf
      exact v_iret (r := (-1000001)) hX dX6_doubles_26 rfl
    · have hf := opt_f c hf
      refine v_iload_n 3 3 hX dX6_doubles_16 rfl rfl ?_
      refine v_iconst 3 hX dX6_doubles_17 (by decide) ?_
      obtain ⟨v3, hc, hf⟩ := opt_b hf
      refine v_callSi (rest := []) (As := [.int x3, .int 3]) hX dX6_doubles_18 (c_X6_isBelow σ x3 3 hc) rfl rfl mw_321 mw_57 mw_320 mw_322 gAll ds_X6_isBelow rfl ⟨Nat.le_of_ble_eq_true rfl, Nat.le_of_ble_eq_true rfl⟩ (Nat.le_of_ble_eq_true rfl) ?_
      refine v_if_ne 27 hX dX6_doubles_21 (by decide) (fun c => ?_) (fun c => ?_)
      · have hf := opt_f c hf
        refine v_aload_n 0 0 hX dX6_doubles_27 rfl rfl ?_
        refine v_get (C := RX6) (T := TX6) (N := 10) (ci := 6) (v := .ref (ad 62)) 0 6 hX dX6_doubles_28 mw_288 rfl inlX6 rfl (lt_b rfl) (lt_b rfl) rfl rfl ?_
        refine v_aload_n 0 0 hX dX6_doubles_31 rfl rfl ?_
        refine v_get (C := RX6) (T := TX6) (N := 10) (ci := 6) (v := .ref (ad 13)) 0 1 hX dX6_doubles_32 mw_283 rfl inlX6 rfl (lt_b rfl) (lt_b rfl) rfl rfl ?_
        refine v_iload_n 1 1 hX dX6_doubles_35 rfl rfl ?_
        refine v_iload_n 2 2 hX dX6_doubles_36 rfl rfl ?_
        refine v_iload_n 3 3 hX dX6_doubles_37 rfl rfl ?_
        obtain ⟨v4, hc, hf⟩ := opt_b hf
        refine v_callVi (rest := []) (As := [.ref (ad 13), .int x1, .int x2, .int x3]) (C := RX3) (T := TX3) (N := 3) (ci := 3) 62 hX dX6_doubles_38 (c_X3_doublesFor fuel σ x1 x2 x3 hc) rfl rfl (lt_b rfl) rfl rfl rfl mw_661 mw_662 mw_62 mw_660 mw_663 gAll ds_X3_doublesFor rfl ⟨Nat.le_of_ble_eq_true rfl, Nat.le_of_ble_eq_true rfl⟩ (Nat.le_of_ble_eq_true rfl) ?_
        obtain rfl := Option.some.inj hf
        exact v_iret (r := v4) hX dX6_doubles_41 rfl
      · have hf := opt_t c hf
        refine v_ldc (-1000001) hX dX6_doubles_24 mw_323 ?_
        obtain rfl := Option.some.inj hf
        exact v_iret (r := (-1000001)) hX dX6_doubles_26 rfl
set_option maxHeartbeats 4000000 in
set_option maxRecDepth 100000 in
theorem c_X6_law {l : Launch} {D : va_G} {cs : ClassId × ClassId × ClassId} {ad : Nat → Nat} {ts : Nat × Nat × Nat} (fuel : Nat) (σ : Mem)  (x1 : Int32) (x2 : Int32) {z : Int32} (hf : f_X6_law fuel σ x1 x2 = some z) : CtI l (xW D cs ad ts) 4 yX6_law cX6_law 3 (some .int) [.ref (ad 0), .int x1, .int x2] σ z σ := by
  refine ct_I RX6 [(0, .ref (ad 0)), (1, .int x1), (2, .int x2)] (by decide +kernel) rfl rfl (Nat.le_of_ble_eq_true rfl) ?_
  intro P M hl0 hX
  unfold f_X6_law at hf
  refine v_aload_n 0 0 hX dX6_law_0 rfl rfl ?_
  refine v_iload_n 1 1 hX dX6_law_1 rfl rfl ?_
  obtain ⟨v1, hc, hf⟩ := opt_b hf
  refine v_callVi (rest := []) (As := [.int x1]) (C := RX6) (T := TX6) (N := 10) (ci := 6) 0 hX dX6_law_2 (c_X6_isDeed σ x1 hc) rfl rfl (lt_b rfl) rfl rfl rfl mw_568 mw_17 mw_57 mw_566 mw_569 gAll ds_X6_isDeed rfl ⟨Nat.le_of_ble_eq_true rfl, Nat.le_of_ble_eq_true rfl⟩ (Nat.le_of_ble_eq_true rfl) ?_
  refine v_if_eq 16 hX dX6_law_5 (by decide) (fun c => ?_) (fun c => ?_)
  · have hf := opt_t c hf
    refine v_ldc (-1000001) hX dX6_law_16 mw_323 ?_
    obtain rfl := Option.some.inj hf
    exact v_iret (r := (-1000001)) hX dX6_law_18 rfl
  · have hf := opt_f c hf
    refine v_aload_n 0 0 hX dX6_law_8 rfl rfl ?_
    refine v_iload_n 2 2 hX dX6_law_9 rfl rfl ?_
    obtain ⟨v2, hc, hf⟩ := opt_b hf
    refine v_callVi (rest := []) (As := [.int x2]) (C := RX6) (T := TX6) (N := 10) (ci := 6) 0 hX dX6_law_10 (c_X6_isHandSet σ x2 hc) rfl rfl (lt_b rfl) rfl rfl rfl mw_585 mw_18 mw_57 mw_583 mw_586 gAll ds_X6_isHandSet rfl ⟨Nat.le_of_ble_eq_true rfl, Nat.le_of_ble_eq_true rfl⟩ (Nat.le_of_ble_eq_true rfl) ?_
    refine v_if_ne 19 hX dX6_law_13 (by decide) (fun c => ?_) (fun c => ?_)
    · have hf := opt_f c hf
      refine v_aload_n 0 0 hX dX6_law_19 rfl rfl ?_
      refine v_get (C := RX6) (T := TX6) (N := 10) (ci := 6) (v := .ref (ad 62)) 0 6 hX dX6_law_20 mw_288 rfl inlX6 rfl (lt_b rfl) (lt_b rfl) rfl rfl ?_
      refine v_aload_n 0 0 hX dX6_law_23 rfl rfl ?_
      refine v_get (C := RX6) (T := TX6) (N := 10) (ci := 6) (v := .ref (ad 13)) 0 1 hX dX6_law_24 mw_283 rfl inlX6 rfl (lt_b rfl) (lt_b rfl) rfl rfl ?_
      refine v_iload_n 1 1 hX dX6_law_27 rfl rfl ?_
      refine v_iload_n 2 2 hX dX6_law_28 rfl rfl ?_
      obtain ⟨v3, hc, hf⟩ := opt_b hf
      refine v_callVi (rest := []) (As := [.ref (ad 13), .int x1, .int x2]) (C := RX3) (T := TX3) (N := 3) (ci := 3) 62 hX dX6_law_29 (c_X3_leastYear fuel σ x1 x2 hc) rfl rfl (lt_b rfl) rfl rfl rfl mw_685 mw_686 mw_62 mw_684 mw_687 gAll ds_X3_leastYear rfl ⟨Nat.le_of_ble_eq_true rfl, Nat.le_of_ble_eq_true rfl⟩ (Nat.le_of_ble_eq_true rfl) ?_
      obtain rfl := Option.some.inj hf
      exact v_iret (r := v3) hX dX6_law_32 rfl
    · have hf := opt_t c hf
      refine v_ldc (-1000001) hX dX6_law_16 mw_323 ?_
      obtain rfl := Option.some.inj hf
      exact v_iret (r := (-1000001)) hX dX6_law_18 rfl
set_option maxHeartbeats 4000000 in
set_option maxRecDepth 100000 in
theorem c_X6_forged {l : Launch} {D : va_G} {cs : ClassId × ClassId × ClassId} {ad : Nat → Nat} {ts : Nat × Nat × Nat} (σ : Mem) (fuel : Nat)  (x1 : Int32) (x2 : Int32) {z : Int32 × Mem} (hf : f_X6_forged fuel σ x1 x2 = some z) : CtI l (xW D cs ad ts) 4 yX6_forged cX6_forged 3 (some .int) [.ref (ad 0), .int x1, .int x2] σ z.1 z.2 := by
  refine ct_I RX6 [(0, .ref (ad 0)), (1, .int x1), (2, .int x2)] (by decide +kernel) rfl rfl (Nat.le_of_ble_eq_true rfl) ?_
  intro P M hl0 hX
  unfold f_X6_forged at hf
  refine v_aload_n 0 0 hX dX6_forged_0 rfl rfl ?_
  refine v_get (C := RX6) (T := TX6) (N := 10) (ci := 6) (v := .ref (ad 13)) 0 1 hX dX6_forged_1 mw_283 rfl inlX6 rfl (lt_b rfl) (lt_b rfl) rfl rfl ?_
  refine v_get (C := RX1) (T := TX1) (N := 19) (ci := 1) (v := .int (σ 13 0)) 13 0 hX dX6_forged_4 mw_106 rfl inlX1 rfl (lt_b rfl) (lt_b rfl) rfl rfl ?_
  refine v_if_ne 13 hX dX6_forged_7 (by decide) (fun c => ?_) (fun c => ?_)
  · have hf := opt_f c hf
    refine v_iload_n 1 1 hX dX6_forged_13 rfl rfl ?_
    obtain ⟨v1, hc, hf⟩ := opt_b hf
    refine v_callSi (rest := []) (As := [.int x1]) hX dX6_forged_14 (c_X6_isRow σ x1 hc) rfl rfl mw_318 mw_57 mw_317 mw_319 gAll ds_X6_isRow rfl ⟨Nat.le_of_ble_eq_true rfl, Nat.le_of_ble_eq_true rfl⟩ (Nat.le_of_ble_eq_true rfl) ?_
    refine v_if_ne 23 hX dX6_forged_17 (by decide) (fun c => ?_) (fun c => ?_)
    · have hf := opt_f c hf
      refine v_aload_n 0 0 hX dX6_forged_23 rfl rfl ?_
      refine v_get (C := RX6) (T := TX6) (N := 10) (ci := 6) (v := .ref (ad 1)) 0 0 hX dX6_forged_24 mw_282 rfl inlX6 rfl (lt_b rfl) (lt_b rfl) rfl rfl ?_
      refine v_iload_n 1 1 hX dX6_forged_27 rfl rfl ?_
      obtain ⟨v2, hc, hf⟩ := opt_b hf
      refine v_callVi (rest := []) (As := [.int x1]) (C := RX5) (T := TX5) (N := 3) (ci := 5) 1 hX dX6_forged_28 (c_X5_isMissing σ x1 hc) rfl rfl (lt_b rfl) rfl rfl rfl mw_345 mw_346 mw_58 mw_344 mw_347 gAll ds_X5_isMissing rfl ⟨Nat.le_of_ble_eq_true rfl, Nat.le_of_ble_eq_true rfl⟩ (Nat.le_of_ble_eq_true rfl) ?_
      refine v_if_eq 40 hX dX6_forged_31 (by decide) (fun c => ?_) (fun c => ?_)
      · have hf := opt_t c hf
        refine v_aload_n 0 0 hX dX6_forged_40 rfl rfl ?_
        refine v_get (C := RX6) (T := TX6) (N := 10) (ci := 6) (v := .ref (ad 1)) 0 0 hX dX6_forged_41 mw_282 rfl inlX6 rfl (lt_b rfl) (lt_b rfl) rfl rfl ?_
        refine v_iload_n 1 1 hX dX6_forged_44 rfl rfl ?_
        refine v_iload_n 2 2 hX dX6_forged_45 rfl rfl ?_
        refine v_aload_n 0 0 hX dX6_forged_46 rfl rfl ?_
        refine v_get (C := RX6) (T := TX6) (N := 10) (ci := 6) (v := .ref (ad 13)) 0 1 hX dX6_forged_47 mw_283 rfl inlX6 rfl (lt_b rfl) (lt_b rfl) rfl rfl ?_
        refine v_get (C := RX1) (T := TX1) (N := 19) (ci := 1) (v := .int (σ 13 7)) 13 7 hX dX6_forged_50 mw_131 rfl inlX1 rfl (lt_b rfl) (lt_b rfl) rfl rfl ?_
        obtain ⟨v3, hc, hf⟩ := opt_b hf
        refine v_callVi (rest := []) (As := [.int x1, .int x2, .int (σ 13 7)]) (C := RX5) (T := TX5) (N := 3) (ci := 5) 1 hX dX6_forged_53 (c_X5_hasPlaces σ x1 x2 (σ 13 7) hc) rfl rfl (lt_b rfl) rfl rfl rfl mw_349 mw_350 mw_58 mw_348 mw_351 gAll ds_X5_hasPlaces rfl ⟨Nat.le_of_ble_eq_true rfl, Nat.le_of_ble_eq_true rfl⟩ (Nat.le_of_ble_eq_true rfl) ?_
        refine v_if_ne 65 hX dX6_forged_56 (by decide) (fun c => ?_) (fun c => ?_)
        · have hf := opt_f c hf
          refine v_aload_n 0 0 hX dX6_forged_65 rfl rfl ?_
          refine v_aload_n 0 0 hX dX6_forged_66 rfl rfl ?_
          refine v_get (C := RX6) (T := TX6) (N := 10) (ci := 6) (v := .ref (ad 62)) 0 6 hX dX6_forged_67 mw_288 rfl inlX6 rfl (lt_b rfl) (lt_b rfl) rfl rfl ?_
          refine v_aload_n 0 0 hX dX6_forged_70 rfl rfl ?_
          refine v_get (C := RX6) (T := TX6) (N := 10) (ci := 6) (v := .ref (ad 13)) 0 1 hX dX6_forged_71 mw_283 rfl inlX6 rfl (lt_b rfl) (lt_b rfl) rfl rfl ?_
          refine v_aload_n 0 0 hX dX6_forged_74 rfl rfl ?_
          refine v_get (C := RX6) (T := TX6) (N := 10) (ci := 6) (v := .ref (ad 1)) 0 0 hX dX6_forged_75 mw_282 rfl inlX6 rfl (lt_b rfl) (lt_b rfl) rfl rfl ?_
          refine v_get (C := RX5) (T := TX5) (N := 3) (ci := 5) (v := .ref (ad 4)) 1 2 hX dX6_forged_78 mw_90 rfl inlX5 rfl (lt_b rfl) (lt_b rfl) rfl rfl ?_
          refine v_iload_n 1 1 hX dX6_forged_81 rfl rfl ?_
          obtain ⟨hi4, hf⟩ := gd_some hf
          refine v_aald hX dX6_forged_82 hi4 ?_
          refine v_iload_n 2 2 hX dX6_forged_83 rfl rfl ?_
          obtain ⟨v5, hc, hf⟩ := opt_b hf
          refine v_callVi (rest := [.ref (ad 0)]) (As := [.ref (ad 13), .ref (ad (5 + x1.toNatClampNeg)), .int x2]) (C := RX3) (T := TX3) (N := 3) (ci := 3) 62 hX dX6_forged_84 (c_X3_forgedBy fuel σ x1.toNatClampNeg (inB_lt hi4) x2 hc) rfl rfl (lt_b rfl) rfl rfl rfl mw_725 mw_726 mw_62 mw_724 mw_727 gAll ds_X3_forgedBy rfl ⟨Nat.le_of_ble_eq_true rfl, Nat.le_of_ble_eq_true rfl⟩ (Nat.le_of_ble_eq_true rfl) ?_
          obtain ⟨v6, hc, hf⟩ := opt_b hf
          refine v_callVi (rest := []) (As := [.int v5]) (C := RX6) (T := TX6) (N := 10) (ci := 6) 0 hX dX6_forged_87 (c_X6_unfound σ v5 hc) rfl rfl (lt_b rfl) rfl rfl rfl mw_338 mw_1 mw_57 mw_336 mw_339 gAll ds_X6_unfound rfl ⟨Nat.le_of_ble_eq_true rfl, Nat.le_of_ble_eq_true rfl⟩ (Nat.le_of_ble_eq_true rfl) ?_
          obtain rfl := Option.some.inj hf
          exact v_iret (r := v6.1) hX dX6_forged_90 rfl
        · have hf := opt_t c hf
          refine v_aload_n 0 0 hX dX6_forged_59 rfl rfl ?_
          refine v_iconst 2 hX dX6_forged_60 (by decide) ?_
          obtain ⟨v7, hc, hf⟩ := opt_b hf
          refine v_callVi (rest := []) (As := [.int 2]) (C := RX6) (T := TX6) (N := 10) (ci := 6) 0 hX dX6_forged_61 (c_X6_found σ 2 hc) rfl rfl (lt_b rfl) rfl rfl rfl mw_326 mw_0 mw_57 mw_324 mw_327 gAll ds_X6_found rfl ⟨Nat.le_of_ble_eq_true rfl, Nat.le_of_ble_eq_true rfl⟩ (Nat.le_of_ble_eq_true rfl) ?_
          obtain rfl := Option.some.inj hf
          exact v_iret (r := v7.1) hX dX6_forged_64 rfl
      · have hf := opt_f c hf
        refine v_aload_n 0 0 hX dX6_forged_34 rfl rfl ?_
        refine v_iconst 1 hX dX6_forged_35 (by decide) ?_
        obtain ⟨v8, hc, hf⟩ := opt_b hf
        refine v_callVi (rest := []) (As := [.int 1]) (C := RX6) (T := TX6) (N := 10) (ci := 6) 0 hX dX6_forged_36 (c_X6_found σ 1 hc) rfl rfl (lt_b rfl) rfl rfl rfl mw_326 mw_0 mw_57 mw_324 mw_327 gAll ds_X6_found rfl ⟨Nat.le_of_ble_eq_true rfl, Nat.le_of_ble_eq_true rfl⟩ (Nat.le_of_ble_eq_true rfl) ?_
        obtain rfl := Option.some.inj hf
        exact v_iret (r := v8.1) hX dX6_forged_39 rfl
    · have hf := opt_t c hf
      refine v_ldc (-1000001) hX dX6_forged_20 mw_323 ?_
      obtain rfl := Option.some.inj hf
      exact v_iret (r := (-1000001)) hX dX6_forged_22 rfl
  · have hf := opt_t c hf
    refine v_ldc (-1000002) hX dX6_forged_10 mw_473 ?_
    obtain rfl := Option.some.inj hf
    exact v_iret (r := (-1000002)) hX dX6_forged_12 rfl
set_option maxHeartbeats 4000000 in
set_option maxRecDepth 100000 in
theorem c_X6_years {l : Launch} {D : va_G} {cs : ClassId × ClassId × ClassId} {ad : Nat → Nat} {ts : Nat × Nat × Nat} (fuel : Nat) (σ : Mem)  (x1 : Int32) (x2 : Int32) (x3 : Int32) {z : Int32} (hf : f_X6_years fuel σ x1 x2 x3 = some z) : CtI l (xW D cs ad ts) 4 yX6_years cX6_years 4 (some .int) [.ref (ad 0), .int x1, .int x2, .int x3] σ z σ := by
  refine ct_I RX6 [(0, .ref (ad 0)), (1, .int x1), (2, .int x2), (3, .int x3)] (by decide +kernel) rfl rfl (Nat.le_of_ble_eq_true rfl) ?_
  intro P M hl0 hX
  unfold f_X6_years at hf
  refine v_aload_n 0 0 hX dX6_years_0 rfl rfl ?_
  refine v_get (C := RX6) (T := TX6) (N := 10) (ci := 6) (v := .ref (ad 13)) 0 1 hX dX6_years_1 mw_283 rfl inlX6 rfl (lt_b rfl) (lt_b rfl) rfl rfl ?_
  refine v_get (C := RX1) (T := TX1) (N := 19) (ci := 1) (v := .int (σ 13 0)) 13 0 hX dX6_years_4 mw_106 rfl inlX1 rfl (lt_b rfl) (lt_b rfl) rfl rfl ?_
  refine v_if_ne 13 hX dX6_years_7 (by decide) (fun c => ?_) (fun c => ?_)
  · have hf := opt_f c hf
    refine v_iload_n 1 1 hX dX6_years_13 rfl rfl ?_
    refine v_if_lt 43 hX dX6_years_14 (by decide) (fun c => ?_) (fun c => ?_)
    · have hf := opt_t c hf
      refine v_ldc (-1000001) hX dX6_years_43 mw_323 ?_
      obtain rfl := Option.some.inj hf
      exact v_iret (r := (-1000001)) hX dX6_years_45 rfl
    · have hf := opt_f c hf
      refine v_iload_n 1 1 hX dX6_years_17 rfl rfl ?_
      refine v_bipush 100 hX dX6_years_18 (by decide) ?_
      refine v_icmp_gt 43 hX dX6_years_20 (by decide) (fun c => ?_) (fun c => ?_)
      · have hf := opt_t c hf
        refine v_ldc (-1000001) hX dX6_years_43 mw_323 ?_
        obtain rfl := Option.some.inj hf
        exact v_iret (r := (-1000001)) hX dX6_years_45 rfl
      · have hf := opt_f c hf
        refine v_iload_n 2 2 hX dX6_years_23 rfl rfl ?_
        refine v_iconst 1 hX dX6_years_24 (by decide) ?_
        refine v_icmp_lt 43 hX dX6_years_25 (by decide) (fun c => ?_) (fun c => ?_)
        · have hf := opt_t c hf
          refine v_ldc (-1000001) hX dX6_years_43 mw_323 ?_
          obtain rfl := Option.some.inj hf
          exact v_iret (r := (-1000001)) hX dX6_years_45 rfl
        · have hf := opt_f c hf
          refine v_iload_n 2 2 hX dX6_years_28 rfl rfl ?_
          refine v_ldcw 999999 hX dX6_years_29 mw_745 ?_
          refine v_icmp_gt 43 hX dX6_years_32 (by decide) (fun c => ?_) (fun c => ?_)
          · have hf := opt_t c hf
            refine v_ldc (-1000001) hX dX6_years_43 mw_323 ?_
            obtain rfl := Option.some.inj hf
            exact v_iret (r := (-1000001)) hX dX6_years_45 rfl
          · have hf := opt_f c hf
            refine v_iload_n 3 3 hX dX6_years_35 rfl rfl ?_
            refine v_iconst 2 hX dX6_years_36 (by decide) ?_
            obtain ⟨v1, hc, hf⟩ := opt_b hf
            refine v_callSi (rest := []) (As := [.int x3, .int 2]) hX dX6_years_37 (c_X6_isBelow σ x3 2 hc) rfl rfl mw_321 mw_57 mw_320 mw_322 gAll ds_X6_isBelow rfl ⟨Nat.le_of_ble_eq_true rfl, Nat.le_of_ble_eq_true rfl⟩ (Nat.le_of_ble_eq_true rfl) ?_
            refine v_if_ne 46 hX dX6_years_40 (by decide) (fun c => ?_) (fun c => ?_)
            · have hf := opt_f c hf
              refine v_aload_n 0 0 hX dX6_years_46 rfl rfl ?_
              refine v_get (C := RX6) (T := TX6) (N := 10) (ci := 6) (v := .ref (ad 62)) 0 6 hX dX6_years_47 mw_288 rfl inlX6 rfl (lt_b rfl) (lt_b rfl) rfl rfl ?_
              refine v_aload_n 0 0 hX dX6_years_50 rfl rfl ?_
              refine v_get (C := RX6) (T := TX6) (N := 10) (ci := 6) (v := .ref (ad 13)) 0 1 hX dX6_years_51 mw_283 rfl inlX6 rfl (lt_b rfl) (lt_b rfl) rfl rfl ?_
              refine v_iload_n 1 1 hX dX6_years_54 rfl rfl ?_
              refine v_iload_n 2 2 hX dX6_years_55 rfl rfl ?_
              refine v_iload_n 3 3 hX dX6_years_56 rfl rfl ?_
              obtain ⟨v2, hc, hf⟩ := opt_b hf
              refine v_callVi (rest := []) (As := [.ref (ad 13), .int x1, .int x2, .int x3]) (C := RX3) (T := TX3) (N := 3) (ci := 3) 62 hX dX6_years_57 (c_X3_byDraws fuel σ x1 x2 x3 hc) rfl rfl (lt_b rfl) rfl rfl rfl mw_747 mw_748 mw_62 mw_746 mw_749 gAll ds_X3_byDraws rfl ⟨Nat.le_of_ble_eq_true rfl, Nat.le_of_ble_eq_true rfl⟩ (Nat.le_of_ble_eq_true rfl) ?_
              obtain rfl := Option.some.inj hf
              exact v_iret (r := v2) hX dX6_years_60 rfl
            · have hf := opt_t c hf
              refine v_ldc (-1000001) hX dX6_years_43 mw_323 ?_
              obtain rfl := Option.some.inj hf
              exact v_iret (r := (-1000001)) hX dX6_years_45 rfl
  · have hf := opt_t c hf
    refine v_ldc (-1000002) hX dX6_years_10 mw_473 ?_
    obtain rfl := Option.some.inj hf
    exact v_iret (r := (-1000002)) hX dX6_years_12 rfl
set_option maxHeartbeats 4000000 in
set_option maxRecDepth 100000 in
theorem c_X7_readsLaw {l : Launch} {D : va_G} {cs : ClassId × ClassId × ClassId} {ad : Nat → Nat} (σ : Mem) (fuel : Nat)   {z : Int32 × Mem} (hf : f_X7_readsLaw fuel σ = some z) : CtI l (mW D cs ad) 4 yX7_readsLaw cX7_readsLaw 1 (some .boolean) [.ref (ad 0)] σ z.1 z.2 := by
  refine ct_I RX7 [(0, .ref (ad 0))] (by decide +kernel) rfl rfl (Nat.le_of_ble_eq_true rfl) ?_
  intro P M hl0 hX
  unfold f_X7_readsLaw at hf
  refine v_aload_n 0 0 hX dX7_readsLaw_0 rfl rfl ?_
  obtain ⟨v1, hc, hf⟩ := opt_b hf
  refine v_callVv (rest := []) (As := []) (C := RX7) (T := TX7) (N := 22) (ci := 7) 0 hX dX7_readsLaw_1 (c_X7_next σ fuel hc) rfl rfl (lt_b rfl) rfl rfl rfl mw_958 mw_31 mw_64 mw_956 mw_959 gAll ds_X7_next rfl ⟨Nat.le_of_ble_eq_true rfl, Nat.le_of_ble_eq_true rfl⟩ (Nat.le_of_ble_eq_true rfl) ?_
  refine v_aload_n 0 0 hX dX7_readsLaw_4 rfl rfl ?_
  refine v_bipush 105 hX dX7_readsLaw_5 (by decide) ?_
  obtain ⟨v2, hc, hf⟩ := opt_b hf
  refine v_callVi (rest := []) (As := [.int 105]) (C := RX7) (T := TX7) (N := 22) (ci := 7) 0 hX dX7_readsLaw_7 (c_X7_isLetter v1 105 hc) rfl rfl (lt_b rfl) rfl rfl rfl mw_969 mw_32 mw_64 mw_967 mw_970 gAll ds_X7_isLetter rfl ⟨Nat.le_of_ble_eq_true rfl, Nat.le_of_ble_eq_true rfl⟩ (Nat.le_of_ble_eq_true rfl) ?_
  refine v_if_ne 19 hX dX7_readsLaw_10 (by decide) (fun c => ?_) (fun c => ?_)
  · have hf := opt_f c hf
    refine v_aload_n 0 0 hX dX7_readsLaw_19 rfl rfl ?_
    refine v_iconst 0 hX dX7_readsLaw_20 (by decide) ?_
    refine v_iconst 1 hX dX7_readsLaw_21 (by decide) ?_
    refine v_bipush 99 hX dX7_readsLaw_22 (by decide) ?_
    obtain ⟨v3, hc, hf⟩ := opt_b hf
    refine v_callVi (rest := []) (As := [.int 0, .int 1, .int 99]) (C := RX7) (T := TX7) (N := 22) (ci := 7) 0 hX dX7_readsLaw_24 (c_X7_number v1 fuel 0 1 99 hc) rfl rfl (lt_b rfl) rfl rfl rfl mw_977 mw_34 mw_64 mw_975 mw_978 gAll ds_X7_number rfl ⟨Nat.le_of_ble_eq_true rfl, Nat.le_of_ble_eq_true rfl⟩ (Nat.le_of_ble_eq_true rfl) ?_
    refine v_if_eq 61 hX dX7_readsLaw_27 (by decide) (fun c => ?_) (fun c => ?_)
    · have hf := opt_t c hf
      refine v_iconst 0 hX dX7_readsLaw_61 (by decide) ?_
      obtain rfl := Option.some.inj hf
      exact v_iret (r := 0) hX dX7_readsLaw_62 rfl
    · have hf := opt_f c hf
      refine v_aload_n 0 0 hX dX7_readsLaw_30 rfl rfl ?_
      refine v_iconst 3 hX dX7_readsLaw_31 (by decide) ?_
      obtain ⟨v4, hc, hf⟩ := opt_b hf
      refine v_callVi (rest := []) (As := [.int 3]) (C := RX7) (T := TX7) (N := 22) (ci := 7) 0 hX dX7_readsLaw_32 (c_X7_sign v3.2 fuel 3 hc) rfl rfl (lt_b rfl) rfl rfl rfl mw_981 mw_35 mw_64 mw_979 mw_982 gAll ds_X7_sign rfl ⟨Nat.le_of_ble_eq_true rfl, Nat.le_of_ble_eq_true rfl⟩ (Nat.le_of_ble_eq_true rfl) ?_
      refine v_if_eq 61 hX dX7_readsLaw_35 (by decide) (fun c => ?_) (fun c => ?_)
      · have hf := opt_t c hf
        refine v_iconst 0 hX dX7_readsLaw_61 (by decide) ?_
        obtain rfl := Option.some.inj hf
        exact v_iret (r := 0) hX dX7_readsLaw_62 rfl
      · have hf := opt_f c hf
        refine v_aload_n 0 0 hX dX7_readsLaw_38 rfl rfl ?_
        refine v_iconst 1 hX dX7_readsLaw_39 (by decide) ?_
        refine v_iconst 1 hX dX7_readsLaw_40 (by decide) ?_
        refine v_bipush 99 hX dX7_readsLaw_41 (by decide) ?_
        obtain ⟨v5, hc, hf⟩ := opt_b hf
        refine v_callVi (rest := []) (As := [.int 1, .int 1, .int 99]) (C := RX7) (T := TX7) (N := 22) (ci := 7) 0 hX dX7_readsLaw_43 (c_X7_number v4.2 fuel 1 1 99 hc) rfl rfl (lt_b rfl) rfl rfl rfl mw_977 mw_34 mw_64 mw_975 mw_978 gAll ds_X7_number rfl ⟨Nat.le_of_ble_eq_true rfl, Nat.le_of_ble_eq_true rfl⟩ (Nat.le_of_ble_eq_true rfl) ?_
        refine v_if_eq 61 hX dX7_readsLaw_46 (by decide) (fun c => ?_) (fun c => ?_)
        · have hf := opt_t c hf
          refine v_iconst 0 hX dX7_readsLaw_61 (by decide) ?_
          obtain rfl := Option.some.inj hf
          exact v_iret (r := 0) hX dX7_readsLaw_62 rfl
        · have hf := opt_f c hf
          refine v_aload_n 0 0 hX dX7_readsLaw_49 rfl rfl ?_
          refine v_iconst 4 hX dX7_readsLaw_50 (by decide) ?_
          obtain ⟨v6, hc, hf⟩ := opt_b hf
          refine v_callVi (rest := []) (As := [.int 4]) (C := RX7) (T := TX7) (N := 22) (ci := 7) 0 hX dX7_readsLaw_51 (c_X7_sign v5.2 fuel 4 hc) rfl rfl (lt_b rfl) rfl rfl rfl mw_981 mw_35 mw_64 mw_979 mw_982 gAll ds_X7_sign rfl ⟨Nat.le_of_ble_eq_true rfl, Nat.le_of_ble_eq_true rfl⟩ (Nat.le_of_ble_eq_true rfl) ?_
          refine v_if_eq 61 hX dX7_readsLaw_54 (by decide) (fun c => ?_) (fun c => ?_)
          · have hf := opt_t c hf
            refine v_iconst 0 hX dX7_readsLaw_61 (by decide) ?_
            obtain rfl := Option.some.inj hf
            exact v_iret (r := 0) hX dX7_readsLaw_62 rfl
          · have hf := opt_f c hf
            refine v_iconst 1 hX dX7_readsLaw_57 (by decide) ?_
            refine v_goto 62 hX dX7_readsLaw_58 (by decide) ?_
            obtain rfl := Option.some.inj hf
            exact v_iret (r := 1) hX dX7_readsLaw_62 rfl
  · have hf := opt_t c hf
    refine v_aload_n 0 0 hX dX7_readsLaw_13 rfl rfl ?_
    refine v_iconst 1 hX dX7_readsLaw_14 (by decide) ?_
    obtain ⟨v7, hc, hf⟩ := opt_b hf
    refine v_callVi (rest := []) (As := [.int 1]) (C := RX7) (T := TX7) (N := 22) (ci := 7) 0 hX dX7_readsLaw_15 (c_X7_fails v1 1 hc) rfl rfl (lt_b rfl) rfl rfl rfl mw_973 mw_33 mw_64 mw_971 mw_974 gAll ds_X7_fails rfl ⟨Nat.le_of_ble_eq_true rfl, Nat.le_of_ble_eq_true rfl⟩ (Nat.le_of_ble_eq_true rfl) ?_
    obtain ⟨hg8, hf⟩ := gd_some hf
    obtain rfl := Option.some.inj hf
    exact v_iret (r := v7.1) hX dX7_readsLaw_18 (isB_n hg8)
set_option maxHeartbeats 4000000 in
set_option maxRecDepth 100000 in
theorem c_X7_readsHand {l : Launch} {D : va_G} {cs : ClassId × ClassId × ClassId} {ad : Nat → Nat} (σ : Mem) (fuel : Nat)  (x1 : Int32) {z : Int32 × Mem} (hf : f_X7_readsHand fuel σ x1 = some z) : CtI l (mW D cs ad) 4 yX7_readsHand cX7_readsHand 3 (some .boolean) [.ref (ad 0), .int x1] σ z.1 z.2 := by
  refine ct_I RX7 [(0, .ref (ad 0)), (1, .int x1)] (by decide +kernel) rfl rfl (Nat.le_of_ble_eq_true rfl) ?_
  intro P M hl0 hX
  unfold f_X7_readsHand at hf
  refine v_aload_n 0 0 hX dX7_readsHand_0 rfl rfl ?_
  refine v_get (C := RX7) (T := TX7) (N := 22) (ci := 7) (v := .ref (ad 10)) 0 20 hX dX7_readsHand_1 mw_856 rfl inlX7 rfl (lt_b rfl) (lt_b rfl) rfl rfl ?_
  refine v_iconst 2 hX dX7_readsHand_4 (by decide) ?_
  refine v_aldc (v := σ 10 2) 10 2 hX dX7_readsHand_5 (lt_b rfl) ((fun _ => rfl) _) ib_2_85 tn_2 rfl ?_
  refine v_istore_n 2 [(2, .int (σ 10 2)), (0, .ref (ad 0)), (1, .int x1)] hX dX7_readsHand_6 rfl (lt_b rfl) rfl ?_
  refine v_iload_n 0 2 hX dX7_readsHand_7 rfl rfl ?_
  refine v_iconst 4 hX dX7_readsHand_8 (by decide) ?_
  refine v_icmp_ne 18 hX dX7_readsHand_9 (by decide) (fun c => ?_) (fun c => ?_)
  · have hf := opt_f c hf
    refine v_aload_n 1 0 hX dX7_readsHand_18 rfl rfl ?_
    refine v_get (C := RX7) (T := TX7) (N := 22) (ci := 7) (v := .ref (ad 10)) 0 20 hX dX7_readsHand_19 mw_856 rfl inlX7 rfl (lt_b rfl) (lt_b rfl) rfl rfl ?_
    refine v_bipush 7 hX dX7_readsHand_22 (by decide) ?_
    refine v_iload_n 0 2 hX dX7_readsHand_24 rfl rfl ?_
    refine v_iadd hX dX7_readsHand_25 ?_
    refine v_iload_n 2 1 hX dX7_readsHand_26 rfl rfl ?_
    obtain ⟨hi1, hf⟩ := gd_some hf
    refine v_ast 10 hX dX7_readsHand_27 (lt_b rfl) (fun _ => rfl) hi1 ?_
    refine v_aload_n 1 0 hX dX7_readsHand_28 rfl rfl ?_
    refine v_get (C := RX7) (T := TX7) (N := 22) (ci := 7) (v := .ref (ad 10)) 0 20 hX dX7_readsHand_29 mw_856 rfl inlX7 rfl (lt_b rfl) (lt_b rfl) rfl rfl ?_
    refine v_iconst 2 hX dX7_readsHand_32 (by decide) ?_
    refine v_dup2 hX dX7_readsHand_33 rfl rfl ?_
    obtain ⟨s2, hs, hf⟩ := opt_b hf
    refine v_mem (Option.some.inj hs) ?_
    refine v_aldc (v := s2 10 2) 10 2 hX dX7_readsHand_34 (lt_b rfl) ((fun _ => rfl) _) ib_2_85 tn_2 rfl ?_
    refine v_iconst 1 hX dX7_readsHand_35 (by decide) ?_
    refine v_iadd hX dX7_readsHand_36 ?_
    refine v_astc 10 2 hX dX7_readsHand_37 (lt_b rfl) (fun _ => rfl) ib_2_85 tn_2 ?_
    refine v_aload_n 1 0 hX dX7_readsHand_38 rfl rfl ?_
    refine v_bipush 11 hX dX7_readsHand_39 (by decide) ?_
    refine v_iload_n 0 2 hX dX7_readsHand_41 rfl rfl ?_
    refine v_iadd hX dX7_readsHand_42 ?_
    refine v_iconst 0 hX dX7_readsHand_43 (by decide) ?_
    refine v_bipush 9 hX dX7_readsHand_44 (by decide) ?_
    obtain ⟨v3, hc, hf⟩ := opt_b hf
    refine v_callVi (rest := []) (As := [.int (11 + (σ 10 2)), .int 0, .int 9]) (C := RX7) (T := TX7) (N := 22) (ci := 7) 0 hX dX7_readsHand_46 (c_X7_number (mst s2 10 2 ((s2 10 2) + 1)) fuel (11 + (σ 10 2)) 0 9 hc) rfl rfl (lt_b rfl) rfl rfl rfl mw_977 mw_34 mw_64 mw_975 mw_978 gAll ds_X7_number rfl ⟨Nat.le_of_ble_eq_true rfl, Nat.le_of_ble_eq_true rfl⟩ (Nat.le_of_ble_eq_true rfl) ?_
    refine v_if_eq 64 hX dX7_readsHand_49 (by decide) (fun c => ?_) (fun c => ?_)
    · have hf := opt_t c hf
      refine v_iconst 0 hX dX7_readsHand_64 (by decide) ?_
      obtain rfl := Option.some.inj hf
      exact v_iret (r := 0) hX dX7_readsHand_65 rfl
    · have hf := opt_f c hf
      refine v_aload_n 1 0 hX dX7_readsHand_52 rfl rfl ?_
      refine v_iconst 4 hX dX7_readsHand_53 (by decide) ?_
      obtain ⟨v4, hc, hf⟩ := opt_b hf
      refine v_callVi (rest := []) (As := [.int 4]) (C := RX7) (T := TX7) (N := 22) (ci := 7) 0 hX dX7_readsHand_54 (c_X7_sign v3.2 fuel 4 hc) rfl rfl (lt_b rfl) rfl rfl rfl mw_981 mw_35 mw_64 mw_979 mw_982 gAll ds_X7_sign rfl ⟨Nat.le_of_ble_eq_true rfl, Nat.le_of_ble_eq_true rfl⟩ (Nat.le_of_ble_eq_true rfl) ?_
      refine v_if_eq 64 hX dX7_readsHand_57 (by decide) (fun c => ?_) (fun c => ?_)
      · have hf := opt_t c hf
        refine v_iconst 0 hX dX7_readsHand_64 (by decide) ?_
        obtain rfl := Option.some.inj hf
        exact v_iret (r := 0) hX dX7_readsHand_65 rfl
      · have hf := opt_f c hf
        refine v_iconst 1 hX dX7_readsHand_60 (by decide) ?_
        refine v_goto 65 hX dX7_readsHand_61 (by decide) ?_
        obtain rfl := Option.some.inj hf
        exact v_iret (r := 1) hX dX7_readsHand_65 rfl
  · have hf := opt_t c hf
    refine v_aload_n 1 0 hX dX7_readsHand_12 rfl rfl ?_
    refine v_iconst 3 hX dX7_readsHand_13 (by decide) ?_
    obtain ⟨v5, hc, hf⟩ := opt_b hf
    refine v_callVi (rest := []) (As := [.int 3]) (C := RX7) (T := TX7) (N := 22) (ci := 7) 0 hX dX7_readsHand_14 (c_X7_fails σ 3 hc) rfl rfl (lt_b rfl) rfl rfl rfl mw_973 mw_33 mw_64 mw_971 mw_974 gAll ds_X7_fails rfl ⟨Nat.le_of_ble_eq_true rfl, Nat.le_of_ble_eq_true rfl⟩ (Nat.le_of_ble_eq_true rfl) ?_
    obtain ⟨hg6, hf⟩ := gd_some hf
    obtain rfl := Option.some.inj hf
    exact v_iret (r := v5.1) hX dX7_readsHand_17 (isB_n hg6)
set_option maxHeartbeats 4000000 in
set_option maxRecDepth 100000 in
theorem c_X7_readsCopy {l : Launch} {D : va_G} {cs : ClassId × ClassId × ClassId} {ad : Nat → Nat} (σ : Mem) (fuel : Nat)   {z : Int32 × Mem} (hf : f_X7_readsCopy fuel σ = some z) : CtI l (mW D cs ad) 4 yX7_readsCopy cX7_readsCopy 2 (some .boolean) [.ref (ad 0)] σ z.1 z.2 := by
  refine ct_I RX7 [(0, .ref (ad 0))] (by decide +kernel) rfl rfl (Nat.le_of_ble_eq_true rfl) ?_
  intro P M hl0 hX
  unfold f_X7_readsCopy at hf
  refine v_aload_n 0 0 hX dX7_readsCopy_0 rfl rfl ?_
  refine v_get (C := RX7) (T := TX7) (N := 22) (ci := 7) (v := .ref (ad 10)) 0 20 hX dX7_readsCopy_1 mw_856 rfl inlX7 rfl (lt_b rfl) (lt_b rfl) rfl rfl ?_
  refine v_iconst 3 hX dX7_readsCopy_4 (by decide) ?_
  refine v_aldc (v := σ 10 3) 10 3 hX dX7_readsCopy_5 (lt_b rfl) ((fun _ => rfl) _) ib_3_85 tn_3 rfl ?_
  refine v_istore_n 1 [(1, .int (σ 10 3)), (0, .ref (ad 0))] hX dX7_readsCopy_6 rfl (lt_b rfl) rfl ?_
  refine v_iload_n 0 1 hX dX7_readsCopy_7 rfl rfl ?_
  refine v_bipush 10 hX dX7_readsCopy_8 (by decide) ?_
  refine v_icmp_ne 19 hX dX7_readsCopy_10 (by decide) (fun c => ?_) (fun c => ?_)
  · have hf := opt_f c hf
    refine v_aload_n 1 0 hX dX7_readsCopy_19 rfl rfl ?_
    refine v_get (C := RX7) (T := TX7) (N := 22) (ci := 7) (v := .ref (ad 10)) 0 20 hX dX7_readsCopy_20 mw_856 rfl inlX7 rfl (lt_b rfl) (lt_b rfl) rfl rfl ?_
    refine v_iconst 3 hX dX7_readsCopy_23 (by decide) ?_
    refine v_dup2 hX dX7_readsCopy_24 rfl rfl ?_
    refine v_aldc (v := σ 10 3) 10 3 hX dX7_readsCopy_25 (lt_b rfl) ((fun _ => rfl) _) ib_3_85 tn_3 rfl ?_
    refine v_iconst 1 hX dX7_readsCopy_26 (by decide) ?_
    refine v_iadd hX dX7_readsCopy_27 ?_
    refine v_astc 10 3 hX dX7_readsCopy_28 (lt_b rfl) (fun _ => rfl) ib_3_85 tn_3 ?_
    refine v_aload_n 1 0 hX dX7_readsCopy_29 rfl rfl ?_
    refine v_bipush 15 hX dX7_readsCopy_30 (by decide) ?_
    refine v_iload_n 0 1 hX dX7_readsCopy_32 rfl rfl ?_
    refine v_iadd hX dX7_readsCopy_33 ?_
    refine v_iconst 0 hX dX7_readsCopy_34 (by decide) ?_
    refine v_iconst 5 hX dX7_readsCopy_35 (by decide) ?_
    obtain ⟨v1, hc, hf⟩ := opt_b hf
    refine v_callVi (rest := []) (As := [.int (15 + (σ 10 3)), .int 0, .int 5]) (C := RX7) (T := TX7) (N := 22) (ci := 7) 0 hX dX7_readsCopy_36 (c_X7_number (mst σ 10 3 ((σ 10 3) + 1)) fuel (15 + (σ 10 3)) 0 5 hc) rfl rfl (lt_b rfl) rfl rfl rfl mw_977 mw_34 mw_64 mw_975 mw_978 gAll ds_X7_number rfl ⟨Nat.le_of_ble_eq_true rfl, Nat.le_of_ble_eq_true rfl⟩ (Nat.le_of_ble_eq_true rfl) ?_
    refine v_if_eq 104 hX dX7_readsCopy_39 (by decide) (fun c => ?_) (fun c => ?_)
    · have hf := opt_t c hf
      refine v_iconst 0 hX dX7_readsCopy_104 (by decide) ?_
      obtain rfl := Option.some.inj hf
      exact v_iret (r := 0) hX dX7_readsCopy_105 rfl
    · have hf := opt_f c hf
      refine v_aload_n 1 0 hX dX7_readsCopy_42 rfl rfl ?_
      refine v_iconst 3 hX dX7_readsCopy_43 (by decide) ?_
      obtain ⟨v2, hc, hf⟩ := opt_b hf
      refine v_callVi (rest := []) (As := [.int 3]) (C := RX7) (T := TX7) (N := 22) (ci := 7) 0 hX dX7_readsCopy_44 (c_X7_sign v1.2 fuel 3 hc) rfl rfl (lt_b rfl) rfl rfl rfl mw_981 mw_35 mw_64 mw_979 mw_982 gAll ds_X7_sign rfl ⟨Nat.le_of_ble_eq_true rfl, Nat.le_of_ble_eq_true rfl⟩ (Nat.le_of_ble_eq_true rfl) ?_
      refine v_if_eq 104 hX dX7_readsCopy_47 (by decide) (fun c => ?_) (fun c => ?_)
      · have hf := opt_t c hf
        refine v_iconst 0 hX dX7_readsCopy_104 (by decide) ?_
        obtain rfl := Option.some.inj hf
        exact v_iret (r := 0) hX dX7_readsCopy_105 rfl
      · have hf := opt_f c hf
        refine v_aload_n 1 0 hX dX7_readsCopy_50 rfl rfl ?_
        refine v_bipush 25 hX dX7_readsCopy_51 (by decide) ?_
        refine v_iload_n 0 1 hX dX7_readsCopy_53 rfl rfl ?_
        refine v_iadd hX dX7_readsCopy_54 ?_
        refine v_iconst 0 hX dX7_readsCopy_55 (by decide) ?_
        refine v_aload_n 1 0 hX dX7_readsCopy_56 rfl rfl ?_
        refine v_get (C := RX7) (T := TX7) (N := 22) (ci := 7) (v := .ref (ad 10)) 0 20 hX dX7_readsCopy_57 mw_856 rfl inlX7 rfl (lt_b rfl) (lt_b rfl) rfl rfl ?_
        refine v_iconst 2 hX dX7_readsCopy_60 (by decide) ?_
        refine v_aldc (v := v2.2 10 2) 10 2 hX dX7_readsCopy_61 (lt_b rfl) ((fun _ => rfl) _) ib_2_85 tn_2 rfl ?_
        refine v_iconst 1 hX dX7_readsCopy_62 (by decide) ?_
        refine v_isub hX dX7_readsCopy_63 ?_
        obtain ⟨v3, hc, hf⟩ := opt_b hf
        refine v_callVi (rest := []) (As := [.int (25 + (σ 10 3)), .int 0, .int ((v2.2 10 2) - 1)]) (C := RX7) (T := TX7) (N := 22) (ci := 7) 0 hX dX7_readsCopy_64 (c_X7_number v2.2 fuel (25 + (σ 10 3)) 0 ((v2.2 10 2) - 1) hc) rfl rfl (lt_b rfl) rfl rfl rfl mw_977 mw_34 mw_64 mw_975 mw_978 gAll ds_X7_number rfl ⟨Nat.le_of_ble_eq_true rfl, Nat.le_of_ble_eq_true rfl⟩ (Nat.le_of_ble_eq_true rfl) ?_
        refine v_if_eq 104 hX dX7_readsCopy_67 (by decide) (fun c => ?_) (fun c => ?_)
        · have hf := opt_t c hf
          refine v_iconst 0 hX dX7_readsCopy_104 (by decide) ?_
          obtain rfl := Option.some.inj hf
          exact v_iret (r := 0) hX dX7_readsCopy_105 rfl
        · have hf := opt_f c hf
          refine v_aload_n 1 0 hX dX7_readsCopy_70 rfl rfl ?_
          refine v_iconst 3 hX dX7_readsCopy_71 (by decide) ?_
          obtain ⟨v4, hc, hf⟩ := opt_b hf
          refine v_callVi (rest := []) (As := [.int 3]) (C := RX7) (T := TX7) (N := 22) (ci := 7) 0 hX dX7_readsCopy_72 (c_X7_sign v3.2 fuel 3 hc) rfl rfl (lt_b rfl) rfl rfl rfl mw_981 mw_35 mw_64 mw_979 mw_982 gAll ds_X7_sign rfl ⟨Nat.le_of_ble_eq_true rfl, Nat.le_of_ble_eq_true rfl⟩ (Nat.le_of_ble_eq_true rfl) ?_
          refine v_if_eq 104 hX dX7_readsCopy_75 (by decide) (fun c => ?_) (fun c => ?_)
          · have hf := opt_t c hf
            refine v_iconst 0 hX dX7_readsCopy_104 (by decide) ?_
            obtain rfl := Option.some.inj hf
            exact v_iret (r := 0) hX dX7_readsCopy_105 rfl
          · have hf := opt_f c hf
            refine v_aload_n 1 0 hX dX7_readsCopy_78 rfl rfl ?_
            refine v_bipush 35 hX dX7_readsCopy_79 (by decide) ?_
            refine v_iload_n 0 1 hX dX7_readsCopy_81 rfl rfl ?_
            refine v_iadd hX dX7_readsCopy_82 ?_
            refine v_iconst 1 hX dX7_readsCopy_83 (by decide) ?_
            refine v_bipush 9 hX dX7_readsCopy_84 (by decide) ?_
            obtain ⟨v5, hc, hf⟩ := opt_b hf
            refine v_callVi (rest := []) (As := [.int (35 + (σ 10 3)), .int 1, .int 9]) (C := RX7) (T := TX7) (N := 22) (ci := 7) 0 hX dX7_readsCopy_86 (c_X7_number v4.2 fuel (35 + (σ 10 3)) 1 9 hc) rfl rfl (lt_b rfl) rfl rfl rfl mw_977 mw_34 mw_64 mw_975 mw_978 gAll ds_X7_number rfl ⟨Nat.le_of_ble_eq_true rfl, Nat.le_of_ble_eq_true rfl⟩ (Nat.le_of_ble_eq_true rfl) ?_
            refine v_if_eq 104 hX dX7_readsCopy_89 (by decide) (fun c => ?_) (fun c => ?_)
            · have hf := opt_t c hf
              refine v_iconst 0 hX dX7_readsCopy_104 (by decide) ?_
              obtain rfl := Option.some.inj hf
              exact v_iret (r := 0) hX dX7_readsCopy_105 rfl
            · have hf := opt_f c hf
              refine v_aload_n 1 0 hX dX7_readsCopy_92 rfl rfl ?_
              refine v_iconst 4 hX dX7_readsCopy_93 (by decide) ?_
              obtain ⟨v6, hc, hf⟩ := opt_b hf
              refine v_callVi (rest := []) (As := [.int 4]) (C := RX7) (T := TX7) (N := 22) (ci := 7) 0 hX dX7_readsCopy_94 (c_X7_sign v5.2 fuel 4 hc) rfl rfl (lt_b rfl) rfl rfl rfl mw_981 mw_35 mw_64 mw_979 mw_982 gAll ds_X7_sign rfl ⟨Nat.le_of_ble_eq_true rfl, Nat.le_of_ble_eq_true rfl⟩ (Nat.le_of_ble_eq_true rfl) ?_
              refine v_if_eq 104 hX dX7_readsCopy_97 (by decide) (fun c => ?_) (fun c => ?_)
              · have hf := opt_t c hf
                refine v_iconst 0 hX dX7_readsCopy_104 (by decide) ?_
                obtain rfl := Option.some.inj hf
                exact v_iret (r := 0) hX dX7_readsCopy_105 rfl
              · have hf := opt_f c hf
                refine v_iconst 1 hX dX7_readsCopy_100 (by decide) ?_
                refine v_goto 105 hX dX7_readsCopy_101 (by decide) ?_
                obtain rfl := Option.some.inj hf
                exact v_iret (r := 1) hX dX7_readsCopy_105 rfl
  · have hf := opt_t c hf
    refine v_aload_n 1 0 hX dX7_readsCopy_13 rfl rfl ?_
    refine v_iconst 3 hX dX7_readsCopy_14 (by decide) ?_
    obtain ⟨v7, hc, hf⟩ := opt_b hf
    refine v_callVi (rest := []) (As := [.int 3]) (C := RX7) (T := TX7) (N := 22) (ci := 7) 0 hX dX7_readsCopy_15 (c_X7_fails σ 3 hc) rfl rfl (lt_b rfl) rfl rfl rfl mw_973 mw_33 mw_64 mw_971 mw_974 gAll ds_X7_fails rfl ⟨Nat.le_of_ble_eq_true rfl, Nat.le_of_ble_eq_true rfl⟩ (Nat.le_of_ble_eq_true rfl) ?_
    obtain ⟨hg8, hf⟩ := gd_some hf
    obtain rfl := Option.some.inj hf
    exact v_iret (r := v7.1) hX dX7_readsCopy_18 (isB_n hg8)
set_option maxHeartbeats 4000000 in
set_option maxRecDepth 100000 in
theorem s_X7_readsDeed_40 {P : PT} {M : MT} {D : va_G} {cs : ClassId × ClassId × ClassId} {ad : Nat → Nat} (hX : VOk P M (mW D cs ad) 2 cX7_readsDeed RX7 (some .boolean) 4) (fuel : Nat)   (z : Int32 × Mem)  (σ : Mem) (x1 : Int32) (y0 : Int32) (y1 : Int32) (hf : f_X7_readsDeed_40 fuel σ x1 y0 y1 = some z) : V P M (mW D cs ad) 2 (QI P M (mW D cs ad) z.1 z.2) 40 [(0, .ref (ad 0)), (1, .int x1)] [.int y0, .int y1, .ref (ad 10)] σ := by
  unfold f_X7_readsDeed_40 at hf
  obtain ⟨hi4, hf⟩ := gd_some hf
  refine v_ast 10 hX dX7_readsDeed_40 (lt_b rfl) (fun _ => rfl) hi4 ?_
  refine v_aload_n 0 0 hX dX7_readsDeed_41 rfl rfl ?_
  refine v_bipush 65 hX dX7_readsDeed_42 (by decide) ?_
  refine v_iload_n 1 1 hX dX7_readsDeed_44 rfl rfl ?_
  refine v_iadd hX dX7_readsDeed_45 ?_
  refine v_iconst 1 hX dX7_readsDeed_46 (by decide) ?_
  refine v_bipush 63 hX dX7_readsDeed_47 (by decide) ?_
  obtain ⟨v5, hc, hf⟩ := opt_b hf
  refine v_callVi (rest := []) (As := [.int (65 + x1), .int 1, .int 63]) (C := RX7) (T := TX7) (N := 22) (ci := 7) 0 hX dX7_readsDeed_49 (c_X7_number (mst σ 10 y1.toNatClampNeg y0) fuel (65 + x1) 1 63 hc) rfl rfl (lt_b rfl) rfl rfl rfl mw_977 mw_34 mw_64 mw_975 mw_978 gAll ds_X7_number rfl ⟨Nat.le_of_ble_eq_true rfl, Nat.le_of_ble_eq_true rfl⟩ (Nat.le_of_ble_eq_true rfl) ?_
  refine v_if_eq 98 hX dX7_readsDeed_52 (by decide) (fun c => ?_) (fun c => ?_)
  · have hf := opt_t c hf
    refine v_iconst 0 hX dX7_readsDeed_98 (by decide) ?_
    obtain rfl := Option.some.inj hf
    exact v_iret (r := 0) hX dX7_readsDeed_99 rfl
  · have hf := opt_f c hf
    refine v_aload_n 0 0 hX dX7_readsDeed_55 rfl rfl ?_
    refine v_iconst 3 hX dX7_readsDeed_56 (by decide) ?_
    obtain ⟨v6, hc, hf⟩ := opt_b hf
    refine v_callVi (rest := []) (As := [.int 3]) (C := RX7) (T := TX7) (N := 22) (ci := 7) 0 hX dX7_readsDeed_57 (c_X7_sign v5.2 fuel 3 hc) rfl rfl (lt_b rfl) rfl rfl rfl mw_981 mw_35 mw_64 mw_979 mw_982 gAll ds_X7_sign rfl ⟨Nat.le_of_ble_eq_true rfl, Nat.le_of_ble_eq_true rfl⟩ (Nat.le_of_ble_eq_true rfl) ?_
    refine v_if_eq 98 hX dX7_readsDeed_60 (by decide) (fun c => ?_) (fun c => ?_)
    · have hf := opt_t c hf
      refine v_iconst 0 hX dX7_readsDeed_98 (by decide) ?_
      obtain rfl := Option.some.inj hf
      exact v_iret (r := 0) hX dX7_readsDeed_99 rfl
    · have hf := opt_f c hf
      refine v_aload_n 0 0 hX dX7_readsDeed_63 rfl rfl ?_
      refine v_bipush 75 hX dX7_readsDeed_64 (by decide) ?_
      refine v_iload_n 1 1 hX dX7_readsDeed_66 rfl rfl ?_
      refine v_iadd hX dX7_readsDeed_67 ?_
      refine v_iconst 0 hX dX7_readsDeed_68 (by decide) ?_
      refine v_iload_n 1 1 hX dX7_readsDeed_69 rfl rfl ?_
      obtain ⟨v7, hc, hf⟩ := opt_b hf
      refine v_callVi (rest := []) (As := [.int (75 + x1), .int 0, .int x1]) (C := RX7) (T := TX7) (N := 22) (ci := 7) 0 hX dX7_readsDeed_70 (c_X7_number v6.2 fuel (75 + x1) 0 x1 hc) rfl rfl (lt_b rfl) rfl rfl rfl mw_977 mw_34 mw_64 mw_975 mw_978 gAll ds_X7_number rfl ⟨Nat.le_of_ble_eq_true rfl, Nat.le_of_ble_eq_true rfl⟩ (Nat.le_of_ble_eq_true rfl) ?_
      refine v_if_eq 98 hX dX7_readsDeed_73 (by decide) (fun c => ?_) (fun c => ?_)
      · have hf := opt_t c hf
        refine v_iconst 0 hX dX7_readsDeed_98 (by decide) ?_
        obtain rfl := Option.some.inj hf
        exact v_iret (r := 0) hX dX7_readsDeed_99 rfl
      · have hf := opt_f c hf
        refine v_aload_n 0 0 hX dX7_readsDeed_76 rfl rfl ?_
        refine v_iconst 3 hX dX7_readsDeed_77 (by decide) ?_
        obtain ⟨v8, hc, hf⟩ := opt_b hf
        refine v_callVi (rest := []) (As := [.int 3]) (C := RX7) (T := TX7) (N := 22) (ci := 7) 0 hX dX7_readsDeed_78 (c_X7_sign v7.2 fuel 3 hc) rfl rfl (lt_b rfl) rfl rfl rfl mw_981 mw_35 mw_64 mw_979 mw_982 gAll ds_X7_sign rfl ⟨Nat.le_of_ble_eq_true rfl, Nat.le_of_ble_eq_true rfl⟩ (Nat.le_of_ble_eq_true rfl) ?_
        refine v_if_eq 98 hX dX7_readsDeed_81 (by decide) (fun c => ?_) (fun c => ?_)
        · have hf := opt_t c hf
          refine v_iconst 0 hX dX7_readsDeed_98 (by decide) ?_
          obtain rfl := Option.some.inj hf
          exact v_iret (r := 0) hX dX7_readsDeed_99 rfl
        · have hf := opt_f c hf
          refine v_aload_n 0 0 hX dX7_readsDeed_84 rfl rfl ?_
          refine v_bipush 80 hX dX7_readsDeed_85 (by decide) ?_
          refine v_iload_n 1 1 hX dX7_readsDeed_87 rfl rfl ?_
          refine v_iadd hX dX7_readsDeed_88 ?_
          refine v_iconst 0 hX dX7_readsDeed_89 (by decide) ?_
          refine v_bipush 20 hX dX7_readsDeed_90 (by decide) ?_
          obtain ⟨v9, hc, hf⟩ := opt_b hf
          refine v_callVi (rest := []) (As := [.int (80 + x1), .int 0, .int 20]) (C := RX7) (T := TX7) (N := 22) (ci := 7) 0 hX dX7_readsDeed_92 (c_X7_number v8.2 fuel (80 + x1) 0 20 hc) rfl rfl (lt_b rfl) rfl rfl rfl mw_977 mw_34 mw_64 mw_975 mw_978 gAll ds_X7_number rfl ⟨Nat.le_of_ble_eq_true rfl, Nat.le_of_ble_eq_true rfl⟩ (Nat.le_of_ble_eq_true rfl) ?_
          refine v_if_ne 100 hX dX7_readsDeed_95 (by decide) (fun c => ?_) (fun c => ?_)
          · have hf := opt_f c hf
            refine v_aload_n 0 0 hX dX7_readsDeed_100 rfl rfl ?_
            refine v_get (C := RX7) (T := TX7) (N := 22) (ci := 7) (v := .ref (ad 10)) 0 20 hX dX7_readsDeed_101 mw_856 rfl inlX7 rfl (lt_b rfl) (lt_b rfl) rfl rfl ?_
            refine v_iconst 4 hX dX7_readsDeed_104 (by decide) ?_
            refine v_dup2 hX dX7_readsDeed_105 rfl rfl ?_
            refine v_aldc (v := v9.2 10 4) 10 4 hX dX7_readsDeed_106 (lt_b rfl) ((fun _ => rfl) _) ib_4_85 tn_4 rfl ?_
            refine v_iconst 1 hX dX7_readsDeed_107 (by decide) ?_
            refine v_iadd hX dX7_readsDeed_108 ?_
            refine v_astc 10 4 hX dX7_readsDeed_109 (lt_b rfl) (fun _ => rfl) ib_4_85 tn_4 ?_
            refine v_aload_n 0 0 hX dX7_readsDeed_110 rfl rfl ?_
            refine v_iconst 4 hX dX7_readsDeed_111 (by decide) ?_
            obtain ⟨v10, hc, hf⟩ := opt_b hf
            refine v_callVi (rest := []) (As := [.int 4]) (C := RX7) (T := TX7) (N := 22) (ci := 7) 0 hX dX7_readsDeed_112 (c_X7_sign (mst v9.2 10 4 ((v9.2 10 4) + 1)) fuel 4 hc) rfl rfl (lt_b rfl) rfl rfl rfl mw_981 mw_35 mw_64 mw_979 mw_982 gAll ds_X7_sign rfl ⟨Nat.le_of_ble_eq_true rfl, Nat.le_of_ble_eq_true rfl⟩ (Nat.le_of_ble_eq_true rfl) ?_
            obtain ⟨hg11, hf⟩ := gd_some hf
            obtain rfl := Option.some.inj hf
            exact v_iret (r := v10.1) hX dX7_readsDeed_115 (isB_n hg11)
          · have hf := opt_t c hf
            refine v_iconst 0 hX dX7_readsDeed_98 (by decide) ?_
            obtain rfl := Option.some.inj hf
            exact v_iret (r := 0) hX dX7_readsDeed_99 rfl
set_option maxHeartbeats 4000000 in
set_option maxRecDepth 100000 in
theorem c_X7_readsDeed {l : Launch} {D : va_G} {cs : ClassId × ClassId × ClassId} {ad : Nat → Nat} (σ : Mem) (fuel : Nat)   {z : Int32 × Mem} (hf : f_X7_readsDeed fuel σ = some z) : CtI l (mW D cs ad) 4 yX7_readsDeed cX7_readsDeed 2 (some .boolean) [.ref (ad 0)] σ z.1 z.2 := by
  refine ct_I RX7 [(0, .ref (ad 0))] (by decide +kernel) rfl rfl (Nat.le_of_ble_eq_true rfl) ?_
  intro P M hl0 hX
  unfold f_X7_readsDeed at hf
  refine v_aload_n 0 0 hX dX7_readsDeed_0 rfl rfl ?_
  refine v_get (C := RX7) (T := TX7) (N := 22) (ci := 7) (v := .ref (ad 10)) 0 20 hX dX7_readsDeed_1 mw_856 rfl inlX7 rfl (lt_b rfl) (lt_b rfl) rfl rfl ?_
  refine v_iconst 4 hX dX7_readsDeed_4 (by decide) ?_
  refine v_aldc (v := σ 10 4) 10 4 hX dX7_readsDeed_5 (lt_b rfl) ((fun _ => rfl) _) ib_4_85 tn_4 rfl ?_
  refine v_istore_n 1 [(1, .int (σ 10 4)), (0, .ref (ad 0))] hX dX7_readsDeed_6 rfl (lt_b rfl) rfl ?_
  refine v_iload_n 0 1 hX dX7_readsDeed_7 rfl rfl ?_
  refine v_iconst 5 hX dX7_readsDeed_8 (by decide) ?_
  refine v_icmp_ne 18 hX dX7_readsDeed_9 (by decide) (fun c => ?_) (fun c => ?_)
  · have hf := opt_f c hf
    refine v_aload_n 1 0 hX dX7_readsDeed_18 rfl rfl ?_
    refine v_get (C := RX7) (T := TX7) (N := 22) (ci := 7) (v := .ref (ad 10)) 0 20 hX dX7_readsDeed_19 mw_856 rfl inlX7 rfl (lt_b rfl) (lt_b rfl) rfl rfl ?_
    refine v_bipush 70 hX dX7_readsDeed_22 (by decide) ?_
    refine v_iload_n 0 1 hX dX7_readsDeed_24 rfl rfl ?_
    refine v_iadd hX dX7_readsDeed_25 ?_
    refine v_aload_n 1 0 hX dX7_readsDeed_26 rfl rfl ?_
    refine v_bipush 97 hX dX7_readsDeed_27 (by decide) ?_
    obtain ⟨v1, hc, hf⟩ := opt_b hf
    refine v_callVi (rest := [.int (70 + (σ 10 4)), .ref (ad 10)]) (As := [.int 97]) (C := RX7) (T := TX7) (N := 22) (ci := 7) 0 hX dX7_readsDeed_29 (c_X7_isLetter σ 97 hc) rfl rfl (lt_b rfl) rfl rfl rfl mw_969 mw_32 mw_64 mw_967 mw_970 gAll ds_X7_isLetter rfl ⟨Nat.le_of_ble_eq_true rfl, Nat.le_of_ble_eq_true rfl⟩ (Nat.le_of_ble_eq_true rfl) ?_
    refine v_if_eq 39 hX dX7_readsDeed_32 (by decide) (fun c => ?_) (fun c => ?_)
    · have hf := opt_t c hf
      refine v_iconst 0 hX dX7_readsDeed_39 (by decide) ?_
      exact v_sub [1, 0] rfl (s_X7_readsDeed_40 hX fuel z  σ (σ 10 4) 0 (70 + (σ 10 4)) hf)
    · have hf := opt_f c hf
      refine v_iconst 1 hX dX7_readsDeed_35 (by decide) ?_
      refine v_goto 40 hX dX7_readsDeed_36 (by decide) ?_
      exact v_sub [1, 0] rfl (s_X7_readsDeed_40 hX fuel z  σ (σ 10 4) 1 (70 + (σ 10 4)) hf)
  · have hf := opt_t c hf
    refine v_aload_n 1 0 hX dX7_readsDeed_12 rfl rfl ?_
    refine v_iconst 3 hX dX7_readsDeed_13 (by decide) ?_
    obtain ⟨v2, hc, hf⟩ := opt_b hf
    refine v_callVi (rest := []) (As := [.int 3]) (C := RX7) (T := TX7) (N := 22) (ci := 7) 0 hX dX7_readsDeed_14 (c_X7_fails σ 3 hc) rfl rfl (lt_b rfl) rfl rfl rfl mw_973 mw_33 mw_64 mw_971 mw_974 gAll ds_X7_fails rfl ⟨Nat.le_of_ble_eq_true rfl, Nat.le_of_ble_eq_true rfl⟩ (Nat.le_of_ble_eq_true rfl) ?_
    obtain ⟨hg3, hf⟩ := gd_some hf
    obtain rfl := Option.some.inj hf
    exact v_iret (r := v2.1) hX dX7_readsDeed_17 (isB_n hg3)
set_option maxHeartbeats 4000000 in
set_option maxRecDepth 100000 in
theorem s_X7_lossBy_11 {P : PT} {M : MT} {D : va_G} {cs : ClassId × ClassId × ClassId} {ad : Nat → Nat} (hX : VOk P M (mW D cs ad) 5 cX7_lossBy RX7 (some .int) 4) (fuel : Nat)   (z : Int32 × Mem)  : ∀ (n : Nat) (σ : Mem) (x2 : Int32) (x3 : Int32) (x4 : Int32), f_X7_lossBy_11 fuel n σ x2 x3 x4 = some z → V P M (mW D cs ad) 5 (QI P M (mW D cs ad) z.1 z.2) 11 [(0, .ref (ad 0)), (2, .int x2), (3, .int x3), (4, .int x4)] [] σ := by
  intro n
  induction n with
  | zero =>
    intro σ x2 x3 x4 hf
    cases hf
  | succ n hk11 =>
    intro σ x2 x3 x4 hf
    rw [f_X7_lossBy_11] at hf
    refine v_iload 3 hX dX7_lossBy_11 rfl ?_
    refine v_aload_n 0 0 hX dX7_lossBy_13 rfl rfl ?_
    refine v_get (C := RX7) (T := TX7) (N := 22) (ci := 7) (v := .ref (ad 5)) 0 8 hX dX7_lossBy_14 mw_844 rfl inlX7 rfl (lt_b rfl) (lt_b rfl) rfl rfl ?_
    refine v_iconst 4 hX dX7_lossBy_17 (by decide) ?_
    refine v_aldc (v := σ 5 4) 5 4 hX dX7_lossBy_18 (lt_b rfl) ((fun _ => rfl) _) ib_4_85 tn_4 rfl ?_
    refine v_icmp_ge 48 hX dX7_lossBy_19 (by decide) (fun c => ?_) (fun c => ?_)
    · have hf := opt_t c hf
      refine v_iload_n 2 3 hX dX7_lossBy_48 rfl rfl ?_
      obtain rfl := Option.some.inj hf
      exact v_iret (r := x3) hX dX7_lossBy_49 rfl
    · have hf := opt_f c hf
      refine v_iload_n 2 3 hX dX7_lossBy_22 rfl rfl ?_
      refine v_iload_n 1 2 hX dX7_lossBy_23 rfl rfl ?_
      refine v_iload 3 hX dX7_lossBy_24 rfl ?_
      refine v_ishr hX dX7_lossBy_26 ?_
      refine v_iconst 1 hX dX7_lossBy_27 (by decide) ?_
      refine v_iand hX dX7_lossBy_28 ?_
      refine v_aload_n 0 0 hX dX7_lossBy_29 rfl rfl ?_
      refine v_get (C := RX7) (T := TX7) (N := 22) (ci := 7) (v := .ref (ad 5)) 0 8 hX dX7_lossBy_30 mw_844 rfl inlX7 rfl (lt_b rfl) (lt_b rfl) rfl rfl ?_
      refine v_bipush 80 hX dX7_lossBy_33 (by decide) ?_
      refine v_iload 3 hX dX7_lossBy_35 rfl ?_
      refine v_iadd hX dX7_lossBy_37 ?_
      obtain ⟨hi2, hf⟩ := gd_some hf
      refine v_ald (v := σ 5 ((80 + x4).toNatClampNeg)) 5 hX dX7_lossBy_38 (lt_b rfl) ((fun _ => rfl) _) hi2 rfl ?_
      refine v_imul hX dX7_lossBy_39 ?_
      refine v_iadd hX dX7_lossBy_40 ?_
      refine v_istore_n 3 [(3, .int (x3 + (((x2 >>> (x4 &&& 31)) &&& 1) * (σ 5 ((80 + x4).toNatClampNeg))))), (0, .ref (ad 0)), (2, .int x2), (4, .int x4)] hX dX7_lossBy_41 rfl (lt_b rfl) rfl ?_
      refine v_iinc 3 (x4 + 1) [(4, .int (x4 + 1)), (3, .int (x3 + (((x2 >>> (x4 &&& 31)) &&& 1) * (σ 5 ((80 + x4).toNatClampNeg))))), (0, .ref (ad 0)), (2, .int x2)] hX dX7_lossBy_42 rfl rfl (lt_b rfl) rfl ?_
      refine v_goto 11 hX dX7_lossBy_45 (by decide) ?_
      exact v_sub [2, 3, 1, 0] rfl (hk11 σ x2 (x3 + (((x2 >>> (x4 &&& 31)) &&& 1) * (σ 5 ((80 + x4).toNatClampNeg)))) (x4 + 1) hf)
set_option maxHeartbeats 4000000 in
set_option maxRecDepth 100000 in
theorem c_X7_lossBy {l : Launch} {D : va_G} {cs : ClassId × ClassId × ClassId} {ad : Nat → Nat} (σ : Mem) (fuel : Nat)  (x1 : Int32) {z : Int32 × Mem} (hf : f_X7_lossBy fuel σ x1 = some z) : CtI l (mW D cs ad) 4 yX7_lossBy cX7_lossBy 5 (some .int) [.ref (ad 0), .int x1] σ z.1 z.2 := by
  refine ct_I RX7 [(0, .ref (ad 0)), (1, .int x1)] (by decide +kernel) rfl rfl (Nat.le_of_ble_eq_true rfl) ?_
  intro P M hl0 hX
  unfold f_X7_lossBy at hf
  refine v_aload_n 0 0 hX dX7_lossBy_0 rfl rfl ?_
  refine v_iload_n 1 1 hX dX7_lossBy_1 rfl rfl ?_
  obtain ⟨v1, hc, hf⟩ := opt_b hf
  refine v_callVi (rest := []) (As := [.int x1]) (C := RX7) (T := TX7) (N := 22) (ci := 7) 0 hX dX7_lossBy_2 (c_X7_fallsBy σ fuel x1 hc) rfl rfl (lt_b rfl) rfl rfl rfl mw_1099 mw_46 mw_64 mw_1097 mw_1100 gAll ds_X7_fallsBy rfl ⟨Nat.le_of_ble_eq_true rfl, Nat.le_of_ble_eq_true rfl⟩ (Nat.le_of_ble_eq_true rfl) ?_
  refine v_istore_n 2 [(2, .int v1.1), (0, .ref (ad 0)), (1, .int x1)] hX dX7_lossBy_5 rfl (lt_b rfl) rfl ?_
  refine v_iconst 0 hX dX7_lossBy_6 (by decide) ?_
  refine v_istore_n 3 [(3, .int 0), (2, .int v1.1), (0, .ref (ad 0)), (1, .int x1)] hX dX7_lossBy_7 rfl (lt_b rfl) rfl ?_
  refine v_iconst 0 hX dX7_lossBy_8 (by decide) ?_
  refine v_istore [(4, .int 0), (3, .int 0), (2, .int v1.1), (0, .ref (ad 0)), (1, .int x1)] hX dX7_lossBy_9 (lt_b rfl) rfl ?_
  exact v_sub [3, 2, 1, 0] rfl (s_X7_lossBy_11 hX fuel z  fuel v1.2 v1.1 0 0 hf)
set_option maxHeartbeats 4000000 in
set_option maxRecDepth 100000 in
theorem c_X4_readTape {l : Launch} {D : va_G} {cs : ClassId × ClassId × ClassId} {ad : Nat → Nat} {ts : Nat × Nat × Nat} (σ : Mem) (fuel : Nat)   {z : Int32 × Mem} (hf : f_X4_readTape fuel σ = some z) : CtI l (xW D cs ad ts) 5 yX4_readTape cX4_readTape 1 (some .boolean) [.ref (ad 46)] σ z.1 z.2 := by
  refine ct_I RX4 [(0, .ref (ad 46))] (by decide +kernel) rfl rfl (Nat.le_of_ble_eq_true rfl) ?_
  intro P M hl0 hX
  unfold f_X4_readTape at hf
  refine v_aload_n 0 0 hX dX4_readTape_0 rfl rfl ?_
  refine v_iconst 0 hX dX4_readTape_1 (by decide) ?_
  refine v_put (C := RX4) (T := TX4) (N := 5) (ci := 4) (ty := .int) tyX4 46 3 hX dX4_readTape_2 mw_219 rfl inlX4 tyX4_ok nmX4 rfl (lt_b rfl) (lt_b rfl) rfl (tyX4_ok 3 (lt_b rfl)) rfl rfl rfl (lt_b rfl) rfl ?_
  refine v_aload_n 0 0 hX dX4_readTape_5 rfl rfl ?_
  refine v_iconst 0 hX dX4_readTape_6 (by decide) ?_
  refine v_put (C := RX4) (T := TX4) (N := 5) (ci := 4) (ty := .int) tyX4 46 4 hX dX4_readTape_7 mw_221 rfl inlX4 tyX4_ok nmX4 rfl (lt_b rfl) (lt_b rfl) rfl (tyX4_ok 4 (lt_b rfl)) rfl rfl rfl (lt_b rfl) rfl ?_
  refine v_aload_n 0 0 hX dX4_readTape_10 rfl rfl ?_
  refine v_get (C := RX4) (T := TX4) (N := 5) (ci := 4) (v := .ref (ad 48)) 46 1 hX dX4_readTape_11 mw_215 rfl inlX4 rfl (lt_b rfl) (lt_b rfl) rfl rfl ?_
  obtain ⟨v1, hc, hf⟩ := opt_b hf
  refine v_callVv (rest := []) (As := []) (C := RX1) (T := TX1) (N := 19) (ci := 1) 48 hX dX4_readTape_14 (c_X1_begin (mst (mst σ 46 3 0) 46 4 0) hc) rfl rfl (lt_b rfl) rfl rfl rfl mw_385 mw_386 mw_59 mw_384 mw_387 gAll ds_X1_begin rfl ⟨Nat.le_of_ble_eq_true rfl, Nat.le_of_ble_eq_true rfl⟩ (Nat.le_of_ble_eq_true rfl) ?_
  refine v_aload_n 0 0 hX dX4_readTape_17 rfl rfl ?_
  obtain ⟨v2, hc, hf⟩ := opt_b hf
  refine v_callVi (rest := []) (As := []) (C := RX4) (T := TX4) (N := 5) (ci := 4) 46 hX dX4_readTape_18 (c_X4_readLaw v1 fuel hc) rfl rfl (lt_b rfl) rfl rfl rfl mw_390 mw_2 mw_60 mw_388 mw_391 gAll ds_X4_readLaw rfl ⟨Nat.le_of_ble_eq_true rfl, Nat.le_of_ble_eq_true rfl⟩ (Nat.le_of_ble_eq_true rfl) ?_
  refine v_if_eq 45 hX dX4_readTape_21 (by decide) (fun c => ?_) (fun c => ?_)
  · have hf := opt_t c hf
    refine v_iconst 0 hX dX4_readTape_45 (by decide) ?_
    obtain rfl := Option.some.inj hf
    exact v_iret (r := 0) hX dX4_readTape_46 rfl
  · have hf := opt_f c hf
    refine v_aload_n 0 0 hX dX4_readTape_24 rfl rfl ?_
    obtain ⟨v3, hc, hf⟩ := opt_b hf
    refine v_callVi (rest := []) (As := []) (C := RX4) (T := TX4) (N := 5) (ci := 4) 46 hX dX4_readTape_25 (c_X4_readHands v2.2 fuel hc) rfl rfl (lt_b rfl) rfl rfl rfl mw_418 mw_9 mw_60 mw_416 mw_419 gAll ds_X4_readHands rfl ⟨Nat.le_of_ble_eq_true rfl, Nat.le_of_ble_eq_true rfl⟩ (Nat.le_of_ble_eq_true rfl) ?_
    refine v_if_eq 45 hX dX4_readTape_28 (by decide) (fun c => ?_) (fun c => ?_)
    · have hf := opt_t c hf
      refine v_iconst 0 hX dX4_readTape_45 (by decide) ?_
      obtain rfl := Option.some.inj hf
      exact v_iret (r := 0) hX dX4_readTape_46 rfl
    · have hf := opt_f c hf
      refine v_aload_n 0 0 hX dX4_readTape_31 rfl rfl ?_
      obtain ⟨v4, hc, hf⟩ := opt_b hf
      refine v_callVi (rest := []) (As := []) (C := RX4) (T := TX4) (N := 5) (ci := 4) 46 hX dX4_readTape_32 (c_X4_readCopies v3.2 fuel hc) rfl rfl (lt_b rfl) rfl rfl rfl mw_433 mw_11 mw_60 mw_431 mw_434 gAll ds_X4_readCopies rfl ⟨Nat.le_of_ble_eq_true rfl, Nat.le_of_ble_eq_true rfl⟩ (Nat.le_of_ble_eq_true rfl) ?_
      refine v_if_eq 45 hX dX4_readTape_35 (by decide) (fun c => ?_) (fun c => ?_)
      · have hf := opt_t c hf
        refine v_iconst 0 hX dX4_readTape_45 (by decide) ?_
        obtain rfl := Option.some.inj hf
        exact v_iret (r := 0) hX dX4_readTape_46 rfl
      · have hf := opt_f c hf
        refine v_aload_n 0 0 hX dX4_readTape_38 rfl rfl ?_
        obtain ⟨v5, hc, hf⟩ := opt_b hf
        refine v_callVi (rest := []) (As := []) (C := RX4) (T := TX4) (N := 5) (ci := 4) 46 hX dX4_readTape_39 (c_X4_readDeeds v4.2 fuel hc) rfl rfl (lt_b rfl) rfl rfl rfl mw_445 mw_13 mw_60 mw_443 mw_446 gAll ds_X4_readDeeds rfl ⟨Nat.le_of_ble_eq_true rfl, Nat.le_of_ble_eq_true rfl⟩ (Nat.le_of_ble_eq_true rfl) ?_
        refine v_if_ne 47 hX dX4_readTape_42 (by decide) (fun c => ?_) (fun c => ?_)
        · have hf := opt_f c hf
          refine v_aload_n 0 0 hX dX4_readTape_47 rfl rfl ?_
          refine v_get (C := RX4) (T := TX4) (N := 5) (ci := 4) (v := .int (v5.2 46 3)) 46 3 hX dX4_readTape_48 mw_219 rfl inlX4 rfl (lt_b rfl) (lt_b rfl) rfl rfl ?_
          refine v_aload_n 0 0 hX dX4_readTape_51 rfl rfl ?_
          refine v_get (C := RX4) (T := TX4) (N := 5) (ci := 4) (v := .int (v5.2 46 2)) 46 2 hX dX4_readTape_52 mw_217 rfl inlX4 rfl (lt_b rfl) (lt_b rfl) rfl rfl ?_
          refine v_icmp_eq 66 hX dX4_readTape_55 (by decide) (fun c => ?_) (fun c => ?_)
          · have hf := opt_t c hf
            refine v_iconst 1 hX dX4_readTape_66 (by decide) ?_
            refine v_goto 71 hX dX4_readTape_67 (by decide) ?_
            obtain rfl := Option.some.inj hf
            exact v_iret (r := 1) hX dX4_readTape_71 rfl
          · have hf := opt_f c hf
            refine v_aload_n 0 0 hX dX4_readTape_58 rfl rfl ?_
            refine v_iconst 1 hX dX4_readTape_59 (by decide) ?_
            obtain ⟨v6, hc, hf⟩ := opt_b hf
            refine v_callVi (rest := []) (As := [.int 1]) (C := RX4) (T := TX4) (N := 5) (ci := 4) 46 hX dX4_readTape_60 (c_X4_fail v5.2 1 hc) rfl rfl (lt_b rfl) rfl rfl rfl mw_402 mw_5 mw_60 mw_400 mw_403 gAll ds_X4_fail rfl ⟨Nat.le_of_ble_eq_true rfl, Nat.le_of_ble_eq_true rfl⟩ (Nat.le_of_ble_eq_true rfl) ?_
            refine v_if_eq 70 hX dX4_readTape_63 (by decide) (fun c => ?_) (fun c => ?_)
            · have hf := opt_t c hf
              refine v_iconst 0 hX dX4_readTape_70 (by decide) ?_
              obtain rfl := Option.some.inj hf
              exact v_iret (r := 0) hX dX4_readTape_71 rfl
            · have hf := opt_f c hf
              refine v_iconst 1 hX dX4_readTape_66 (by decide) ?_
              refine v_goto 71 hX dX4_readTape_67 (by decide) ?_
              obtain rfl := Option.some.inj hf
              exact v_iret (r := 1) hX dX4_readTape_71 rfl
        · have hf := opt_t c hf
          refine v_iconst 0 hX dX4_readTape_45 (by decide) ?_
          obtain rfl := Option.some.inj hf
          exact v_iret (r := 0) hX dX4_readTape_46 rfl
set_option maxHeartbeats 4000000 in
set_option maxRecDepth 100000 in
theorem s_X3_weighAll_2 {P : PT} {M : MT} {D : va_G} {cs : ClassId × ClassId × ClassId} {ad : Nat → Nat} {ts : Nat × Nat × Nat} (hX : VOk P M (xW D cs ad ts) 3 cX3_weighAll RX3 none 5) (fuel : Nat)   (z : Mem)  : ∀ (n : Nat) (σ : Mem) (x2 : Int32), f_X3_weighAll_2 fuel n σ x2 = some z → V P M (xW D cs ad ts) 3 (QV P M (xW D cs ad ts) z) 2 [(0, .ref (ad 62)), (1, .ref (ad 13)), (2, .int x2)] [] σ := by
  intro n
  induction n with
  | zero =>
    intro σ x2 hf
    cases hf
  | succ n hk2 =>
    intro σ x2 hf
    rw [f_X3_weighAll_2] at hf
    refine v_iload_n 2 2 hX dX3_weighAll_2 rfl rfl ?_
    refine v_iconst 1 hX dX3_weighAll_3 (by decide) ?_
    refine v_aload_n 1 1 hX dX3_weighAll_4 rfl rfl ?_
    refine v_get (C := RX1) (T := TX1) (N := 19) (ci := 1) (v := .int (σ 13 6)) 13 6 hX dX3_weighAll_5 mw_126 rfl inlX1 rfl (lt_b rfl) (lt_b rfl) rfl rfl ?_
    refine v_ishl hX dX3_weighAll_8 ?_
    refine v_icmp_ge 30 hX dX3_weighAll_9 (by decide) (fun c => ?_) (fun c => ?_)
    · have hf := opt_t c hf
      obtain rfl := Option.some.inj hf
      exact v_vret hX dX3_weighAll_30
    · have hf := opt_f c hf
      refine v_aload_n 0 0 hX dX3_weighAll_12 rfl rfl ?_
      refine v_get (C := RX3) (T := TX3) (N := 3) (ci := 3) (v := .ref (ad 63)) 62 0 hX dX3_weighAll_13 mw_257 rfl inlX3 rfl (lt_b rfl) (lt_b rfl) rfl rfl ?_
      refine v_iload_n 2 2 hX dX3_weighAll_16 rfl rfl ?_
      refine v_aload_n 0 0 hX dX3_weighAll_17 rfl rfl ?_
      refine v_aload_n 1 1 hX dX3_weighAll_18 rfl rfl ?_
      refine v_iload_n 2 2 hX dX3_weighAll_19 rfl rfl ?_
      obtain ⟨v1, hc, hf⟩ := opt_b hf
      refine v_callVi (rest := [.int x2, .ref (ad 63)]) (As := [.ref (ad 13), .int x2]) (C := RX3) (T := TX3) (N := 3) (ci := 3) 62 hX dX3_weighAll_20 (c_X3_lossBy fuel σ x2 hc) rfl rfl (lt_b rfl) rfl rfl rfl mw_601 mw_602 mw_62 mw_618 mw_603 gAll ds_X3_lossBy rfl ⟨Nat.le_of_ble_eq_true rfl, Nat.le_of_ble_eq_true rfl⟩ (Nat.le_of_ble_eq_true rfl) ?_
      obtain ⟨hi2, hf⟩ := gd_some hf
      refine v_ast 63 hX dX3_weighAll_23 (lt_b rfl) (fun _ => rfl) hi2 ?_
      refine v_iinc 2 (x2 + 1) [(2, .int (x2 + 1)), (0, .ref (ad 62)), (1, .ref (ad 13))] hX dX3_weighAll_24 rfl rfl (lt_b rfl) rfl ?_
      refine v_goto 2 hX dX3_weighAll_27 (by decide) ?_
      exact v_sub [1, 2, 0] rfl (hk2 (mst σ 63 x2.toNatClampNeg v1) (x2 + 1) hf)
set_option maxHeartbeats 4000000 in
set_option maxRecDepth 100000 in
theorem c_X3_weighAll {l : Launch} {D : va_G} {cs : ClassId × ClassId × ClassId} {ad : Nat → Nat} {ts : Nat × Nat × Nat} (σ : Mem) (fuel : Nat)   {z : Mem} (hf : f_X3_weighAll fuel σ = some z) : CtV l (xW D cs ad ts) 5 yX3_weighAll cX3_weighAll 3 [.ref (ad 62), .ref (ad 13)] σ z := by
  refine ct_V RX3 [(0, .ref (ad 62)), (1, .ref (ad 13))] (by decide +kernel) rfl rfl (Nat.le_of_ble_eq_true rfl) ?_
  intro P M hl0 hX
  unfold f_X3_weighAll at hf
  refine v_iconst 0 hX dX3_weighAll_0 (by decide) ?_
  refine v_istore_n 2 [(2, .int 0), (0, .ref (ad 62)), (1, .ref (ad 13))] hX dX3_weighAll_1 rfl (lt_b rfl) rfl ?_
  exact v_sub [1, 2, 0] rfl (s_X3_weighAll_2 hX fuel z  fuel σ 0 hf)
set_option maxHeartbeats 4000000 in
set_option maxRecDepth 100000 in
theorem c_X6_falls {l : Launch} {D : va_G} {cs : ClassId × ClassId × ClassId} {ad : Nat → Nat} {ts : Nat × Nat × Nat} (fuel : Nat) (σ : Mem)  (x1 : Int32) (x2 : Int32) {z : Int32} (hf : f_X6_falls fuel σ x1 x2 = some z) : CtI l (xW D cs ad ts) 5 yX6_falls cX6_falls 3 (some .int) [.ref (ad 0), .int x1, .int x2] σ z σ := by
  refine ct_I RX6 [(0, .ref (ad 0)), (1, .int x1), (2, .int x2)] (by decide +kernel) rfl rfl (Nat.le_of_ble_eq_true rfl) ?_
  intro P M hl0 hX
  unfold f_X6_falls at hf
  refine v_aload_n 0 0 hX dX6_falls_0 rfl rfl ?_
  refine v_get (C := RX6) (T := TX6) (N := 10) (ci := 6) (v := .ref (ad 13)) 0 1 hX dX6_falls_1 mw_283 rfl inlX6 rfl (lt_b rfl) (lt_b rfl) rfl rfl ?_
  refine v_get (C := RX1) (T := TX1) (N := 19) (ci := 1) (v := .int (σ 13 0)) 13 0 hX dX6_falls_4 mw_106 rfl inlX1 rfl (lt_b rfl) (lt_b rfl) rfl rfl ?_
  refine v_if_ne 13 hX dX6_falls_7 (by decide) (fun c => ?_) (fun c => ?_)
  · have hf := opt_f c hf
    refine v_aload_n 0 0 hX dX6_falls_13 rfl rfl ?_
    refine v_iload_n 1 1 hX dX6_falls_14 rfl rfl ?_
    obtain ⟨v1, hc, hf⟩ := opt_b hf
    refine v_callVi (rest := []) (As := [.int x1]) (C := RX6) (T := TX6) (N := 10) (ci := 6) 0 hX dX6_falls_15 (c_X6_isHandSet σ x1 hc) rfl rfl (lt_b rfl) rfl rfl rfl mw_585 mw_18 mw_57 mw_583 mw_586 gAll ds_X6_isHandSet rfl ⟨Nat.le_of_ble_eq_true rfl, Nat.le_of_ble_eq_true rfl⟩ (Nat.le_of_ble_eq_true rfl) ?_
    refine v_if_eq 29 hX dX6_falls_18 (by decide) (fun c => ?_) (fun c => ?_)
    · have hf := opt_t c hf
      refine v_ldc (-1000001) hX dX6_falls_29 mw_323 ?_
      obtain rfl := Option.some.inj hf
      exact v_iret (r := (-1000001)) hX dX6_falls_31 rfl
    · have hf := opt_f c hf
      refine v_iload_n 2 2 hX dX6_falls_21 rfl rfl ?_
      refine v_iconst 2 hX dX6_falls_22 (by decide) ?_
      obtain ⟨v2, hc, hf⟩ := opt_b hf
      refine v_callSi (rest := []) (As := [.int x2, .int 2]) hX dX6_falls_23 (c_X6_isBelow σ x2 2 hc) rfl rfl mw_321 mw_57 mw_320 mw_322 gAll ds_X6_isBelow rfl ⟨Nat.le_of_ble_eq_true rfl, Nat.le_of_ble_eq_true rfl⟩ (Nat.le_of_ble_eq_true rfl) ?_
      refine v_if_ne 32 hX dX6_falls_26 (by decide) (fun c => ?_) (fun c => ?_)
      · have hf := opt_f c hf
        refine v_iload_n 2 2 hX dX6_falls_32 rfl rfl ?_
        refine v_if_ne 51 hX dX6_falls_33 (by decide) (fun c => ?_) (fun c => ?_)
        · have hf := opt_f c hf
          refine v_aload_n 0 0 hX dX6_falls_51 rfl rfl ?_
          refine v_get (C := RX6) (T := TX6) (N := 10) (ci := 6) (v := .ref (ad 62)) 0 6 hX dX6_falls_52 mw_288 rfl inlX6 rfl (lt_b rfl) (lt_b rfl) rfl rfl ?_
          refine v_aload_n 0 0 hX dX6_falls_55 rfl rfl ?_
          refine v_get (C := RX6) (T := TX6) (N := 10) (ci := 6) (v := .ref (ad 13)) 0 1 hX dX6_falls_56 mw_283 rfl inlX6 rfl (lt_b rfl) (lt_b rfl) rfl rfl ?_
          refine v_iload_n 1 1 hX dX6_falls_59 rfl rfl ?_
          obtain ⟨v3, hc, hf⟩ := opt_b hf
          refine v_callVi (rest := []) (As := [.ref (ad 13), .int x1]) (C := RX3) (T := TX3) (N := 3) (ci := 3) 62 hX dX6_falls_60 (c_X3_lossBy fuel σ x1 hc) rfl rfl (lt_b rfl) rfl rfl rfl mw_601 mw_602 mw_62 mw_600 mw_603 gAll ds_X3_lossBy rfl ⟨Nat.le_of_ble_eq_true rfl, Nat.le_of_ble_eq_true rfl⟩ (Nat.le_of_ble_eq_true rfl) ?_
          obtain rfl := Option.some.inj hf
          exact v_iret (r := v3) hX dX6_falls_63 rfl
        · have hf := opt_t c hf
          refine v_aload_n 0 0 hX dX6_falls_36 rfl rfl ?_
          refine v_get (C := RX6) (T := TX6) (N := 10) (ci := 6) (v := .ref (ad 62)) 0 6 hX dX6_falls_37 mw_288 rfl inlX6 rfl (lt_b rfl) (lt_b rfl) rfl rfl ?_
          refine v_aload_n 0 0 hX dX6_falls_40 rfl rfl ?_
          refine v_get (C := RX6) (T := TX6) (N := 10) (ci := 6) (v := .ref (ad 13)) 0 1 hX dX6_falls_41 mw_283 rfl inlX6 rfl (lt_b rfl) (lt_b rfl) rfl rfl ?_
          refine v_iload_n 1 1 hX dX6_falls_44 rfl rfl ?_
          obtain ⟨v4, hc, hf⟩ := opt_b hf
          refine v_callVi (rest := []) (As := [.ref (ad 13), .int x1]) (C := RX3) (T := TX3) (N := 3) (ci := 3) 62 hX dX6_falls_45 (c_X3_fallenBy fuel σ x1 hc) rfl rfl (lt_b rfl) rfl rfl rfl mw_588 mw_589 mw_62 mw_587 mw_590 gAll ds_X3_fallenBy rfl ⟨Nat.le_of_ble_eq_true rfl, Nat.le_of_ble_eq_true rfl⟩ (Nat.le_of_ble_eq_true rfl) ?_
          refine v_goto 63 hX dX6_falls_48 (by decide) ?_
          obtain rfl := Option.some.inj hf
          exact v_iret (r := v4) hX dX6_falls_63 rfl
      · have hf := opt_t c hf
        refine v_ldc (-1000001) hX dX6_falls_29 mw_323 ?_
        obtain rfl := Option.some.inj hf
        exact v_iret (r := (-1000001)) hX dX6_falls_31 rfl
  · have hf := opt_t c hf
    refine v_ldc (-1000002) hX dX6_falls_10 mw_473 ?_
    obtain rfl := Option.some.inj hf
    exact v_iret (r := (-1000002)) hX dX6_falls_12 rfl
set_option maxHeartbeats 4000000 in
set_option maxRecDepth 100000 in
theorem c_X6_ransom {l : Launch} {D : va_G} {cs : ClassId × ClassId × ClassId} {ad : Nat → Nat} {ts : Nat × Nat × Nat} (fuel : Nat) (σ : Mem)  (x1 : Int32) {z : Int32} (hf : f_X6_ransom fuel σ x1 = some z) : CtI l (xW D cs ad ts) 5 yX6_ransom cX6_ransom 2 (some .int) [.ref (ad 0), .int x1] σ z σ := by
  refine ct_I RX6 [(0, .ref (ad 0)), (1, .int x1)] (by decide +kernel) rfl rfl (Nat.le_of_ble_eq_true rfl) ?_
  intro P M hl0 hX
  unfold f_X6_ransom at hf
  refine v_aload_n 0 0 hX dX6_ransom_0 rfl rfl ?_
  refine v_iload_n 1 1 hX dX6_ransom_1 rfl rfl ?_
  obtain ⟨v1, hc, hf⟩ := opt_b hf
  refine v_callVi (rest := []) (As := [.int x1]) (C := RX6) (T := TX6) (N := 10) (ci := 6) 0 hX dX6_ransom_2 (c_X6_isHand σ x1 hc) rfl rfl (lt_b rfl) rfl rfl rfl mw_484 mw_15 mw_57 mw_482 mw_485 gAll ds_X6_isHand rfl ⟨Nat.le_of_ble_eq_true rfl, Nat.le_of_ble_eq_true rfl⟩ (Nat.le_of_ble_eq_true rfl) ?_
  refine v_if_eq 25 hX dX6_ransom_5 (by decide) (fun c => ?_) (fun c => ?_)
  · have hf := opt_t c hf
    refine v_ldc (-1000001) hX dX6_ransom_25 mw_323 ?_
    obtain rfl := Option.some.inj hf
    exact v_iret (r := (-1000001)) hX dX6_ransom_27 rfl
  · have hf := opt_f c hf
    refine v_aload_n 0 0 hX dX6_ransom_8 rfl rfl ?_
    refine v_get (C := RX6) (T := TX6) (N := 10) (ci := 6) (v := .ref (ad 62)) 0 6 hX dX6_ransom_9 mw_288 rfl inlX6 rfl (lt_b rfl) (lt_b rfl) rfl rfl ?_
    refine v_aload_n 0 0 hX dX6_ransom_12 rfl rfl ?_
    refine v_get (C := RX6) (T := TX6) (N := 10) (ci := 6) (v := .ref (ad 13)) 0 1 hX dX6_ransom_13 mw_283 rfl inlX6 rfl (lt_b rfl) (lt_b rfl) rfl rfl ?_
    refine v_iconst 1 hX dX6_ransom_16 (by decide) ?_
    refine v_iload_n 1 1 hX dX6_ransom_17 rfl rfl ?_
    refine v_ishl hX dX6_ransom_18 ?_
    obtain ⟨v2, hc, hf⟩ := opt_b hf
    refine v_callVi (rest := []) (As := [.ref (ad 13), .int (1 <<< (x1 &&& 31))]) (C := RX3) (T := TX3) (N := 3) (ci := 3) 62 hX dX6_ransom_19 (c_X3_lossBy fuel σ (1 <<< (x1 &&& 31)) hc) rfl rfl (lt_b rfl) rfl rfl rfl mw_601 mw_602 mw_62 mw_600 mw_603 gAll ds_X3_lossBy rfl ⟨Nat.le_of_ble_eq_true rfl, Nat.le_of_ble_eq_true rfl⟩ (Nat.le_of_ble_eq_true rfl) ?_
    refine v_goto 27 hX dX6_ransom_22 (by decide) ?_
    obtain rfl := Option.some.inj hf
    exact v_iret (r := v2) hX dX6_ransom_27 rfl
