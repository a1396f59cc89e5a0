set_option maxHeartbeats 4000000 in
set_option maxRecDepth 100000 in
theorem s_X3_widenBy_62 {P : PT} {M : MT} {D : va_G} {cs : ClassId × ClassId × ClassId} {ad : Nat → Nat} {ts : Nat × Nat × Nat} (hX : VOk P M (xW D cs ad ts) 6 cX3_widenBy RX3 none 0) (fuel : Nat) (k11 : Mem → Int32 → Int32 → Int32 → Option (Mem))  (z : Mem) (hk11 : ∀ (σ : Mem) (x2 : Int32) (x4 : Int32) (x5 : Int32), k11 σ x2 x4 x5 = some z → V P M (xW D cs ad ts) 6 (QV P M (xW D cs ad ts) z) 11 [(0, .ref (ad 62)), (2, .int x2), (4, .int x4), (5, .int x5)] [] σ) (σ : Mem) (x2 : Int32) (x4 : Int32) (x5 : Int32) (hf : f_X3_widenBy_62 fuel k11 σ x2 x4 x5 = some z) : V P M (xW D cs ad ts) 6 (QV P M (xW D cs ad ts) z) 62 [(0, .ref (ad 62)), (2, .int x2), (4, .int x4), (5, .int x5)] [] σ := by
  unfold f_X3_widenBy_62 at hf
  refine v_aload_n 0 0 hX dX3_widenBy_62 rfl rfl ?_
  refine v_get (C := RX3) (T := TX3) (N := 3) (ci := 3) (v := .ref (ad 64)) 62 1 hX dX3_widenBy_63 mw_258 rfl inlX3 rfl (lt_b rfl) (lt_b rfl) rfl rfl ?_
  refine v_iload 3 hX dX3_widenBy_66 rfl ?_
  refine v_dup2 hX dX3_widenBy_68 rfl rfl ?_
  obtain ⟨hi6, hf⟩ := gd_some hf
  refine v_ald (v := σ 64 x5.toNatClampNeg) 64 hX dX3_widenBy_69 (lt_b rfl) ((fun _ => rfl) _) hi6 rfl ?_
  refine v_aload_n 0 0 hX dX3_widenBy_70 rfl rfl ?_
  refine v_get (C := RX3) (T := TX3) (N := 3) (ci := 3) (v := .ref (ad 64)) 62 1 hX dX3_widenBy_71 mw_258 rfl inlX3 rfl (lt_b rfl) (lt_b rfl) rfl rfl ?_
  refine v_iload 3 hX dX3_widenBy_74 rfl ?_
  refine v_iload 2 hX dX3_widenBy_76 rfl ?_
  refine v_isub hX dX3_widenBy_78 ?_
  obtain ⟨hi7, hf⟩ := gd_some hf
  refine v_ald (v := σ 64 ((x5 - x4).toNatClampNeg)) 64 hX dX3_widenBy_79 (lt_b rfl) ((fun _ => rfl) _) hi7 rfl ?_
  refine v_iadd hX dX3_widenBy_80 ?_
  obtain ⟨hi8, hf⟩ := gd_some hf
  refine v_ast 64 hX dX3_widenBy_81 (lt_b rfl) (fun _ => rfl) hi8 ?_
  refine v_iinc 3 (x5 + (-1)) [(5, .int (x5 + (-1))), (0, .ref (ad 62)), (2, .int x2), (4, .int x4)] hX dX3_widenBy_82 rfl rfl (lt_b rfl) rfl ?_
  refine v_goto 11 hX dX3_widenBy_85 (by decide) ?_
  exact v_sub [1, 2, 3, 0] rfl (hk11 (mst σ 64 x5.toNatClampNeg ((σ 64 x5.toNatClampNeg) + (σ 64 ((x5 - x4).toNatClampNeg)))) x2 x4 (x5 + (-1)) hf)
set_option maxHeartbeats 4000000 in
set_option maxRecDepth 100000 in
theorem s_X3_widenBy_11 {P : PT} {M : MT} {D : va_G} {cs : ClassId × ClassId × ClassId} {ad : Nat → Nat} {ts : Nat × Nat × Nat} (hX : VOk P M (xW D cs ad ts) 6 cX3_widenBy RX3 none 0) (fuel : Nat)   (z : Mem)  : ∀ (n : Nat) (σ : Mem) (x2 : Int32) (x4 : Int32) (x5 : Int32), f_X3_widenBy_11 fuel n σ x2 x4 x5 = some z → V P M (xW D cs ad ts) 6 (QV P M (xW D cs ad ts) z) 11 [(0, .ref (ad 62)), (2, .int x2), (4, .int x4), (5, .int x5)] [] σ := by
  intro n
  induction n with
  | zero =>
    intro σ x2 x4 x5 hf
    cases hf
  | succ n hk11 =>
    intro σ x2 x4 x5 hf
    rw [f_X3_widenBy_11] at hf
    refine v_iload 3 hX dX3_widenBy_11 rfl ?_
    refine v_iload 2 hX dX3_widenBy_13 rfl ?_
    refine v_icmp_lt 88 hX dX3_widenBy_15 (by decide) (fun c => ?_) (fun c => ?_)
    · have hf := opt_t c hf
      obtain rfl := Option.some.inj hf
      exact v_vret hX dX3_widenBy_88
    · have hf := opt_f c hf
      refine v_aload_n 0 0 hX dX3_widenBy_18 rfl rfl ?_
      refine v_get (C := RX3) (T := TX3) (N := 3) (ci := 3) (v := .ref (ad 64)) 62 1 hX dX3_widenBy_19 mw_258 rfl inlX3 rfl (lt_b rfl) (lt_b rfl) rfl rfl ?_
      refine v_iload 3 hX dX3_widenBy_22 rfl ?_
      obtain ⟨hi2, hf⟩ := gd_some hf
      refine v_ald (v := σ 64 x5.toNatClampNeg) 64 hX dX3_widenBy_24 (lt_b rfl) ((fun _ => rfl) _) hi2 rfl ?_
      refine v_if_ne 62 hX dX3_widenBy_25 (by decide) (fun c => ?_) (fun c => ?_)
      · have hf := opt_f c hf
        exact (s_X3_widenBy_62 hX fuel (f_X3_widenBy_11 fuel n) z hk11 σ x2 x4 x5 hf)
      · have hf := opt_t c hf
        refine v_aload_n 0 0 hX dX3_widenBy_28 rfl rfl ?_
        refine v_get (C := RX3) (T := TX3) (N := 3) (ci := 3) (v := .ref (ad 64)) 62 1 hX dX3_widenBy_29 mw_258 rfl inlX3 rfl (lt_b rfl) (lt_b rfl) rfl rfl ?_
        refine v_iload 3 hX dX3_widenBy_32 rfl ?_
        refine v_iload 2 hX dX3_widenBy_34 rfl ?_
        refine v_isub hX dX3_widenBy_36 ?_
        obtain ⟨hi3, hf⟩ := gd_some hf
        refine v_ald (v := σ 64 ((x5 - x4).toNatClampNeg)) 64 hX dX3_widenBy_37 (lt_b rfl) ((fun _ => rfl) _) hi3 rfl ?_
        refine v_if_le 62 hX dX3_widenBy_38 (by decide) (fun c => ?_) (fun c => ?_)
        · have hf := opt_t c hf
          exact (s_X3_widenBy_62 hX fuel (f_X3_widenBy_11 fuel n) z hk11 σ x2 x4 x5 hf)
        · have hf := opt_f c hf
          refine v_aload_n 0 0 hX dX3_widenBy_41 rfl rfl ?_
          refine v_get (C := RX3) (T := TX3) (N := 3) (ci := 3) (v := .ref (ad 65)) 62 2 hX dX3_widenBy_42 mw_259 rfl inlX3 rfl (lt_b rfl) (lt_b rfl) rfl rfl ?_
          refine v_iload 3 hX dX3_widenBy_45 rfl ?_
          refine v_aload_n 0 0 hX dX3_widenBy_47 rfl rfl ?_
          refine v_get (C := RX3) (T := TX3) (N := 3) (ci := 3) (v := .ref (ad 65)) 62 2 hX dX3_widenBy_48 mw_259 rfl inlX3 rfl (lt_b rfl) (lt_b rfl) rfl rfl ?_
          refine v_iload 3 hX dX3_widenBy_51 rfl ?_
          refine v_iload 2 hX dX3_widenBy_53 rfl ?_
          refine v_isub hX dX3_widenBy_55 ?_
          obtain ⟨hi4, hf⟩ := gd_some hf
          refine v_ald (v := σ 65 ((x5 - x4).toNatClampNeg)) 65 hX dX3_widenBy_56 (lt_b rfl) ((fun _ => rfl) _) hi4 rfl ?_
          refine v_iconst 1 hX dX3_widenBy_57 (by decide) ?_
          refine v_iload_n 1 2 hX dX3_widenBy_58 rfl rfl ?_
          refine v_ishl hX dX3_widenBy_59 ?_
          refine v_ior hX dX3_widenBy_60 ?_
          obtain ⟨hi5, hf⟩ := gd_some hf
          refine v_ast 65 hX dX3_widenBy_61 (lt_b rfl) (fun _ => rfl) hi5 ?_
          exact (s_X3_widenBy_62 hX fuel (f_X3_widenBy_11 fuel n) z hk11 (mst σ 65 x5.toNatClampNeg ((σ 65 ((x5 - x4).toNatClampNeg)) ||| (1 <<< (x2 &&& 31)))) x2 x4 x5 hf)
set_option maxHeartbeats 4000000 in
set_option maxRecDepth 100000 in
theorem c_X3_widenBy {l : Launch} {D : va_G} {cs : ClassId × ClassId × ClassId} {ad : Nat → Nat} {ts : Nat × Nat × Nat} (σ : Mem) (fuel : Nat)  (x2 : Int32) (x3 : Int32) {z : Mem} (hf : f_X3_widenBy fuel σ x2 x3 = some z) : CtV l (xW D cs ad ts) 0 yX3_widenBy cX3_widenBy 6 [.ref (ad 62), .ref (ad 13), .int x2, .int x3] σ z := by
  refine ct_V RX3 [(0, .ref (ad 62)), (1, .ref (ad 13)), (2, .int x2), (3, .int x3)] (by decide +kernel) rfl rfl (Nat.le_of_ble_eq_true rfl) ?_
  intro P M hl0 hX
  unfold f_X3_widenBy at hf
  refine v_aload_n 1 1 hX dX3_widenBy_0 rfl rfl ?_
  refine v_get (C := RX1) (T := TX1) (N := 19) (ci := 1) (v := .ref (ad 18)) 13 13 hX dX3_widenBy_1 mw_154 rfl inlX1 rfl (lt_b rfl) (lt_b rfl) rfl rfl ?_
  refine v_iload_n 2 2 hX dX3_widenBy_4 rfl rfl ?_
  obtain ⟨hi1, hf⟩ := gd_some hf
  refine v_ald (v := σ 18 x2.toNatClampNeg) 18 hX dX3_widenBy_5 (lt_b rfl) ((fun _ => rfl) _) hi1 rfl ?_
  refine v_istore [(4, .int (σ 18 x2.toNatClampNeg)), (0, .ref (ad 62)), (1, .ref (ad 13)), (2, .int x2), (3, .int x3)] hX dX3_widenBy_6 (lt_b rfl) rfl ?_
  refine v_iload_n 4 3 hX dX3_widenBy_8 rfl rfl ?_
  refine v_istore [(5, .int x3), (4, .int (σ 18 x2.toNatClampNeg)), (0, .ref (ad 62)), (1, .ref (ad 13)), (2, .int x2), (3, .int x3)] hX dX3_widenBy_9 (lt_b rfl) rfl ?_
  exact v_sub [2, 4, 1, 0] rfl (s_X3_widenBy_11 hX fuel z  fuel σ x2 (σ 18 x2.toNatClampNeg) x3 hf)
set_option maxHeartbeats 4000000 in
set_option maxRecDepth 100000 in
theorem c_X3_gainOf {l : Launch} {D : va_G} {cs : ClassId × ClassId × ClassId} {ad : Nat → Nat} {ts : Nat × Nat × Nat} (σ : Mem)  (x1 : Int32) (x2 : Int32) {z : Int32} (hf : f_X3_gainOf σ x1 x2 = some z) : CtI l (xW D cs ad ts) 0 yX3_gainOf cX3_gainOf 3 (some .int) [.ref (ad 62), .int x1, .int x2] σ z σ := by
  refine ct_I RX3 [(0, .ref (ad 62)), (1, .int x1), (2, .int x2)] (by decide +kernel) rfl rfl (Nat.le_of_ble_eq_true rfl) ?_
  intro P M hl0 hX
  unfold f_X3_gainOf at hf
  refine v_aload_n 0 0 hX dX3_gainOf_0 rfl rfl ?_
  refine v_get (C := RX3) (T := TX3) (N := 3) (ci := 3) (v := .ref (ad 63)) 62 0 hX dX3_gainOf_1 mw_257 rfl inlX3 rfl (lt_b rfl) (lt_b rfl) rfl rfl ?_
  refine v_iconst 1 hX dX3_gainOf_4 (by decide) ?_
  refine v_iload_n 1 1 hX dX3_gainOf_5 rfl rfl ?_
  refine v_ishl hX dX3_gainOf_6 ?_
  refine v_iconst 1 hX dX3_gainOf_7 (by decide) ?_
  refine v_iload_n 2 2 hX dX3_gainOf_8 rfl rfl ?_
  refine v_ishl hX dX3_gainOf_9 ?_
  refine v_ior hX dX3_gainOf_10 ?_
  obtain ⟨hi1, hf⟩ := gd_some hf
  refine v_ald (v := σ 63 (((1 <<< (x1 &&& 31)) ||| (1 <<< (x2 &&& 31))).toNatClampNeg)) 63 hX dX3_gainOf_11 (lt_b rfl) ((fun _ => rfl) _) hi1 rfl ?_
  refine v_aload_n 0 0 hX dX3_gainOf_12 rfl rfl ?_
  refine v_get (C := RX3) (T := TX3) (N := 3) (ci := 3) (v := .ref (ad 63)) 62 0 hX dX3_gainOf_13 mw_257 rfl inlX3 rfl (lt_b rfl) (lt_b rfl) rfl rfl ?_
  refine v_iconst 1 hX dX3_gainOf_16 (by decide) ?_
  refine v_iload_n 1 1 hX dX3_gainOf_17 rfl rfl ?_
  refine v_ishl hX dX3_gainOf_18 ?_
  obtain ⟨hi2, hf⟩ := gd_some hf
  refine v_ald (v := σ 63 ((1 <<< (x1 &&& 31)).toNatClampNeg)) 63 hX dX3_gainOf_19 (lt_b rfl) ((fun _ => rfl) _) hi2 rfl ?_
  refine v_isub hX dX3_gainOf_20 ?_
  refine v_aload_n 0 0 hX dX3_gainOf_21 rfl rfl ?_
  refine v_get (C := RX3) (T := TX3) (N := 3) (ci := 3) (v := .ref (ad 63)) 62 0 hX dX3_gainOf_22 mw_257 rfl inlX3 rfl (lt_b rfl) (lt_b rfl) rfl rfl ?_
  refine v_iconst 1 hX dX3_gainOf_25 (by decide) ?_
  refine v_iload_n 2 2 hX dX3_gainOf_26 rfl rfl ?_
  refine v_ishl hX dX3_gainOf_27 ?_
  obtain ⟨hi3, hf⟩ := gd_some hf
  refine v_ald (v := σ 63 ((1 <<< (x2 &&& 31)).toNatClampNeg)) 63 hX dX3_gainOf_28 (lt_b rfl) ((fun _ => rfl) _) hi3 rfl ?_
  refine v_isub hX dX3_gainOf_29 ?_
  obtain rfl := Option.some.inj hf
  exact v_iret (r := ((σ 63 (((1 <<< (x1 &&& 31)) ||| (1 <<< (x2 &&& 31))).toNatClampNeg)) - (σ 63 ((1 <<< (x1 &&& 31)).toNatClampNeg))) - (σ 63 ((1 <<< (x2 &&& 31)).toNatClampNeg))) hX dX3_gainOf_30 rfl
set_option maxHeartbeats 4000000 in
set_option maxRecDepth 100000 in
theorem s_X2_isKindOf_4 {P : PT} {M : MT} {D : va_G} {cs : ClassId × ClassId × ClassId} {ad : Nat → Nat} {ts : Nat × Nat × Nat} (hX : VOk P M (xW D cs ad ts) 4 cX2_isKindOf RX2 (some .boolean) 0) (fuel : Nat) (σ : Mem)   (z : Int32)  : ∀ (n : Nat) (x1 : Int32) (x2 : Int32) (x3 : Int32), f_X2_isKindOf_4 fuel σ n x1 x2 x3 = some z → V P M (xW D cs ad ts) 4 (QI P M (xW D cs ad ts) z σ) 4 [(1, .int x1), (2, .int x2), (3, .int x3)] [] σ := by
  intro n
  induction n with
  | zero =>
    intro x1 x2 x3 hf
    cases hf
  | succ n hk4 =>
    intro x1 x2 x3 hf
    rw [f_X2_isKindOf_4] at hf
    refine v_iload_n 2 3 hX dX2_isKindOf_4 rfl rfl ?_
    refine v_bipush 6 hX dX2_isKindOf_5 (by decide) ?_
    refine v_icmp_ge 39 hX dX2_isKindOf_7 (by decide) (fun c => ?_) (fun c => ?_)
    · have hf := opt_t c hf
      refine v_iconst 0 hX dX2_isKindOf_39 (by decide) ?_
      obtain rfl := Option.some.inj hf
      exact v_iret (r := 0) hX dX2_isKindOf_40 rfl
    · have hf := opt_f c hf
      refine v_iload_n 1 2 hX dX2_isKindOf_10 rfl rfl ?_
      refine v_if_lt 39 hX dX2_isKindOf_11 (by decide) (fun c => ?_) (fun c => ?_)
      · have hf := opt_t c hf
        refine v_iconst 0 hX dX2_isKindOf_39 (by decide) ?_
        obtain rfl := Option.some.inj hf
        exact v_iret (r := 0) hX dX2_isKindOf_40 rfl
      · have hf := opt_f c hf
        refine v_iload_n 1 2 hX dX2_isKindOf_14 rfl rfl ?_
        refine v_bipush 6 hX dX2_isKindOf_15 (by decide) ?_
        refine v_icmp_ge 39 hX dX2_isKindOf_17 (by decide) (fun c => ?_) (fun c => ?_)
        · have hf := opt_t c hf
          refine v_iconst 0 hX dX2_isKindOf_39 (by decide) ?_
          obtain rfl := Option.some.inj hf
          exact v_iret (r := 0) hX dX2_isKindOf_40 rfl
        · have hf := opt_f c hf
          refine v_iload_n 1 2 hX dX2_isKindOf_20 rfl rfl ?_
          refine v_iload_n 0 1 hX dX2_isKindOf_21 rfl rfl ?_
          refine v_icmp_ne 27 hX dX2_isKindOf_22 (by decide) (fun c => ?_) (fun c => ?_)
          · have hf := opt_f c hf
            refine v_gets_tbA hX dX2_isKindOf_27 mw_777 ?_
            refine v_iload_n 1 2 hX dX2_isKindOf_30 rfl rfl ?_
            obtain ⟨hi1, hf⟩ := gd_some hf
            refine v_tab_tbA hX dX2_isKindOf_31 hi1 ?_
            refine v_istore_n 2 [(2, .int (tbA x2.toNatClampNeg)), (1, .int x1), (3, .int x3)] hX dX2_isKindOf_32 rfl (lt_b rfl) rfl ?_
            refine v_iinc 2 (x3 + 1) [(3, .int (x3 + 1)), (2, .int (tbA x2.toNatClampNeg)), (1, .int x1)] hX dX2_isKindOf_33 rfl rfl (lt_b rfl) rfl ?_
            refine v_goto 4 hX dX2_isKindOf_36 (by decide) ?_
            exact v_sub [2, 1, 0] rfl (hk4 x1 (tbA x2.toNatClampNeg) (x3 + 1) hf)
          · have hf := opt_t c hf
            refine v_iconst 1 hX dX2_isKindOf_25 (by decide) ?_
            obtain rfl := Option.some.inj hf
            exact v_iret (r := 1) hX dX2_isKindOf_26 rfl
set_option maxHeartbeats 4000000 in
set_option maxRecDepth 100000 in
theorem c_X2_isKindOf {l : Launch} {D : va_G} {cs : ClassId × ClassId × ClassId} {ad : Nat → Nat} {ts : Nat × Nat × Nat} (fuel : Nat) (σ : Mem)  (x0 : Int32) (x1 : Int32) {z : Int32} (hf : f_X2_isKindOf fuel σ x0 x1 = some z) : CtI l (xW D cs ad ts) 0 yX2_isKindOf cX2_isKindOf 4 (some .boolean) [.int x0, .int x1] σ z σ := by
  refine ct_I RX2 [(0, .int x0), (1, .int x1)] (by decide +kernel) rfl rfl (Nat.le_of_ble_eq_true rfl) ?_
  intro P M hl0 hX
  unfold f_X2_isKindOf at hf
  refine v_iload_n 0 0 hX dX2_isKindOf_0 rfl rfl ?_
  refine v_istore_n 2 [(2, .int x0), (0, .int x0), (1, .int x1)] hX dX2_isKindOf_1 rfl (lt_b rfl) rfl ?_
  refine v_iconst 0 hX dX2_isKindOf_2 (by decide) ?_
  refine v_istore_n 3 [(3, .int 0), (2, .int x0), (0, .int x0), (1, .int x1)] hX dX2_isKindOf_3 rfl (lt_b rfl) rfl ?_
  exact v_sub [3, 1, 0] rfl (s_X2_isKindOf_4 hX fuel σ z  fuel x1 x0 0 hf)
set_option maxHeartbeats 4000000 in
set_option maxRecDepth 100000 in
theorem c_X2_leave {l : Launch} {D : va_G} {cs : ClassId × ClassId × ClassId} {ad : Nat → Nat} {ts : Nat × Nat × Nat} (σ : Mem)   (x1 : Int32) {z : Mem} (hf : f_X2_leave σ x1 = some z) : CtV l (xW D cs ad ts) 0 yX2_leave cX2_leave 2 [.ref (ad 66), .int x1] σ z := by
  refine ct_V RX2 [(0, .ref (ad 66)), (1, .int x1)] (by decide +kernel) rfl rfl (Nat.le_of_ble_eq_true rfl) ?_
  intro P M hl0 hX
  unfold f_X2_leave at hf
  refine v_aload_n 0 0 hX dX2_leave_0 rfl rfl ?_
  refine v_get (C := RX2) (T := TX2) (N := 2) (ci := 2) (v := .int (σ 66 1)) 66 1 hX dX2_leave_1 mw_275 rfl inlX2 rfl (lt_b rfl) (lt_b rfl) rfl rfl ?_
  refine v_bipush 16 hX dX2_leave_4 (by decide) ?_
  refine v_icmp_ge 29 hX dX2_leave_6 (by decide) (fun c => ?_) (fun c => ?_)
  · have hf := opt_t c hf
    obtain rfl := Option.some.inj hf
    exact v_vret hX dX2_leave_29
  · have hf := opt_f c hf
    refine v_aload_n 0 0 hX dX2_leave_9 rfl rfl ?_
    refine v_get (C := RX2) (T := TX2) (N := 2) (ci := 2) (v := .ref (ad 67)) 66 0 hX dX2_leave_10 mw_273 rfl inlX2 rfl (lt_b rfl) (lt_b rfl) rfl rfl ?_
    refine v_aload_n 0 0 hX dX2_leave_13 rfl rfl ?_
    refine v_get (C := RX2) (T := TX2) (N := 2) (ci := 2) (v := .int (σ 66 1)) 66 1 hX dX2_leave_14 mw_275 rfl inlX2 rfl (lt_b rfl) (lt_b rfl) rfl rfl ?_
    refine v_iload_n 1 1 hX dX2_leave_17 rfl rfl ?_
    obtain ⟨hi1, hf⟩ := gd_some hf
    refine v_ast 67 hX dX2_leave_18 (lt_b rfl) (fun _ => rfl) hi1 ?_
    refine v_aload_n 0 0 hX dX2_leave_19 rfl rfl ?_
    refine v_dup hX dX2_leave_20 rfl ?_
    refine v_get (C := RX2) (T := TX2) (N := 2) (ci := 2) (v := .int (σ 66 1)) 66 1 hX dX2_leave_21 mw_275 rfl inlX2 rfl (lt_b rfl) (lt_b rfl) rfl rfl ?_
    refine v_iconst 1 hX dX2_leave_24 (by decide) ?_
    refine v_iadd hX dX2_leave_25 ?_
    refine v_put (C := RX2) (T := TX2) (N := 2) (ci := 2) (ty := .int) tyX2 66 1 hX dX2_leave_26 mw_275 rfl inlX2 tyX2_ok nmX2 rfl (lt_b rfl) (lt_b rfl) rfl (tyX2_ok 1 (lt_b rfl)) rfl rfl rfl (lt_b rfl) rfl ?_
    obtain rfl := Option.some.inj hf
    exact v_vret hX dX2_leave_29
set_option maxHeartbeats 4000000 in
set_option maxRecDepth 100000 in
theorem s_X2_nearest_S_4 {P : PT} {M : MT} {D : va_G} {cs : ClassId × ClassId × ClassId} {ad : Nat → Nat} {ts : Nat × Nat × Nat} (hX : VOk P M (xW D cs ad ts) 4 cX2_nearest RX2 (some .int) 0) (fuel : Nat) (σ : Mem)   (z : Int32)  : ∀ (n : Nat) (x2 : Int32) (x3 : Int32), f_X2_nearest_S_4 fuel σ n x2 x3 = some z → V P M (xW D cs ad ts) 4 (QI P M (xW D cs ad ts) z σ) 4 [(0, .ref (ts_tbS ts)), (2, .int x2), (3, .int x3)] [] σ := by
  intro n
  induction n with
  | zero =>
    intro x2 x3 hf
    cases hf
  | succ n hk4 =>
    intro x2 x3 hf
    rw [f_X2_nearest_S_4] at hf
    refine v_iload_n 2 3 hX dX2_nearest_4 rfl rfl ?_
    refine v_bipush 6 hX dX2_nearest_5 (by decide) ?_
    refine v_icmp_ge 42 hX dX2_nearest_7 (by decide) (fun c => ?_) (fun c => ?_)
    · have hf := opt_t c hf
      refine v_aload_n 0 0 hX dX2_nearest_42 rfl rfl ?_
      refine v_iconst 0 hX dX2_nearest_43 (by decide) ?_
      obtain ⟨hi1, hf⟩ := gd_some hf
      refine v_tab_tbS hX dX2_nearest_44 hi1 ?_
      obtain rfl := Option.some.inj hf
      exact v_iret (r := tbS (0 : Int32).toNatClampNeg) hX dX2_nearest_45 rfl
    · have hf := opt_f c hf
      refine v_iload_n 1 2 hX dX2_nearest_10 rfl rfl ?_
      refine v_if_lt 42 hX dX2_nearest_11 (by decide) (fun c => ?_) (fun c => ?_)
      · have hf := opt_t c hf
        refine v_aload_n 0 0 hX dX2_nearest_42 rfl rfl ?_
        refine v_iconst 0 hX dX2_nearest_43 (by decide) ?_
        obtain ⟨hi2, hf⟩ := gd_some hf
        refine v_tab_tbS hX dX2_nearest_44 hi2 ?_
        obtain rfl := Option.some.inj hf
        exact v_iret (r := tbS (0 : Int32).toNatClampNeg) hX dX2_nearest_45 rfl
      · have hf := opt_f c hf
        refine v_iload_n 1 2 hX dX2_nearest_14 rfl rfl ?_
        refine v_bipush 6 hX dX2_nearest_15 (by decide) ?_
        refine v_icmp_ge 42 hX dX2_nearest_17 (by decide) (fun c => ?_) (fun c => ?_)
        · have hf := opt_t c hf
          refine v_aload_n 0 0 hX dX2_nearest_42 rfl rfl ?_
          refine v_iconst 0 hX dX2_nearest_43 (by decide) ?_
          obtain ⟨hi3, hf⟩ := gd_some hf
          refine v_tab_tbS hX dX2_nearest_44 hi3 ?_
          obtain rfl := Option.some.inj hf
          exact v_iret (r := tbS (0 : Int32).toNatClampNeg) hX dX2_nearest_45 rfl
        · have hf := opt_f c hf
          refine v_aload_n 0 0 hX dX2_nearest_20 rfl rfl ?_
          refine v_iload_n 1 2 hX dX2_nearest_21 rfl rfl ?_
          obtain ⟨hi4, hf⟩ := gd_some hf
          refine v_tab_tbS hX dX2_nearest_22 hi4 ?_
          refine v_if_eq 30 hX dX2_nearest_23 (by decide) (fun c => ?_) (fun c => ?_)
          · have hf := opt_t c hf
            refine v_gets_tbA hX dX2_nearest_30 mw_777 ?_
            refine v_iload_n 1 2 hX dX2_nearest_33 rfl rfl ?_
            obtain ⟨hi5, hf⟩ := gd_some hf
            refine v_tab_tbA hX dX2_nearest_34 hi5 ?_
            refine v_istore_n 2 [(2, .int (tbA x2.toNatClampNeg)), (0, .ref (ts_tbS ts)), (3, .int x3)] hX dX2_nearest_35 rfl (lt_b rfl) rfl ?_
            refine v_iinc 2 (x3 + 1) [(3, .int (x3 + 1)), (2, .int (tbA x2.toNatClampNeg)), (0, .ref (ts_tbS ts))] hX dX2_nearest_36 rfl rfl (lt_b rfl) rfl ?_
            refine v_goto 4 hX dX2_nearest_39 (by decide) ?_
            exact v_sub [2, 1, 0] rfl (hk4 (tbA x2.toNatClampNeg) (x3 + 1) hf)
          · have hf := opt_f c hf
            refine v_aload_n 0 0 hX dX2_nearest_26 rfl rfl ?_
            refine v_iload_n 1 2 hX dX2_nearest_27 rfl rfl ?_
            obtain ⟨hi6, hf⟩ := gd_some hf
            refine v_tab_tbS hX dX2_nearest_28 hi6 ?_
            obtain rfl := Option.some.inj hf
            exact v_iret (r := tbS x2.toNatClampNeg) hX dX2_nearest_29 rfl
set_option maxHeartbeats 4000000 in
set_option maxRecDepth 100000 in
theorem c_X2_nearest_S {l : Launch} {D : va_G} {cs : ClassId × ClassId × ClassId} {ad : Nat → Nat} {ts : Nat × Nat × Nat} (fuel : Nat) (σ : Mem)  (x1 : Int32) {z : Int32} (hf : f_X2_nearest_S fuel σ x1 = some z) : CtI l (xW D cs ad ts) 0 yX2_nearest cX2_nearest 4 (some .int) [.ref (ts_tbS ts), .int x1] σ z σ := by
  refine ct_I RX2 [(0, .ref (ts_tbS ts)), (1, .int x1)] (by decide +kernel) rfl rfl (Nat.le_of_ble_eq_true rfl) ?_
  intro P M hl0 hX
  unfold f_X2_nearest_S at hf
  refine v_iload_n 1 1 hX dX2_nearest_0 rfl rfl ?_
  refine v_istore_n 2 [(2, .int x1), (0, .ref (ts_tbS ts)), (1, .int x1)] hX dX2_nearest_1 rfl (lt_b rfl) rfl ?_
  refine v_iconst 0 hX dX2_nearest_2 (by decide) ?_
  refine v_istore_n 3 [(3, .int 0), (2, .int x1), (0, .ref (ts_tbS ts)), (1, .int x1)] hX dX2_nearest_3 rfl (lt_b rfl) rfl ?_
  exact v_sub [2, 1, 0] rfl (s_X2_nearest_S_4 hX fuel σ z  fuel x1 0 hf)
set_option maxHeartbeats 4000000 in
set_option maxRecDepth 100000 in
theorem s_X2_nearest_M_4 {P : PT} {M : MT} {D : va_G} {cs : ClassId × ClassId × ClassId} {ad : Nat → Nat} {ts : Nat × Nat × Nat} (hX : VOk P M (xW D cs ad ts) 4 cX2_nearest RX2 (some .int) 0) (fuel : Nat) (σ : Mem)   (z : Int32)  : ∀ (n : Nat) (x2 : Int32) (x3 : Int32), f_X2_nearest_M_4 fuel σ n x2 x3 = some z → V P M (xW D cs ad ts) 4 (QI P M (xW D cs ad ts) z σ) 4 [(0, .ref (ts_tbM ts)), (2, .int x2), (3, .int x3)] [] σ := by
  intro n
  induction n with
  | zero =>
    intro x2 x3 hf
    cases hf
  | succ n hk4 =>
    intro x2 x3 hf
    rw [f_X2_nearest_M_4] at hf
    refine v_iload_n 2 3 hX dX2_nearest_4 rfl rfl ?_
    refine v_bipush 6 hX dX2_nearest_5 (by decide) ?_
    refine v_icmp_ge 42 hX dX2_nearest_7 (by decide) (fun c => ?_) (fun c => ?_)
    · have hf := opt_t c hf
      refine v_aload_n 0 0 hX dX2_nearest_42 rfl rfl ?_
      refine v_iconst 0 hX dX2_nearest_43 (by decide) ?_
      obtain ⟨hi1, hf⟩ := gd_some hf
      refine v_tab_tbM hX dX2_nearest_44 hi1 ?_
      obtain rfl := Option.some.inj hf
      exact v_iret (r := tbM (0 : Int32).toNatClampNeg) hX dX2_nearest_45 rfl
    · have hf := opt_f c hf
      refine v_iload_n 1 2 hX dX2_nearest_10 rfl rfl ?_
      refine v_if_lt 42 hX dX2_nearest_11 (by decide) (fun c => ?_) (fun c => ?_)
      · have hf := opt_t c hf
        refine v_aload_n 0 0 hX dX2_nearest_42 rfl rfl ?_
        refine v_iconst 0 hX dX2_nearest_43 (by decide) ?_
        obtain ⟨hi2, hf⟩ := gd_some hf
        refine v_tab_tbM hX dX2_nearest_44 hi2 ?_
        obtain rfl := Option.some.inj hf
        exact v_iret (r := tbM (0 : Int32).toNatClampNeg) hX dX2_nearest_45 rfl
      · have hf := opt_f c hf
        refine v_iload_n 1 2 hX dX2_nearest_14 rfl rfl ?_
        refine v_bipush 6 hX dX2_nearest_15 (by decide) ?_
        refine v_icmp_ge 42 hX dX2_nearest_17 (by decide) (fun c => ?_) (fun c => ?_)
        · have hf := opt_t c hf
          refine v_aload_n 0 0 hX dX2_nearest_42 rfl rfl ?_
          refine v_iconst 0 hX dX2_nearest_43 (by decide) ?_
          obtain ⟨hi3, hf⟩ := gd_some hf
          refine v_tab_tbM hX dX2_nearest_44 hi3 ?_
          obtain rfl := Option.some.inj hf
          exact v_iret (r := tbM (0 : Int32).toNatClampNeg) hX dX2_nearest_45 rfl
        · have hf := opt_f c hf
          refine v_aload_n 0 0 hX dX2_nearest_20 rfl rfl ?_
          refine v_iload_n 1 2 hX dX2_nearest_21 rfl rfl ?_
          obtain ⟨hi4, hf⟩ := gd_some hf
          refine v_tab_tbM hX dX2_nearest_22 hi4 ?_
          refine v_if_eq 30 hX dX2_nearest_23 (by decide) (fun c => ?_) (fun c => ?_)
          · have hf := opt_t c hf
            refine v_gets_tbA hX dX2_nearest_30 mw_777 ?_
            refine v_iload_n 1 2 hX dX2_nearest_33 rfl rfl ?_
            obtain ⟨hi5, hf⟩ := gd_some hf
            refine v_tab_tbA hX dX2_nearest_34 hi5 ?_
            refine v_istore_n 2 [(2, .int (tbA x2.toNatClampNeg)), (0, .ref (ts_tbM ts)), (3, .int x3)] hX dX2_nearest_35 rfl (lt_b rfl) rfl ?_
            refine v_iinc 2 (x3 + 1) [(3, .int (x3 + 1)), (2, .int (tbA x2.toNatClampNeg)), (0, .ref (ts_tbM ts))] hX dX2_nearest_36 rfl rfl (lt_b rfl) rfl ?_
            refine v_goto 4 hX dX2_nearest_39 (by decide) ?_
            exact v_sub [2, 1, 0] rfl (hk4 (tbA x2.toNatClampNeg) (x3 + 1) hf)
          · have hf := opt_f c hf
            refine v_aload_n 0 0 hX dX2_nearest_26 rfl rfl ?_
            refine v_iload_n 1 2 hX dX2_nearest_27 rfl rfl ?_
            obtain ⟨hi6, hf⟩ := gd_some hf
            refine v_tab_tbM hX dX2_nearest_28 hi6 ?_
            obtain rfl := Option.some.inj hf
            exact v_iret (r := tbM x2.toNatClampNeg) hX dX2_nearest_29 rfl
set_option maxHeartbeats 4000000 in
set_option maxRecDepth 100000 in
theorem c_X2_nearest_M {l : Launch} {D : va_G} {cs : ClassId × ClassId × ClassId} {ad : Nat → Nat} {ts : Nat × Nat × Nat} (fuel : Nat) (σ : Mem)  (x1 : Int32) {z : Int32} (hf : f_X2_nearest_M fuel σ x1 = some z) : CtI l (xW D cs ad ts) 0 yX2_nearest cX2_nearest 4 (some .int) [.ref (ts_tbM ts), .int x1] σ z σ := by
  refine ct_I RX2 [(0, .ref (ts_tbM ts)), (1, .int x1)] (by decide +kernel) rfl rfl (Nat.le_of_ble_eq_true rfl) ?_
  intro P M hl0 hX
  unfold f_X2_nearest_M at hf
  refine v_iload_n 1 1 hX dX2_nearest_0 rfl rfl ?_
  refine v_istore_n 2 [(2, .int x1), (0, .ref (ts_tbM ts)), (1, .int x1)] hX dX2_nearest_1 rfl (lt_b rfl) rfl ?_
  refine v_iconst 0 hX dX2_nearest_2 (by decide) ?_
  refine v_istore_n 3 [(3, .int 0), (2, .int x1), (0, .ref (ts_tbM ts)), (1, .int x1)] hX dX2_nearest_3 rfl (lt_b rfl) rfl ?_
  exact v_sub [2, 1, 0] rfl (s_X2_nearest_M_4 hX fuel σ z  fuel x1 0 hf)
set_option maxHeartbeats 4000000 in
set_option maxRecDepth 100000 in
theorem c_X6_fault {l : Launch} {D : va_G} {cs : ClassId × ClassId × ClassId} {ad : Nat → Nat} {ts : Nat × Nat × Nat} (σ : Mem)   {z : Int32} (hf : f_X6_fault σ = some z) : CtI l (xW D cs ad ts) 0 yX6_fault cX6_fault 1 (some .int) [.ref (ad 0)] σ z σ := by
  refine ct_I RX6 [(0, .ref (ad 0))] (by decide +kernel) rfl rfl (Nat.le_of_ble_eq_true rfl) ?_
  intro P M hl0 hX
  unfold f_X6_fault at hf
  refine v_aload_n 0 0 hX dX6_fault_0 rfl rfl ?_
  refine v_get (C := RX6) (T := TX6) (N := 10) (ci := 6) (v := .int (σ 0 8)) 0 8 hX dX6_fault_1 mw_290 rfl inlX6 rfl (lt_b rfl) (lt_b rfl) rfl rfl ?_
  obtain rfl := Option.some.inj hf
  exact v_iret (r := σ 0 8) hX dX6_fault_4 rfl
set_option maxHeartbeats 4000000 in
set_option maxRecDepth 100000 in
theorem c_X6_status {l : Launch} {D : va_G} {cs : ClassId × ClassId × ClassId} {ad : Nat → Nat} {ts : Nat × Nat × Nat} (σ : Mem)   {z : Int32} (hf : f_X6_status σ = some z) : CtI l (xW D cs ad ts) 0 yX6_status cX6_status 1 (some .int) [.ref (ad 0)] σ z σ := by
  refine ct_I RX6 [(0, .ref (ad 0))] (by decide +kernel) rfl rfl (Nat.le_of_ble_eq_true rfl) ?_
  intro P M hl0 hX
  unfold f_X6_status at hf
  refine v_aload_n 0 0 hX dX6_status_0 rfl rfl ?_
  refine v_get (C := RX6) (T := TX6) (N := 10) (ci := 6) (v := .int (σ 0 9)) 0 9 hX dX6_status_1 mw_291 rfl inlX6 rfl (lt_b rfl) (lt_b rfl) rfl rfl ?_
  obtain rfl := Option.some.inj hf
  exact v_iret (r := σ 0 9) hX dX6_status_4 rfl
set_option maxHeartbeats 4000000 in
set_option maxRecDepth 100000 in
theorem c_X6_found {l : Launch} {D : va_G} {cs : ClassId × ClassId × ClassId} {ad : Nat → Nat} {ts : Nat × Nat × Nat} (σ : Mem)   (x1 : Int32) {z : Int32 × Mem} (hf : f_X6_found σ x1 = some z) : CtI l (xW D cs ad ts) 0 yX6_found cX6_found 2 (some .int) [.ref (ad 0), .int x1] σ z.1 z.2 := by
  refine ct_I RX6 [(0, .ref (ad 0)), (1, .int x1)] (by decide +kernel) rfl rfl (Nat.le_of_ble_eq_true rfl) ?_
  intro P M hl0 hX
  unfold f_X6_found at hf
  refine v_aload_n 0 0 hX dX6_found_0 rfl rfl ?_
  refine v_iload_n 1 1 hX dX6_found_1 rfl rfl ?_
  refine v_put (C := RX6) (T := TX6) (N := 10) (ci := 6) (ty := .int) tyX6 0 9 hX dX6_found_2 mw_291 rfl inlX6 tyX6_ok nmX6 rfl (lt_b rfl) (lt_b rfl) rfl (tyX6_ok 9 (lt_b rfl)) rfl rfl rfl (lt_b rfl) rfl ?_
  refine v_ldcw (-1000010) hX dX6_found_5 mw_328 ?_
  refine v_iload_n 1 1 hX dX6_found_8 rfl rfl ?_
  refine v_isub hX dX6_found_9 ?_
  obtain rfl := Option.some.inj hf
  exact v_iret (r := (-1000010) - x1) hX dX6_found_10 rfl
set_option maxHeartbeats 4000000 in
set_option maxRecDepth 100000 in
theorem c_X6_unfound {l : Launch} {D : va_G} {cs : ClassId × ClassId × ClassId} {ad : Nat → Nat} {ts : Nat × Nat × Nat} (σ : Mem)   (x1 : Int32) {z : Int32 × Mem} (hf : f_X6_unfound σ x1 = some z) : CtI l (xW D cs ad ts) 0 yX6_unfound cX6_unfound 2 (some .int) [.ref (ad 0), .int x1] σ z.1 z.2 := by
  refine ct_I RX6 [(0, .ref (ad 0)), (1, .int x1)] (by decide +kernel) rfl rfl (Nat.le_of_ble_eq_true rfl) ?_
  intro P M hl0 hX
  unfold f_X6_unfound at hf
  refine v_aload_n 0 0 hX dX6_unfound_0 rfl rfl ?_
  refine v_iconst 0 hX dX6_unfound_1 (by decide) ?_
  refine v_put (C := RX6) (T := TX6) (N := 10) (ci := 6) (ty := .int) tyX6 0 9 hX dX6_unfound_2 mw_291 rfl inlX6 tyX6_ok nmX6 rfl (lt_b rfl) (lt_b rfl) rfl (tyX6_ok 9 (lt_b rfl)) rfl rfl rfl (lt_b rfl) rfl ?_
  refine v_iload_n 1 1 hX dX6_unfound_5 rfl rfl ?_
  obtain rfl := Option.some.inj hf
  exact v_iret (r := x1) hX dX6_unfound_6 rfl
set_option maxHeartbeats 4000000 in
set_option maxRecDepth 100000 in
theorem c_X7_in {l : Launch} {D : va_G} {cs : ClassId × ClassId × ClassId} {ad : Nat → Nat} (σ : Mem)   (x0 : Int64) (x2 : Int64) (x4 : Int64) {z : Int32} (hf : f_X7_in x0 x2 x4 = some z) : CtI l (mW D cs ad) 0 yX7_in cX7_in 6 (some .boolean) [.long x0, .long x2, .long x4] σ z σ := by
  refine ct_I RX7 [(0, .long x0), (2, .long x2), (4, .long x4)] (by decide +kernel) rfl rfl (Nat.le_of_ble_eq_true rfl) ?_
  intro P M hl0 hX
  unfold f_X7_in at hf
  refine v_lload_n 0 0 hX dX7_in_0 rfl rfl ?_
  refine v_lload_n 1 2 hX dX7_in_1 rfl rfl ?_
  refine v_lcmp hX dX7_in_2 ?_
  refine v_if_lt 17 hX dX7_in_3 (by decide) (fun c => ?_) (fun c => ?_)
  · have hf := opt_t c hf
    refine v_iconst 0 hX dX7_in_17 (by decide) ?_
    obtain rfl := Option.some.inj hf
    exact v_iret (r := 0) hX dX7_in_18 rfl
  · have hf := opt_f c hf
    refine v_lload_n 0 0 hX dX7_in_6 rfl rfl ?_
    refine v_lload 2 hX dX7_in_7 rfl ?_
    refine v_lcmp hX dX7_in_9 ?_
    refine v_if_gt 17 hX dX7_in_10 (by decide) (fun c => ?_) (fun c => ?_)
    · have hf := opt_t c hf
      refine v_iconst 0 hX dX7_in_17 (by decide) ?_
      obtain rfl := Option.some.inj hf
      exact v_iret (r := 0) hX dX7_in_18 rfl
    · have hf := opt_f c hf
      refine v_iconst 1 hX dX7_in_13 (by decide) ?_
      refine v_goto 18 hX dX7_in_14 (by decide) ?_
      obtain rfl := Option.some.inj hf
      exact v_iret (r := 1) hX dX7_in_18 rfl
set_option maxHeartbeats 4000000 in
set_option maxRecDepth 100000 in
theorem c_X7_sortOf {l : Launch} {D : va_G} {cs : ClassId × ClassId × ClassId} {ad : Nat → Nat} (σ : Mem)   (x0 : Int32) {z : Int32} (hf : f_X7_sortOf x0 = some z) : CtI l (mW D cs ad) 0 yX7_sortOf cX7_sortOf 1 (some .int) [.int x0] σ z σ := by
  refine ct_I RX7 [(0, .int x0)] (by decide +kernel) rfl rfl (Nat.le_of_ble_eq_true rfl) ?_
  intro P M hl0 hX
  unfold f_X7_sortOf at hf
  refine v_iload_n 0 0 hX dX7_sortOf_0 rfl rfl ?_
  refine v_bipush 115 hX dX7_sortOf_1 (by decide) ?_
  refine v_icmp_ne 10 hX dX7_sortOf_3 (by decide) (fun c => ?_) (fun c => ?_)
  · have hf := opt_f c hf
    refine v_iload_n 0 0 hX dX7_sortOf_10 rfl rfl ?_
    refine v_bipush 112 hX dX7_sortOf_11 (by decide) ?_
    refine v_icmp_ne 20 hX dX7_sortOf_13 (by decide) (fun c => ?_) (fun c => ?_)
    · have hf := opt_f c hf
      refine v_iload_n 0 0 hX dX7_sortOf_20 rfl rfl ?_
      refine v_bipush 114 hX dX7_sortOf_21 (by decide) ?_
      refine v_icmp_ne 30 hX dX7_sortOf_23 (by decide) (fun c => ?_) (fun c => ?_)
      · have hf := opt_f c hf
        refine v_iload_n 0 0 hX dX7_sortOf_30 rfl rfl ?_
        refine v_bipush 104 hX dX7_sortOf_31 (by decide) ?_
        refine v_icmp_ne 40 hX dX7_sortOf_33 (by decide) (fun c => ?_) (fun c => ?_)
        · have hf := opt_f c hf
          refine v_iload_n 0 0 hX dX7_sortOf_40 rfl rfl ?_
          refine v_bipush 108 hX dX7_sortOf_41 (by decide) ?_
          refine v_icmp_ne 50 hX dX7_sortOf_43 (by decide) (fun c => ?_) (fun c => ?_)
          · have hf := opt_f c hf
            refine v_iconst 0 hX dX7_sortOf_50 (by decide) ?_
            obtain rfl := Option.some.inj hf
            exact v_iret (r := 0) hX dX7_sortOf_51 rfl
          · have hf := opt_t c hf
            refine v_iconst 5 hX dX7_sortOf_46 (by decide) ?_
            refine v_goto 51 hX dX7_sortOf_47 (by decide) ?_
            obtain rfl := Option.some.inj hf
            exact v_iret (r := 5) hX dX7_sortOf_51 rfl
        · have hf := opt_t c hf
          refine v_iconst 4 hX dX7_sortOf_36 (by decide) ?_
          refine v_goto 51 hX dX7_sortOf_37 (by decide) ?_
          obtain rfl := Option.some.inj hf
          exact v_iret (r := 4) hX dX7_sortOf_51 rfl
      · have hf := opt_t c hf
        refine v_iconst 3 hX dX7_sortOf_26 (by decide) ?_
        refine v_goto 51 hX dX7_sortOf_27 (by decide) ?_
        obtain rfl := Option.some.inj hf
        exact v_iret (r := 3) hX dX7_sortOf_51 rfl
    · have hf := opt_t c hf
      refine v_iconst 2 hX dX7_sortOf_16 (by decide) ?_
      refine v_goto 51 hX dX7_sortOf_17 (by decide) ?_
      obtain rfl := Option.some.inj hf
      exact v_iret (r := 2) hX dX7_sortOf_51 rfl
  · have hf := opt_t c hf
    refine v_iconst 1 hX dX7_sortOf_6 (by decide) ?_
    refine v_goto 51 hX dX7_sortOf_7 (by decide) ?_
    obtain rfl := Option.some.inj hf
    exact v_iret (r := 1) hX dX7_sortOf_51 rfl
set_option maxHeartbeats 4000000 in
set_option maxRecDepth 100000 in
theorem s_X7_bits_4 {P : PT} {M : MT} {D : va_G} {cs : ClassId × ClassId × ClassId} {ad : Nat → Nat} (hX : VOk P M (mW D cs ad) 3 cX7_bits RX7 (some .int) 0) (σ : Mem) (fuel : Nat)   (z : Int32)  : ∀ (n : Nat) (x1 : Int32) (x2 : Int32), f_X7_bits_4 fuel n x1 x2 = some z → V P M (mW D cs ad) 3 (QI P M (mW D cs ad) z σ) 4 [(1, .int x1), (2, .int x2)] [] σ := by
  intro n
  induction n with
  | zero =>
    intro x1 x2 hf
    cases hf
  | succ n hk4 =>
    intro x1 x2 hf
    rw [f_X7_bits_4] at hf
    refine v_iload_n 1 2 hX dX7_bits_4 rfl rfl ?_
    refine v_if_eq 20 hX dX7_bits_5 (by decide) (fun c => ?_) (fun c => ?_)
    · have hf := opt_t c hf
      refine v_iload_n 0 1 hX dX7_bits_20 rfl rfl ?_
      obtain rfl := Option.some.inj hf
      exact v_iret (r := x1) hX dX7_bits_21 rfl
    · have hf := opt_f c hf
      refine v_iinc 0 (x1 + 1) [(1, .int (x1 + 1)), (2, .int x2)] hX dX7_bits_8 rfl rfl (lt_b rfl) rfl ?_
      refine v_iload_n 1 2 hX dX7_bits_11 rfl rfl ?_
      refine v_iload_n 1 2 hX dX7_bits_12 rfl rfl ?_
      refine v_iconst 1 hX dX7_bits_13 (by decide) ?_
      refine v_isub hX dX7_bits_14 ?_
      refine v_iand hX dX7_bits_15 ?_
      refine v_istore_n 2 [(2, .int (x2 &&& (x2 - 1))), (1, .int (x1 + 1))] hX dX7_bits_16 rfl (lt_b rfl) rfl ?_
      refine v_goto 4 hX dX7_bits_17 (by decide) ?_
      exact v_sub [1, 0] rfl (hk4 (x1 + 1) (x2 &&& (x2 - 1)) hf)
set_option maxHeartbeats 4000000 in
set_option maxRecDepth 100000 in
theorem c_X7_bits {l : Launch} {D : va_G} {cs : ClassId × ClassId × ClassId} {ad : Nat → Nat} (σ : Mem) (fuel : Nat)  (x0 : Int32) {z : Int32} (hf : f_X7_bits fuel x0 = some z) : CtI l (mW D cs ad) 0 yX7_bits cX7_bits 3 (some .int) [.int x0] σ z σ := by
  refine ct_I RX7 [(0, .int x0)] (by decide +kernel) rfl rfl (Nat.le_of_ble_eq_true rfl) ?_
  intro P M hl0 hX
  unfold f_X7_bits at hf
  refine v_iconst 0 hX dX7_bits_0 (by decide) ?_
  refine v_istore_n 1 [(1, .int 0), (0, .int x0)] hX dX7_bits_1 rfl (lt_b rfl) rfl ?_
  refine v_iload_n 1 0 hX dX7_bits_2 rfl rfl ?_
  refine v_istore_n 2 [(2, .int x0), (1, .int 0), (0, .int x0)] hX dX7_bits_3 rfl (lt_b rfl) rfl ?_
  exact v_sub [1, 0] rfl (s_X7_bits_4 hX σ fuel z  fuel 0 x0 hf)
set_option maxHeartbeats 4000000 in
set_option maxRecDepth 100000 in
theorem s_X7_isOf_24 {P : PT} {M : MT} {D : va_G} {cs : ClassId × ClassId × ClassId} {ad : Nat → Nat} (hX : VOk P M (mW D cs ad) 2 cX7_isOf RX7 (some .boolean) 0) (σ : Mem)    (z : Int32)  (x0 : Int32) (x1 : Int32) (hf : f_X7_isOf_24  x0 x1 = some z) : V P M (mW D cs ad) 2 (QI P M (mW D cs ad) z σ) 24 [(0, .int x0), (1, .int x1)] [] σ := by
  unfold f_X7_isOf_24 at hf
  refine v_iload_n 1 1 hX dX7_isOf_24 rfl rfl ?_
  refine v_iconst 4 hX dX7_isOf_25 (by decide) ?_
  refine v_icmp_ne 38 hX dX7_isOf_26 (by decide) (fun c => ?_) (fun c => ?_)
  · have hf := opt_f c hf
    refine v_iconst 0 hX dX7_isOf_38 (by decide) ?_
    obtain rfl := Option.some.inj hf
    exact v_iret (r := 0) hX dX7_isOf_39 rfl
  · have hf := opt_t c hf
    refine v_iload_n 0 0 hX dX7_isOf_29 rfl rfl ?_
    refine v_iconst 5 hX dX7_isOf_30 (by decide) ?_
    refine v_icmp_ne 38 hX dX7_isOf_31 (by decide) (fun c => ?_) (fun c => ?_)
    · have hf := opt_f c hf
      refine v_iconst 0 hX dX7_isOf_38 (by decide) ?_
      obtain rfl := Option.some.inj hf
      exact v_iret (r := 0) hX dX7_isOf_39 rfl
    · have hf := opt_t c hf
      refine v_iconst 1 hX dX7_isOf_34 (by decide) ?_
      refine v_goto 39 hX dX7_isOf_35 (by decide) ?_
      obtain rfl := Option.some.inj hf
      exact v_iret (r := 1) hX dX7_isOf_39 rfl
set_option maxHeartbeats 4000000 in
set_option maxRecDepth 100000 in
theorem c_X7_isOf {l : Launch} {D : va_G} {cs : ClassId × ClassId × ClassId} {ad : Nat → Nat} (σ : Mem)   (x0 : Int32) (x1 : Int32) {z : Int32} (hf : f_X7_isOf x0 x1 = some z) : CtI l (mW D cs ad) 0 yX7_isOf cX7_isOf 2 (some .boolean) [.int x0, .int x1] σ z σ := by
  refine ct_I RX7 [(0, .int x0), (1, .int x1)] (by decide +kernel) rfl rfl (Nat.le_of_ble_eq_true rfl) ?_
  intro P M hl0 hX
  unfold f_X7_isOf at hf
  refine v_iload_n 1 1 hX dX7_isOf_0 rfl rfl ?_
  refine v_if_eq 34 hX dX7_isOf_1 (by decide) (fun c => ?_) (fun c => ?_)
  · have hf := opt_t c hf
    refine v_iconst 1 hX dX7_isOf_34 (by decide) ?_
    refine v_goto 39 hX dX7_isOf_35 (by decide) ?_
    obtain rfl := Option.some.inj hf
    exact v_iret (r := 1) hX dX7_isOf_39 rfl
  · have hf := opt_f c hf
    refine v_iload_n 0 0 hX dX7_isOf_4 rfl rfl ?_
    refine v_iload_n 1 1 hX dX7_isOf_5 rfl rfl ?_
    refine v_icmp_eq 34 hX dX7_isOf_6 (by decide) (fun c => ?_) (fun c => ?_)
    · have hf := opt_t c hf
      refine v_iconst 1 hX dX7_isOf_34 (by decide) ?_
      refine v_goto 39 hX dX7_isOf_35 (by decide) ?_
      obtain rfl := Option.some.inj hf
      exact v_iret (r := 1) hX dX7_isOf_39 rfl
    · have hf := opt_f c hf
      refine v_iload_n 1 1 hX dX7_isOf_9 rfl rfl ?_
      refine v_iconst 1 hX dX7_isOf_10 (by decide) ?_
      refine v_icmp_ne 24 hX dX7_isOf_11 (by decide) (fun c => ?_) (fun c => ?_)
      · have hf := opt_f c hf
        exact (s_X7_isOf_24 hX σ  z  x0 x1 hf)
      · have hf := opt_t c hf
        refine v_iload_n 0 0 hX dX7_isOf_14 rfl rfl ?_
        refine v_iconst 2 hX dX7_isOf_15 (by decide) ?_
        refine v_icmp_eq 34 hX dX7_isOf_16 (by decide) (fun c => ?_) (fun c => ?_)
        · have hf := opt_t c hf
          refine v_iconst 1 hX dX7_isOf_34 (by decide) ?_
          refine v_goto 39 hX dX7_isOf_35 (by decide) ?_
          obtain rfl := Option.some.inj hf
          exact v_iret (r := 1) hX dX7_isOf_39 rfl
        · have hf := opt_f c hf
          refine v_iload_n 0 0 hX dX7_isOf_19 rfl rfl ?_
          refine v_iconst 3 hX dX7_isOf_20 (by decide) ?_
          refine v_icmp_eq 34 hX dX7_isOf_21 (by decide) (fun c => ?_) (fun c => ?_)
          · have hf := opt_t c hf
            refine v_iconst 1 hX dX7_isOf_34 (by decide) ?_
            refine v_goto 39 hX dX7_isOf_35 (by decide) ?_
            obtain rfl := Option.some.inj hf
            exact v_iret (r := 1) hX dX7_isOf_39 rfl
          · have hf := opt_f c hf
            exact (s_X7_isOf_24 hX σ  z  x0 x1 hf)
set_option maxHeartbeats 4000000 in
set_option maxRecDepth 100000 in
theorem c_X7_limit_n {l : Launch} {D : va_G} {cs : ClassId × ClassId × ClassId} {ad : Nat → Nat} (σ : Mem)  (x1 : Int32) {z : Int32} (hf : f_X7_limit_n σ x1 = some z) : CtI l (mW D cs ad) 0 yX7_limit cX7_limit 2 (some .int) [.ref (ad 5), .int x1] σ z σ := by
  refine ct_I RX7 [(0, .ref (ad 5)), (1, .int x1)] (by decide +kernel) rfl rfl (Nat.le_of_ble_eq_true rfl) ?_
  intro P M hl0 hX
  unfold f_X7_limit_n at hf
  refine v_aload_n 0 0 hX dX7_limit_0 rfl rfl ?_
  refine v_bipush 7 hX dX7_limit_1 (by decide) ?_
  refine v_iload_n 1 1 hX dX7_limit_3 rfl rfl ?_
  refine v_iadd hX dX7_limit_4 ?_
  obtain ⟨hi1, hf⟩ := gd_some hf
  refine v_ald (v := σ 5 ((7 + x1).toNatClampNeg)) 5 hX dX7_limit_5 (lt_b rfl) ((fun _ => rfl) _) hi1 rfl ?_
  by_cases cs2 : σ 5 ((7 + x1).toNatClampNeg) = 2
  · have hf := opt_t cs2 hf
    refine v_tableIn 30 36 hX dX7_limit_6 (by rw [cs2]; decide) (by rw [cs2]; decide) (by rw [cs2]; decide) (by decide) ?_
    refine v_aload_n 0 0 hX dX7_limit_36 rfl rfl ?_
    refine v_iconst 0 hX dX7_limit_37 (by decide) ?_
    refine v_aldc (v := σ 5 0) 5 0 hX dX7_limit_38 (lt_b rfl) ((fun _ => rfl) _) ib_0_85 tn_0 rfl ?_
    refine v_iconst 2 hX dX7_limit_39 (by decide) ?_
    refine v_idiv hX dX7_limit_40 (by decide) ?_
    obtain rfl := Option.some.inj hf
    exact v_iret (r := (σ 5 0) / 2) hX dX7_limit_41 rfl
  have hf := opt_f cs2 hf
  by_cases cs3 : σ 5 ((7 + x1).toNatClampNeg) = 3
  · have hf := opt_t cs3 hf
    refine v_tableIn 44 50 hX dX7_limit_6 (by rw [cs3]; decide) (by rw [cs3]; decide) (by rw [cs3]; decide) (by decide) ?_
    refine v_aload_n 0 0 hX dX7_limit_50 rfl rfl ?_
    refine v_iconst 0 hX dX7_limit_51 (by decide) ?_
    refine v_aldc (v := σ 5 0) 5 0 hX dX7_limit_52 (lt_b rfl) ((fun _ => rfl) _) ib_0_85 tn_0 rfl ?_
    obtain rfl := Option.some.inj hf
    exact v_iret (r := σ 5 0) hX dX7_limit_53 rfl
  have hf := opt_f cs3 hf
  by_cases cs4 : σ 5 ((7 + x1).toNatClampNeg) = 4
  · have hf := opt_t cs4 hf
    refine v_tableIn 36 42 hX dX7_limit_6 (by rw [cs4]; decide) (by rw [cs4]; decide) (by rw [cs4]; decide) (by decide) ?_
    refine v_iconst 2 hX dX7_limit_42 (by decide) ?_
    refine v_aload_n 0 0 hX dX7_limit_43 rfl rfl ?_
    refine v_iconst 0 hX dX7_limit_44 (by decide) ?_
    refine v_aldc (v := σ 5 0) 5 0 hX dX7_limit_45 (lt_b rfl) ((fun _ => rfl) _) ib_0_85 tn_0 rfl ?_
    refine v_imul hX dX7_limit_46 ?_
    obtain rfl := Option.some.inj hf
    exact v_iret (r := 2 * (σ 5 0)) hX dX7_limit_47 rfl
  have hf := opt_f cs4 hf
  by_cases cs5 : σ 5 ((7 + x1).toNatClampNeg) = 5
  · have hf := opt_t cs5 hf
    refine v_tableIn 42 48 hX dX7_limit_6 (by rw [cs5]; decide) (by rw [cs5]; decide) (by rw [cs5]; decide) (by decide) ?_
    refine v_iconst (-1) hX dX7_limit_48 (by decide) ?_
    obtain rfl := Option.some.inj hf
    exact v_iret (r := (-1)) hX dX7_limit_49 rfl
  have hf := opt_f cs5 hf
  refine v_tableOut 50 hX dX7_limit_6 (by have h0 := lv_neT cs2 (a := 2) (by decide); have h1 := lv_neT cs3 (a := 3) (by decide); have h2 := lv_neT cs4 (a := 4) (by decide); have h3 := lv_neT cs5 (a := 5) (by decide); omega) (by decide) ?_
  refine v_aload_n 0 0 hX dX7_limit_50 rfl rfl ?_
  refine v_iconst 0 hX dX7_limit_51 (by decide) ?_
  refine v_aldc (v := σ 5 0) 5 0 hX dX7_limit_52 (lt_b rfl) ((fun _ => rfl) _) ib_0_85 tn_0 rfl ?_
  obtain rfl := Option.some.inj hf
  exact v_iret (r := σ 5 0) hX dX7_limit_53 rfl
set_option maxHeartbeats 4000000 in
set_option maxRecDepth 100000 in
theorem s_X7_dayGoes_n_52 {P : PT} {M : MT} {D : va_G} {cs : ClassId × ClassId × ClassId} {ad : Nat → Nat} (hX : VOk P M (mW D cs ad) 3 cX7_dayGoes RX7 none 0) (fuel : Nat) (k9 : Mem → Int32 → Option (Mem))  (z : Mem) (hk9 : ∀ (σ : Mem) (x1 : Int32), k9 σ x1 = some z → V P M (mW D cs ad) 3 (QV P M (mW D cs ad) z) 9 [(0, .ref (ad 5)), (1, .int x1)] [] σ) (σ : Mem) (x1 : Int32) (y0 : Int32) (hf : f_X7_dayGoes_n_52 fuel k9 σ x1 y0 = some z) : V P M (mW D cs ad) 3 (QV P M (mW D cs ad) z) 52 [(0, .ref (ad 5)), (1, .int x1)] [.int y0] σ := by
  unfold f_X7_dayGoes_n_52 at hf
  refine v_istore_n 2 [(2, .int y0), (0, .ref (ad 5)), (1, .int x1)] hX dX7_dayGoes_52 rfl (lt_b rfl) rfl ?_
  refine v_aload_n 1 0 hX dX7_dayGoes_53 rfl rfl ?_
  refine v_bipush 55 hX dX7_dayGoes_54 (by decide) ?_
  refine v_iload_n 2 1 hX dX7_dayGoes_56 rfl rfl ?_
  refine v_iadd hX dX7_dayGoes_57 ?_
  refine v_iload_n 0 2 hX dX7_dayGoes_58 rfl rfl ?_
  refine v_if_eq 66 hX dX7_dayGoes_59 (by decide) (fun c => ?_) (fun c => ?_)
  · have hf := opt_t c hf
    refine v_aload_n 1 0 hX dX7_dayGoes_66 rfl rfl ?_
    refine v_bipush 55 hX dX7_dayGoes_67 (by decide) ?_
    refine v_iload_n 2 1 hX dX7_dayGoes_69 rfl rfl ?_
    refine v_iadd hX dX7_dayGoes_70 ?_
    obtain ⟨hi4, hf⟩ := gd_some hf
    refine v_ald (v := σ 5 ((55 + x1).toNatClampNeg)) 5 hX dX7_dayGoes_71 (lt_b rfl) ((fun _ => rfl) _) hi4 rfl ?_
    obtain ⟨hi5, hf⟩ := gd_some hf
    refine v_ast 5 hX dX7_dayGoes_72 (lt_b rfl) (fun _ => rfl) hi5 ?_
    refine v_iinc 2 (x1 + 1) [(1, .int (x1 + 1)), (2, .int y0), (0, .ref (ad 5))] hX dX7_dayGoes_73 rfl rfl (lt_b rfl) rfl ?_
    refine v_goto 9 hX dX7_dayGoes_76 (by decide) ?_
    exact v_sub [2, 0] rfl (hk9 (mst σ 5 ((55 + x1).toNatClampNeg) (σ 5 ((55 + x1).toNatClampNeg))) (x1 + 1) hf)
  · have hf := opt_f c hf
    refine v_iconst 1 hX dX7_dayGoes_62 (by decide) ?_
    refine v_goto 72 hX dX7_dayGoes_63 (by decide) ?_
    obtain ⟨hi6, hf⟩ := gd_some hf
    refine v_ast 5 hX dX7_dayGoes_72 (lt_b rfl) (fun _ => rfl) hi6 ?_
    refine v_iinc 2 (x1 + 1) [(1, .int (x1 + 1)), (2, .int y0), (0, .ref (ad 5))] hX dX7_dayGoes_73 rfl rfl (lt_b rfl) rfl ?_
    refine v_goto 9 hX dX7_dayGoes_76 (by decide) ?_
    exact v_sub [2, 0] rfl (hk9 (mst σ 5 ((55 + x1).toNatClampNeg) 1) (x1 + 1) hf)
set_option maxHeartbeats 4000000 in
set_option maxRecDepth 100000 in
theorem s_X7_dayGoes_n_9 {P : PT} {M : MT} {D : va_G} {cs : ClassId × ClassId × ClassId} {ad : Nat → Nat} (hX : VOk P M (mW D cs ad) 3 cX7_dayGoes RX7 none 0) (fuel : Nat)   (z : Mem)  : ∀ (n : Nat) (σ : Mem) (x1 : Int32), f_X7_dayGoes_n_9 fuel n σ x1 = some z → V P M (mW D cs ad) 3 (QV P M (mW D cs ad) z) 9 [(0, .ref (ad 5)), (1, .int x1)] [] σ := by
  intro n
  induction n with
  | zero =>
    intro σ x1 hf
    cases hf
  | succ n hk9 =>
    intro σ x1 hf
    rw [f_X7_dayGoes_n_9] at hf
    refine v_iload_n 1 1 hX dX7_dayGoes_9 rfl rfl ?_
    refine v_aload_n 0 0 hX dX7_dayGoes_10 rfl rfl ?_
    refine v_iconst 3 hX dX7_dayGoes_11 (by decide) ?_
    refine v_aldc (v := σ 5 3) 5 3 hX dX7_dayGoes_12 (lt_b rfl) ((fun _ => rfl) _) ib_3_85 tn_3 rfl ?_
    refine v_icmp_ge 79 hX dX7_dayGoes_13 (by decide) (fun c => ?_) (fun c => ?_)
    · have hf := opt_t c hf
      obtain rfl := Option.some.inj hf
      exact v_vret hX dX7_dayGoes_79
    · have hf := opt_f c hf
      refine v_aload_n 0 0 hX dX7_dayGoes_16 rfl rfl ?_
      refine v_bipush 7 hX dX7_dayGoes_17 (by decide) ?_
      refine v_aload_n 0 0 hX dX7_dayGoes_19 rfl rfl ?_
      refine v_bipush 25 hX dX7_dayGoes_20 (by decide) ?_
      refine v_iload_n 1 1 hX dX7_dayGoes_22 rfl rfl ?_
      refine v_iadd hX dX7_dayGoes_23 ?_
      obtain ⟨hi1, hf⟩ := gd_some hf
      refine v_ald (v := σ 5 ((25 + x1).toNatClampNeg)) 5 hX dX7_dayGoes_24 (lt_b rfl) ((fun _ => rfl) _) hi1 rfl ?_
      refine v_iadd hX dX7_dayGoes_25 ?_
      obtain ⟨hi2, hf⟩ := gd_some hf
      refine v_ald (v := σ 5 ((7 + (σ 5 ((25 + x1).toNatClampNeg))).toNatClampNeg)) 5 hX dX7_dayGoes_26 (lt_b rfl) ((fun _ => rfl) _) hi2 rfl ?_
      refine v_iconst 3 hX dX7_dayGoes_27 (by decide) ?_
      refine v_icmp_ne 51 hX dX7_dayGoes_28 (by decide) (fun c => ?_) (fun c => ?_)
      · have hf := opt_f c hf
        refine v_iconst 0 hX dX7_dayGoes_51 (by decide) ?_
        exact (s_X7_dayGoes_n_52 hX fuel (f_X7_dayGoes_n_9 fuel n) z hk9 σ x1 0 hf)
      · have hf := opt_t c hf
        refine v_aload_n 0 0 hX dX7_dayGoes_31 rfl rfl ?_
        refine v_iconst 5 hX dX7_dayGoes_32 (by decide) ?_
        refine v_aldc (v := σ 5 5) 5 5 hX dX7_dayGoes_33 (lt_b rfl) ((fun _ => rfl) _) ib_5_85 tn_5 rfl ?_
        refine v_aload_n 0 0 hX dX7_dayGoes_34 rfl rfl ?_
        refine v_bipush 45 hX dX7_dayGoes_35 (by decide) ?_
        refine v_iload_n 1 1 hX dX7_dayGoes_37 rfl rfl ?_
        refine v_iadd hX dX7_dayGoes_38 ?_
        obtain ⟨hi3, hf⟩ := gd_some hf
        refine v_ald (v := σ 5 ((45 + x1).toNatClampNeg)) 5 hX dX7_dayGoes_39 (lt_b rfl) ((fun _ => rfl) _) hi3 rfl ?_
        refine v_isub hX dX7_dayGoes_40 ?_
        refine v_aload_n 0 0 hX dX7_dayGoes_41 rfl rfl ?_
        refine v_iconst 1 hX dX7_dayGoes_42 (by decide) ?_
        refine v_aldc (v := σ 5 1) 5 1 hX dX7_dayGoes_43 (lt_b rfl) ((fun _ => rfl) _) ib_1_85 tn_1 rfl ?_
        refine v_icmp_lt 51 hX dX7_dayGoes_44 (by decide) (fun c => ?_) (fun c => ?_)
        · have hf := opt_t c hf
          refine v_iconst 0 hX dX7_dayGoes_51 (by decide) ?_
          exact (s_X7_dayGoes_n_52 hX fuel (f_X7_dayGoes_n_9 fuel n) z hk9 σ x1 0 hf)
        · have hf := opt_f c hf
          refine v_iconst 1 hX dX7_dayGoes_47 (by decide) ?_
          refine v_goto 52 hX dX7_dayGoes_48 (by decide) ?_
          exact (s_X7_dayGoes_n_52 hX fuel (f_X7_dayGoes_n_9 fuel n) z hk9 σ x1 1 hf)
set_option maxHeartbeats 4000000 in
set_option maxRecDepth 100000 in
theorem c_X7_dayGoes_n {l : Launch} {D : va_G} {cs : ClassId × ClassId × ClassId} {ad : Nat → Nat} (σ : Mem) (fuel : Nat)   {z : Mem} (hf : f_X7_dayGoes_n fuel σ = some z) : CtV l (mW D cs ad) 0 yX7_dayGoes cX7_dayGoes 3 [.ref (ad 5)] σ z := by
  refine ct_V RX7 [(0, .ref (ad 5))] (by decide +kernel) rfl rfl (Nat.le_of_ble_eq_true rfl) ?_
  intro P M hl0 hX
  unfold f_X7_dayGoes_n at hf
  refine v_aload_n 0 0 hX dX7_dayGoes_0 rfl rfl ?_
  refine v_iconst 5 hX dX7_dayGoes_1 (by decide) ?_
  refine v_dup2 hX dX7_dayGoes_2 rfl rfl ?_
  refine v_aldc (v := σ 5 5) 5 5 hX dX7_dayGoes_3 (lt_b rfl) ((fun _ => rfl) _) ib_5_85 tn_5 rfl ?_
  refine v_iconst 1 hX dX7_dayGoes_4 (by decide) ?_
  refine v_iadd hX dX7_dayGoes_5 ?_
  refine v_astc 5 5 hX dX7_dayGoes_6 (lt_b rfl) (fun _ => rfl) ib_5_85 tn_5 ?_
  refine v_iconst 0 hX dX7_dayGoes_7 (by decide) ?_
  refine v_istore_n 1 [(1, .int 0), (0, .ref (ad 5))] hX dX7_dayGoes_8 rfl (lt_b rfl) rfl ?_
  exact v_sub [1, 0] rfl (s_X7_dayGoes_n_9 hX fuel z  fuel (mst σ 5 5 ((σ 5 5) + 1)) 0 hf)
set_option maxHeartbeats 4000000 in
set_option maxRecDepth 100000 in
theorem s_X7_black_n_4 {P : PT} {M : MT} {D : va_G} {cs : ClassId × ClassId × ClassId} {ad : Nat → Nat} (hX : VOk P M (mW D cs ad) 3 cX7_black RX7 (some .int) 0) (fuel : Nat) (σ : Mem)   (z : Int32)  : ∀ (n : Nat) (x1 : Int32) (x2 : Int32), f_X7_black_n_4 fuel σ n x1 x2 = some z → V P M (mW D cs ad) 3 (QI P M (mW D cs ad) z σ) 4 [(0, .ref (ad 5)), (1, .int x1), (2, .int x2)] [] σ := by
  intro n
  induction n with
  | zero =>
    intro x1 x2 hf
    cases hf
  | succ n hk4 =>
    intro x1 x2 hf
    rw [f_X7_black_n_4] at hf
    refine v_iload_n 2 2 hX dX7_black_4 rfl rfl ?_
    refine v_aload_n 0 0 hX dX7_black_5 rfl rfl ?_
    refine v_iconst 3 hX dX7_black_6 (by decide) ?_
    refine v_aldc (v := σ 5 3) 5 3 hX dX7_black_7 (lt_b rfl) ((fun _ => rfl) _) ib_3_85 tn_3 rfl ?_
    refine v_icmp_ge 41 hX dX7_black_8 (by decide) (fun c => ?_) (fun c => ?_)
    · have hf := opt_t c hf
      refine v_iload_n 1 1 hX dX7_black_41 rfl rfl ?_
      obtain rfl := Option.some.inj hf
      exact v_iret (r := x1) hX dX7_black_42 rfl
    · have hf := opt_f c hf
      refine v_iload_n 1 1 hX dX7_black_11 rfl rfl ?_
      refine v_aload_n 0 0 hX dX7_black_12 rfl rfl ?_
      refine v_bipush 55 hX dX7_black_13 (by decide) ?_
      refine v_iload_n 2 2 hX dX7_black_15 rfl rfl ?_
      refine v_iadd hX dX7_black_16 ?_
      obtain ⟨hi1, hf⟩ := gd_some hf
      refine v_ald (v := σ 5 ((55 + x2).toNatClampNeg)) 5 hX dX7_black_17 (lt_b rfl) ((fun _ => rfl) _) hi1 rfl ?_
      refine v_if_ne 32 hX dX7_black_18 (by decide) (fun c => ?_) (fun c => ?_)
      · have hf := opt_f c hf
        refine v_iconst 0 hX dX7_black_32 (by decide) ?_
        refine v_ior hX dX7_black_33 ?_
        refine v_istore_n 1 [(1, .int (x1 ||| 0)), (0, .ref (ad 5)), (2, .int x2)] hX dX7_black_34 rfl (lt_b rfl) rfl ?_
        refine v_iinc 2 (x2 + 1) [(2, .int (x2 + 1)), (1, .int (x1 ||| 0)), (0, .ref (ad 5))] hX dX7_black_35 rfl rfl (lt_b rfl) rfl ?_
        refine v_goto 4 hX dX7_black_38 (by decide) ?_
        exact v_sub [2, 1, 0] rfl (hk4 (x1 ||| 0) (x2 + 1) hf)
      · have hf := opt_t c hf
        refine v_iconst 1 hX dX7_black_21 (by decide) ?_
        refine v_aload_n 0 0 hX dX7_black_22 rfl rfl ?_
        refine v_bipush 15 hX dX7_black_23 (by decide) ?_
        refine v_iload_n 2 2 hX dX7_black_25 rfl rfl ?_
        refine v_iadd hX dX7_black_26 ?_
        obtain ⟨hi2, hf⟩ := gd_some hf
        refine v_ald (v := σ 5 ((15 + x2).toNatClampNeg)) 5 hX dX7_black_27 (lt_b rfl) ((fun _ => rfl) _) hi2 rfl ?_
        refine v_ishl hX dX7_black_28 ?_
        refine v_goto 33 hX dX7_black_29 (by decide) ?_
        refine v_ior hX dX7_black_33 ?_
        refine v_istore_n 1 [(1, .int (x1 ||| (1 <<< ((σ 5 ((15 + x2).toNatClampNeg)) &&& 31)))), (0, .ref (ad 5)), (2, .int x2)] hX dX7_black_34 rfl (lt_b rfl) rfl ?_
        refine v_iinc 2 (x2 + 1) [(2, .int (x2 + 1)), (1, .int (x1 ||| (1 <<< ((σ 5 ((15 + x2).toNatClampNeg)) &&& 31)))), (0, .ref (ad 5))] hX dX7_black_35 rfl rfl (lt_b rfl) rfl ?_
        refine v_goto 4 hX dX7_black_38 (by decide) ?_
        exact v_sub [2, 1, 0] rfl (hk4 (x1 ||| (1 <<< ((σ 5 ((15 + x2).toNatClampNeg)) &&& 31))) (x2 + 1) hf)
set_option maxHeartbeats 4000000 in
set_option maxRecDepth 100000 in
theorem c_X7_black_n {l : Launch} {D : va_G} {cs : ClassId × ClassId × ClassId} {ad : Nat → Nat} (fuel : Nat) (σ : Mem)   {z : Int32} (hf : f_X7_black_n fuel σ = some z) : CtI l (mW D cs ad) 0 yX7_black cX7_black 3 (some .int) [.ref (ad 5)] σ z σ := by
  refine ct_I RX7 [(0, .ref (ad 5))] (by decide +kernel) rfl rfl (Nat.le_of_ble_eq_true rfl) ?_
  intro P M hl0 hX
  unfold f_X7_black_n at hf
  refine v_iconst 0 hX dX7_black_0 (by decide) ?_
  refine v_istore_n 1 [(1, .int 0), (0, .ref (ad 5))] hX dX7_black_1 rfl (lt_b rfl) rfl ?_
  refine v_iconst 0 hX dX7_black_2 (by decide) ?_
  refine v_istore_n 2 [(2, .int 0), (1, .int 0), (0, .ref (ad 5))] hX dX7_black_3 rfl (lt_b rfl) rfl ?_
  exact v_sub [2, 1, 0] rfl (s_X7_black_n_4 hX fuel σ z  fuel 0 0 hf)
set_option maxHeartbeats 4000000 in
set_option maxRecDepth 100000 in
theorem s_X7_standBy_n_92 {P : PT} {M : MT} {D : va_G} {cs : ClassId × ClassId × ClassId} {ad : Nat → Nat} (hX : VOk P M (mW D cs ad) 7 cX7_standBy RX7 (some .int) 0) (fuel : Nat) (σ : Mem) (k4 : Int32 → Int32 → Int32 → Option (Int32))  (z : Int32) (hk4 : ∀ (x1 : Int32) (x2 : Int32) (x3 : Int32), k4 x1 x2 x3 = some z → V P M (mW D cs ad) 7 (QI P M (mW D cs ad) z σ) 4 [(0, .ref (ad 5)), (1, .int x1), (2, .int x2), (3, .int x3)] [] σ) (x1 : Int32) (x2 : Int32) (x3 : Int32) (x5 : Int32) (y0 : Int32) (hf : f_X7_standBy_n_92 fuel σ k4 x1 x2 x3 x5 y0 = some z) : V P M (mW D cs ad) 7 (QI P M (mW D cs ad) z σ) 92 [(0, .ref (ad 5)), (1, .int x1), (2, .int x2), (3, .int x3), (5, .int x5)] [.int y0] σ := by
  unfold f_X7_standBy_n_92 at hf
  refine v_istore [(6, .int y0), (0, .ref (ad 5)), (1, .int x1), (2, .int x2), (3, .int x3), (5, .int x5)] hX dX7_standBy_92 (lt_b rfl) rfl ?_
  refine v_iload_n 3 2 hX dX7_standBy_94 rfl rfl ?_
  refine v_iload 5 hX dX7_standBy_95 rfl ?_
  refine v_if_eq 111 hX dX7_standBy_97 (by decide) (fun c => ?_) (fun c => ?_)
  · have hf := opt_t c hf
    refine v_iconst 0 hX dX7_standBy_111 (by decide) ?_
    refine v_ior hX dX7_standBy_112 ?_
    refine v_istore_n 2 [(2, .int (x2 ||| 0)), (6, .int y0), (0, .ref (ad 5)), (1, .int x1), (3, .int x3), (5, .int x5)] hX dX7_standBy_113 rfl (lt_b rfl) rfl ?_
    refine v_iinc 4 (x3 + 1) [(3, .int (x3 + 1)), (2, .int (x2 ||| 0)), (6, .int y0), (0, .ref (ad 5)), (1, .int x1), (5, .int x5)] hX dX7_standBy_114 rfl rfl (lt_b rfl) rfl ?_
    refine v_goto 4 hX dX7_standBy_117 (by decide) ?_
    exact v_sub [3, 4, 1, 0] rfl (hk4 x1 (x2 ||| 0) (x3 + 1) hf)
  · have hf := opt_f c hf
    refine v_iload 0 hX dX7_standBy_100 rfl ?_
    refine v_if_eq 111 hX dX7_standBy_102 (by decide) (fun c => ?_) (fun c => ?_)
    · have hf := opt_t c hf
      refine v_iconst 0 hX dX7_standBy_111 (by decide) ?_
      refine v_ior hX dX7_standBy_112 ?_
      refine v_istore_n 2 [(2, .int (x2 ||| 0)), (6, .int y0), (0, .ref (ad 5)), (1, .int x1), (3, .int x3), (5, .int x5)] hX dX7_standBy_113 rfl (lt_b rfl) rfl ?_
      refine v_iinc 4 (x3 + 1) [(3, .int (x3 + 1)), (2, .int (x2 ||| 0)), (6, .int y0), (0, .ref (ad 5)), (1, .int x1), (5, .int x5)] hX dX7_standBy_114 rfl rfl (lt_b rfl) rfl ?_
      refine v_goto 4 hX dX7_standBy_117 (by decide) ?_
      exact v_sub [3, 4, 1, 0] rfl (hk4 x1 (x2 ||| 0) (x3 + 1) hf)
    · have hf := opt_f c hf
      refine v_iconst 1 hX dX7_standBy_105 (by decide) ?_
      refine v_iload_n 4 3 hX dX7_standBy_106 rfl rfl ?_
      refine v_ishl hX dX7_standBy_107 ?_
      refine v_goto 112 hX dX7_standBy_108 (by decide) ?_
      refine v_ior hX dX7_standBy_112 ?_
      refine v_istore_n 2 [(2, .int (x2 ||| (1 <<< (x3 &&& 31)))), (6, .int y0), (0, .ref (ad 5)), (1, .int x1), (3, .int x3), (5, .int x5)] hX dX7_standBy_113 rfl (lt_b rfl) rfl ?_
      refine v_iinc 4 (x3 + 1) [(3, .int (x3 + 1)), (2, .int (x2 ||| (1 <<< (x3 &&& 31)))), (6, .int y0), (0, .ref (ad 5)), (1, .int x1), (5, .int x5)] hX dX7_standBy_114 rfl rfl (lt_b rfl) rfl ?_
      refine v_goto 4 hX dX7_standBy_117 (by decide) ?_
      exact v_sub [3, 4, 1, 0] rfl (hk4 x1 (x2 ||| (1 <<< (x3 &&& 31))) (x3 + 1) hf)
set_option maxHeartbeats 4000000 in
set_option maxRecDepth 100000 in
theorem s_X7_standBy_n_51 {P : PT} {M : MT} {D : va_G} {cs : ClassId × ClassId × ClassId} {ad : Nat → Nat} (hX : VOk P M (mW D cs ad) 7 cX7_standBy RX7 (some .int) 0) (fuel : Nat) (σ : Mem) (k4 : Int32 → Int32 → Int32 → Option (Int32))  (z : Int32) (hk4 : ∀ (x1 : Int32) (x2 : Int32) (x3 : Int32), k4 x1 x2 x3 = some z → V P M (mW D cs ad) 7 (QI P M (mW D cs ad) z σ) 4 [(0, .ref (ad 5)), (1, .int x1), (2, .int x2), (3, .int x3)] [] σ) (x1 : Int32) (x2 : Int32) (x3 : Int32) (x4 : Int32) (y0 : Int32) (hf : f_X7_standBy_n_51 fuel σ k4 x1 x2 x3 x4 y0 = some z) : V P M (mW D cs ad) 7 (QI P M (mW D cs ad) z σ) 51 [(0, .ref (ad 5)), (1, .int x1), (2, .int x2), (3, .int x3), (4, .int x4)] [.int y0] σ := by
  unfold f_X7_standBy_n_51 at hf
  refine v_istore [(5, .int y0), (0, .ref (ad 5)), (1, .int x1), (2, .int x2), (3, .int x3), (4, .int x4)] hX dX7_standBy_51 (lt_b rfl) rfl ?_
  refine v_aload_n 1 0 hX dX7_standBy_53 rfl rfl ?_
  refine v_bipush 70 hX dX7_standBy_54 (by decide) ?_
  refine v_iload_n 4 3 hX dX7_standBy_56 rfl rfl ?_
  refine v_iadd hX dX7_standBy_57 ?_
  obtain ⟨hi4, hf⟩ := gd_some hf
  refine v_ald (v := σ 5 ((70 + x3).toNatClampNeg)) 5 hX dX7_standBy_58 (lt_b rfl) ((fun _ => rfl) _) hi4 rfl ?_
  refine v_iconst 1 hX dX7_standBy_59 (by decide) ?_
  refine v_icmp_ne 82 hX dX7_standBy_60 (by decide) (fun c => ?_) (fun c => ?_)
  · have hf := opt_f c hf
    refine v_iload 5 hX dX7_standBy_82 rfl ?_
    refine v_if_eq 91 hX dX7_standBy_84 (by decide) (fun c => ?_) (fun c => ?_)
    · have hf := opt_t c hf
      refine v_iconst 0 hX dX7_standBy_91 (by decide) ?_
      exact v_sub [1, 2, 3, 4, 0] rfl (s_X7_standBy_n_92 hX fuel σ k4 z hk4 x1 x2 x3 y0 0 hf)
    · have hf := opt_f c hf
      refine v_iconst 1 hX dX7_standBy_87 (by decide) ?_
      refine v_goto 92 hX dX7_standBy_88 (by decide) ?_
      exact v_sub [1, 2, 3, 4, 0] rfl (s_X7_standBy_n_92 hX fuel σ k4 z hk4 x1 x2 x3 y0 1 hf)
  · have hf := opt_t c hf
    refine v_iload 5 hX dX7_standBy_63 rfl ?_
    refine v_aload_n 1 0 hX dX7_standBy_65 rfl rfl ?_
    refine v_bipush 65 hX dX7_standBy_66 (by decide) ?_
    refine v_iload_n 4 3 hX dX7_standBy_68 rfl rfl ?_
    refine v_iadd hX dX7_standBy_69 ?_
    obtain ⟨hi5, hf⟩ := gd_some hf
    refine v_ald (v := σ 5 ((65 + x3).toNatClampNeg)) 5 hX dX7_standBy_70 (lt_b rfl) ((fun _ => rfl) _) hi5 rfl ?_
    refine v_icmp_ne 78 hX dX7_standBy_71 (by decide) (fun c => ?_) (fun c => ?_)
    · have hf := opt_f c hf
      refine v_iconst 0 hX dX7_standBy_78 (by decide) ?_
      refine v_goto 92 hX dX7_standBy_79 (by decide) ?_
      exact v_sub [1, 2, 3, 4, 0] rfl (s_X7_standBy_n_92 hX fuel σ k4 z hk4 x1 x2 x3 y0 0 hf)
    · have hf := opt_t c hf
      refine v_iconst 1 hX dX7_standBy_74 (by decide) ?_
      refine v_goto 92 hX dX7_standBy_75 (by decide) ?_
      exact v_sub [1, 2, 3, 4, 0] rfl (s_X7_standBy_n_92 hX fuel σ k4 z hk4 x1 x2 x3 y0 1 hf)
set_option maxHeartbeats 4000000 in
set_option maxRecDepth 100000 in
theorem s_X7_standBy_n_4 {P : PT} {M : MT} {D : va_G} {cs : ClassId × ClassId × ClassId} {ad : Nat → Nat} (hX : VOk P M (mW D cs ad) 7 cX7_standBy RX7 (some .int) 0) (fuel : Nat) (σ : Mem)   (z : Int32)  : ∀ (n : Nat) (x1 : Int32) (x2 : Int32) (x3 : Int32), f_X7_standBy_n_4 fuel σ n x1 x2 x3 = some z → V P M (mW D cs ad) 7 (QI P M (mW D cs ad) z σ) 4 [(0, .ref (ad 5)), (1, .int x1), (2, .int x2), (3, .int x3)] [] σ := by
  intro n
  induction n with
  | zero =>
    intro x1 x2 x3 hf
    cases hf
  | succ n hk4 =>
    intro x1 x2 x3 hf
    rw [f_X7_standBy_n_4] at hf
    refine v_iload_n 3 3 hX dX7_standBy_4 rfl rfl ?_
    refine v_aload_n 0 0 hX dX7_standBy_5 rfl rfl ?_
    refine v_iconst 4 hX dX7_standBy_6 (by decide) ?_
    refine v_aldc (v := σ 5 4) 5 4 hX dX7_standBy_7 (lt_b rfl) ((fun _ => rfl) _) ib_4_85 tn_4 rfl ?_
    refine v_icmp_ge 120 hX dX7_standBy_8 (by decide) (fun c => ?_) (fun c => ?_)
    · have hf := opt_t c hf
      refine v_iload_n 2 2 hX dX7_standBy_120 rfl rfl ?_
      obtain rfl := Option.some.inj hf
      exact v_iret (r := x2) hX dX7_standBy_121 rfl
    · have hf := opt_f c hf
      refine v_aload_n 0 0 hX dX7_standBy_11 rfl rfl ?_
      refine v_bipush 65 hX dX7_standBy_12 (by decide) ?_
      refine v_iload_n 3 3 hX dX7_standBy_14 rfl rfl ?_
      refine v_iadd hX dX7_standBy_15 ?_
      obtain ⟨hi1, hf⟩ := gd_some hf
      refine v_ald (v := σ 5 ((65 + x3).toNatClampNeg)) 5 hX dX7_standBy_16 (lt_b rfl) ((fun _ => rfl) _) hi1 rfl ?_
      refine v_iload_n 1 1 hX dX7_standBy_17 rfl rfl ?_
      refine v_iand hX dX7_standBy_18 ?_
      refine v_istore [(4, .int ((σ 5 ((65 + x3).toNatClampNeg)) &&& x1)), (0, .ref (ad 5)), (1, .int x1), (2, .int x2), (3, .int x3)] hX dX7_standBy_19 (lt_b rfl) rfl ?_
      refine v_aload_n 1 0 hX dX7_standBy_21 rfl rfl ?_
      refine v_bipush 75 hX dX7_standBy_22 (by decide) ?_
      refine v_iload_n 4 3 hX dX7_standBy_24 rfl rfl ?_
      refine v_iadd hX dX7_standBy_25 ?_
      obtain ⟨hi2, hf⟩ := gd_some hf
      refine v_ald (v := σ 5 ((75 + x3).toNatClampNeg)) 5 hX dX7_standBy_26 (lt_b rfl) ((fun _ => rfl) _) hi2 rfl ?_
      refine v_if_eq 46 hX dX7_standBy_27 (by decide) (fun c => ?_) (fun c => ?_)
      · have hf := opt_t c hf
        refine v_iconst 1 hX dX7_standBy_46 (by decide) ?_
        refine v_goto 51 hX dX7_standBy_47 (by decide) ?_
        exact v_sub [1, 2, 3, 4, 0] rfl (s_X7_standBy_n_51 hX fuel σ (f_X7_standBy_n_4 fuel σ n) z hk4 x1 x2 x3 ((σ 5 ((65 + x3).toNatClampNeg)) &&& x1) 1 hf)
      · have hf := opt_f c hf
        refine v_iload_n 3 2 hX dX7_standBy_30 rfl rfl ?_
        refine v_aload_n 1 0 hX dX7_standBy_31 rfl rfl ?_
        refine v_bipush 75 hX dX7_standBy_32 (by decide) ?_
        refine v_iload_n 4 3 hX dX7_standBy_34 rfl rfl ?_
        refine v_iadd hX dX7_standBy_35 ?_
        obtain ⟨hi3, hf⟩ := gd_some hf
        refine v_ald (v := σ 5 ((75 + x3).toNatClampNeg)) 5 hX dX7_standBy_36 (lt_b rfl) ((fun _ => rfl) _) hi3 rfl ?_
        refine v_iconst 1 hX dX7_standBy_37 (by decide) ?_
        refine v_isub hX dX7_standBy_38 ?_
        refine v_ishr hX dX7_standBy_39 ?_
        refine v_iconst 1 hX dX7_standBy_40 (by decide) ?_
        refine v_iand hX dX7_standBy_41 ?_
        refine v_iconst 1 hX dX7_standBy_42 (by decide) ?_
        refine v_icmp_ne 50 hX dX7_standBy_43 (by decide) (fun c => ?_) (fun c => ?_)
        · have hf := opt_f c hf
          refine v_iconst 0 hX dX7_standBy_50 (by decide) ?_
          exact v_sub [1, 2, 3, 4, 0] rfl (s_X7_standBy_n_51 hX fuel σ (f_X7_standBy_n_4 fuel σ n) z hk4 x1 x2 x3 ((σ 5 ((65 + x3).toNatClampNeg)) &&& x1) 0 hf)
        · have hf := opt_t c hf
          refine v_iconst 1 hX dX7_standBy_46 (by decide) ?_
          refine v_goto 51 hX dX7_standBy_47 (by decide) ?_
          exact v_sub [1, 2, 3, 4, 0] rfl (s_X7_standBy_n_51 hX fuel σ (f_X7_standBy_n_4 fuel σ n) z hk4 x1 x2 x3 ((σ 5 ((65 + x3).toNatClampNeg)) &&& x1) 1 hf)
set_option maxHeartbeats 4000000 in
set_option maxRecDepth 100000 in
theorem c_X7_standBy_n {l : Launch} {D : va_G} {cs : ClassId × ClassId × ClassId} {ad : Nat → Nat} (fuel : Nat) (σ : Mem)  (x1 : Int32) {z : Int32} (hf : f_X7_standBy_n fuel σ x1 = some z) : CtI l (mW D cs ad) 0 yX7_standBy cX7_standBy 7 (some .int) [.ref (ad 5), .int x1] σ z σ := by
  refine ct_I RX7 [(0, .ref (ad 5)), (1, .int x1)] (by decide +kernel) rfl rfl (Nat.le_of_ble_eq_true rfl) ?_
  intro P M hl0 hX
  unfold f_X7_standBy_n at hf
  refine v_iconst 0 hX dX7_standBy_0 (by decide) ?_
  refine v_istore_n 2 [(2, .int 0), (0, .ref (ad 5)), (1, .int x1)] hX dX7_standBy_1 rfl (lt_b rfl) rfl ?_
  refine v_iconst 0 hX dX7_standBy_2 (by decide) ?_
  refine v_istore_n 3 [(3, .int 0), (2, .int 0), (0, .ref (ad 5)), (1, .int x1)] hX dX7_standBy_3 rfl (lt_b rfl) rfl ?_
  exact v_sub [2, 3, 1, 0] rfl (s_X7_standBy_n_4 hX fuel σ z  fuel x1 0 0 hf)
set_option maxHeartbeats 4000000 in
set_option maxRecDepth 100000 in
theorem c_X7_limit_a {l : Launch} {D : va_G} {cs : ClassId × ClassId × ClassId} {ad : Nat → Nat} (σ : Mem)  (x1 : Int32) {z : Int32} (hf : f_X7_limit_a σ x1 = some z) : CtI l (mW D cs ad) 0 yX7_limit cX7_limit 2 (some .int) [.ref (ad 11), .int x1] σ z σ := by
  refine ct_I RX7 [(0, .ref (ad 11)), (1, .int x1)] (by decide +kernel) rfl rfl (Nat.le_of_ble_eq_true rfl) ?_
  intro P M hl0 hX
  unfold f_X7_limit_a at hf
  refine v_aload_n 0 0 hX dX7_limit_0 rfl rfl ?_
  refine v_bipush 7 hX dX7_limit_1 (by decide) ?_
  refine v_iload_n 1 1 hX dX7_limit_3 rfl rfl ?_
  refine v_iadd hX dX7_limit_4 ?_
  obtain ⟨hi1, hf⟩ := gd_some hf
  refine v_ald (v := σ 11 ((7 + x1).toNatClampNeg)) 11 hX dX7_limit_5 (lt_b rfl) ((fun _ => rfl) _) hi1 rfl ?_
  by_cases cs2 : σ 11 ((7 + x1).toNatClampNeg) = 2
  · have hf := opt_t cs2 hf
    refine v_tableIn 30 36 hX dX7_limit_6 (by rw [cs2]; decide) (by rw [cs2]; decide) (by rw [cs2]; decide) (by decide) ?_
    refine v_aload_n 0 0 hX dX7_limit_36 rfl rfl ?_
    refine v_iconst 0 hX dX7_limit_37 (by decide) ?_
    refine v_aldc (v := σ 11 0) 11 0 hX dX7_limit_38 (lt_b rfl) ((fun _ => rfl) _) ib_0_85 tn_0 rfl ?_
    refine v_iconst 2 hX dX7_limit_39 (by decide) ?_
    refine v_idiv hX dX7_limit_40 (by decide) ?_
    obtain rfl := Option.some.inj hf
    exact v_iret (r := (σ 11 0) / 2) hX dX7_limit_41 rfl
  have hf := opt_f cs2 hf
  by_cases cs3 : σ 11 ((7 + x1).toNatClampNeg) = 3
  · have hf := opt_t cs3 hf
    refine v_tableIn 44 50 hX dX7_limit_6 (by rw [cs3]; decide) (by rw [cs3]; decide) (by rw [cs3]; decide) (by decide) ?_
    refine v_aload_n 0 0 hX dX7_limit_50 rfl rfl ?_
    refine v_iconst 0 hX dX7_limit_51 (by decide) ?_
    refine v_aldc (v := σ 11 0) 11 0 hX dX7_limit_52 (lt_b rfl) ((fun _ => rfl) _) ib_0_85 tn_0 rfl ?_
    obtain rfl := Option.some.inj hf
    exact v_iret (r := σ 11 0) hX dX7_limit_53 rfl
  have hf := opt_f cs3 hf
  by_cases cs4 : σ 11 ((7 + x1).toNatClampNeg) = 4
  · have hf := opt_t cs4 hf
    refine v_tableIn 36 42 hX dX7_limit_6 (by rw [cs4]; decide) (by rw [cs4]; decide) (by rw [cs4]; decide) (by decide) ?_
    refine v_iconst 2 hX dX7_limit_42 (by decide) ?_
    refine v_aload_n 0 0 hX dX7_limit_43 rfl rfl ?_
    refine v_iconst 0 hX dX7_limit_44 (by decide) ?_
    refine v_aldc (v := σ 11 0) 11 0 hX dX7_limit_45 (lt_b rfl) ((fun _ => rfl) _) ib_0_85 tn_0 rfl ?_
    refine v_imul hX dX7_limit_46 ?_
    obtain rfl := Option.some.inj hf
    exact v_iret (r := 2 * (σ 11 0)) hX dX7_limit_47 rfl
  have hf := opt_f cs4 hf
  by_cases cs5 : σ 11 ((7 + x1).toNatClampNeg) = 5
  · have hf := opt_t cs5 hf
    refine v_tableIn 42 48 hX dX7_limit_6 (by rw [cs5]; decide) (by rw [cs5]; decide) (by rw [cs5]; decide) (by decide) ?_
    refine v_iconst (-1) hX dX7_limit_48 (by decide) ?_
    obtain rfl := Option.some.inj hf
    exact v_iret (r := (-1)) hX dX7_limit_49 rfl
  have hf := opt_f cs5 hf
  refine v_tableOut 50 hX dX7_limit_6 (by have h0 := lv_neT cs2 (a := 2) (by decide); have h1 := lv_neT cs3 (a := 3) (by decide); have h2 := lv_neT cs4 (a := 4) (by decide); have h3 := lv_neT cs5 (a := 5) (by decide); omega) (by decide) ?_
  refine v_aload_n 0 0 hX dX7_limit_50 rfl rfl ?_
  refine v_iconst 0 hX dX7_limit_51 (by decide) ?_
  refine v_aldc (v := σ 11 0) 11 0 hX dX7_limit_52 (lt_b rfl) ((fun _ => rfl) _) ib_0_85 tn_0 rfl ?_
  obtain rfl := Option.some.inj hf
  exact v_iret (r := σ 11 0) hX dX7_limit_53 rfl
set_option maxHeartbeats 4000000 in
set_option maxRecDepth 100000 in
theorem s_X7_dayGoes_a_52 {P : PT} {M : MT} {D : va_G} {cs : ClassId × ClassId × ClassId} {ad : Nat → Nat} (hX : VOk P M (mW D cs ad) 3 cX7_dayGoes RX7 none 0) (fuel : Nat) (k9 : Mem → Int32 → Option (Mem))  (z : Mem) (hk9 : ∀ (σ : Mem) (x1 : Int32), k9 σ x1 = some z → V P M (mW D cs ad) 3 (QV P M (mW D cs ad) z) 9 [(0, .ref (ad 11)), (1, .int x1)] [] σ) (σ : Mem) (x1 : Int32) (y0 : Int32) (hf : f_X7_dayGoes_a_52 fuel k9 σ x1 y0 = some z) : V P M (mW D cs ad) 3 (QV P M (mW D cs ad) z) 52 [(0, .ref (ad 11)), (1, .int x1)] [.int y0] σ := by
  unfold f_X7_dayGoes_a_52 at hf
  refine v_istore_n 2 [(2, .int y0), (0, .ref (ad 11)), (1, .int x1)] hX dX7_dayGoes_52 rfl (lt_b rfl) rfl ?_
  refine v_aload_n 1 0 hX dX7_dayGoes_53 rfl rfl ?_
  refine v_bipush 55 hX dX7_dayGoes_54 (by decide) ?_
  refine v_iload_n 2 1 hX dX7_dayGoes_56 rfl rfl ?_
  refine v_iadd hX dX7_dayGoes_57 ?_
  refine v_iload_n 0 2 hX dX7_dayGoes_58 rfl rfl ?_
  refine v_if_eq 66 hX dX7_dayGoes_59 (by decide) (fun c => ?_) (fun c => ?_)
  · have hf := opt_t c hf
    refine v_aload_n 1 0 hX dX7_dayGoes_66 rfl rfl ?_
    refine v_bipush 55 hX dX7_dayGoes_67 (by decide) ?_
    refine v_iload_n 2 1 hX dX7_dayGoes_69 rfl rfl ?_
    refine v_iadd hX dX7_dayGoes_70 ?_
    obtain ⟨hi4, hf⟩ := gd_some hf
    refine v_ald (v := σ 11 ((55 + x1).toNatClampNeg)) 11 hX dX7_dayGoes_71 (lt_b rfl) ((fun _ => rfl) _) hi4 rfl ?_
    obtain ⟨hi5, hf⟩ := gd_some hf
    refine v_ast 11 hX dX7_dayGoes_72 (lt_b rfl) (fun _ => rfl) hi5 ?_
    refine v_iinc 2 (x1 + 1) [(1, .int (x1 + 1)), (2, .int y0), (0, .ref (ad 11))] hX dX7_dayGoes_73 rfl rfl (lt_b rfl) rfl ?_
    refine v_goto 9 hX dX7_dayGoes_76 (by decide) ?_
    exact v_sub [2, 0] rfl (hk9 (mst σ 11 ((55 + x1).toNatClampNeg) (σ 11 ((55 + x1).toNatClampNeg))) (x1 + 1) hf)
  · have hf := opt_f c hf
    refine v_iconst 1 hX dX7_dayGoes_62 (by decide) ?_
    refine v_goto 72 hX dX7_dayGoes_63 (by decide) ?_
    obtain ⟨hi6, hf⟩ := gd_some hf
    refine v_ast 11 hX dX7_dayGoes_72 (lt_b rfl) (fun _ => rfl) hi6 ?_
    refine v_iinc 2 (x1 + 1) [(1, .int (x1 + 1)), (2, .int y0), (0, .ref (ad 11))] hX dX7_dayGoes_73 rfl rfl (lt_b rfl) rfl ?_
    refine v_goto 9 hX dX7_dayGoes_76 (by decide) ?_
    exact v_sub [2, 0] rfl (hk9 (mst σ 11 ((55 + x1).toNatClampNeg) 1) (x1 + 1) hf)
set_option maxHeartbeats 4000000 in
set_option maxRecDepth 100000 in
theorem s_X7_dayGoes_a_9 {P : PT} {M : MT} {D : va_G} {cs : ClassId × ClassId × ClassId} {ad : Nat → Nat} (hX : VOk P M (mW D cs ad) 3 cX7_dayGoes RX7 none 0) (fuel : Nat)   (z : Mem)  : ∀ (n : Nat) (σ : Mem) (x1 : Int32), f_X7_dayGoes_a_9 fuel n σ x1 = some z → V P M (mW D cs ad) 3 (QV P M (mW D cs ad) z) 9 [(0, .ref (ad 11)), (1, .int x1)] [] σ := by
  intro n
  induction n with
  | zero =>
    intro σ x1 hf
    cases hf
  | succ n hk9 =>
    intro σ x1 hf
    rw [f_X7_dayGoes_a_9] at hf
    refine v_iload_n 1 1 hX dX7_dayGoes_9 rfl rfl ?_
    refine v_aload_n 0 0 hX dX7_dayGoes_10 rfl rfl ?_
    refine v_iconst 3 hX dX7_dayGoes_11 (by decide) ?_
    refine v_aldc (v := σ 11 3) 11 3 hX dX7_dayGoes_12 (lt_b rfl) ((fun _ => rfl) _) ib_3_85 tn_3 rfl ?_
    refine v_icmp_ge 79 hX dX7_dayGoes_13 (by decide) (fun c => ?_) (fun c => ?_)
    · have hf := opt_t c hf
      obtain rfl := Option.some.inj hf
      exact v_vret hX dX7_dayGoes_79
    · have hf := opt_f c hf
      refine v_aload_n 0 0 hX dX7_dayGoes_16 rfl rfl ?_
      refine v_bipush 7 hX dX7_dayGoes_17 (by decide) ?_
      refine v_aload_n 0 0 hX dX7_dayGoes_19 rfl rfl ?_
      refine v_bipush 25 hX dX7_dayGoes_20 (by decide) ?_
      refine v_iload_n 1 1 hX dX7_dayGoes_22 rfl rfl ?_
      refine v_iadd hX dX7_dayGoes_23 ?_
      obtain ⟨hi1, hf⟩ := gd_some hf
      refine v_ald (v := σ 11 ((25 + x1).toNatClampNeg)) 11 hX dX7_dayGoes_24 (lt_b rfl) ((fun _ => rfl) _) hi1 rfl ?_
      refine v_iadd hX dX7_dayGoes_25 ?_
      obtain ⟨hi2, hf⟩ := gd_some hf
      refine v_ald (v := σ 11 ((7 + (σ 11 ((25 + x1).toNatClampNeg))).toNatClampNeg)) 11 hX dX7_dayGoes_26 (lt_b rfl) ((fun _ => rfl) _) hi2 rfl ?_
      refine v_iconst 3 hX dX7_dayGoes_27 (by decide) ?_
      refine v_icmp_ne 51 hX dX7_dayGoes_28 (by decide) (fun c => ?_) (fun c => ?_)
      · have hf := opt_f c hf
        refine v_iconst 0 hX dX7_dayGoes_51 (by decide) ?_
        exact (s_X7_dayGoes_a_52 hX fuel (f_X7_dayGoes_a_9 fuel n) z hk9 σ x1 0 hf)
      · have hf := opt_t c hf
        refine v_aload_n 0 0 hX dX7_dayGoes_31 rfl rfl ?_
        refine v_iconst 5 hX dX7_dayGoes_32 (by decide) ?_
        refine v_aldc (v := σ 11 5) 11 5 hX dX7_dayGoes_33 (lt_b rfl) ((fun _ => rfl) _) ib_5_85 tn_5 rfl ?_
        refine v_aload_n 0 0 hX dX7_dayGoes_34 rfl rfl ?_
        refine v_bipush 45 hX dX7_dayGoes_35 (by decide) ?_
        refine v_iload_n 1 1 hX dX7_dayGoes_37 rfl rfl ?_
        refine v_iadd hX dX7_dayGoes_38 ?_
        obtain ⟨hi3, hf⟩ := gd_some hf
        refine v_ald (v := σ 11 ((45 + x1).toNatClampNeg)) 11 hX dX7_dayGoes_39 (lt_b rfl) ((fun _ => rfl) _) hi3 rfl ?_
        refine v_isub hX dX7_dayGoes_40 ?_
        refine v_aload_n 0 0 hX dX7_dayGoes_41 rfl rfl ?_
        refine v_iconst 1 hX dX7_dayGoes_42 (by decide) ?_
        refine v_aldc (v := σ 11 1) 11 1 hX dX7_dayGoes_43 (lt_b rfl) ((fun _ => rfl) _) ib_1_85 tn_1 rfl ?_
        refine v_icmp_lt 51 hX dX7_dayGoes_44 (by decide) (fun c => ?_) (fun c => ?_)
        · have hf := opt_t c hf
          refine v_iconst 0 hX dX7_dayGoes_51 (by decide) ?_
          exact (s_X7_dayGoes_a_52 hX fuel (f_X7_dayGoes_a_9 fuel n) z hk9 σ x1 0 hf)
        · have hf := opt_f c hf
          refine v_iconst 1 hX dX7_dayGoes_47 (by decide) ?_
          refine v_goto 52 hX dX7_dayGoes_48 (by decide) ?_
          exact (s_X7_dayGoes_a_52 hX fuel (f_X7_dayGoes_a_9 fuel n) z hk9 σ x1 1 hf)
set_option maxHeartbeats 4000000 in
set_option maxRecDepth 100000 in
theorem c_X7_dayGoes_a {l : Launch} {D : va_G} {cs : ClassId × ClassId × ClassId} {ad : Nat → Nat} (σ : Mem) (fuel : Nat)   {z : Mem} (hf : f_X7_dayGoes_a fuel σ = some z) : CtV l (mW D cs ad) 0 yX7_dayGoes cX7_dayGoes 3 [.ref (ad 11)] σ z := by
  refine ct_V RX7 [(0, .ref (ad 11))] (by decide +kernel) rfl rfl (Nat.le_of_ble_eq_true rfl) ?_
  intro P M hl0 hX
  unfold f_X7_dayGoes_a at hf
  refine v_aload_n 0 0 hX dX7_dayGoes_0 rfl rfl ?_
  refine v_iconst 5 hX dX7_dayGoes_1 (by decide) ?_
  refine v_dup2 hX dX7_dayGoes_2 rfl rfl ?_
  refine v_aldc (v := σ 11 5) 11 5 hX dX7_dayGoes_3 (lt_b rfl) ((fun _ => rfl) _) ib_5_85 tn_5 rfl ?_
  refine v_iconst 1 hX dX7_dayGoes_4 (by decide) ?_
  refine v_iadd hX dX7_dayGoes_5 ?_
  refine v_astc 11 5 hX dX7_dayGoes_6 (lt_b rfl) (fun _ => rfl) ib_5_85 tn_5 ?_
  refine v_iconst 0 hX dX7_dayGoes_7 (by decide) ?_
  refine v_istore_n 1 [(1, .int 0), (0, .ref (ad 11))] hX dX7_dayGoes_8 rfl (lt_b rfl) rfl ?_
  exact v_sub [1, 0] rfl (s_X7_dayGoes_a_9 hX fuel z  fuel (mst σ 11 5 ((σ 11 5) + 1)) 0 hf)
set_option maxHeartbeats 4000000 in
set_option maxRecDepth 100000 in
theorem s_X7_black_a_4 {P : PT} {M : MT} {D : va_G} {cs : ClassId × ClassId × ClassId} {ad : Nat → Nat} (hX : VOk P M (mW D cs ad) 3 cX7_black RX7 (some .int) 0) (fuel : Nat) (σ : Mem)   (z : Int32)  : ∀ (n : Nat) (x1 : Int32) (x2 : Int32), f_X7_black_a_4 fuel σ n x1 x2 = some z → V P M (mW D cs ad) 3 (QI P M (mW D cs ad) z σ) 4 [(0, .ref (ad 11)), (1, .int x1), (2, .int x2)] [] σ := by
  intro n
  induction n with
  | zero =>
    intro x1 x2 hf
    cases hf
  | succ n hk4 =>
    intro x1 x2 hf
    rw [f_X7_black_a_4] at hf
    refine v_iload_n 2 2 hX dX7_black_4 rfl rfl ?_
    refine v_aload_n 0 0 hX dX7_black_5 rfl rfl ?_
    refine v_iconst 3 hX dX7_black_6 (by decide) ?_
    refine v_aldc (v := σ 11 3) 11 3 hX dX7_black_7 (lt_b rfl) ((fun _ => rfl) _) ib_3_85 tn_3 rfl ?_
    refine v_icmp_ge 41 hX dX7_black_8 (by decide) (fun c => ?_) (fun c => ?_)
    · have hf := opt_t c hf
      refine v_iload_n 1 1 hX dX7_black_41 rfl rfl ?_
      obtain rfl := Option.some.inj hf
      exact v_iret (r := x1) hX dX7_black_42 rfl
    · have hf := opt_f c hf
      refine v_iload_n 1 1 hX dX7_black_11 rfl rfl ?_
      refine v_aload_n 0 0 hX dX7_black_12 rfl rfl ?_
      refine v_bipush 55 hX dX7_black_13 (by decide) ?_
      refine v_iload_n 2 2 hX dX7_black_15 rfl rfl ?_
      refine v_iadd hX dX7_black_16 ?_
      obtain ⟨hi1, hf⟩ := gd_some hf
      refine v_ald (v := σ 11 ((55 + x2).toNatClampNeg)) 11 hX dX7_black_17 (lt_b rfl) ((fun _ => rfl) _) hi1 rfl ?_
      refine v_if_ne 32 hX dX7_black_18 (by decide) (fun c => ?_) (fun c => ?_)
      · have hf := opt_f c hf
        refine v_iconst 0 hX dX7_black_32 (by decide) ?_
        refine v_ior hX dX7_black_33 ?_
        refine v_istore_n 1 [(1, .int (x1 ||| 0)), (0, .ref (ad 11)), (2, .int x2)] hX dX7_black_34 rfl (lt_b rfl) rfl ?_
        refine v_iinc 2 (x2 + 1) [(2, .int (x2 + 1)), (1, .int (x1 ||| 0)), (0, .ref (ad 11))] hX dX7_black_35 rfl rfl (lt_b rfl) rfl ?_
        refine v_goto 4 hX dX7_black_38 (by decide) ?_
        exact v_sub [2, 1, 0] rfl (hk4 (x1 ||| 0) (x2 + 1) hf)
      · have hf := opt_t c hf
        refine v_iconst 1 hX dX7_black_21 (by decide) ?_
        refine v_aload_n 0 0 hX dX7_black_22 rfl rfl ?_
        refine v_bipush 15 hX dX7_black_23 (by decide) ?_
        refine v_iload_n 2 2 hX dX7_black_25 rfl rfl ?_
        refine v_iadd hX dX7_black_26 ?_
        obtain ⟨hi2, hf⟩ := gd_some hf
        refine v_ald (v := σ 11 ((15 + x2).toNatClampNeg)) 11 hX dX7_black_27 (lt_b rfl) ((fun _ => rfl) _) hi2 rfl ?_
        refine v_ishl hX dX7_black_28 ?_
        refine v_goto 33 hX dX7_black_29 (by decide) ?_
        refine v_ior hX dX7_black_33 ?_
        refine v_istore_n 1 [(1, .int (x1 ||| (1 <<< ((σ 11 ((15 + x2).toNatClampNeg)) &&& 31)))), (0, .ref (ad 11)), (2, .int x2)] hX dX7_black_34 rfl (lt_b rfl) rfl ?_
        refine v_iinc 2 (x2 + 1) [(2, .int (x2 + 1)), (1, .int (x1 ||| (1 <<< ((σ 11 ((15 + x2).toNatClampNeg)) &&& 31)))), (0, .ref (ad 11))] hX dX7_black_35 rfl rfl (lt_b rfl) rfl ?_
        refine v_goto 4 hX dX7_black_38 (by decide) ?_
        exact v_sub [2, 1, 0] rfl (hk4 (x1 ||| (1 <<< ((σ 11 ((15 + x2).toNatClampNeg)) &&& 31))) (x2 + 1) hf)
set_option maxHeartbeats 4000000 in
set_option maxRecDepth 100000 in
theorem c_X7_black_a {l : Launch} {D : va_G} {cs : ClassId × ClassId × ClassId} {ad : Nat → Nat} (fuel : Nat) (σ : Mem)   {z : Int32} (hf : f_X7_black_a fuel σ = some z) : CtI l (mW D cs ad) 0 yX7_black cX7_black 3 (some .int) [.ref (ad 11)] σ z σ := by
  refine ct_I RX7 [(0, .ref (ad 11))] (by decide +kernel) rfl rfl (Nat.le_of_ble_eq_true rfl) ?_
  intro P M hl0 hX
  unfold f_X7_black_a at hf
  refine v_iconst 0 hX dX7_black_0 (by decide) ?_
  refine v_istore_n 1 [(1, .int 0), (0, .ref (ad 11))] hX dX7_black_1 rfl (lt_b rfl) rfl ?_
  refine v_iconst 0 hX dX7_black_2 (by decide) ?_
  refine v_istore_n 2 [(2, .int 0), (1, .int 0), (0, .ref (ad 11))] hX dX7_black_3 rfl (lt_b rfl) rfl ?_
  exact v_sub [2, 1, 0] rfl (s_X7_black_a_4 hX fuel σ z  fuel 0 0 hf)
