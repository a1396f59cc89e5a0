set_option maxHeartbeats 4000000 in
set_option maxRecDepth 100000 in
theorem s_X4_readNumber_98 {P : PT} {M : MT} {D : va_G} {cs : ClassId × ClassId × ClassId} {ad : Nat → Nat} {ts : Nat × Nat × Nat} (hX : VOk P M (xW D cs ad ts) 5 cX4_readNumber RX4 (some .int) 1) (fuel : Nat)   (z : Int32 × Mem)  (σ : Mem) (x1 : Int32) (x2 : Int32) (x3 : Int32) (x4 : Int32) (hf : f_X4_readNumber_98 fuel σ x1 x2 x3 x4 = some z) : V P M (xW D cs ad ts) 5 (QI P M (xW D cs ad ts) z.1 z.2) 98 [(0, .ref (ad 46)), (1, .int x1), (2, .int x2), (3, .int x3), (4, .int x4)] [] σ := by
  unfold f_X4_readNumber_98 at hf
  refine v_iload 4 hX dX4_readNumber_98 rfl ?_
  refine v_iload_n 1 1 hX dX4_readNumber_100 rfl rfl ?_
  refine v_icmp_lt 110 hX dX4_readNumber_101 (by decide) (fun c => ?_) (fun c => ?_)
  · have hf := opt_t c hf
    refine v_aload_n 0 0 hX dX4_readNumber_110 rfl rfl ?_
    refine v_iconst 2 hX dX4_readNumber_111 (by decide) ?_
    refine v_put (C := RX4) (T := TX4) (N := 5) (ci := 4) (ty := .int) tyX4 46 4 hX dX4_readNumber_112 mw_221 rfl inlX4 tyX4_ok nmX4 rfl (lt_b rfl) (lt_b rfl) rfl (tyX4_ok 4 (lt_b rfl)) rfl rfl rfl (lt_b rfl) rfl ?_
    refine v_iconst (-1) hX dX4_readNumber_115 (by decide) ?_
    obtain rfl := Option.some.inj hf
    exact v_iret (r := (-1)) hX dX4_readNumber_116 rfl
  · have hf := opt_f c hf
    refine v_iload 4 hX dX4_readNumber_104 rfl ?_
    refine v_iload_n 2 2 hX dX4_readNumber_106 rfl rfl ?_
    refine v_icmp_le 117 hX dX4_readNumber_107 (by decide) (fun c => ?_) (fun c => ?_)
    · have hf := opt_t c hf
      refine v_aload_n 0 0 hX dX4_readNumber_117 rfl rfl ?_
      refine v_iload_n 3 3 hX dX4_readNumber_118 rfl rfl ?_
      refine v_put (C := RX4) (T := TX4) (N := 5) (ci := 4) (ty := .int) tyX4 46 3 hX dX4_readNumber_119 mw_219 rfl inlX4 tyX4_ok nmX4 rfl (lt_b rfl) (lt_b rfl) rfl (tyX4_ok 3 (lt_b rfl)) rfl rfl rfl (lt_b rfl) rfl ?_
      refine v_iload 4 hX dX4_readNumber_122 rfl ?_
      obtain rfl := Option.some.inj hf
      exact v_iret (r := x4) hX dX4_readNumber_124 rfl
    · have hf := opt_f c hf
      refine v_aload_n 0 0 hX dX4_readNumber_110 rfl rfl ?_
      refine v_iconst 2 hX dX4_readNumber_111 (by decide) ?_
      refine v_put (C := RX4) (T := TX4) (N := 5) (ci := 4) (ty := .int) tyX4 46 4 hX dX4_readNumber_112 mw_221 rfl inlX4 tyX4_ok nmX4 rfl (lt_b rfl) (lt_b rfl) rfl (tyX4_ok 4 (lt_b rfl)) rfl rfl rfl (lt_b rfl) rfl ?_
      refine v_iconst (-1) hX dX4_readNumber_115 (by decide) ?_
      obtain rfl := Option.some.inj hf
      exact v_iret (r := (-1)) hX dX4_readNumber_116 rfl
set_option maxHeartbeats 4000000 in
set_option maxRecDepth 100000 in
theorem s_X4_readNumber_27 {P : PT} {M : MT} {D : va_G} {cs : ClassId × ClassId × ClassId} {ad : Nat → Nat} {ts : Nat × Nat × Nat} (hX : VOk P M (xW D cs ad ts) 5 cX4_readNumber RX4 (some .int) 1) (fuel : Nat)   (z : Int32 × Mem)  (σ : Mem) (x1 : Int32) (x2 : Int32) (x3 : Int32) (hf : f_X4_readNumber_27 fuel σ x1 x2 x3 = some z) : V P M (xW D cs ad ts) 5 (QI P M (xW D cs ad ts) z.1 z.2) 27 [(0, .ref (ad 46)), (1, .int x1), (2, .int x2), (3, .int x3)] [] σ := by
  unfold f_X4_readNumber_27 at hf
  refine v_iload_n 3 3 hX dX4_readNumber_27 rfl rfl ?_
  refine v_aload_n 0 0 hX dX4_readNumber_28 rfl rfl ?_
  refine v_get (C := RX4) (T := TX4) (N := 5) (ci := 4) (v := .int (σ 46 3)) 46 3 hX dX4_readNumber_29 mw_219 rfl inlX4 rfl (lt_b rfl) (lt_b rfl) rfl rfl ?_
  refine v_icmp_eq 45 hX dX4_readNumber_32 (by decide) (fun c => ?_) (fun c => ?_)
  · have hf := opt_t c hf
    refine v_aload_n 0 0 hX dX4_readNumber_45 rfl rfl ?_
    refine v_iconst 1 hX dX4_readNumber_46 (by decide) ?_
    refine v_put (C := RX4) (T := TX4) (N := 5) (ci := 4) (ty := .int) tyX4 46 4 hX dX4_readNumber_47 mw_221 rfl inlX4 tyX4_ok nmX4 rfl (lt_b rfl) (lt_b rfl) rfl (tyX4_ok 4 (lt_b rfl)) rfl rfl rfl (lt_b rfl) rfl ?_
    refine v_iconst (-1) hX dX4_readNumber_50 (by decide) ?_
    obtain rfl := Option.some.inj hf
    exact v_iret (r := (-1)) hX dX4_readNumber_51 rfl
  · have hf := opt_f c hf
    refine v_iload_n 3 3 hX dX4_readNumber_35 rfl rfl ?_
    refine v_aload_n 0 0 hX dX4_readNumber_36 rfl rfl ?_
    refine v_get (C := RX4) (T := TX4) (N := 5) (ci := 4) (v := .int (σ 46 3)) 46 3 hX dX4_readNumber_37 mw_219 rfl inlX4 rfl (lt_b rfl) (lt_b rfl) rfl rfl ?_
    refine v_isub hX dX4_readNumber_40 ?_
    refine v_iconst 2 hX dX4_readNumber_41 (by decide) ?_
    refine v_icmp_le 52 hX dX4_readNumber_42 (by decide) (fun c => ?_) (fun c => ?_)
    · have hf := opt_t c hf
      refine v_aload_n 0 0 hX dX4_readNumber_52 rfl rfl ?_
      refine v_get (C := RX4) (T := TX4) (N := 5) (ci := 4) (v := .ref (ad 47)) 46 0 hX dX4_readNumber_53 mw_214 rfl inlX4 rfl (lt_b rfl) (lt_b rfl) rfl rfl ?_
      refine v_aload_n 0 0 hX dX4_readNumber_56 rfl rfl ?_
      refine v_get (C := RX4) (T := TX4) (N := 5) (ci := 4) (v := .int (σ 46 3)) 46 3 hX dX4_readNumber_57 mw_219 rfl inlX4 rfl (lt_b rfl) (lt_b rfl) rfl rfl ?_
      obtain ⟨hi2, hf⟩ := gd_some hf
      refine v_ald (v := σ 47 ((σ 46 3).toNatClampNeg)) 47 hX dX4_readNumber_60 (lt_b rfl) ((fun _ => rfl) _) hi2 rfl ?_
      refine v_bipush 48 hX dX4_readNumber_61 (by decide) ?_
      refine v_isub hX dX4_readNumber_63 ?_
      refine v_istore [(4, .int ((σ 47 ((σ 46 3).toNatClampNeg)) - 48)), (0, .ref (ad 46)), (1, .int x1), (2, .int x2), (3, .int x3)] hX dX4_readNumber_64 (lt_b rfl) rfl ?_
      refine v_iload_n 4 3 hX dX4_readNumber_66 rfl rfl ?_
      refine v_aload_n 1 0 hX dX4_readNumber_67 rfl rfl ?_
      refine v_get (C := RX4) (T := TX4) (N := 5) (ci := 4) (v := .int (σ 46 3)) 46 3 hX dX4_readNumber_68 mw_219 rfl inlX4 rfl (lt_b rfl) (lt_b rfl) rfl rfl ?_
      refine v_isub hX dX4_readNumber_71 ?_
      refine v_iconst 2 hX dX4_readNumber_72 (by decide) ?_
      refine v_icmp_ne 98 hX dX4_readNumber_73 (by decide) (fun c => ?_) (fun c => ?_)
      · have hf := opt_f c hf
        exact v_sub [1, 2, 3, 4, 0] rfl (s_X4_readNumber_98 hX fuel z  σ x1 x2 x3 ((σ 47 ((σ 46 3).toNatClampNeg)) - 48) hf)
      · have hf := opt_t c hf
        refine v_iload 0 hX dX4_readNumber_76 rfl ?_
        refine v_bipush 10 hX dX4_readNumber_78 (by decide) ?_
        refine v_imul hX dX4_readNumber_80 ?_
        refine v_aload_n 1 0 hX dX4_readNumber_81 rfl rfl ?_
        refine v_get (C := RX4) (T := TX4) (N := 5) (ci := 4) (v := .ref (ad 47)) 46 0 hX dX4_readNumber_82 mw_214 rfl inlX4 rfl (lt_b rfl) (lt_b rfl) rfl rfl ?_
        refine v_aload_n 1 0 hX dX4_readNumber_85 rfl rfl ?_
        refine v_get (C := RX4) (T := TX4) (N := 5) (ci := 4) (v := .int (σ 46 3)) 46 3 hX dX4_readNumber_86 mw_219 rfl inlX4 rfl (lt_b rfl) (lt_b rfl) rfl rfl ?_
        refine v_iconst 1 hX dX4_readNumber_89 (by decide) ?_
        refine v_iadd hX dX4_readNumber_90 ?_
        obtain ⟨hi3, hf⟩ := gd_some hf
        refine v_ald (v := σ 47 (((σ 46 3) + 1).toNatClampNeg)) 47 hX dX4_readNumber_91 (lt_b rfl) ((fun _ => rfl) _) hi3 rfl ?_
        refine v_iadd hX dX4_readNumber_92 ?_
        refine v_bipush 48 hX dX4_readNumber_93 (by decide) ?_
        refine v_isub hX dX4_readNumber_95 ?_
        refine v_istore [(4, .int (((((σ 47 ((σ 46 3).toNatClampNeg)) - 48) * 10) + (σ 47 (((σ 46 3) + 1).toNatClampNeg))) - 48)), (0, .ref (ad 46)), (1, .int x1), (2, .int x2), (3, .int x3)] hX dX4_readNumber_96 (lt_b rfl) rfl ?_
        exact v_sub [1, 2, 3, 4, 0] rfl (s_X4_readNumber_98 hX fuel z  σ x1 x2 x3 (((((σ 47 ((σ 46 3).toNatClampNeg)) - 48) * 10) + (σ 47 (((σ 46 3) + 1).toNatClampNeg))) - 48) hf)
    · have hf := opt_f c hf
      refine v_aload_n 0 0 hX dX4_readNumber_45 rfl rfl ?_
      refine v_iconst 1 hX dX4_readNumber_46 (by decide) ?_
      refine v_put (C := RX4) (T := TX4) (N := 5) (ci := 4) (ty := .int) tyX4 46 4 hX dX4_readNumber_47 mw_221 rfl inlX4 tyX4_ok nmX4 rfl (lt_b rfl) (lt_b rfl) rfl (tyX4_ok 4 (lt_b rfl)) rfl rfl rfl (lt_b rfl) rfl ?_
      refine v_iconst (-1) hX dX4_readNumber_50 (by decide) ?_
      obtain rfl := Option.some.inj hf
      exact v_iret (r := (-1)) hX dX4_readNumber_51 rfl
set_option maxHeartbeats 4000000 in
set_option maxRecDepth 100000 in
theorem s_X4_readNumber_5 {P : PT} {M : MT} {D : va_G} {cs : ClassId × ClassId × ClassId} {ad : Nat → Nat} {ts : Nat × Nat × Nat} (hX : VOk P M (xW D cs ad ts) 5 cX4_readNumber RX4 (some .int) 1) (fuel : Nat)   (z : Int32 × Mem)  : ∀ (n : Nat) (σ : Mem) (x1 : Int32) (x2 : Int32) (x3 : Int32), f_X4_readNumber_5 fuel n σ x1 x2 x3 = some z → V P M (xW D cs ad ts) 5 (QI P M (xW D cs ad ts) z.1 z.2) 5 [(0, .ref (ad 46)), (1, .int x1), (2, .int x2), (3, .int x3)] [] σ := by
  intro n
  induction n with
  | zero =>
    intro σ x1 x2 x3 hf
    cases hf
  | succ n hk5 =>
    intro σ x1 x2 x3 hf
    rw [f_X4_readNumber_5] at hf
    refine v_iload_n 3 3 hX dX4_readNumber_5 rfl rfl ?_
    refine v_aload_n 0 0 hX dX4_readNumber_6 rfl rfl ?_
    refine v_get (C := RX4) (T := TX4) (N := 5) (ci := 4) (v := .int (σ 46 2)) 46 2 hX dX4_readNumber_7 mw_217 rfl inlX4 rfl (lt_b rfl) (lt_b rfl) rfl rfl ?_
    refine v_icmp_ge 27 hX dX4_readNumber_10 (by decide) (fun c => ?_) (fun c => ?_)
    · have hf := opt_t c hf
      exact (s_X4_readNumber_27 hX fuel z  σ x1 x2 x3 hf)
    · have hf := opt_f c hf
      refine v_aload_n 0 0 hX dX4_readNumber_13 rfl rfl ?_
      refine v_iload_n 3 3 hX dX4_readNumber_14 rfl rfl ?_
      obtain ⟨v1, hc, hf⟩ := opt_b hf
      refine v_callVi (rest := []) (As := [.int x3]) (C := RX4) (T := TX4) (N := 5) (ci := 4) 46 hX dX4_readNumber_15 (c_X4_isFigure σ x3 hc) rfl rfl (lt_b rfl) rfl rfl rfl mw_414 mw_8 mw_60 mw_412 mw_415 gAll ds_X4_isFigure rfl ⟨Nat.le_of_ble_eq_true rfl, Nat.le_of_ble_eq_true rfl⟩ (Nat.le_of_ble_eq_true rfl) ?_
      refine v_if_eq 27 hX dX4_readNumber_18 (by decide) (fun c => ?_) (fun c => ?_)
      · have hf := opt_t c hf
        exact (s_X4_readNumber_27 hX fuel z  σ x1 x2 x3 hf)
      · have hf := opt_f c hf
        refine v_iinc 3 (x3 + 1) [(3, .int (x3 + 1)), (0, .ref (ad 46)), (1, .int x1), (2, .int x2)] hX dX4_readNumber_21 rfl rfl (lt_b rfl) rfl ?_
        refine v_goto 5 hX dX4_readNumber_24 (by decide) ?_
        exact v_sub [1, 2, 3, 0] rfl (hk5 σ x1 x2 (x3 + 1) hf)
set_option maxHeartbeats 4000000 in
set_option maxRecDepth 100000 in
theorem c_X4_readNumber {l : Launch} {D : va_G} {cs : ClassId × ClassId × ClassId} {ad : Nat → Nat} {ts : Nat × Nat × Nat} (σ : Mem) (fuel : Nat)  (x1 : Int32) (x2 : Int32) {z : Int32 × Mem} (hf : f_X4_readNumber fuel σ x1 x2 = some z) : CtI l (xW D cs ad ts) 1 yX4_readNumber cX4_readNumber 5 (some .int) [.ref (ad 46), .int x1, .int x2] σ z.1 z.2 := by
  refine ct_I RX4 [(0, .ref (ad 46)), (1, .int x1), (2, .int x2)] (by decide +kernel) rfl rfl (Nat.le_of_ble_eq_true rfl) ?_
  intro P M hl0 hX
  unfold f_X4_readNumber at hf
  refine v_aload_n 0 0 hX dX4_readNumber_0 rfl rfl ?_
  refine v_get (C := RX4) (T := TX4) (N := 5) (ci := 4) (v := .int (σ 46 3)) 46 3 hX dX4_readNumber_1 mw_219 rfl inlX4 rfl (lt_b rfl) (lt_b rfl) rfl rfl ?_
  refine v_istore_n 3 [(3, .int (σ 46 3)), (0, .ref (ad 46)), (1, .int x1), (2, .int x2)] hX dX4_readNumber_4 rfl (lt_b rfl) rfl ?_
  exact v_sub [1, 2, 3, 0] rfl (s_X4_readNumber_5 hX fuel z  fuel σ x1 x2 (σ 46 3) hf)
set_option maxHeartbeats 4000000 in
set_option maxRecDepth 100000 in
theorem s_X3_bestPair_54 {P : PT} {M : MT} {D : va_G} {cs : ClassId × ClassId × ClassId} {ad : Nat → Nat} {ts : Nat × Nat × Nat} (hX : VOk P M (xW D cs ad ts) 7 cX3_bestPair RX3 (some .int) 1) (fuel : Nat) (σ : Mem) (k8 : Int32 → Int32 → Int32 → Option (Int32)) (k23 : Int32 → Int32 → Int32 → Int32 → Option (Int32))  (z : Int32) (hk8 : ∀ (x2 : Int32) (x3 : Int32) (x4 : Int32), k8 x2 x3 x4 = some z → V P M (xW D cs ad ts) 7 (QI P M (xW D cs ad ts) z σ) 8 [(0, .ref (ad 62)), (1, .ref (ad 13)), (2, .int x2), (3, .int x3), (4, .int x4)] [] σ) (hk23 : ∀ (x2 : Int32) (x3 : Int32) (x4 : Int32) (x5 : Int32), k23 x2 x3 x4 x5 = some z → V P M (xW D cs ad ts) 7 (QI P M (xW D cs ad ts) z σ) 23 [(0, .ref (ad 62)), (1, .ref (ad 13)), (2, .int x2), (3, .int x3), (4, .int x4), (5, .int x5)] [] σ) (x4 : Int32) (x5 : Int32) (x6 : Int32) (hf : f_X3_bestPair_54 fuel σ k8 k23 x4 x5 x6 = some z) : V P M (xW D cs ad ts) 7 (QI P M (xW D cs ad ts) z σ) 54 [(0, .ref (ad 62)), (1, .ref (ad 13)), (4, .int x4), (5, .int x5), (6, .int x6)] [] σ := by
  unfold f_X3_bestPair_54 at hf
  refine v_iconst 4 hX dX3_bestPair_54 (by decide) ?_
  refine v_iload 2 hX dX3_bestPair_55 rfl ?_
  refine v_imul hX dX3_bestPair_57 ?_
  refine v_iload 3 hX dX3_bestPair_58 rfl ?_
  refine v_iadd hX dX3_bestPair_60 ?_
  refine v_istore_n 2 [(2, .int ((4 * x4) + x5)), (0, .ref (ad 62)), (1, .ref (ad 13)), (4, .int x4), (5, .int x5), (6, .int x6)] hX dX3_bestPair_61 rfl (lt_b rfl) rfl ?_
  refine v_iload 5 hX dX3_bestPair_62 rfl ?_
  refine v_istore_n 3 [(3, .int x6), (2, .int ((4 * x4) + x5)), (0, .ref (ad 62)), (1, .ref (ad 13)), (4, .int x4), (5, .int x5), (6, .int x6)] hX dX3_bestPair_64 rfl (lt_b rfl) rfl ?_
  refine v_iinc 5 (x5 + 1) [(5, .int (x5 + 1)), (3, .int x6), (2, .int ((4 * x4) + x5)), (0, .ref (ad 62)), (1, .ref (ad 13)), (4, .int x4), (6, .int x6)] hX dX3_bestPair_65 rfl rfl (lt_b rfl) rfl ?_
  refine v_goto 23 hX dX3_bestPair_68 (by decide) ?_
  exact v_sub [3, 4, 2, 1, 5, 0] rfl (hk23 ((4 * x4) + x5) x6 x4 (x5 + 1) hf)
set_option maxHeartbeats 4000000 in
set_option maxRecDepth 100000 in
theorem s_X3_bestPair_23 {P : PT} {M : MT} {D : va_G} {cs : ClassId × ClassId × ClassId} {ad : Nat → Nat} {ts : Nat × Nat × Nat} (hX : VOk P M (xW D cs ad ts) 7 cX3_bestPair RX3 (some .int) 1) (fuel : Nat) (σ : Mem) (k8 : Int32 → Int32 → Int32 → Option (Int32))  (z : Int32) (hk8 : ∀ (x2 : Int32) (x3 : Int32) (x4 : Int32), k8 x2 x3 x4 = some z → V P M (xW D cs ad ts) 7 (QI P M (xW D cs ad ts) z σ) 8 [(0, .ref (ad 62)), (1, .ref (ad 13)), (2, .int x2), (3, .int x3), (4, .int x4)] [] σ) : ∀ (n : Nat) (x2 : Int32) (x3 : Int32) (x4 : Int32) (x5 : Int32), f_X3_bestPair_23 fuel σ k8 n x2 x3 x4 x5 = some z → V P M (xW D cs ad ts) 7 (QI P M (xW D cs ad ts) z σ) 23 [(0, .ref (ad 62)), (1, .ref (ad 13)), (2, .int x2), (3, .int x3), (4, .int x4), (5, .int x5)] [] σ := by
  intro n
  induction n with
  | zero =>
    intro x2 x3 x4 x5 hf
    cases hf
  | succ n hk23 =>
    intro x2 x3 x4 x5 hf
    rw [f_X3_bestPair_23] at hf
    refine v_iload 5 hX dX3_bestPair_23 rfl ?_
    refine v_aload_n 1 1 hX dX3_bestPair_25 rfl rfl ?_
    refine v_get (C := RX1) (T := TX1) (N := 19) (ci := 1) (v := .int (σ 13 6)) 13 6 hX dX3_bestPair_26 mw_126 rfl inlX1 rfl (lt_b rfl) (lt_b rfl) rfl rfl ?_
    refine v_icmp_ge 71 hX dX3_bestPair_29 (by decide) (fun c => ?_) (fun c => ?_)
    · have hf := opt_t c hf
      refine v_iinc 4 (x4 + 1) [(4, .int (x4 + 1)), (0, .ref (ad 62)), (1, .ref (ad 13)), (2, .int x2), (3, .int x3), (5, .int x5)] hX dX3_bestPair_71 rfl rfl (lt_b rfl) rfl ?_
      refine v_goto 8 hX dX3_bestPair_74 (by decide) ?_
      exact v_sub [1, 2, 3, 4, 0] rfl (hk8 x2 x3 (x4 + 1) hf)
    · have hf := opt_f c hf
      refine v_aload_n 0 0 hX dX3_bestPair_32 rfl rfl ?_
      refine v_iload 4 hX dX3_bestPair_33 rfl ?_
      refine v_iload 5 hX dX3_bestPair_35 rfl ?_
      obtain ⟨v1, hc, hf⟩ := opt_b hf
      refine v_callVi (rest := []) (As := [.int x4, .int x5]) (C := RX3) (T := TX3) (N := 3) (ci := 3) 62 hX dX3_bestPair_37 (c_X3_gainOf σ x4 x5 hc) rfl rfl (lt_b rfl) rfl rfl rfl mw_625 mw_626 mw_62 mw_624 mw_627 gAll ds_X3_gainOf rfl ⟨Nat.le_of_ble_eq_true rfl, Nat.le_of_ble_eq_true rfl⟩ (Nat.le_of_ble_eq_true rfl) ?_
      refine v_istore [(6, .int v1), (0, .ref (ad 62)), (1, .ref (ad 13)), (2, .int x2), (3, .int x3), (4, .int x4), (5, .int x5)] hX dX3_bestPair_40 (lt_b rfl) rfl ?_
      refine v_iload_n 3 2 hX dX3_bestPair_42 rfl rfl ?_
      refine v_ldc (-1000000) hX dX3_bestPair_43 mw_623 ?_
      refine v_icmp_eq 54 hX dX3_bestPair_45 (by decide) (fun c => ?_) (fun c => ?_)
      · have hf := opt_t c hf
        exact v_sub [1, 2, 5, 6, 0] rfl (s_X3_bestPair_54 hX fuel σ k8 (f_X3_bestPair_23 fuel σ k8 n) z hk8 hk23 x4 x5 v1 hf)
      · have hf := opt_f c hf
        refine v_iload 0 hX dX3_bestPair_48 rfl ?_
        refine v_iload_n 4 3 hX dX3_bestPair_50 rfl rfl ?_
        refine v_icmp_le 65 hX dX3_bestPair_51 (by decide) (fun c => ?_) (fun c => ?_)
        · have hf := opt_t c hf
          refine v_iinc 6 (x5 + 1) [(5, .int (x5 + 1)), (6, .int v1), (0, .ref (ad 62)), (1, .ref (ad 13)), (2, .int x2), (3, .int x3), (4, .int x4)] hX dX3_bestPair_65 rfl rfl (lt_b rfl) rfl ?_
          refine v_goto 23 hX dX3_bestPair_68 (by decide) ?_
          exact v_sub [2, 3, 4, 5, 6, 0] rfl (hk23 x2 x3 x4 (x5 + 1) hf)
        · have hf := opt_f c hf
          exact v_sub [1, 2, 5, 6, 0] rfl (s_X3_bestPair_54 hX fuel σ k8 (f_X3_bestPair_23 fuel σ k8 n) z hk8 hk23 x4 x5 v1 hf)
set_option maxHeartbeats 4000000 in
set_option maxRecDepth 100000 in
theorem s_X3_bestPair_8 {P : PT} {M : MT} {D : va_G} {cs : ClassId × ClassId × ClassId} {ad : Nat → Nat} {ts : Nat × Nat × Nat} (hX : VOk P M (xW D cs ad ts) 7 cX3_bestPair RX3 (some .int) 1) (fuel : Nat) (σ : Mem)   (z : Int32)  : ∀ (n : Nat) (x2 : Int32) (x3 : Int32) (x4 : Int32), f_X3_bestPair_8 fuel σ n x2 x3 x4 = some z → V P M (xW D cs ad ts) 7 (QI P M (xW D cs ad ts) z σ) 8 [(0, .ref (ad 62)), (1, .ref (ad 13)), (2, .int x2), (3, .int x3), (4, .int x4)] [] σ := by
  intro n
  induction n with
  | zero =>
    intro x2 x3 x4 hf
    cases hf
  | succ n hk8 =>
    intro x2 x3 x4 hf
    rw [f_X3_bestPair_8] at hf
    refine v_iload 4 hX dX3_bestPair_8 rfl ?_
    refine v_aload_n 1 1 hX dX3_bestPair_10 rfl rfl ?_
    refine v_get (C := RX1) (T := TX1) (N := 19) (ci := 1) (v := .int (σ 13 6)) 13 6 hX dX3_bestPair_11 mw_126 rfl inlX1 rfl (lt_b rfl) (lt_b rfl) rfl rfl ?_
    refine v_icmp_ge 77 hX dX3_bestPair_14 (by decide) (fun c => ?_) (fun c => ?_)
    · have hf := opt_t c hf
      refine v_iload_n 2 2 hX dX3_bestPair_77 rfl rfl ?_
      obtain rfl := Option.some.inj hf
      exact v_iret (r := x2) hX dX3_bestPair_78 rfl
    · have hf := opt_f c hf
      refine v_iload 4 hX dX3_bestPair_17 rfl ?_
      refine v_iconst 1 hX dX3_bestPair_19 (by decide) ?_
      refine v_iadd hX dX3_bestPair_20 ?_
      refine v_istore [(5, .int (x4 + 1)), (0, .ref (ad 62)), (1, .ref (ad 13)), (2, .int x2), (3, .int x3), (4, .int x4)] hX dX3_bestPair_21 (lt_b rfl) rfl ?_
      exact v_sub [1, 2, 3, 4, 5, 0] rfl (s_X3_bestPair_23 hX fuel σ (f_X3_bestPair_8 fuel σ n) z hk8 fuel x2 x3 x4 (x4 + 1) hf)
set_option maxHeartbeats 4000000 in
set_option maxRecDepth 100000 in
theorem c_X3_bestPair {l : Launch} {D : va_G} {cs : ClassId × ClassId × ClassId} {ad : Nat → Nat} {ts : Nat × Nat × Nat} (fuel : Nat) (σ : Mem)   {z : Int32} (hf : f_X3_bestPair fuel σ = some z) : CtI l (xW D cs ad ts) 1 yX3_bestPair cX3_bestPair 7 (some .int) [.ref (ad 62), .ref (ad 13)] σ z σ := by
  refine ct_I RX3 [(0, .ref (ad 62)), (1, .ref (ad 13))] (by decide +kernel) rfl rfl (Nat.le_of_ble_eq_true rfl) ?_
  intro P M hl0 hX
  unfold f_X3_bestPair at hf
  refine v_ldc (-1000000) hX dX3_bestPair_0 mw_623 ?_
  refine v_istore_n 2 [(2, .int (-1000000)), (0, .ref (ad 62)), (1, .ref (ad 13))] hX dX3_bestPair_2 rfl (lt_b rfl) rfl ?_
  refine v_iconst 0 hX dX3_bestPair_3 (by decide) ?_
  refine v_istore_n 3 [(3, .int 0), (2, .int (-1000000)), (0, .ref (ad 62)), (1, .ref (ad 13))] hX dX3_bestPair_4 rfl (lt_b rfl) rfl ?_
  refine v_iconst 0 hX dX3_bestPair_5 (by decide) ?_
  refine v_istore [(4, .int 0), (3, .int 0), (2, .int (-1000000)), (0, .ref (ad 62)), (1, .ref (ad 13))] hX dX3_bestPair_6 (lt_b rfl) rfl ?_
  exact v_sub [3, 4, 2, 1, 0] rfl (s_X3_bestPair_8 hX fuel σ z  fuel (-1000000) 0 0 hf)
set_option maxHeartbeats 4000000 in
set_option maxRecDepth 100000 in
theorem c_X3_safeFrom {l : Launch} {D : va_G} {cs : ClassId × ClassId × ClassId} {ad : Nat → Nat} {ts : Nat × Nat × Nat} (σ : Mem)  (x2 : Int32) {z : Int32} (hf : f_X3_safeFrom σ x2 = some z) : CtI l (xW D cs ad ts) 1 yX3_safeFrom cX3_safeFrom 4 (some .int) [.ref (ad 62), .ref (ad 13), .int x2] σ z σ := by
  refine ct_I RX3 [(0, .ref (ad 62)), (1, .ref (ad 13)), (2, .int x2)] (by decide +kernel) rfl rfl (Nat.le_of_ble_eq_true rfl) ?_
  intro P M hl0 hX
  unfold f_X3_safeFrom at hf
  refine v_aload_n 1 1 hX dX3_safeFrom_0 rfl rfl ?_
  refine v_get (C := RX1) (T := TX1) (N := 19) (ci := 1) (v := .ref (ad 17)) 13 12 hX dX3_safeFrom_1 mw_150 rfl inlX1 rfl (lt_b rfl) (lt_b rfl) rfl rfl ?_
  refine v_iload_n 2 2 hX dX3_safeFrom_4 rfl rfl ?_
  obtain ⟨hi1, hf⟩ := gd_some hf
  refine v_ald (v := σ 17 x2.toNatClampNeg) 17 hX dX3_safeFrom_5 (lt_b rfl) ((fun _ => rfl) _) hi1 rfl ?_
  refine v_istore_n 3 [(3, .int (σ 17 x2.toNatClampNeg)), (0, .ref (ad 62)), (1, .ref (ad 13)), (2, .int x2)] hX dX3_safeFrom_6 rfl (lt_b rfl) rfl ?_
  refine v_aload_n 2 1 hX dX3_safeFrom_7 rfl rfl ?_
  refine v_get (C := RX1) (T := TX1) (N := 19) (ci := 1) (v := .int (σ 13 5)) 13 5 hX dX3_safeFrom_8 mw_121 rfl inlX1 rfl (lt_b rfl) (lt_b rfl) rfl rfl ?_
  refine v_iload_n 3 2 hX dX3_safeFrom_11 rfl rfl ?_
  obtain ⟨v2, hc, hf⟩ := opt_b hf
  refine v_callNi (rest := []) (As := [.int (σ 13 5), .int x2]) hX dX3_safeFrom_12 (c_X6_bitOf σ (σ 13 5) x2 hc) rfl rfl mw_509 mw_57 (ex_RX3_45 hX) mw_510 gAll ds_X6_bitOf rfl ⟨Nat.le_of_ble_eq_true rfl, Nat.le_of_ble_eq_true rfl⟩ (Nat.le_of_ble_eq_true rfl) ?_
  refine v_iconst 1 hX dX3_safeFrom_15 (by decide) ?_
  refine v_icmp_eq 27 hX dX3_safeFrom_16 (by decide) (fun c => ?_) (fun c => ?_)
  · have hf := opt_t c hf
    refine v_ldc (-1000000) hX dX3_safeFrom_27 mw_623 ?_
    obtain rfl := Option.some.inj hf
    exact v_iret (r := (-1000000)) hX dX3_safeFrom_29 rfl
  · have hf := opt_f c hf
    refine v_aload_n 2 1 hX dX3_safeFrom_19 rfl rfl ?_
    refine v_iload_n 0 3 hX dX3_safeFrom_20 rfl rfl ?_
    obtain ⟨v3, hc, hf⟩ := opt_b hf
    refine v_callVi (rest := []) (As := [.int (σ 17 x2.toNatClampNeg)]) (C := RX1) (T := TX1) (N := 19) (ci := 1) 13 hX dX3_safeFrom_21 (c_X1_isDrunk σ (σ 17 x2.toNatClampNeg) hc) rfl rfl (lt_b rfl) rfl rfl rfl mw_537 mw_538 mw_59 mw_651 mw_539 gAll ds_X1_isDrunk rfl ⟨Nat.le_of_ble_eq_true rfl, Nat.le_of_ble_eq_true rfl⟩ (Nat.le_of_ble_eq_true rfl) ?_
    refine v_if_eq 30 hX dX3_safeFrom_24 (by decide) (fun c => ?_) (fun c => ?_)
    · have hf := opt_t c hf
      refine v_aload_n 2 1 hX dX3_safeFrom_30 rfl rfl ?_
      refine v_get (C := RX1) (T := TX1) (N := 19) (ci := 1) (v := .int (σ 13 3)) 13 3 hX dX3_safeFrom_31 mw_116 rfl inlX1 rfl (lt_b rfl) (lt_b rfl) rfl rfl ?_
      refine v_aload_n 2 1 hX dX3_safeFrom_34 rfl rfl ?_
      refine v_get (C := RX1) (T := TX1) (N := 19) (ci := 1) (v := .ref (ad 19)) 13 14 hX dX3_safeFrom_35 mw_156 rfl inlX1 rfl (lt_b rfl) (lt_b rfl) rfl rfl ?_
      refine v_iload_n 3 2 hX dX3_safeFrom_38 rfl rfl ?_
      obtain ⟨hi4, hf⟩ := gd_some hf
      refine v_ald (v := σ 19 x2.toNatClampNeg) 19 hX dX3_safeFrom_39 (lt_b rfl) ((fun _ => rfl) _) hi4 rfl ?_
      refine v_aload_n 2 1 hX dX3_safeFrom_40 rfl rfl ?_
      refine v_iload_n 0 3 hX dX3_safeFrom_41 rfl rfl ?_
      refine v_aload_n 2 1 hX dX3_safeFrom_42 rfl rfl ?_
      refine v_get (C := RX1) (T := TX1) (N := 19) (ci := 1) (v := .int (σ 13 1)) 13 1 hX dX3_safeFrom_43 mw_107 rfl inlX1 rfl (lt_b rfl) (lt_b rfl) rfl rfl ?_
      obtain ⟨v5, hc, hf⟩ := opt_b hf
      refine v_callVi (rest := [.int (σ 19 x2.toNatClampNeg), .int (σ 13 3)]) (As := [.int (σ 17 x2.toNatClampNeg), .int (σ 13 1)]) (C := RX1) (T := TX1) (N := 19) (ci := 1) 13 hX dX3_safeFrom_46 (c_X1_limitOf σ (σ 17 x2.toNatClampNeg) (σ 13 1) hc) rfl rfl (lt_b rfl) rfl rfl rfl mw_516 mw_517 mw_59 mw_652 mw_518 gAll ds_X1_limitOf rfl ⟨Nat.le_of_ble_eq_true rfl, Nat.le_of_ble_eq_true rfl⟩ (Nat.le_of_ble_eq_true rfl) ?_
      refine v_iadd hX dX3_safeFrom_49 ?_
      refine v_iconst 1 hX dX3_safeFrom_50 (by decide) ?_
      refine v_iadd hX dX3_safeFrom_51 ?_
      refine v_max (rest := []) hX dX3_safeFrom_52 mw_653 mw_654 mw_67 mw_655 (Nat.le_of_ble_eq_true rfl) (Nat.le_of_ble_eq_true rfl) ?_
      obtain rfl := Option.some.inj hf
      exact v_iret (r := jmax (σ 13 3) (((σ 19 x2.toNatClampNeg) + v5) + 1)) hX dX3_safeFrom_55 rfl
    · have hf := opt_f c hf
      refine v_ldc (-1000000) hX dX3_safeFrom_27 mw_623 ?_
      obtain rfl := Option.some.inj hf
      exact v_iret (r := (-1000000)) hX dX3_safeFrom_29 rfl
set_option maxHeartbeats 4000000 in
set_option maxRecDepth 100000 in
theorem s_X3_cheapestBeside_38 {P : PT} {M : MT} {D : va_G} {cs : ClassId × ClassId × ClassId} {ad : Nat → Nat} {ts : Nat × Nat × Nat} (hX : VOk P M (xW D cs ad ts) 6 cX3_cheapestBeside RX3 (some .int) 1) (fuel : Nat) (σ : Mem) (k6 : Int32 → Int32 → Int32 → Option (Int32))  (z : Int32) (hk6 : ∀ (x2 : Int32) (x3 : Int32) (x4 : Int32), k6 x2 x3 x4 = some z → V P M (xW D cs ad ts) 6 (QI P M (xW D cs ad ts) z σ) 6 [(1, .ref (ad 13)), (2, .int x2), (3, .int x3), (4, .int x4)] [] σ) (x2 : Int32) (x3 : Int32) (x4 : Int32) (y0 : Int32) (hf : f_X3_cheapestBeside_38 fuel σ k6 x2 x3 x4 y0 = some z) : V P M (xW D cs ad ts) 6 (QI P M (xW D cs ad ts) z σ) 38 [(1, .ref (ad 13)), (2, .int x2), (3, .int x3), (4, .int x4)] [.int y0] σ := by
  unfold f_X3_cheapestBeside_38 at hf
  refine v_istore [(5, .int y0), (1, .ref (ad 13)), (2, .int x2), (3, .int x3), (4, .int x4)] hX dX3_cheapestBeside_38 (lt_b rfl) rfl ?_
  refine v_iload 0 hX dX3_cheapestBeside_40 rfl ?_
  refine v_if_eq 70 hX dX3_cheapestBeside_42 (by decide) (fun c => ?_) (fun c => ?_)
  · have hf := opt_t c hf
    refine v_iinc 4 (x4 + 1) [(4, .int (x4 + 1)), (5, .int y0), (1, .ref (ad 13)), (2, .int x2), (3, .int x3)] hX dX3_cheapestBeside_70 rfl rfl (lt_b rfl) rfl ?_
    refine v_goto 6 hX dX3_cheapestBeside_73 (by decide) ?_
    exact v_sub [2, 3, 4, 0] rfl (hk6 x2 x3 (x4 + 1) hf)
  · have hf := opt_f c hf
    refine v_iload_n 3 3 hX dX3_cheapestBeside_45 rfl rfl ?_
    refine v_ldc (-1000000) hX dX3_cheapestBeside_46 mw_623 ?_
    refine v_icmp_eq 62 hX dX3_cheapestBeside_48 (by decide) (fun c => ?_) (fun c => ?_)
    · have hf := opt_t c hf
      refine v_aload_n 1 1 hX dX3_cheapestBeside_62 rfl rfl ?_
      refine v_get (C := RX1) (T := TX1) (N := 19) (ci := 1) (v := .ref (ad 15)) 13 10 hX dX3_cheapestBeside_63 mw_145 rfl inlX1 rfl (lt_b rfl) (lt_b rfl) rfl rfl ?_
      refine v_iload 4 hX dX3_cheapestBeside_66 rfl ?_
      obtain ⟨hi3, hf⟩ := gd_some hf
      refine v_ald (v := σ 15 x4.toNatClampNeg) 15 hX dX3_cheapestBeside_68 (lt_b rfl) ((fun _ => rfl) _) hi3 rfl ?_
      refine v_istore_n 3 [(3, .int (σ 15 x4.toNatClampNeg)), (5, .int y0), (1, .ref (ad 13)), (2, .int x2), (4, .int x4)] hX dX3_cheapestBeside_69 rfl (lt_b rfl) rfl ?_
      refine v_iinc 4 (x4 + 1) [(4, .int (x4 + 1)), (3, .int (σ 15 x4.toNatClampNeg)), (5, .int y0), (1, .ref (ad 13)), (2, .int x2)] hX dX3_cheapestBeside_70 rfl rfl (lt_b rfl) rfl ?_
      refine v_goto 6 hX dX3_cheapestBeside_73 (by decide) ?_
      exact v_sub [3, 4, 1, 0] rfl (hk6 x2 (σ 15 x4.toNatClampNeg) (x4 + 1) hf)
    · have hf := opt_f c hf
      refine v_aload_n 1 1 hX dX3_cheapestBeside_51 rfl rfl ?_
      refine v_get (C := RX1) (T := TX1) (N := 19) (ci := 1) (v := .ref (ad 15)) 13 10 hX dX3_cheapestBeside_52 mw_145 rfl inlX1 rfl (lt_b rfl) (lt_b rfl) rfl rfl ?_
      refine v_iload 4 hX dX3_cheapestBeside_55 rfl ?_
      obtain ⟨hi4, hf⟩ := gd_some hf
      refine v_ald (v := σ 15 x4.toNatClampNeg) 15 hX dX3_cheapestBeside_57 (lt_b rfl) ((fun _ => rfl) _) hi4 rfl ?_
      refine v_iload_n 3 3 hX dX3_cheapestBeside_58 rfl rfl ?_
      refine v_icmp_ge 70 hX dX3_cheapestBeside_59 (by decide) (fun c => ?_) (fun c => ?_)
      · have hf := opt_t c hf
        refine v_iinc 4 (x4 + 1) [(4, .int (x4 + 1)), (5, .int y0), (1, .ref (ad 13)), (2, .int x2), (3, .int x3)] hX dX3_cheapestBeside_70 rfl rfl (lt_b rfl) rfl ?_
        refine v_goto 6 hX dX3_cheapestBeside_73 (by decide) ?_
        exact v_sub [2, 3, 4, 0] rfl (hk6 x2 x3 (x4 + 1) hf)
      · have hf := opt_f c hf
        refine v_aload_n 1 1 hX dX3_cheapestBeside_62 rfl rfl ?_
        refine v_get (C := RX1) (T := TX1) (N := 19) (ci := 1) (v := .ref (ad 15)) 13 10 hX dX3_cheapestBeside_63 mw_145 rfl inlX1 rfl (lt_b rfl) (lt_b rfl) rfl rfl ?_
        refine v_iload 4 hX dX3_cheapestBeside_66 rfl ?_
        obtain ⟨hi5, hf⟩ := gd_some hf
        refine v_ald (v := σ 15 x4.toNatClampNeg) 15 hX dX3_cheapestBeside_68 (lt_b rfl) ((fun _ => rfl) _) hi5 rfl ?_
        refine v_istore_n 3 [(3, .int (σ 15 x4.toNatClampNeg)), (5, .int y0), (1, .ref (ad 13)), (2, .int x2), (4, .int x4)] hX dX3_cheapestBeside_69 rfl (lt_b rfl) rfl ?_
        refine v_iinc 4 (x4 + 1) [(4, .int (x4 + 1)), (3, .int (σ 15 x4.toNatClampNeg)), (5, .int y0), (1, .ref (ad 13)), (2, .int x2)] hX dX3_cheapestBeside_70 rfl rfl (lt_b rfl) rfl ?_
        refine v_goto 6 hX dX3_cheapestBeside_73 (by decide) ?_
        exact v_sub [3, 4, 1, 0] rfl (hk6 x2 (σ 15 x4.toNatClampNeg) (x4 + 1) hf)
set_option maxHeartbeats 4000000 in
set_option maxRecDepth 100000 in
theorem s_X3_cheapestBeside_6 {P : PT} {M : MT} {D : va_G} {cs : ClassId × ClassId × ClassId} {ad : Nat → Nat} {ts : Nat × Nat × Nat} (hX : VOk P M (xW D cs ad ts) 6 cX3_cheapestBeside RX3 (some .int) 1) (fuel : Nat) (σ : Mem)   (z : Int32)  : ∀ (n : Nat) (x2 : Int32) (x3 : Int32) (x4 : Int32), f_X3_cheapestBeside_6 fuel σ n x2 x3 x4 = some z → V P M (xW D cs ad ts) 6 (QI P M (xW D cs ad ts) z σ) 6 [(1, .ref (ad 13)), (2, .int x2), (3, .int x3), (4, .int x4)] [] σ := by
  intro n
  induction n with
  | zero =>
    intro x2 x3 x4 hf
    cases hf
  | succ n hk6 =>
    intro x2 x3 x4 hf
    rw [f_X3_cheapestBeside_6] at hf
    refine v_iload 3 hX dX3_cheapestBeside_6 rfl ?_
    refine v_aload_n 0 1 hX dX3_cheapestBeside_8 rfl rfl ?_
    refine v_get (C := RX1) (T := TX1) (N := 19) (ci := 1) (v := .int (σ 13 6)) 13 6 hX dX3_cheapestBeside_9 mw_126 rfl inlX1 rfl (lt_b rfl) (lt_b rfl) rfl rfl ?_
    refine v_icmp_ge 76 hX dX3_cheapestBeside_12 (by decide) (fun c => ?_) (fun c => ?_)
    · have hf := opt_t c hf
      refine v_iload_n 2 3 hX dX3_cheapestBeside_76 rfl rfl ?_
      obtain rfl := Option.some.inj hf
      exact v_iret (r := x3) hX dX3_cheapestBeside_77 rfl
    · have hf := opt_f c hf
      refine v_iload_n 1 2 hX dX3_cheapestBeside_15 rfl rfl ?_
      refine v_iload 3 hX dX3_cheapestBeside_16 rfl ?_
      obtain ⟨v1, hc, hf⟩ := opt_b hf
      refine v_callNi (rest := []) (As := [.int x2, .int x4]) hX dX3_cheapestBeside_18 (c_X6_bitOf σ x2 x4 hc) rfl rfl mw_509 mw_57 (ex_RX3_45 hX) mw_510 gAll ds_X6_bitOf rfl ⟨Nat.le_of_ble_eq_true rfl, Nat.le_of_ble_eq_true rfl⟩ (Nat.le_of_ble_eq_true rfl) ?_
      refine v_if_ne 37 hX dX3_cheapestBeside_21 (by decide) (fun c => ?_) (fun c => ?_)
      · have hf := opt_f c hf
        refine v_iconst 0 hX dX3_cheapestBeside_37 (by decide) ?_
        exact (s_X3_cheapestBeside_38 hX fuel σ (f_X3_cheapestBeside_6 fuel σ n) z hk6 x2 x3 x4 0 hf)
      · have hf := opt_t c hf
        refine v_aload_n 0 1 hX dX3_cheapestBeside_24 rfl rfl ?_
        refine v_iload 3 hX dX3_cheapestBeside_25 rfl ?_
        obtain ⟨v2, hc, hf⟩ := opt_b hf
        refine v_callVi (rest := []) (As := [.int x4]) (C := RX1) (T := TX1) (N := 19) (ci := 1) 13 hX dX3_cheapestBeside_27 (c_X1_isDrunk σ x4 hc) rfl rfl (lt_b rfl) rfl rfl rfl mw_537 mw_538 mw_59 mw_651 mw_539 gAll ds_X1_isDrunk rfl ⟨Nat.le_of_ble_eq_true rfl, Nat.le_of_ble_eq_true rfl⟩ (Nat.le_of_ble_eq_true rfl) ?_
        refine v_if_ne 37 hX dX3_cheapestBeside_30 (by decide) (fun c => ?_) (fun c => ?_)
        · have hf := opt_f c hf
          refine v_iconst 0 hX dX3_cheapestBeside_37 (by decide) ?_
          exact (s_X3_cheapestBeside_38 hX fuel σ (f_X3_cheapestBeside_6 fuel σ n) z hk6 x2 x3 x4 0 hf)
        · have hf := opt_t c hf
          refine v_iconst 1 hX dX3_cheapestBeside_33 (by decide) ?_
          refine v_goto 38 hX dX3_cheapestBeside_34 (by decide) ?_
          exact (s_X3_cheapestBeside_38 hX fuel σ (f_X3_cheapestBeside_6 fuel σ n) z hk6 x2 x3 x4 1 hf)
set_option maxHeartbeats 4000000 in
set_option maxRecDepth 100000 in
theorem c_X3_cheapestBeside {l : Launch} {D : va_G} {cs : ClassId × ClassId × ClassId} {ad : Nat → Nat} {ts : Nat × Nat × Nat} (fuel : Nat) (σ : Mem)  (x2 : Int32) {z : Int32} (hf : f_X3_cheapestBeside fuel σ x2 = some z) : CtI l (xW D cs ad ts) 1 yX3_cheapestBeside cX3_cheapestBeside 6 (some .int) [.ref (ad 62), .ref (ad 13), .int x2] σ z σ := by
  refine ct_I RX3 [(0, .ref (ad 62)), (1, .ref (ad 13)), (2, .int x2)] (by decide +kernel) rfl rfl (Nat.le_of_ble_eq_true rfl) ?_
  intro P M hl0 hX
  unfold f_X3_cheapestBeside at hf
  refine v_ldc (-1000000) hX dX3_cheapestBeside_0 mw_623 ?_
  refine v_istore_n 3 [(3, .int (-1000000)), (0, .ref (ad 62)), (1, .ref (ad 13)), (2, .int x2)] hX dX3_cheapestBeside_2 rfl (lt_b rfl) rfl ?_
  refine v_iconst 0 hX dX3_cheapestBeside_3 (by decide) ?_
  refine v_istore [(4, .int 0), (3, .int (-1000000)), (0, .ref (ad 62)), (1, .ref (ad 13)), (2, .int x2)] hX dX3_cheapestBeside_4 (lt_b rfl) rfl ?_
  exact v_sub [3, 4, 1, 0] rfl (s_X3_cheapestBeside_6 hX fuel σ z  fuel x2 (-1000000) 0 hf)
set_option maxHeartbeats 4000000 in
set_option maxRecDepth 100000 in
theorem s_X3_sumOfOrder_8 {P : PT} {M : MT} {D : va_G} {cs : ClassId × ClassId × ClassId} {ad : Nat → Nat} {ts : Nat × Nat × Nat} (hX : VOk P M (xW D cs ad ts) 7 cX3_sumOfOrder RX3 (some .int) 1) (fuel : Nat) (σ : Mem)   (z : Int32)  : ∀ (n : Nat) (x2 : Int32) (x3 : Int32) (x4 : Int32) (x5 : Int32), f_X3_sumOfOrder_8 fuel σ n x2 x3 x4 x5 = some z → V P M (xW D cs ad ts) 7 (QI P M (xW D cs ad ts) z σ) 8 [(0, .ref (ad 62)), (1, .ref (ad 13)), (2, .int x2), (3, .int x3), (4, .int x4), (5, .int x5)] [] σ := by
  intro n
  induction n with
  | zero =>
    intro x2 x3 x4 x5 hf
    cases hf
  | succ n hk8 =>
    intro x2 x3 x4 x5 hf
    rw [f_X3_sumOfOrder_8] at hf
    refine v_iload 5 hX dX3_sumOfOrder_8 rfl ?_
    refine v_aload_n 1 1 hX dX3_sumOfOrder_10 rfl rfl ?_
    refine v_get (C := RX1) (T := TX1) (N := 19) (ci := 1) (v := .int (σ 13 6)) 13 6 hX dX3_sumOfOrder_11 mw_126 rfl inlX1 rfl (lt_b rfl) (lt_b rfl) rfl rfl ?_
    refine v_icmp_ge 72 hX dX3_sumOfOrder_14 (by decide) (fun c => ?_) (fun c => ?_)
    · have hf := opt_t c hf
      refine v_iload 4 hX dX3_sumOfOrder_72 rfl ?_
      obtain rfl := Option.some.inj hf
      exact v_iret (r := x4) hX dX3_sumOfOrder_74 rfl
    · have hf := opt_f c hf
      refine v_aload_n 0 0 hX dX3_sumOfOrder_17 rfl rfl ?_
      refine v_aload_n 1 1 hX dX3_sumOfOrder_18 rfl rfl ?_
      refine v_iload_n 2 2 hX dX3_sumOfOrder_19 rfl rfl ?_
      refine v_iload 5 hX dX3_sumOfOrder_20 rfl ?_
      obtain ⟨v1, hc, hf⟩ := opt_b hf
      refine v_callVi (rest := []) (As := [.ref (ad 13), .int x2, .int x5]) (C := RX3) (T := TX3) (N := 3) (ci := 3) 62 hX dX3_sumOfOrder_22 (c_X3_handInOrder σ x2 x5 hc) rfl rfl (lt_b rfl) rfl rfl rfl mw_701 mw_702 mw_62 mw_700 mw_703 gAll ds_X3_handInOrder rfl ⟨Nat.le_of_ble_eq_true rfl, Nat.le_of_ble_eq_true rfl⟩ (Nat.le_of_ble_eq_true rfl) ?_
      refine v_istore [(6, .int v1), (0, .ref (ad 62)), (1, .ref (ad 13)), (2, .int x2), (3, .int x3), (4, .int x4), (5, .int x5)] hX dX3_sumOfOrder_25 (lt_b rfl) rfl ?_
      refine v_iload 0 hX dX3_sumOfOrder_27 rfl ?_
      refine v_aload_n 2 1 hX dX3_sumOfOrder_29 rfl rfl ?_
      refine v_get (C := RX1) (T := TX1) (N := 19) (ci := 1) (v := .int (σ 13 6)) 13 6 hX dX3_sumOfOrder_30 mw_126 rfl inlX1 rfl (lt_b rfl) (lt_b rfl) rfl rfl ?_
      refine v_icmp_ge 46 hX dX3_sumOfOrder_33 (by decide) (fun c => ?_) (fun c => ?_)
      · have hf := opt_t c hf
        refine v_iconst (-1) hX dX3_sumOfOrder_46 (by decide) ?_
        obtain rfl := Option.some.inj hf
        exact v_iret (r := (-1)) hX dX3_sumOfOrder_47 rfl
      · have hf := opt_f c hf
        refine v_iload_n 4 3 hX dX3_sumOfOrder_36 rfl rfl ?_
        refine v_iload 0 hX dX3_sumOfOrder_37 rfl ?_
        obtain ⟨v2, hc, hf⟩ := opt_b hf
        refine v_callNi (rest := []) (As := [.int x3, .int v1]) hX dX3_sumOfOrder_39 (c_X6_bitOf σ x3 v1 hc) rfl rfl mw_509 mw_57 (ex_RX3_45 hX) mw_510 gAll ds_X6_bitOf rfl ⟨Nat.le_of_ble_eq_true rfl, Nat.le_of_ble_eq_true rfl⟩ (Nat.le_of_ble_eq_true rfl) ?_
        refine v_iconst 1 hX dX3_sumOfOrder_42 (by decide) ?_
        refine v_icmp_ne 48 hX dX3_sumOfOrder_43 (by decide) (fun c => ?_) (fun c => ?_)
        · have hf := opt_f c hf
          refine v_iload_n 4 3 hX dX3_sumOfOrder_48 rfl rfl ?_
          refine v_iconst 1 hX dX3_sumOfOrder_49 (by decide) ?_
          refine v_iload 0 hX dX3_sumOfOrder_50 rfl ?_
          refine v_ishl hX dX3_sumOfOrder_52 ?_
          refine v_ior hX dX3_sumOfOrder_53 ?_
          refine v_istore_n 3 [(3, .int (x3 ||| (1 <<< (v1 &&& 31)))), (6, .int v1), (0, .ref (ad 62)), (1, .ref (ad 13)), (2, .int x2), (4, .int x4), (5, .int x5)] hX dX3_sumOfOrder_54 rfl (lt_b rfl) rfl ?_
          refine v_iload 5 hX dX3_sumOfOrder_55 rfl ?_
          refine v_aload_n 2 0 hX dX3_sumOfOrder_57 rfl rfl ?_
          refine v_get (C := RX3) (T := TX3) (N := 3) (ci := 3) (v := .ref (ad 63)) 62 0 hX dX3_sumOfOrder_58 mw_257 rfl inlX3 rfl (lt_b rfl) (lt_b rfl) rfl rfl ?_
          refine v_iload_n 0 3 hX dX3_sumOfOrder_61 rfl rfl ?_
          obtain ⟨hi3, hf⟩ := gd_some hf
          refine v_ald (v := σ 63 ((x3 ||| (1 <<< (v1 &&& 31))).toNatClampNeg)) 63 hX dX3_sumOfOrder_62 (lt_b rfl) ((fun _ => rfl) _) hi3 rfl ?_
          refine v_iadd hX dX3_sumOfOrder_63 ?_
          refine v_istore [(4, .int (x4 + (σ 63 ((x3 ||| (1 <<< (v1 &&& 31))).toNatClampNeg)))), (3, .int (x3 ||| (1 <<< (v1 &&& 31)))), (6, .int v1), (0, .ref (ad 62)), (1, .ref (ad 13)), (2, .int x2), (5, .int x5)] hX dX3_sumOfOrder_64 (lt_b rfl) rfl ?_
          refine v_iinc 6 (x5 + 1) [(5, .int (x5 + 1)), (4, .int (x4 + (σ 63 ((x3 ||| (1 <<< (v1 &&& 31))).toNatClampNeg)))), (3, .int (x3 ||| (1 <<< (v1 &&& 31)))), (6, .int v1), (0, .ref (ad 62)), (1, .ref (ad 13)), (2, .int x2)] hX dX3_sumOfOrder_66 rfl rfl (lt_b rfl) rfl ?_
          refine v_goto 8 hX dX3_sumOfOrder_69 (by decide) ?_
          exact v_sub [4, 5, 6, 2, 1, 0] rfl (hk8 x2 (x3 ||| (1 <<< (v1 &&& 31))) (x4 + (σ 63 ((x3 ||| (1 <<< (v1 &&& 31))).toNatClampNeg))) (x5 + 1) hf)
        · have hf := opt_t c hf
          refine v_iconst (-1) hX dX3_sumOfOrder_46 (by decide) ?_
          obtain rfl := Option.some.inj hf
          exact v_iret (r := (-1)) hX dX3_sumOfOrder_47 rfl
set_option maxHeartbeats 4000000 in
set_option maxRecDepth 100000 in
theorem c_X3_sumOfOrder {l : Launch} {D : va_G} {cs : ClassId × ClassId × ClassId} {ad : Nat → Nat} {ts : Nat × Nat × Nat} (fuel : Nat) (σ : Mem)  (x2 : Int32) {z : Int32} (hf : f_X3_sumOfOrder fuel σ x2 = some z) : CtI l (xW D cs ad ts) 1 yX3_sumOfOrder cX3_sumOfOrder 7 (some .int) [.ref (ad 62), .ref (ad 13), .int x2] σ z σ := by
  refine ct_I RX3 [(0, .ref (ad 62)), (1, .ref (ad 13)), (2, .int x2)] (by decide +kernel) rfl rfl (Nat.le_of_ble_eq_true rfl) ?_
  intro P M hl0 hX
  unfold f_X3_sumOfOrder at hf
  refine v_iconst 0 hX dX3_sumOfOrder_0 (by decide) ?_
  refine v_istore_n 3 [(3, .int 0), (0, .ref (ad 62)), (1, .ref (ad 13)), (2, .int x2)] hX dX3_sumOfOrder_1 rfl (lt_b rfl) rfl ?_
  refine v_iconst 0 hX dX3_sumOfOrder_2 (by decide) ?_
  refine v_istore [(4, .int 0), (3, .int 0), (0, .ref (ad 62)), (1, .ref (ad 13)), (2, .int x2)] hX dX3_sumOfOrder_3 (lt_b rfl) rfl ?_
  refine v_iconst 0 hX dX3_sumOfOrder_5 (by decide) ?_
  refine v_istore [(5, .int 0), (4, .int 0), (3, .int 0), (0, .ref (ad 62)), (1, .ref (ad 13)), (2, .int x2)] hX dX3_sumOfOrder_6 (lt_b rfl) rfl ?_
  exact v_sub [3, 4, 5, 2, 1, 0] rfl (s_X3_sumOfOrder_8 hX fuel σ z  fuel x2 0 0 0 hf)
set_option maxHeartbeats 4000000 in
set_option maxRecDepth 100000 in
theorem c_X2_askAnew {l : Launch} {D : va_G} {cs : ClassId × ClassId × ClassId} {ad : Nat → Nat} {ts : Nat × Nat × Nat} (σ : Mem) (fuel : Nat) (rb : Mem → Int32 → Int32 → Int32 → Option (Int32 × Mem)) (dr : Nat) (hrb : ∀ (l : Launch) (σ : Mem) (a b c : Int32) (z : Int32 × Mem), rb σ a b c = some z → CtI l (xW D cs ad ts) dr yX2_runBody cX2_runBody 6 (some .int) [.ref (ad 66), .ref (ad 13), .int a, .int b, .int c] σ z.1 z.2) (x2 : Int32) (x3 : Int32) (x4 : Int32) {z : Int32 × Mem} (hf : f_X2_askAnew fuel rb σ x2 x3 x4 = some z) : CtI l (xW D cs ad ts) (dr + 2) yX2_askAnew cX2_askAnew 6 (some .int) [.ref (ad 66), .ref (ad 13), .int x2, .int x3, .int x4] σ z.1 z.2 := by
  refine ct_I RX2 [(0, .ref (ad 66)), (1, .ref (ad 13)), (2, .int x2), (3, .int x3), (4, .int x4)] (by decide +kernel) rfl rfl (Nat.le_of_ble_eq_true rfl) ?_
  intro P M hl0 hX
  unfold f_X2_askAnew at hf
  refine v_iload_n 3 3 hX dX2_askAnew_0 rfl rfl ?_
  refine v_if_ne 10 hX dX2_askAnew_1 (by decide) (fun c => ?_) (fun c => ?_)
  · have hf := opt_f c hf
    refine v_gets_tbM hX dX2_askAnew_10 mw_793 ?_
    refine v_astore [(5, .ref (ts_tbM ts)), (0, .ref (ad 66)), (1, .ref (ad 13)), (2, .int x2), (3, .int x3), (4, .int x4)] hX dX2_askAnew_13 (lt_b rfl) rfl ?_
    refine v_aload_n 1 0 hX dX2_askAnew_15 rfl rfl ?_
    refine v_aload_n 2 1 hX dX2_askAnew_16 rfl rfl ?_
    refine v_aload 0 hX dX2_askAnew_17 rfl ?_
    refine v_aload_n 2 1 hX dX2_askAnew_19 rfl rfl ?_
    refine v_get (C := RX1) (T := TX1) (N := 19) (ci := 1) (v := .ref (ad 14)) 13 9 hX dX2_askAnew_20 mw_139 rfl inlX1 rfl (lt_b rfl) (lt_b rfl) rfl rfl ?_
    refine v_iload_n 3 2 hX dX2_askAnew_23 rfl rfl ?_
    obtain ⟨hi1, hf⟩ := gd_some hf
    refine v_ald (v := σ 14 x2.toNatClampNeg) 14 hX dX2_askAnew_24 (lt_b rfl) ((fun _ => rfl) _) hi1 rfl ?_
    obtain ⟨v2, hc, hf⟩ := opt_b hf
    refine v_callSi (rest := [.ref (ad 13), .ref (ad 66)]) (As := [.ref (ts_tbM ts), .int (σ 14 x2.toNatClampNeg)]) hX dX2_askAnew_25 (c_X2_nearest_M fuel σ (σ 14 x2.toNatClampNeg) hc) rfl rfl mw_796 mw_63 mw_795 mw_797 gAll ds_X2_nearest rfl ⟨by omega, Nat.le_of_ble_eq_true rfl⟩ (Nat.le_of_ble_eq_true rfl) ?_
    refine v_iload_n 3 2 hX dX2_askAnew_28 rfl rfl ?_
    refine v_iload 5 hX dX2_askAnew_29 rfl ?_
    obtain ⟨v3, hc, hf⟩ := opt_b hf
    refine v_callVi (rest := []) (As := [.ref (ad 13), .int v2, .int x2, .int x4]) (C := RX2) (T := TX2) (N := 2) (ci := 2) 66 hX dX2_askAnew_31 (hrb _ σ v2 x2 x4 v3 hc) rfl rfl (lt_b rfl) rfl rfl rfl mw_800 mw_25 mw_63 mw_798 mw_801 gAll ds_X2_runBody rfl ⟨by omega, Nat.le_of_ble_eq_true rfl⟩ (Nat.le_of_ble_eq_true rfl) ?_
    obtain rfl := Option.some.inj hf
    exact v_iret (r := v3.1) hX dX2_askAnew_34 rfl
  · have hf := opt_t c hf
    refine v_gets_tbS hX dX2_askAnew_4 mw_791 ?_
    refine v_goto 13 hX dX2_askAnew_7 (by decide) ?_
    refine v_astore [(5, .ref (ts_tbS ts)), (0, .ref (ad 66)), (1, .ref (ad 13)), (2, .int x2), (3, .int x3), (4, .int x4)] hX dX2_askAnew_13 (lt_b rfl) rfl ?_
    refine v_aload_n 1 0 hX dX2_askAnew_15 rfl rfl ?_
    refine v_aload_n 2 1 hX dX2_askAnew_16 rfl rfl ?_
    refine v_aload 0 hX dX2_askAnew_17 rfl ?_
    refine v_aload_n 2 1 hX dX2_askAnew_19 rfl rfl ?_
    refine v_get (C := RX1) (T := TX1) (N := 19) (ci := 1) (v := .ref (ad 14)) 13 9 hX dX2_askAnew_20 mw_139 rfl inlX1 rfl (lt_b rfl) (lt_b rfl) rfl rfl ?_
    refine v_iload_n 3 2 hX dX2_askAnew_23 rfl rfl ?_
    obtain ⟨hi4, hf⟩ := gd_some hf
    refine v_ald (v := σ 14 x2.toNatClampNeg) 14 hX dX2_askAnew_24 (lt_b rfl) ((fun _ => rfl) _) hi4 rfl ?_
    obtain ⟨v5, hc, hf⟩ := opt_b hf
    refine v_callSi (rest := [.ref (ad 13), .ref (ad 66)]) (As := [.ref (ts_tbS ts), .int (σ 14 x2.toNatClampNeg)]) hX dX2_askAnew_25 (c_X2_nearest_S fuel σ (σ 14 x2.toNatClampNeg) hc) rfl rfl mw_796 mw_63 mw_795 mw_797 gAll ds_X2_nearest rfl ⟨by omega, Nat.le_of_ble_eq_true rfl⟩ (Nat.le_of_ble_eq_true rfl) ?_
    refine v_iload_n 3 2 hX dX2_askAnew_28 rfl rfl ?_
    refine v_iload 5 hX dX2_askAnew_29 rfl ?_
    obtain ⟨v6, hc, hf⟩ := opt_b hf
    refine v_callVi (rest := []) (As := [.ref (ad 13), .int v5, .int x2, .int x4]) (C := RX2) (T := TX2) (N := 2) (ci := 2) 66 hX dX2_askAnew_31 (hrb _ σ v5 x2 x4 v6 hc) rfl rfl (lt_b rfl) rfl rfl rfl mw_800 mw_25 mw_63 mw_798 mw_801 gAll ds_X2_runBody rfl ⟨by omega, Nat.le_of_ble_eq_true rfl⟩ (Nat.le_of_ble_eq_true rfl) ?_
    obtain rfl := Option.some.inj hf
    exact v_iret (r := v6.1) hX dX2_askAnew_34 rfl
set_option maxHeartbeats 4000000 in
set_option maxRecDepth 100000 in
theorem c_X6_feed {l : Launch} {D : va_G} {cs : ClassId × ClassId × ClassId} {ad : Nat → Nat} {ts : Nat × Nat × Nat} (σ : Mem)   (x1 : Int32) {z : Int32 × Mem} (hf : f_X6_feed σ x1 = some z) : CtI l (xW D cs ad ts) 1 yX6_feed cX6_feed 2 (some .int) [.ref (ad 0), .int x1] σ z.1 z.2 := by
  refine ct_I RX6 [(0, .ref (ad 0)), (1, .int x1)] (by decide +kernel) rfl rfl (Nat.le_of_ble_eq_true rfl) ?_
  intro P M hl0 hX
  unfold f_X6_feed at hf
  refine v_iload_n 1 1 hX dX6_feed_0 rfl rfl ?_
  refine v_if_lt 11 hX dX6_feed_1 (by decide) (fun c => ?_) (fun c => ?_)
  · have hf := opt_t c hf
    refine v_ldc (-1000001) hX dX6_feed_11 mw_323 ?_
    obtain rfl := Option.some.inj hf
    exact v_iret (r := (-1000001)) hX dX6_feed_13 rfl
  · have hf := opt_f c hf
    refine v_iload_n 1 1 hX dX6_feed_4 rfl rfl ?_
    refine v_sipush 255 hX dX6_feed_5 (by decide) ?_
    refine v_icmp_le 14 hX dX6_feed_8 (by decide) (fun c => ?_) (fun c => ?_)
    · have hf := opt_t c hf
      refine v_aload_n 0 0 hX dX6_feed_14 rfl rfl ?_
      refine v_get (C := RX6) (T := TX6) (N := 10) (ci := 6) (v := .ref (ad 46)) 0 4 hX dX6_feed_15 mw_286 rfl inlX6 rfl (lt_b rfl) (lt_b rfl) rfl rfl ?_
      refine v_get (C := RX4) (T := TX4) (N := 5) (ci := 4) (v := .int (σ 46 2)) 46 2 hX dX6_feed_18 mw_218 rfl inlX4 rfl (lt_b rfl) (lt_b rfl) rfl rfl ?_
      refine v_sipush 140 hX dX6_feed_21 (by decide) ?_
      refine v_icmp_lt 30 hX dX6_feed_24 (by decide) (fun c => ?_) (fun c => ?_)
      · have hf := opt_t c hf
        refine v_aload_n 0 0 hX dX6_feed_30 rfl rfl ?_
        refine v_get (C := RX6) (T := TX6) (N := 10) (ci := 6) (v := .ref (ad 46)) 0 4 hX dX6_feed_31 mw_286 rfl inlX6 rfl (lt_b rfl) (lt_b rfl) rfl rfl ?_
        refine v_iload_n 1 1 hX dX6_feed_34 rfl rfl ?_
        obtain ⟨v1, hc, hf⟩ := opt_b hf
        refine v_callVi (rest := []) (As := [.int x1]) (C := RX4) (T := TX4) (N := 5) (ci := 4) 46 hX dX6_feed_35 (c_X4_append σ x1 hc) rfl rfl (lt_b rfl) rfl rfl rfl mw_373 mw_374 mw_60 mw_372 mw_375 gAll ds_X4_append rfl ⟨Nat.le_of_ble_eq_true rfl, Nat.le_of_ble_eq_true rfl⟩ (Nat.le_of_ble_eq_true rfl) ?_
        obtain rfl := Option.some.inj hf
        exact v_iret (r := v1.1) hX dX6_feed_38 rfl
      · have hf := opt_f c hf
        refine v_ldc (-1000003) hX dX6_feed_27 mw_371 ?_
        obtain rfl := Option.some.inj hf
        exact v_iret (r := (-1000003)) hX dX6_feed_29 rfl
    · have hf := opt_f c hf
      refine v_ldc (-1000001) hX dX6_feed_11 mw_323 ?_
      obtain rfl := Option.some.inj hf
      exact v_iret (r := (-1000001)) hX dX6_feed_13 rfl
set_option maxHeartbeats 4000000 in
set_option maxRecDepth 100000 in
theorem c_X6_undo {l : Launch} {D : va_G} {cs : ClassId × ClassId × ClassId} {ad : Nat → Nat} {ts : Nat × Nat × Nat} (σ : Mem)    {z : Int32 × Mem} (hf : f_X6_undo σ = some z) : CtI l (xW D cs ad ts) 1 yX6_undo cX6_undo 1 (some .int) [.ref (ad 0)] σ z.1 z.2 := by
  refine ct_I RX6 [(0, .ref (ad 0))] (by decide +kernel) rfl rfl (Nat.le_of_ble_eq_true rfl) ?_
  intro P M hl0 hX
  unfold f_X6_undo at hf
  refine v_aload_n 0 0 hX dX6_undo_0 rfl rfl ?_
  refine v_get (C := RX6) (T := TX6) (N := 10) (ci := 6) (v := .ref (ad 59)) 0 5 hX dX6_undo_1 mw_287 rfl inlX6 rfl (lt_b rfl) (lt_b rfl) rfl rfl ?_
  refine v_get (C := RX0) (T := TX0) (N := 3) (ci := 0) (v := .int (σ 59 2)) 59 2 hX dX6_undo_4 mw_243 rfl inlX0 rfl (lt_b rfl) (lt_b rfl) rfl rfl ?_
  refine v_if_gt 13 hX dX6_undo_7 (by decide) (fun c => ?_) (fun c => ?_)
  · have hf := opt_t c hf
    refine v_aload_n 0 0 hX dX6_undo_13 rfl rfl ?_
    refine v_get (C := RX6) (T := TX6) (N := 10) (ci := 6) (v := .ref (ad 59)) 0 5 hX dX6_undo_14 mw_287 rfl inlX6 rfl (lt_b rfl) (lt_b rfl) rfl rfl ?_
    refine v_aload_n 0 0 hX dX6_undo_17 rfl rfl ?_
    refine v_get (C := RX6) (T := TX6) (N := 10) (ci := 6) (v := .ref (ad 13)) 0 1 hX dX6_undo_18 mw_283 rfl inlX6 rfl (lt_b rfl) (lt_b rfl) rfl rfl ?_
    obtain ⟨v1, hc, hf⟩ := opt_b hf
    refine v_callVv (rest := []) (As := [.ref (ad 13)]) (C := RX0) (T := TX0) (N := 3) (ci := 0) 59 hX dX6_undo_21 (c_X0_undoLatest σ hc) rfl rfl (lt_b rfl) rfl rfl rfl mw_475 mw_476 mw_61 mw_474 mw_477 gAll ds_X0_undoLatest rfl ⟨Nat.le_of_ble_eq_true rfl, Nat.le_of_ble_eq_true rfl⟩ (Nat.le_of_ble_eq_true rfl) ?_
    refine v_aload_n 0 0 hX dX6_undo_24 rfl rfl ?_
    refine v_get (C := RX6) (T := TX6) (N := 10) (ci := 6) (v := .ref (ad 59)) 0 5 hX dX6_undo_25 mw_287 rfl inlX6 rfl (lt_b rfl) (lt_b rfl) rfl rfl ?_
    refine v_get (C := RX0) (T := TX0) (N := 3) (ci := 0) (v := .int (v1 59 2)) 59 2 hX dX6_undo_28 mw_243 rfl inlX0 rfl (lt_b rfl) (lt_b rfl) rfl rfl ?_
    obtain rfl := Option.some.inj hf
    exact v_iret (r := v1 59 2) hX dX6_undo_31 rfl
  · have hf := opt_f c hf
    refine v_ldc (-1000002) hX dX6_undo_10 mw_473 ?_
    obtain rfl := Option.some.inj hf
    exact v_iret (r := (-1000002)) hX dX6_undo_12 rfl
set_option maxHeartbeats 4000000 in
set_option maxRecDepth 100000 in
theorem c_X6_trace {l : Launch} {D : va_G} {cs : ClassId × ClassId × ClassId} {ad : Nat → Nat} {ts : Nat × Nat × Nat} (σ : Mem)  (x1 : Int32) {z : Int32} (hf : f_X6_trace σ x1 = some z) : CtI l (xW D cs ad ts) 1 yX6_trace cX6_trace 2 (some .int) [.ref (ad 0), .int x1] σ z σ := by
  refine ct_I RX6 [(0, .ref (ad 0)), (1, .int x1)] (by decide +kernel) rfl rfl (Nat.le_of_ble_eq_true rfl) ?_
  intro P M hl0 hX
  unfold f_X6_trace at hf
  refine v_iload_n 1 1 hX dX6_trace_0 rfl rfl ?_
  refine v_aload_n 0 0 hX dX6_trace_1 rfl rfl ?_
  refine v_get (C := RX6) (T := TX6) (N := 10) (ci := 6) (v := .ref (ad 66)) 0 7 hX dX6_trace_2 mw_289 rfl inlX6 rfl (lt_b rfl) (lt_b rfl) rfl rfl ?_
  refine v_get (C := RX2) (T := TX2) (N := 2) (ci := 2) (v := .int (σ 66 1)) 66 1 hX dX6_trace_5 mw_276 rfl inlX2 rfl (lt_b rfl) (lt_b rfl) rfl rfl ?_
  obtain ⟨v1, hc, hf⟩ := opt_b hf
  refine v_callSi (rest := []) (As := [.int x1, .int (σ 66 1)]) hX dX6_trace_8 (c_X6_isBelow σ x1 (σ 66 1) hc) rfl rfl mw_321 mw_57 mw_320 mw_322 gAll ds_X6_isBelow rfl ⟨Nat.le_of_ble_eq_true rfl, Nat.le_of_ble_eq_true rfl⟩ (Nat.le_of_ble_eq_true rfl) ?_
  refine v_if_eq 26 hX dX6_trace_11 (by decide) (fun c => ?_) (fun c => ?_)
  · have hf := opt_t c hf
    refine v_ldc (-1000000) hX dX6_trace_26 mw_570 ?_
    obtain rfl := Option.some.inj hf
    exact v_iret (r := (-1000000)) hX dX6_trace_28 rfl
  · have hf := opt_f c hf
    refine v_aload_n 0 0 hX dX6_trace_14 rfl rfl ?_
    refine v_get (C := RX6) (T := TX6) (N := 10) (ci := 6) (v := .ref (ad 66)) 0 7 hX dX6_trace_15 mw_289 rfl inlX6 rfl (lt_b rfl) (lt_b rfl) rfl rfl ?_
    refine v_get (C := RX2) (T := TX2) (N := 2) (ci := 2) (v := .ref (ad 67)) 66 0 hX dX6_trace_18 mw_274 rfl inlX2 rfl (lt_b rfl) (lt_b rfl) rfl rfl ?_
    refine v_iload_n 1 1 hX dX6_trace_21 rfl rfl ?_
    obtain ⟨hi2, hf⟩ := gd_some hf
    refine v_ald (v := σ 67 x1.toNatClampNeg) 67 hX dX6_trace_22 (lt_b rfl) ((fun _ => rfl) _) hi2 rfl ?_
    refine v_goto 28 hX dX6_trace_23 (by decide) ?_
    obtain rfl := Option.some.inj hf
    exact v_iret (r := σ 67 x1.toNatClampNeg) hX dX6_trace_28 rfl
set_option maxHeartbeats 4000000 in
set_option maxRecDepth 100000 in
theorem c_X6_isHand {l : Launch} {D : va_G} {cs : ClassId × ClassId × ClassId} {ad : Nat → Nat} {ts : Nat × Nat × Nat} (σ : Mem)  (x1 : Int32) {z : Int32} (hf : f_X6_isHand σ x1 = some z) : CtI l (xW D cs ad ts) 1 yX6_isHand cX6_isHand 2 (some .boolean) [.ref (ad 0), .int x1] σ z σ := by
  refine ct_I RX6 [(0, .ref (ad 0)), (1, .int x1)] (by decide +kernel) rfl rfl (Nat.le_of_ble_eq_true rfl) ?_
  intro P M hl0 hX
  unfold f_X6_isHand at hf
  refine v_iload_n 1 1 hX dX6_isHand_0 rfl rfl ?_
  refine v_aload_n 0 0 hX dX6_isHand_1 rfl rfl ?_
  refine v_get (C := RX6) (T := TX6) (N := 10) (ci := 6) (v := .ref (ad 13)) 0 1 hX dX6_isHand_2 mw_283 rfl inlX6 rfl (lt_b rfl) (lt_b rfl) rfl rfl ?_
  refine v_get (C := RX1) (T := TX1) (N := 19) (ci := 1) (v := .int (σ 13 6)) 13 6 hX dX6_isHand_5 mw_127 rfl inlX1 rfl (lt_b rfl) (lt_b rfl) rfl rfl ?_
  obtain ⟨v1, hc, hf⟩ := opt_b hf
  refine v_callSi (rest := []) (As := [.int x1, .int (σ 13 6)]) hX dX6_isHand_8 (c_X6_isBelow σ x1 (σ 13 6) hc) rfl rfl mw_321 mw_57 mw_320 mw_322 gAll ds_X6_isBelow rfl ⟨Nat.le_of_ble_eq_true rfl, Nat.le_of_ble_eq_true rfl⟩ (Nat.le_of_ble_eq_true rfl) ?_
  obtain ⟨hg2, hf⟩ := gd_some hf
  obtain rfl := Option.some.inj hf
  exact v_iret (r := v1) hX dX6_isHand_11 (isB_n hg2)
set_option maxHeartbeats 4000000 in
set_option maxRecDepth 100000 in
theorem c_X6_isCopy {l : Launch} {D : va_G} {cs : ClassId × ClassId × ClassId} {ad : Nat → Nat} {ts : Nat × Nat × Nat} (σ : Mem)  (x1 : Int32) {z : Int32} (hf : f_X6_isCopy σ x1 = some z) : CtI l (xW D cs ad ts) 1 yX6_isCopy cX6_isCopy 2 (some .boolean) [.ref (ad 0), .int x1] σ z σ := by
  refine ct_I RX6 [(0, .ref (ad 0)), (1, .int x1)] (by decide +kernel) rfl rfl (Nat.le_of_ble_eq_true rfl) ?_
  intro P M hl0 hX
  unfold f_X6_isCopy at hf
  refine v_iload_n 1 1 hX dX6_isCopy_0 rfl rfl ?_
  refine v_aload_n 0 0 hX dX6_isCopy_1 rfl rfl ?_
  refine v_get (C := RX6) (T := TX6) (N := 10) (ci := 6) (v := .ref (ad 13)) 0 1 hX dX6_isCopy_2 mw_283 rfl inlX6 rfl (lt_b rfl) (lt_b rfl) rfl rfl ?_
  refine v_get (C := RX1) (T := TX1) (N := 19) (ci := 1) (v := .int (σ 13 7)) 13 7 hX dX6_isCopy_5 mw_131 rfl inlX1 rfl (lt_b rfl) (lt_b rfl) rfl rfl ?_
  obtain ⟨v1, hc, hf⟩ := opt_b hf
  refine v_callSi (rest := []) (As := [.int x1, .int (σ 13 7)]) hX dX6_isCopy_8 (c_X6_isBelow σ x1 (σ 13 7) hc) rfl rfl mw_321 mw_57 mw_320 mw_322 gAll ds_X6_isBelow rfl ⟨Nat.le_of_ble_eq_true rfl, Nat.le_of_ble_eq_true rfl⟩ (Nat.le_of_ble_eq_true rfl) ?_
  obtain ⟨hg2, hf⟩ := gd_some hf
  obtain rfl := Option.some.inj hf
  exact v_iret (r := v1) hX dX6_isCopy_11 (isB_n hg2)
set_option maxHeartbeats 4000000 in
set_option maxRecDepth 100000 in
theorem c_X6_isDeed {l : Launch} {D : va_G} {cs : ClassId × ClassId × ClassId} {ad : Nat → Nat} {ts : Nat × Nat × Nat} (σ : Mem)  (x1 : Int32) {z : Int32} (hf : f_X6_isDeed σ x1 = some z) : CtI l (xW D cs ad ts) 1 yX6_isDeed cX6_isDeed 2 (some .boolean) [.ref (ad 0), .int x1] σ z σ := by
  refine ct_I RX6 [(0, .ref (ad 0)), (1, .int x1)] (by decide +kernel) rfl rfl (Nat.le_of_ble_eq_true rfl) ?_
  intro P M hl0 hX
  unfold f_X6_isDeed at hf
  refine v_iload_n 1 1 hX dX6_isDeed_0 rfl rfl ?_
  refine v_aload_n 0 0 hX dX6_isDeed_1 rfl rfl ?_
  refine v_get (C := RX6) (T := TX6) (N := 10) (ci := 6) (v := .ref (ad 13)) 0 1 hX dX6_isDeed_2 mw_283 rfl inlX6 rfl (lt_b rfl) (lt_b rfl) rfl rfl ?_
  refine v_get (C := RX1) (T := TX1) (N := 19) (ci := 1) (v := .int (σ 13 8)) 13 8 hX dX6_isDeed_5 mw_137 rfl inlX1 rfl (lt_b rfl) (lt_b rfl) rfl rfl ?_
  obtain ⟨v1, hc, hf⟩ := opt_b hf
  refine v_callSi (rest := []) (As := [.int x1, .int (σ 13 8)]) hX dX6_isDeed_8 (c_X6_isBelow σ x1 (σ 13 8) hc) rfl rfl mw_321 mw_57 mw_320 mw_322 gAll ds_X6_isBelow rfl ⟨Nat.le_of_ble_eq_true rfl, Nat.le_of_ble_eq_true rfl⟩ (Nat.le_of_ble_eq_true rfl) ?_
  obtain ⟨hg2, hf⟩ := gd_some hf
  obtain rfl := Option.some.inj hf
  exact v_iret (r := v1) hX dX6_isDeed_11 (isB_n hg2)
set_option maxHeartbeats 4000000 in
set_option maxRecDepth 100000 in
theorem c_X6_isHandSet {l : Launch} {D : va_G} {cs : ClassId × ClassId × ClassId} {ad : Nat → Nat} {ts : Nat × Nat × Nat} (σ : Mem)  (x1 : Int32) {z : Int32} (hf : f_X6_isHandSet σ x1 = some z) : CtI l (xW D cs ad ts) 1 yX6_isHandSet cX6_isHandSet 2 (some .boolean) [.ref (ad 0), .int x1] σ z σ := by
  refine ct_I RX6 [(0, .ref (ad 0)), (1, .int x1)] (by decide +kernel) rfl rfl (Nat.le_of_ble_eq_true rfl) ?_
  intro P M hl0 hX
  unfold f_X6_isHandSet at hf
  refine v_iload_n 1 1 hX dX6_isHandSet_0 rfl rfl ?_
  refine v_iconst 1 hX dX6_isHandSet_1 (by decide) ?_
  refine v_aload_n 0 0 hX dX6_isHandSet_2 rfl rfl ?_
  refine v_get (C := RX6) (T := TX6) (N := 10) (ci := 6) (v := .ref (ad 13)) 0 1 hX dX6_isHandSet_3 mw_283 rfl inlX6 rfl (lt_b rfl) (lt_b rfl) rfl rfl ?_
  refine v_get (C := RX1) (T := TX1) (N := 19) (ci := 1) (v := .int (σ 13 6)) 13 6 hX dX6_isHandSet_6 mw_127 rfl inlX1 rfl (lt_b rfl) (lt_b rfl) rfl rfl ?_
  refine v_ishl hX dX6_isHandSet_9 ?_
  obtain ⟨v1, hc, hf⟩ := opt_b hf
  refine v_callSi (rest := []) (As := [.int x1, .int (1 <<< ((σ 13 6) &&& 31))]) hX dX6_isHandSet_10 (c_X6_isBelow σ x1 (1 <<< ((σ 13 6) &&& 31)) hc) rfl rfl mw_321 mw_57 mw_320 mw_322 gAll ds_X6_isBelow rfl ⟨Nat.le_of_ble_eq_true rfl, Nat.le_of_ble_eq_true rfl⟩ (Nat.le_of_ble_eq_true rfl) ?_
  obtain ⟨hg2, hf⟩ := gd_some hf
  obtain rfl := Option.some.inj hf
  exact v_iret (r := v1) hX dX6_isHandSet_13 (isB_n hg2)
set_option maxHeartbeats 4000000 in
set_option maxRecDepth 100000 in
theorem c_X7_isRow {l : Launch} {D : va_G} {cs : ClassId × ClassId × ClassId} {ad : Nat → Nat} (σ : Mem)   (x0 : Int32) {z : Int32} (hf : f_X7_isRow x0 = some z) : CtI l (mW D cs ad) 1 yX7_isRow cX7_isRow 1 (some .boolean) [.int x0] σ z σ := by
  refine ct_I RX7 [(0, .int x0)] (by decide +kernel) rfl rfl (Nat.le_of_ble_eq_true rfl) ?_
  intro P M hl0 hX
  unfold f_X7_isRow at hf
  refine v_iload_n 0 0 hX dX7_isRow_0 rfl rfl ?_
  refine v_i2l hX dX7_isRow_1 ?_
  refine v_lconst 0 hX dX7_isRow_2 (by decide) ?_
  refine v_ldc2 7 hX dX7_isRow_3 mw_911 ?_
  obtain ⟨v1, hc, hf⟩ := opt_b hf
  refine v_callSi (rest := []) (As := [.long x0.toInt64, .long 0, .long 7]) hX dX7_isRow_6 (c_X7_in σ x0.toInt64 0 7 hc) rfl rfl mw_913 mw_64 mw_912 mw_914 gAll ds_X7_in rfl ⟨Nat.le_of_ble_eq_true rfl, Nat.le_of_ble_eq_true rfl⟩ (Nat.le_of_ble_eq_true rfl) ?_
  obtain ⟨hg2, hf⟩ := gd_some hf
  obtain rfl := Option.some.inj hf
  exact v_iret (r := v1) hX dX7_isRow_9 (isB_n hg2)
set_option maxHeartbeats 4000000 in
set_option maxRecDepth 100000 in
theorem c_X7_isFigure {l : Launch} {D : va_G} {cs : ClassId × ClassId × ClassId} {ad : Nat → Nat} (σ : Mem)   (x0 : Int32) {z : Int32} (hf : f_X7_isFigure x0 = some z) : CtI l (mW D cs ad) 1 yX7_isFigure cX7_isFigure 1 (some .boolean) [.int x0] σ z σ := by
  refine ct_I RX7 [(0, .int x0)] (by decide +kernel) rfl rfl (Nat.le_of_ble_eq_true rfl) ?_
  intro P M hl0 hX
  unfold f_X7_isFigure at hf
  refine v_iload_n 0 0 hX dX7_isFigure_0 rfl rfl ?_
  refine v_i2l hX dX7_isFigure_1 ?_
  refine v_ldc2 48 hX dX7_isFigure_2 mw_965 ?_
  refine v_ldc2 57 hX dX7_isFigure_5 mw_966 ?_
  obtain ⟨v1, hc, hf⟩ := opt_b hf
  refine v_callSi (rest := []) (As := [.long x0.toInt64, .long 48, .long 57]) hX dX7_isFigure_8 (c_X7_in σ x0.toInt64 48 57 hc) rfl rfl mw_913 mw_64 mw_912 mw_914 gAll ds_X7_in rfl ⟨Nat.le_of_ble_eq_true rfl, Nat.le_of_ble_eq_true rfl⟩ (Nat.le_of_ble_eq_true rfl) ?_
  obtain ⟨hg2, hf⟩ := gd_some hf
  obtain rfl := Option.some.inj hf
  exact v_iret (r := v1) hX dX7_isFigure_11 (isB_n hg2)
set_option maxHeartbeats 4000000 in
set_option maxRecDepth 100000 in
theorem c_X7_isTwo {l : Launch} {D : va_G} {cs : ClassId × ClassId × ClassId} {ad : Nat → Nat} (σ : Mem)   (x0 : Int32) {z : Int32} (hf : f_X7_isTwo x0 = some z) : CtI l (mW D cs ad) 1 yX7_isTwo cX7_isTwo 1 (some .boolean) [.int x0] σ z σ := by
  refine ct_I RX7 [(0, .int x0)] (by decide +kernel) rfl rfl (Nat.le_of_ble_eq_true rfl) ?_
  intro P M hl0 hX
  unfold f_X7_isTwo at hf
  refine v_iload_n 0 0 hX dX7_isTwo_0 rfl rfl ?_
  refine v_i2l hX dX7_isTwo_1 ?_
  refine v_lconst 0 hX dX7_isTwo_2 (by decide) ?_
  refine v_lconst 1 hX dX7_isTwo_3 (by decide) ?_
  obtain ⟨v1, hc, hf⟩ := opt_b hf
  refine v_callSi (rest := []) (As := [.long x0.toInt64, .long 0, .long 1]) hX dX7_isTwo_4 (c_X7_in σ x0.toInt64 0 1 hc) rfl rfl mw_913 mw_64 mw_912 mw_914 gAll ds_X7_in rfl ⟨Nat.le_of_ble_eq_true rfl, Nat.le_of_ble_eq_true rfl⟩ (Nat.le_of_ble_eq_true rfl) ?_
  obtain ⟨hg2, hf⟩ := gd_some hf
  obtain rfl := Option.some.inj hf
  exact v_iret (r := v1) hX dX7_isTwo_7 (isB_n hg2)
set_option maxHeartbeats 4000000 in
set_option maxRecDepth 100000 in
theorem c_X7_mayRecall_n {l : Launch} {D : va_G} {cs : ClassId × ClassId × ClassId} {ad : Nat → Nat} (σ : Mem)  (x1 : Int32) {z : Int32} (hf : f_X7_mayRecall_n σ x1 = some z) : CtI l (mW D cs ad) 1 yX7_mayRecall cX7_mayRecall 2 (some .boolean) [.ref (ad 5), .int x1] σ z σ := by
  refine ct_I RX7 [(0, .ref (ad 5)), (1, .int x1)] (by decide +kernel) rfl rfl (Nat.le_of_ble_eq_true rfl) ?_
  intro P M hl0 hX
  unfold f_X7_mayRecall_n at hf
  refine v_aload_n 0 0 hX dX7_mayRecall_0 rfl rfl ?_
  refine v_bipush 55 hX dX7_mayRecall_1 (by decide) ?_
  refine v_iload_n 1 1 hX dX7_mayRecall_3 rfl rfl ?_
  refine v_iadd hX dX7_mayRecall_4 ?_
  obtain ⟨hi1, hf⟩ := gd_some hf
  refine v_ald (v := σ 5 ((55 + x1).toNatClampNeg)) 5 hX dX7_mayRecall_5 (lt_b rfl) ((fun _ => rfl) _) hi1 rfl ?_
  refine v_if_ne 36 hX dX7_mayRecall_6 (by decide) (fun c => ?_) (fun c => ?_)
  · have hf := opt_f c hf
    refine v_iconst 0 hX dX7_mayRecall_36 (by decide) ?_
    obtain rfl := Option.some.inj hf
    exact v_iret (r := 0) hX dX7_mayRecall_37 rfl
  · have hf := opt_t c hf
    refine v_aload_n 0 0 hX dX7_mayRecall_9 rfl rfl ?_
    refine v_iconst 5 hX dX7_mayRecall_10 (by decide) ?_
    refine v_aldc (v := σ 5 5) 5 5 hX dX7_mayRecall_11 (lt_b rfl) ((fun _ => rfl) _) ib_5_85 tn_5 rfl ?_
    refine v_aload_n 0 0 hX dX7_mayRecall_12 rfl rfl ?_
    refine v_bipush 45 hX dX7_mayRecall_13 (by decide) ?_
    refine v_iload_n 1 1 hX dX7_mayRecall_15 rfl rfl ?_
    refine v_iadd hX dX7_mayRecall_16 ?_
    obtain ⟨hi2, hf⟩ := gd_some hf
    refine v_ald (v := σ 5 ((45 + x1).toNatClampNeg)) 5 hX dX7_mayRecall_17 (lt_b rfl) ((fun _ => rfl) _) hi2 rfl ?_
    refine v_isub hX dX7_mayRecall_18 ?_
    refine v_aload_n 0 0 hX dX7_mayRecall_19 rfl rfl ?_
    refine v_aload_n 0 0 hX dX7_mayRecall_20 rfl rfl ?_
    refine v_bipush 25 hX dX7_mayRecall_21 (by decide) ?_
    refine v_iload_n 1 1 hX dX7_mayRecall_23 rfl rfl ?_
    refine v_iadd hX dX7_mayRecall_24 ?_
    obtain ⟨hi3, hf⟩ := gd_some hf
    refine v_ald (v := σ 5 ((25 + x1).toNatClampNeg)) 5 hX dX7_mayRecall_25 (lt_b rfl) ((fun _ => rfl) _) hi3 rfl ?_
    obtain ⟨v4, hc, hf⟩ := opt_b hf
    refine v_callSi (rest := [.int ((σ 5 5) - (σ 5 ((45 + x1).toNatClampNeg)))]) (As := [.ref (ad 5), .int (σ 5 ((25 + x1).toNatClampNeg))]) hX dX7_mayRecall_26 (c_X7_limit_n σ (σ 5 ((25 + x1).toNatClampNeg)) hc) rfl rfl mw_1041 mw_64 mw_1040 mw_1042 gAll ds_X7_limit rfl ⟨Nat.le_of_ble_eq_true rfl, Nat.le_of_ble_eq_true rfl⟩ (Nat.le_of_ble_eq_true rfl) ?_
    refine v_icmp_gt 36 hX dX7_mayRecall_29 (by decide) (fun c => ?_) (fun c => ?_)
    · have hf := opt_t c hf
      refine v_iconst 0 hX dX7_mayRecall_36 (by decide) ?_
      obtain rfl := Option.some.inj hf
      exact v_iret (r := 0) hX dX7_mayRecall_37 rfl
    · have hf := opt_f c hf
      refine v_iconst 1 hX dX7_mayRecall_32 (by decide) ?_
      refine v_goto 37 hX dX7_mayRecall_33 (by decide) ?_
      obtain rfl := Option.some.inj hf
      exact v_iret (r := 1) hX dX7_mayRecall_37 rfl
set_option maxHeartbeats 4000000 in
set_option maxRecDepth 100000 in
theorem c_X7_stand_n {l : Launch} {D : va_G} {cs : ClassId × ClassId × ClassId} {ad : Nat → Nat} (fuel : Nat) (σ : Mem)   {z : Int32} (hf : f_X7_stand_n fuel σ = some z) : CtI l (mW D cs ad) 1 yX7_stand cX7_stand 1 (some .int) [.ref (ad 5)] σ z σ := by
  refine ct_I RX7 [(0, .ref (ad 5))] (by decide +kernel) rfl rfl (Nat.le_of_ble_eq_true rfl) ?_
  intro P M hl0 hX
  unfold f_X7_stand_n at hf
  refine v_aload_n 0 0 hX dX7_stand_0 rfl rfl ?_
  refine v_aload_n 0 0 hX dX7_stand_1 rfl rfl ?_
  obtain ⟨v1, hc, hf⟩ := opt_b hf
  refine v_callSi (rest := [.ref (ad 5)]) (As := [.ref (ad 5)]) hX dX7_stand_2 (c_X7_black_n fuel σ hc) rfl rfl mw_1044 mw_64 mw_1043 mw_1045 gAll ds_X7_black rfl ⟨Nat.le_of_ble_eq_true rfl, Nat.le_of_ble_eq_true rfl⟩ (Nat.le_of_ble_eq_true rfl) ?_
  obtain ⟨v2, hc, hf⟩ := opt_b hf
  refine v_callSi (rest := []) (As := [.ref (ad 5), .int v1]) hX dX7_stand_5 (c_X7_standBy_n fuel σ v1 hc) rfl rfl mw_1058 mw_64 mw_1057 mw_1059 gAll ds_X7_standBy rfl ⟨Nat.le_of_ble_eq_true rfl, Nat.le_of_ble_eq_true rfl⟩ (Nat.le_of_ble_eq_true rfl) ?_
  obtain rfl := Option.some.inj hf
  exact v_iret (r := v2) hX dX7_stand_8 rfl
set_option maxHeartbeats 4000000 in
set_option maxRecDepth 100000 in
theorem c_X7_mayRecall_a {l : Launch} {D : va_G} {cs : ClassId × ClassId × ClassId} {ad : Nat → Nat} (σ : Mem)  (x1 : Int32) {z : Int32} (hf : f_X7_mayRecall_a σ x1 = some z) : CtI l (mW D cs ad) 1 yX7_mayRecall cX7_mayRecall 2 (some .boolean) [.ref (ad 11), .int x1] σ z σ := by
  refine ct_I RX7 [(0, .ref (ad 11)), (1, .int x1)] (by decide +kernel) rfl rfl (Nat.le_of_ble_eq_true rfl) ?_
  intro P M hl0 hX
  unfold f_X7_mayRecall_a at hf
  refine v_aload_n 0 0 hX dX7_mayRecall_0 rfl rfl ?_
  refine v_bipush 55 hX dX7_mayRecall_1 (by decide) ?_
  refine v_iload_n 1 1 hX dX7_mayRecall_3 rfl rfl ?_
  refine v_iadd hX dX7_mayRecall_4 ?_
  obtain ⟨hi1, hf⟩ := gd_some hf
  refine v_ald (v := σ 11 ((55 + x1).toNatClampNeg)) 11 hX dX7_mayRecall_5 (lt_b rfl) ((fun _ => rfl) _) hi1 rfl ?_
  refine v_if_ne 36 hX dX7_mayRecall_6 (by decide) (fun c => ?_) (fun c => ?_)
  · have hf := opt_f c hf
    refine v_iconst 0 hX dX7_mayRecall_36 (by decide) ?_
    obtain rfl := Option.some.inj hf
    exact v_iret (r := 0) hX dX7_mayRecall_37 rfl
  · have hf := opt_t c hf
    refine v_aload_n 0 0 hX dX7_mayRecall_9 rfl rfl ?_
    refine v_iconst 5 hX dX7_mayRecall_10 (by decide) ?_
    refine v_aldc (v := σ 11 5) 11 5 hX dX7_mayRecall_11 (lt_b rfl) ((fun _ => rfl) _) ib_5_85 tn_5 rfl ?_
    refine v_aload_n 0 0 hX dX7_mayRecall_12 rfl rfl ?_
    refine v_bipush 45 hX dX7_mayRecall_13 (by decide) ?_
    refine v_iload_n 1 1 hX dX7_mayRecall_15 rfl rfl ?_
    refine v_iadd hX dX7_mayRecall_16 ?_
    obtain ⟨hi2, hf⟩ := gd_some hf
    refine v_ald (v := σ 11 ((45 + x1).toNatClampNeg)) 11 hX dX7_mayRecall_17 (lt_b rfl) ((fun _ => rfl) _) hi2 rfl ?_
    refine v_isub hX dX7_mayRecall_18 ?_
    refine v_aload_n 0 0 hX dX7_mayRecall_19 rfl rfl ?_
    refine v_aload_n 0 0 hX dX7_mayRecall_20 rfl rfl ?_
    refine v_bipush 25 hX dX7_mayRecall_21 (by decide) ?_
    refine v_iload_n 1 1 hX dX7_mayRecall_23 rfl rfl ?_
    refine v_iadd hX dX7_mayRecall_24 ?_
    obtain ⟨hi3, hf⟩ := gd_some hf
    refine v_ald (v := σ 11 ((25 + x1).toNatClampNeg)) 11 hX dX7_mayRecall_25 (lt_b rfl) ((fun _ => rfl) _) hi3 rfl ?_
    obtain ⟨v4, hc, hf⟩ := opt_b hf
    refine v_callSi (rest := [.int ((σ 11 5) - (σ 11 ((45 + x1).toNatClampNeg)))]) (As := [.ref (ad 11), .int (σ 11 ((25 + x1).toNatClampNeg))]) hX dX7_mayRecall_26 (c_X7_limit_a σ (σ 11 ((25 + x1).toNatClampNeg)) hc) rfl rfl mw_1041 mw_64 mw_1040 mw_1042 gAll ds_X7_limit rfl ⟨Nat.le_of_ble_eq_true rfl, Nat.le_of_ble_eq_true rfl⟩ (Nat.le_of_ble_eq_true rfl) ?_
    refine v_icmp_gt 36 hX dX7_mayRecall_29 (by decide) (fun c => ?_) (fun c => ?_)
    · have hf := opt_t c hf
      refine v_iconst 0 hX dX7_mayRecall_36 (by decide) ?_
      obtain rfl := Option.some.inj hf
      exact v_iret (r := 0) hX dX7_mayRecall_37 rfl
    · have hf := opt_f c hf
      refine v_iconst 1 hX dX7_mayRecall_32 (by decide) ?_
      refine v_goto 37 hX dX7_mayRecall_33 (by decide) ?_
      obtain rfl := Option.some.inj hf
      exact v_iret (r := 1) hX dX7_mayRecall_37 rfl
set_option maxHeartbeats 4000000 in
set_option maxRecDepth 100000 in
theorem c_X7_stand_a {l : Launch} {D : va_G} {cs : ClassId × ClassId × ClassId} {ad : Nat → Nat} (fuel : Nat) (σ : Mem)   {z : Int32} (hf : f_X7_stand_a fuel σ = some z) : CtI l (mW D cs ad) 1 yX7_stand cX7_stand 1 (some .int) [.ref (ad 11)] σ z σ := by
  refine ct_I RX7 [(0, .ref (ad 11))] (by decide +kernel) rfl rfl (Nat.le_of_ble_eq_true rfl) ?_
  intro P M hl0 hX
  unfold f_X7_stand_a at hf
  refine v_aload_n 0 0 hX dX7_stand_0 rfl rfl ?_
  refine v_aload_n 0 0 hX dX7_stand_1 rfl rfl ?_
  obtain ⟨v1, hc, hf⟩ := opt_b hf
  refine v_callSi (rest := [.ref (ad 11)]) (As := [.ref (ad 11)]) hX dX7_stand_2 (c_X7_black_a fuel σ hc) rfl rfl mw_1044 mw_64 mw_1043 mw_1045 gAll ds_X7_black rfl ⟨Nat.le_of_ble_eq_true rfl, Nat.le_of_ble_eq_true rfl⟩ (Nat.le_of_ble_eq_true rfl) ?_
  obtain ⟨v2, hc, hf⟩ := opt_b hf
  refine v_callSi (rest := []) (As := [.ref (ad 11), .int v1]) hX dX7_stand_5 (c_X7_standBy_a fuel σ v1 hc) rfl rfl mw_1058 mw_64 mw_1057 mw_1059 gAll ds_X7_standBy rfl ⟨Nat.le_of_ble_eq_true rfl, Nat.le_of_ble_eq_true rfl⟩ (Nat.le_of_ble_eq_true rfl) ?_
  obtain rfl := Option.some.inj hf
  exact v_iret (r := v2) hX dX7_stand_8 rfl
set_option maxHeartbeats 4000000 in
set_option maxRecDepth 100000 in
theorem c_X7_feed {l : Launch} {D : va_G} {cs : ClassId × ClassId × ClassId} {ad : Nat → Nat} (σ : Mem)   (x1 : Int32) {z : Int32 × Mem} (hf : f_X7_feed σ x1 = some z) : CtI l (mW D cs ad) 1 yX7_feed cX7_feed 2 (some .int) [.ref (ad 0), .int x1] σ z.1 z.2 := by
  refine ct_I RX7 [(0, .ref (ad 0)), (1, .int x1)] (by decide +kernel) rfl rfl (Nat.le_of_ble_eq_true rfl) ?_
  intro P M hl0 hX
  unfold f_X7_feed at hf
  refine v_iload_n 1 1 hX dX7_feed_0 rfl rfl ?_
  refine v_i2l hX dX7_feed_1 ?_
  refine v_lconst 0 hX dX7_feed_2 (by decide) ?_
  refine v_ldc2 255 hX dX7_feed_3 mw_942 ?_
  obtain ⟨v1, hc, hf⟩ := opt_b hf
  refine v_callSi (rest := []) (As := [.long x1.toInt64, .long 0, .long 255]) hX dX7_feed_6 (c_X7_in σ x1.toInt64 0 255 hc) rfl rfl mw_913 mw_64 mw_912 mw_914 gAll ds_X7_in rfl ⟨Nat.le_of_ble_eq_true rfl, Nat.le_of_ble_eq_true rfl⟩ (Nat.le_of_ble_eq_true rfl) ?_
  refine v_if_ne 15 hX dX7_feed_9 (by decide) (fun c => ?_) (fun c => ?_)
  · have hf := opt_f c hf
    refine v_aload_n 0 0 hX dX7_feed_15 rfl rfl ?_
    refine v_get (C := RX7) (T := TX7) (N := 22) (ci := 7) (v := .int (σ 0 5)) 0 5 hX dX7_feed_16 mw_841 rfl inlX7 rfl (lt_b rfl) (lt_b rfl) rfl rfl ?_
    refine v_sipush 140 hX dX7_feed_19 (by decide) ?_
    refine v_icmp_ne 28 hX dX7_feed_22 (by decide) (fun c => ?_) (fun c => ?_)
    · have hf := opt_f c hf
      refine v_aload_n 0 0 hX dX7_feed_28 rfl rfl ?_
      refine v_get (C := RX7) (T := TX7) (N := 22) (ci := 7) (v := .ref (ad 4)) 0 4 hX dX7_feed_29 mw_840 rfl inlX7 rfl (lt_b rfl) (lt_b rfl) rfl rfl ?_
      refine v_aload_n 0 0 hX dX7_feed_32 rfl rfl ?_
      refine v_get (C := RX7) (T := TX7) (N := 22) (ci := 7) (v := .int (σ 0 5)) 0 5 hX dX7_feed_33 mw_841 rfl inlX7 rfl (lt_b rfl) (lt_b rfl) rfl rfl ?_
      refine v_iload_n 1 1 hX dX7_feed_36 rfl rfl ?_
      obtain ⟨hi2, hf⟩ := gd_some hf
      refine v_ast 4 hX dX7_feed_37 (lt_b rfl) (fun _ => rfl) hi2 ?_
      refine v_aload_n 0 0 hX dX7_feed_38 rfl rfl ?_
      refine v_dup hX dX7_feed_39 rfl ?_
      refine v_get (C := RX7) (T := TX7) (N := 22) (ci := 7) (v := .int (σ 0 5)) 0 5 hX dX7_feed_40 mw_841 rfl inlX7 rfl (lt_b rfl) (lt_b rfl) rfl rfl ?_
      refine v_iconst 1 hX dX7_feed_43 (by decide) ?_
      refine v_iadd hX dX7_feed_44 ?_
      refine v_put (C := RX7) (T := TX7) (N := 22) (ci := 7) (ty := .int) tyX7 0 5 hX dX7_feed_45 mw_841 rfl inlX7 tyX7_ok nmX7 rfl (lt_b rfl) (lt_b rfl) rfl (tyX7_ok 5 (lt_b rfl)) rfl rfl rfl (lt_b rfl) rfl ?_
      refine v_aload_n 0 0 hX dX7_feed_48 rfl rfl ?_
      refine v_get (C := RX7) (T := TX7) (N := 22) (ci := 7) (v := .int ((σ 0 5) + 1)) 0 5 hX dX7_feed_49 mw_841 rfl inlX7 rfl (lt_b rfl) (lt_b rfl) rfl rfl ?_
      obtain rfl := Option.some.inj hf
      exact v_iret (r := (σ 0 5) + 1) hX dX7_feed_52 rfl
    · have hf := opt_t c hf
      refine v_ldc (-1000003) hX dX7_feed_25 mw_943 ?_
      obtain rfl := Option.some.inj hf
      exact v_iret (r := (-1000003)) hX dX7_feed_27 rfl
  · have hf := opt_t c hf
    refine v_ldc (-1000001) hX dX7_feed_12 mw_916 ?_
    obtain rfl := Option.some.inj hf
    exact v_iret (r := (-1000001)) hX dX7_feed_14 rfl
set_option maxHeartbeats 4000000 in
set_option maxRecDepth 100000 in
theorem c_X7_isHand {l : Launch} {D : va_G} {cs : ClassId × ClassId × ClassId} {ad : Nat → Nat} (σ : Mem)  (x1 : Int32) {z : Int32} (hf : f_X7_isHand σ x1 = some z) : CtI l (mW D cs ad) 1 yX7_isHand cX7_isHand 2 (some .boolean) [.ref (ad 0), .int x1] σ z σ := by
  refine ct_I RX7 [(0, .ref (ad 0)), (1, .int x1)] (by decide +kernel) rfl rfl (Nat.le_of_ble_eq_true rfl) ?_
  intro P M hl0 hX
  unfold f_X7_isHand at hf
  refine v_iload_n 1 1 hX dX7_isHand_0 rfl rfl ?_
  refine v_i2l hX dX7_isHand_1 ?_
  refine v_lconst 0 hX dX7_isHand_2 (by decide) ?_
  refine v_aload_n 0 0 hX dX7_isHand_3 rfl rfl ?_
  refine v_get (C := RX7) (T := TX7) (N := 22) (ci := 7) (v := .ref (ad 5)) 0 8 hX dX7_isHand_4 mw_844 rfl inlX7 rfl (lt_b rfl) (lt_b rfl) rfl rfl ?_
  refine v_iconst 2 hX dX7_isHand_7 (by decide) ?_
  refine v_aldc (v := σ 5 2) 5 2 hX dX7_isHand_8 (lt_b rfl) ((fun _ => rfl) _) ib_2_85 tn_2 rfl ?_
  refine v_iconst 1 hX dX7_isHand_9 (by decide) ?_
  refine v_isub hX dX7_isHand_10 ?_
  refine v_i2l hX dX7_isHand_11 ?_
  obtain ⟨v1, hc, hf⟩ := opt_b hf
  refine v_callSi (rest := []) (As := [.long x1.toInt64, .long 0, .long (((σ 5 2) - 1).toInt64)]) hX dX7_isHand_12 (c_X7_in σ x1.toInt64 0 (((σ 5 2) - 1).toInt64) hc) rfl rfl mw_913 mw_64 mw_912 mw_914 gAll ds_X7_in rfl ⟨Nat.le_of_ble_eq_true rfl, Nat.le_of_ble_eq_true rfl⟩ (Nat.le_of_ble_eq_true rfl) ?_
  obtain ⟨hg2, hf⟩ := gd_some hf
  obtain rfl := Option.some.inj hf
  exact v_iret (r := v1) hX dX7_isHand_15 (isB_n hg2)
set_option maxHeartbeats 4000000 in
set_option maxRecDepth 100000 in
theorem c_X7_isCopy {l : Launch} {D : va_G} {cs : ClassId × ClassId × ClassId} {ad : Nat → Nat} (σ : Mem)  (x1 : Int32) {z : Int32} (hf : f_X7_isCopy σ x1 = some z) : CtI l (mW D cs ad) 1 yX7_isCopy cX7_isCopy 2 (some .boolean) [.ref (ad 0), .int x1] σ z σ := by
  refine ct_I RX7 [(0, .ref (ad 0)), (1, .int x1)] (by decide +kernel) rfl rfl (Nat.le_of_ble_eq_true rfl) ?_
  intro P M hl0 hX
  unfold f_X7_isCopy at hf
  refine v_iload_n 1 1 hX dX7_isCopy_0 rfl rfl ?_
  refine v_i2l hX dX7_isCopy_1 ?_
  refine v_lconst 0 hX dX7_isCopy_2 (by decide) ?_
  refine v_aload_n 0 0 hX dX7_isCopy_3 rfl rfl ?_
  refine v_get (C := RX7) (T := TX7) (N := 22) (ci := 7) (v := .ref (ad 5)) 0 8 hX dX7_isCopy_4 mw_844 rfl inlX7 rfl (lt_b rfl) (lt_b rfl) rfl rfl ?_
  refine v_iconst 3 hX dX7_isCopy_7 (by decide) ?_
  refine v_aldc (v := σ 5 3) 5 3 hX dX7_isCopy_8 (lt_b rfl) ((fun _ => rfl) _) ib_3_85 tn_3 rfl ?_
  refine v_iconst 1 hX dX7_isCopy_9 (by decide) ?_
  refine v_isub hX dX7_isCopy_10 ?_
  refine v_i2l hX dX7_isCopy_11 ?_
  obtain ⟨v1, hc, hf⟩ := opt_b hf
  refine v_callSi (rest := []) (As := [.long x1.toInt64, .long 0, .long (((σ 5 3) - 1).toInt64)]) hX dX7_isCopy_12 (c_X7_in σ x1.toInt64 0 (((σ 5 3) - 1).toInt64) hc) rfl rfl mw_913 mw_64 mw_912 mw_914 gAll ds_X7_in rfl ⟨Nat.le_of_ble_eq_true rfl, Nat.le_of_ble_eq_true rfl⟩ (Nat.le_of_ble_eq_true rfl) ?_
  obtain ⟨hg2, hf⟩ := gd_some hf
  obtain rfl := Option.some.inj hf
  exact v_iret (r := v1) hX dX7_isCopy_15 (isB_n hg2)
set_option maxHeartbeats 4000000 in
set_option maxRecDepth 100000 in
theorem c_X7_isDeed {l : Launch} {D : va_G} {cs : ClassId × ClassId × ClassId} {ad : Nat → Nat} (σ : Mem)  (x1 : Int32) {z : Int32} (hf : f_X7_isDeed σ x1 = some z) : CtI l (mW D cs ad) 1 yX7_isDeed cX7_isDeed 2 (some .boolean) [.ref (ad 0), .int x1] σ z σ := by
  refine ct_I RX7 [(0, .ref (ad 0)), (1, .int x1)] (by decide +kernel) rfl rfl (Nat.le_of_ble_eq_true rfl) ?_
  intro P M hl0 hX
  unfold f_X7_isDeed at hf
  refine v_iload_n 1 1 hX dX7_isDeed_0 rfl rfl ?_
  refine v_i2l hX dX7_isDeed_1 ?_
  refine v_lconst 0 hX dX7_isDeed_2 (by decide) ?_
  refine v_aload_n 0 0 hX dX7_isDeed_3 rfl rfl ?_
  refine v_get (C := RX7) (T := TX7) (N := 22) (ci := 7) (v := .ref (ad 5)) 0 8 hX dX7_isDeed_4 mw_844 rfl inlX7 rfl (lt_b rfl) (lt_b rfl) rfl rfl ?_
  refine v_iconst 4 hX dX7_isDeed_7 (by decide) ?_
  refine v_aldc (v := σ 5 4) 5 4 hX dX7_isDeed_8 (lt_b rfl) ((fun _ => rfl) _) ib_4_85 tn_4 rfl ?_
  refine v_iconst 1 hX dX7_isDeed_9 (by decide) ?_
  refine v_isub hX dX7_isDeed_10 ?_
  refine v_i2l hX dX7_isDeed_11 ?_
  obtain ⟨v1, hc, hf⟩ := opt_b hf
  refine v_callSi (rest := []) (As := [.long x1.toInt64, .long 0, .long (((σ 5 4) - 1).toInt64)]) hX dX7_isDeed_12 (c_X7_in σ x1.toInt64 0 (((σ 5 4) - 1).toInt64) hc) rfl rfl mw_913 mw_64 mw_912 mw_914 gAll ds_X7_in rfl ⟨Nat.le_of_ble_eq_true rfl, Nat.le_of_ble_eq_true rfl⟩ (Nat.le_of_ble_eq_true rfl) ?_
  obtain ⟨hg2, hf⟩ := gd_some hf
  obtain rfl := Option.some.inj hf
  exact v_iret (r := v1) hX dX7_isDeed_15 (isB_n hg2)
set_option maxHeartbeats 4000000 in
set_option maxRecDepth 100000 in
theorem c_X7_areHands {l : Launch} {D : va_G} {cs : ClassId × ClassId × ClassId} {ad : Nat → Nat} (σ : Mem)  (x1 : Int32) {z : Int32} (hf : f_X7_areHands σ x1 = some z) : CtI l (mW D cs ad) 1 yX7_areHands cX7_areHands 2 (some .boolean) [.ref (ad 0), .int x1] σ z σ := by
  refine ct_I RX7 [(0, .ref (ad 0)), (1, .int x1)] (by decide +kernel) rfl rfl (Nat.le_of_ble_eq_true rfl) ?_
  intro P M hl0 hX
  unfold f_X7_areHands at hf
  refine v_iload_n 1 1 hX dX7_areHands_0 rfl rfl ?_
  refine v_i2l hX dX7_areHands_1 ?_
  refine v_lconst 0 hX dX7_areHands_2 (by decide) ?_
  refine v_iconst 1 hX dX7_areHands_3 (by decide) ?_
  refine v_aload_n 0 0 hX dX7_areHands_4 rfl rfl ?_
  refine v_get (C := RX7) (T := TX7) (N := 22) (ci := 7) (v := .ref (ad 5)) 0 8 hX dX7_areHands_5 mw_844 rfl inlX7 rfl (lt_b rfl) (lt_b rfl) rfl rfl ?_
  refine v_iconst 2 hX dX7_areHands_8 (by decide) ?_
  refine v_aldc (v := σ 5 2) 5 2 hX dX7_areHands_9 (lt_b rfl) ((fun _ => rfl) _) ib_2_85 tn_2 rfl ?_
  refine v_ishl hX dX7_areHands_10 ?_
  refine v_iconst 1 hX dX7_areHands_11 (by decide) ?_
  refine v_isub hX dX7_areHands_12 ?_
  refine v_i2l hX dX7_areHands_13 ?_
  obtain ⟨v1, hc, hf⟩ := opt_b hf
  refine v_callSi (rest := []) (As := [.long x1.toInt64, .long 0, .long (((1 <<< ((σ 5 2) &&& 31)) - 1).toInt64)]) hX dX7_areHands_14 (c_X7_in σ x1.toInt64 0 (((1 <<< ((σ 5 2) &&& 31)) - 1).toInt64) hc) rfl rfl mw_913 mw_64 mw_912 mw_914 gAll ds_X7_in rfl ⟨Nat.le_of_ble_eq_true rfl, Nat.le_of_ble_eq_true rfl⟩ (Nat.le_of_ble_eq_true rfl) ?_
  obtain ⟨hg2, hf⟩ := gd_some hf
  obtain rfl := Option.some.inj hf
  exact v_iret (r := v1) hX dX7_areHands_17 (isB_n hg2)
set_option maxHeartbeats 4000000 in
set_option maxRecDepth 100000 in
theorem s_X7_remember_49 {P : PT} {M : MT} {D : va_G} {cs : ClassId × ClassId × ClassId} {ad : Nat → Nat} (hX : VOk P M (mW D cs ad) 2 cX7_remember RX7 none 1) (fuel : Nat)   (z : Mem)  (σ : Mem) (hf : f_X7_remember_49 fuel σ = some z) : V P M (mW D cs ad) 2 (QV P M (mW D cs ad) z) 49 [(0, .ref (ad 0))] [] σ := by
  unfold f_X7_remember_49 at hf
  refine v_aload_n 0 0 hX dX7_remember_49 rfl rfl ?_
  refine v_get (C := RX7) (T := TX7) (N := 22) (ci := 7) (v := .ref (ad 5)) 0 8 hX dX7_remember_50 mw_844 rfl inlX7 rfl (lt_b rfl) (lt_b rfl) rfl rfl ?_
  refine v_iconst 0 hX dX7_remember_53 (by decide) ?_
  refine v_aload_n 0 0 hX dX7_remember_54 rfl rfl ?_
  refine v_get (C := RX7) (T := TX7) (N := 22) (ci := 7) (v := .ref (ad 6)) 0 10 hX dX7_remember_55 mw_846 rfl inlX7 rfl (lt_b rfl) (lt_b rfl) rfl rfl ?_
  refine v_bipush 85 hX dX7_remember_58 (by decide) ?_
  refine v_aload_n 0 0 hX dX7_remember_60 rfl rfl ?_
  refine v_get (C := RX7) (T := TX7) (N := 22) (ci := 7) (v := .int (σ 0 9)) 0 9 hX dX7_remember_61 mw_845 rfl inlX7 rfl (lt_b rfl) (lt_b rfl) rfl rfl ?_
  refine v_imul hX dX7_remember_64 ?_
  obtain ⟨v1, hc, hf⟩ := opt_b hf
  refine v_callSv (rest := []) (As := [.ref (ad 5), .int 0, .ref (ad 6), .int (85 * (σ 0 9))]) hX dX7_remember_65 (c_X7_copies_5_6 σ fuel 0 (85 * (σ 0 9)) hc) rfl rfl mw_1004 mw_64 mw_1003 mw_1005 gAll ds_X7_copies rfl ⟨Nat.le_of_ble_eq_true rfl, Nat.le_of_ble_eq_true rfl⟩ (Nat.le_of_ble_eq_true rfl) ?_
  refine v_aload_n 0 0 hX dX7_remember_68 rfl rfl ?_
  refine v_dup hX dX7_remember_69 rfl ?_
  refine v_get (C := RX7) (T := TX7) (N := 22) (ci := 7) (v := .int (v1 0 9)) 0 9 hX dX7_remember_70 mw_845 rfl inlX7 rfl (lt_b rfl) (lt_b rfl) rfl rfl ?_
  refine v_iconst 1 hX dX7_remember_73 (by decide) ?_
  refine v_iadd hX dX7_remember_74 ?_
  refine v_put (C := RX7) (T := TX7) (N := 22) (ci := 7) (ty := .int) tyX7 0 9 hX dX7_remember_75 mw_845 rfl inlX7 tyX7_ok nmX7 rfl (lt_b rfl) (lt_b rfl) rfl (tyX7_ok 9 (lt_b rfl)) rfl rfl rfl (lt_b rfl) rfl ?_
  obtain rfl := Option.some.inj hf
  exact v_vret hX dX7_remember_78
set_option maxHeartbeats 4000000 in
set_option maxRecDepth 100000 in
theorem s_X7_remember_11 {P : PT} {M : MT} {D : va_G} {cs : ClassId × ClassId × ClassId} {ad : Nat → Nat} (hX : VOk P M (mW D cs ad) 2 cX7_remember RX7 none 1) (fuel : Nat)   (z : Mem)  : ∀ (n : Nat) (σ : Mem) (x1 : Int32), f_X7_remember_11 fuel n σ x1 = some z → V P M (mW D cs ad) 2 (QV P M (mW D cs ad) z) 11 [(0, .ref (ad 0)), (1, .int x1)] [] σ := by
  intro n
  induction n with
  | zero =>
    intro σ x1 hf
    cases hf
  | succ n hk11 =>
    intro σ x1 hf
    rw [f_X7_remember_11] at hf
    refine v_iload_n 1 1 hX dX7_remember_11 rfl rfl ?_
    refine v_sipush 1955 hX dX7_remember_12 (by decide) ?_
    refine v_icmp_ge 39 hX dX7_remember_15 (by decide) (fun c => ?_) (fun c => ?_)
    · have hf := opt_t c hf
      refine v_aload_n 0 0 hX dX7_remember_39 rfl rfl ?_
      refine v_dup hX dX7_remember_40 rfl ?_
      refine v_get (C := RX7) (T := TX7) (N := 22) (ci := 7) (v := .int (σ 0 9)) 0 9 hX dX7_remember_41 mw_845 rfl inlX7 rfl (lt_b rfl) (lt_b rfl) rfl rfl ?_
      refine v_iconst 1 hX dX7_remember_44 (by decide) ?_
      refine v_isub hX dX7_remember_45 ?_
      refine v_put (C := RX7) (T := TX7) (N := 22) (ci := 7) (ty := .int) tyX7 0 9 hX dX7_remember_46 mw_845 rfl inlX7 tyX7_ok nmX7 rfl (lt_b rfl) (lt_b rfl) rfl (tyX7_ok 9 (lt_b rfl)) rfl rfl rfl (lt_b rfl) rfl ?_
      exact v_sub [0] rfl (s_X7_remember_49 hX fuel z  (mst σ 0 9 ((σ 0 9) - 1)) hf)
    · have hf := opt_f c hf
      refine v_aload_n 0 0 hX dX7_remember_18 rfl rfl ?_
      refine v_get (C := RX7) (T := TX7) (N := 22) (ci := 7) (v := .ref (ad 6)) 0 10 hX dX7_remember_19 mw_846 rfl inlX7 rfl (lt_b rfl) (lt_b rfl) rfl rfl ?_
      refine v_iload_n 1 1 hX dX7_remember_22 rfl rfl ?_
      refine v_aload_n 0 0 hX dX7_remember_23 rfl rfl ?_
      refine v_get (C := RX7) (T := TX7) (N := 22) (ci := 7) (v := .ref (ad 6)) 0 10 hX dX7_remember_24 mw_846 rfl inlX7 rfl (lt_b rfl) (lt_b rfl) rfl rfl ?_
      refine v_iload_n 1 1 hX dX7_remember_27 rfl rfl ?_
      refine v_bipush 85 hX dX7_remember_28 (by decide) ?_
      refine v_iadd hX dX7_remember_30 ?_
      obtain ⟨hi2, hf⟩ := gd_some hf
      refine v_ald (v := σ 6 ((x1 + 85).toNatClampNeg)) 6 hX dX7_remember_31 (lt_b rfl) ((fun _ => rfl) _) hi2 rfl ?_
      obtain ⟨hi3, hf⟩ := gd_some hf
      refine v_ast 6 hX dX7_remember_32 (lt_b rfl) (fun _ => rfl) hi3 ?_
      refine v_iinc 1 (x1 + 1) [(1, .int (x1 + 1)), (0, .ref (ad 0))] hX dX7_remember_33 rfl rfl (lt_b rfl) rfl ?_
      refine v_goto 11 hX dX7_remember_36 (by decide) ?_
      exact v_sub [1, 0] rfl (hk11 (mst σ 6 x1.toNatClampNeg (σ 6 ((x1 + 85).toNatClampNeg))) (x1 + 1) hf)
set_option maxHeartbeats 4000000 in
set_option maxRecDepth 100000 in
theorem c_X7_remember {l : Launch} {D : va_G} {cs : ClassId × ClassId × ClassId} {ad : Nat → Nat} (σ : Mem) (fuel : Nat)   {z : Mem} (hf : f_X7_remember fuel σ = some z) : CtV l (mW D cs ad) 1 yX7_remember cX7_remember 2 [.ref (ad 0)] σ z := by
  refine ct_V RX7 [(0, .ref (ad 0))] (by decide +kernel) rfl rfl (Nat.le_of_ble_eq_true rfl) ?_
  intro P M hl0 hX
  unfold f_X7_remember at hf
  refine v_aload_n 0 0 hX dX7_remember_0 rfl rfl ?_
  refine v_get (C := RX7) (T := TX7) (N := 22) (ci := 7) (v := .int (σ 0 9)) 0 9 hX dX7_remember_1 mw_845 rfl inlX7 rfl (lt_b rfl) (lt_b rfl) rfl rfl ?_
  refine v_bipush 24 hX dX7_remember_4 (by decide) ?_
  refine v_icmp_ne 49 hX dX7_remember_6 (by decide) (fun c => ?_) (fun c => ?_)
  · have hf := opt_f c hf
    exact (s_X7_remember_49 hX fuel z  σ hf)
  · have hf := opt_t c hf
    refine v_iconst 0 hX dX7_remember_9 (by decide) ?_
    refine v_istore_n 1 [(1, .int 0), (0, .ref (ad 0))] hX dX7_remember_10 rfl (lt_b rfl) rfl ?_
    exact v_sub [1, 0] rfl (s_X7_remember_11 hX fuel z  fuel σ 0 hf)
set_option maxHeartbeats 4000000 in
set_option maxRecDepth 100000 in
theorem c_X7_undo {l : Launch} {D : va_G} {cs : ClassId × ClassId × ClassId} {ad : Nat → Nat} (σ : Mem) (fuel : Nat)   {z : Int32 × Mem} (hf : f_X7_undo fuel σ = some z) : CtI l (mW D cs ad) 1 yX7_undo cX7_undo 1 (some .int) [.ref (ad 0)] σ z.1 z.2 := by
  refine ct_I RX7 [(0, .ref (ad 0))] (by decide +kernel) rfl rfl (Nat.le_of_ble_eq_true rfl) ?_
  intro P M hl0 hX
  unfold f_X7_undo at hf
  refine v_aload_n 0 0 hX dX7_undo_0 rfl rfl ?_
  refine v_get (C := RX7) (T := TX7) (N := 22) (ci := 7) (v := .int (σ 0 9)) 0 9 hX dX7_undo_1 mw_845 rfl inlX7 rfl (lt_b rfl) (lt_b rfl) rfl rfl ?_
  refine v_if_ne 10 hX dX7_undo_4 (by decide) (fun c => ?_) (fun c => ?_)
  · have hf := opt_f c hf
    refine v_aload_n 0 0 hX dX7_undo_10 rfl rfl ?_
    refine v_dup hX dX7_undo_11 rfl ?_
    refine v_get (C := RX7) (T := TX7) (N := 22) (ci := 7) (v := .int (σ 0 9)) 0 9 hX dX7_undo_12 mw_845 rfl inlX7 rfl (lt_b rfl) (lt_b rfl) rfl rfl ?_
    refine v_iconst 1 hX dX7_undo_15 (by decide) ?_
    refine v_isub hX dX7_undo_16 ?_
    refine v_put (C := RX7) (T := TX7) (N := 22) (ci := 7) (ty := .int) tyX7 0 9 hX dX7_undo_17 mw_845 rfl inlX7 tyX7_ok nmX7 rfl (lt_b rfl) (lt_b rfl) rfl (tyX7_ok 9 (lt_b rfl)) rfl rfl rfl (lt_b rfl) rfl ?_
    refine v_aload_n 0 0 hX dX7_undo_20 rfl rfl ?_
    refine v_get (C := RX7) (T := TX7) (N := 22) (ci := 7) (v := .ref (ad 6)) 0 10 hX dX7_undo_21 mw_846 rfl inlX7 rfl (lt_b rfl) (lt_b rfl) rfl rfl ?_
    refine v_bipush 85 hX dX7_undo_24 (by decide) ?_
    refine v_aload_n 0 0 hX dX7_undo_26 rfl rfl ?_
    refine v_get (C := RX7) (T := TX7) (N := 22) (ci := 7) (v := .int ((σ 0 9) - 1)) 0 9 hX dX7_undo_27 mw_845 rfl inlX7 rfl (lt_b rfl) (lt_b rfl) rfl rfl ?_
    refine v_imul hX dX7_undo_30 ?_
    refine v_aload_n 0 0 hX dX7_undo_31 rfl rfl ?_
    refine v_get (C := RX7) (T := TX7) (N := 22) (ci := 7) (v := .ref (ad 5)) 0 8 hX dX7_undo_32 mw_844 rfl inlX7 rfl (lt_b rfl) (lt_b rfl) rfl rfl ?_
    refine v_iconst 0 hX dX7_undo_35 (by decide) ?_
    obtain ⟨v1, hc, hf⟩ := opt_b hf
    refine v_callSv (rest := []) (As := [.ref (ad 6), .int (85 * ((σ 0 9) - 1)), .ref (ad 5), .int 0]) hX dX7_undo_36 (c_X7_copies_6_5 (mst σ 0 9 ((σ 0 9) - 1)) fuel (85 * ((σ 0 9) - 1)) 0 hc) rfl rfl mw_1004 mw_64 mw_1003 mw_1005 gAll ds_X7_copies rfl ⟨Nat.le_of_ble_eq_true rfl, Nat.le_of_ble_eq_true rfl⟩ (Nat.le_of_ble_eq_true rfl) ?_
    refine v_aload_n 0 0 hX dX7_undo_39 rfl rfl ?_
    refine v_get (C := RX7) (T := TX7) (N := 22) (ci := 7) (v := .int (v1 0 9)) 0 9 hX dX7_undo_40 mw_845 rfl inlX7 rfl (lt_b rfl) (lt_b rfl) rfl rfl ?_
    obtain rfl := Option.some.inj hf
    exact v_iret (r := v1 0 9) hX dX7_undo_43 rfl
  · have hf := opt_t c hf
    refine v_ldc (-1000002) hX dX7_undo_7 mw_1014 ?_
    obtain rfl := Option.some.inj hf
    exact v_iret (r := (-1000002)) hX dX7_undo_9 rfl
set_option maxHeartbeats 4000000 in
set_option maxRecDepth 100000 in
theorem c_X7_layAside {l : Launch} {D : va_G} {cs : ClassId × ClassId × ClassId} {ad : Nat → Nat} (σ : Mem) (fuel : Nat)   {z : Mem} (hf : f_X7_layAside fuel σ = some z) : CtV l (mW D cs ad) 1 yX7_layAside cX7_layAside 1 [.ref (ad 0)] σ z := by
  refine ct_V RX7 [(0, .ref (ad 0))] (by decide +kernel) rfl rfl (Nat.le_of_ble_eq_true rfl) ?_
  intro P M hl0 hX
  unfold f_X7_layAside at hf
  refine v_aload_n 0 0 hX dX7_layAside_0 rfl rfl ?_
  refine v_get (C := RX7) (T := TX7) (N := 22) (ci := 7) (v := .ref (ad 5)) 0 8 hX dX7_layAside_1 mw_844 rfl inlX7 rfl (lt_b rfl) (lt_b rfl) rfl rfl ?_
  refine v_iconst 0 hX dX7_layAside_4 (by decide) ?_
  refine v_aload_n 0 0 hX dX7_layAside_5 rfl rfl ?_
  refine v_get (C := RX7) (T := TX7) (N := 22) (ci := 7) (v := .ref (ad 11)) 0 21 hX dX7_layAside_6 mw_857 rfl inlX7 rfl (lt_b rfl) (lt_b rfl) rfl rfl ?_
  refine v_iconst 0 hX dX7_layAside_9 (by decide) ?_
  obtain ⟨v1, hc, hf⟩ := opt_b hf
  refine v_callSv (rest := []) (As := [.ref (ad 5), .int 0, .ref (ad 11), .int 0]) hX dX7_layAside_10 (c_X7_copies_5_11 σ fuel 0 0 hc) rfl rfl mw_1004 mw_64 mw_1003 mw_1005 gAll ds_X7_copies rfl ⟨Nat.le_of_ble_eq_true rfl, Nat.le_of_ble_eq_true rfl⟩ (Nat.le_of_ble_eq_true rfl) ?_
  obtain rfl := Option.some.inj hf
  exact v_vret hX dX7_layAside_13
