set_option maxHeartbeats 4000000 in
set_option maxRecDepth 100000 in
theorem s_X7_standBy_a_92 {P : PT} {M : MT} {D : va_G} {cs : ClassId × ClassId × ClassId} {ad : Nat → Nat} (hX : VOk P M (mW D cs ad) 7 cX7_standBy RX7 (some .int) 0) (fuel : Nat) (σ : Mem) (k4 : Int32 → Int32 → Int32 → Option (Int32))  (z : Int32) (hk4 : ∀ (x1 : Int32) (x2 : Int32) (x3 : Int32), k4 x1 x2 x3 = some z → V P M (mW D cs ad) 7 (QI P M (mW D cs ad) z σ) 4 [(0, .ref (ad 11)), (1, .int x1), (2, .int x2), (3, .int x3)] [] σ) (x1 : Int32) (x2 : Int32) (x3 : Int32) (x5 : Int32) (y0 : Int32) (hf : f_X7_standBy_a_92 fuel σ k4 x1 x2 x3 x5 y0 = some z) : V P M (mW D cs ad) 7 (QI P M (mW D cs ad) z σ) 92 [(0, .ref (ad 11)), (1, .int x1), (2, .int x2), (3, .int x3), (5, .int x5)] [.int y0] σ := by
  unfold f_X7_standBy_a_92 at hf
  refine v_istore [(6, .int y0), (0, .ref (ad 11)), (1, .int x1), (2, .int x2), (3, .int x3), (5, .int x5)] hX dX7_standBy_92 (lt_b rfl) rfl ?_
  refine v_iload_n 3 2 hX dX7_standBy_94 rfl rfl ?_
  refine v_iload 5 hX dX7_standBy_95 rfl ?_
  refine v_if_eq 111 hX dX7_standBy_97 (by decide) (fun c => ?_) (fun c => ?_)
  · have hf := opt_t c hf
    refine v_iconst 0 hX dX7_standBy_111 (by decide) ?_
    refine v_ior hX dX7_standBy_112 ?_
    refine v_istore_n 2 [(2, .int (x2 ||| 0)), (6, .int y0), (0, .ref (ad 11)), (1, .int x1), (3, .int x3), (5, .int x5)] hX dX7_standBy_113 rfl (lt_b rfl) rfl ?_
    refine v_iinc 4 (x3 + 1) [(3, .int (x3 + 1)), (2, .int (x2 ||| 0)), (6, .int y0), (0, .ref (ad 11)), (1, .int x1), (5, .int x5)] hX dX7_standBy_114 rfl rfl (lt_b rfl) rfl ?_
    refine v_goto 4 hX dX7_standBy_117 (by decide) ?_
    exact v_sub [3, 4, 1, 0] rfl (hk4 x1 (x2 ||| 0) (x3 + 1) hf)
  · have hf := opt_f c hf
    refine v_iload 0 hX dX7_standBy_100 rfl ?_
    refine v_if_eq 111 hX dX7_standBy_102 (by decide) (fun c => ?_) (fun c => ?_)
    · have hf := opt_t c hf
      refine v_iconst 0 hX dX7_standBy_111 (by decide) ?_
      refine v_ior hX dX7_standBy_112 ?_
      refine v_istore_n 2 [(2, .int (x2 ||| 0)), (6, .int y0), (0, .ref (ad 11)), (1, .int x1), (3, .int x3), (5, .int x5)] hX dX7_standBy_113 rfl (lt_b rfl) rfl ?_
      refine v_iinc 4 (x3 + 1) [(3, .int (x3 + 1)), (2, .int (x2 ||| 0)), (6, .int y0), (0, .ref (ad 11)), (1, .int x1), (5, .int x5)] hX dX7_standBy_114 rfl rfl (lt_b rfl) rfl ?_
      refine v_goto 4 hX dX7_standBy_117 (by decide) ?_
      exact v_sub [3, 4, 1, 0] rfl (hk4 x1 (x2 ||| 0) (x3 + 1) hf)
    · have hf := opt_f c hf
      refine v_iconst 1 hX dX7_standBy_105 (by decide) ?_
      refine v_iload_n 4 3 hX dX7_standBy_106 rfl rfl ?_
      refine v_ishl hX dX7_standBy_107 ?_
      refine v_goto 112 hX dX7_standBy_108 (by decide) ?_
      refine v_ior hX dX7_standBy_112 ?_
      refine v_istore_n 2 [(2, .int (x2 ||| (1 <<< (x3 &&& 31)))), (6, .int y0), (0, .ref (ad 11)), (1, .int x1), (3, .int x3), (5, .int x5)] hX dX7_standBy_113 rfl (lt_b rfl) rfl ?_
      refine v_iinc 4 (x3 + 1) [(3, .int (x3 + 1)), (2, .int (x2 ||| (1 <<< (x3 &&& 31)))), (6, .int y0), (0, .ref (ad 11)), (1, .int x1), (5, .int x5)] hX dX7_standBy_114 rfl rfl (lt_b rfl) rfl ?_
      refine v_goto 4 hX dX7_standBy_117 (by decide) ?_
      exact v_sub [3, 4, 1, 0] rfl (hk4 x1 (x2 ||| (1 <<< (x3 &&& 31))) (x3 + 1) hf)
set_option maxHeartbeats 4000000 in
set_option maxRecDepth 100000 in
theorem s_X7_standBy_a_51 {P : PT} {M : MT} {D : va_G} {cs : ClassId × ClassId × ClassId} {ad : Nat → Nat} (hX : VOk P M (mW D cs ad) 7 cX7_standBy RX7 (some .int) 0) (fuel : Nat) (σ : Mem) (k4 : Int32 → Int32 → Int32 → Option (Int32))  (z : Int32) (hk4 : ∀ (x1 : Int32) (x2 : Int32) (x3 : Int32), k4 x1 x2 x3 = some z → V P M (mW D cs ad) 7 (QI P M (mW D cs ad) z σ) 4 [(0, .ref (ad 11)), (1, .int x1), (2, .int x2), (3, .int x3)] [] σ) (x1 : Int32) (x2 : Int32) (x3 : Int32) (x4 : Int32) (y0 : Int32) (hf : f_X7_standBy_a_51 fuel σ k4 x1 x2 x3 x4 y0 = some z) : V P M (mW D cs ad) 7 (QI P M (mW D cs ad) z σ) 51 [(0, .ref (ad 11)), (1, .int x1), (2, .int x2), (3, .int x3), (4, .int x4)] [.int y0] σ := by
  unfold f_X7_standBy_a_51 at hf
  refine v_istore [(5, .int y0), (0, .ref (ad 11)), (1, .int x1), (2, .int x2), (3, .int x3), (4, .int x4)] hX dX7_standBy_51 (lt_b rfl) rfl ?_
  refine v_aload_n 1 0 hX dX7_standBy_53 rfl rfl ?_
  refine v_bipush 70 hX dX7_standBy_54 (by decide) ?_
  refine v_iload_n 4 3 hX dX7_standBy_56 rfl rfl ?_
  refine v_iadd hX dX7_standBy_57 ?_
  obtain ⟨hi4, hf⟩ := gd_some hf
  refine v_ald (v := σ 11 ((70 + x3).toNatClampNeg)) 11 hX dX7_standBy_58 (lt_b rfl) ((fun _ => rfl) _) hi4 rfl ?_
  refine v_iconst 1 hX dX7_standBy_59 (by decide) ?_
  refine v_icmp_ne 82 hX dX7_standBy_60 (by decide) (fun c => ?_) (fun c => ?_)
  · have hf := opt_f c hf
    refine v_iload 5 hX dX7_standBy_82 rfl ?_
    refine v_if_eq 91 hX dX7_standBy_84 (by decide) (fun c => ?_) (fun c => ?_)
    · have hf := opt_t c hf
      refine v_iconst 0 hX dX7_standBy_91 (by decide) ?_
      exact v_sub [1, 2, 3, 4, 0] rfl (s_X7_standBy_a_92 hX fuel σ k4 z hk4 x1 x2 x3 y0 0 hf)
    · have hf := opt_f c hf
      refine v_iconst 1 hX dX7_standBy_87 (by decide) ?_
      refine v_goto 92 hX dX7_standBy_88 (by decide) ?_
      exact v_sub [1, 2, 3, 4, 0] rfl (s_X7_standBy_a_92 hX fuel σ k4 z hk4 x1 x2 x3 y0 1 hf)
  · have hf := opt_t c hf
    refine v_iload 5 hX dX7_standBy_63 rfl ?_
    refine v_aload_n 1 0 hX dX7_standBy_65 rfl rfl ?_
    refine v_bipush 65 hX dX7_standBy_66 (by decide) ?_
    refine v_iload_n 4 3 hX dX7_standBy_68 rfl rfl ?_
    refine v_iadd hX dX7_standBy_69 ?_
    obtain ⟨hi5, hf⟩ := gd_some hf
    refine v_ald (v := σ 11 ((65 + x3).toNatClampNeg)) 11 hX dX7_standBy_70 (lt_b rfl) ((fun _ => rfl) _) hi5 rfl ?_
    refine v_icmp_ne 78 hX dX7_standBy_71 (by decide) (fun c => ?_) (fun c => ?_)
    · have hf := opt_f c hf
      refine v_iconst 0 hX dX7_standBy_78 (by decide) ?_
      refine v_goto 92 hX dX7_standBy_79 (by decide) ?_
      exact v_sub [1, 2, 3, 4, 0] rfl (s_X7_standBy_a_92 hX fuel σ k4 z hk4 x1 x2 x3 y0 0 hf)
    · have hf := opt_t c hf
      refine v_iconst 1 hX dX7_standBy_74 (by decide) ?_
      refine v_goto 92 hX dX7_standBy_75 (by decide) ?_
      exact v_sub [1, 2, 3, 4, 0] rfl (s_X7_standBy_a_92 hX fuel σ k4 z hk4 x1 x2 x3 y0 1 hf)
set_option maxHeartbeats 4000000 in
set_option maxRecDepth 100000 in
theorem s_X7_standBy_a_4 {P : PT} {M : MT} {D : va_G} {cs : ClassId × ClassId × ClassId} {ad : Nat → Nat} (hX : VOk P M (mW D cs ad) 7 cX7_standBy RX7 (some .int) 0) (fuel : Nat) (σ : Mem)   (z : Int32)  : ∀ (n : Nat) (x1 : Int32) (x2 : Int32) (x3 : Int32), f_X7_standBy_a_4 fuel σ n x1 x2 x3 = some z → V P M (mW D cs ad) 7 (QI P M (mW D cs ad) z σ) 4 [(0, .ref (ad 11)), (1, .int x1), (2, .int x2), (3, .int x3)] [] σ := by
  intro n
  induction n with
  | zero =>
    intro x1 x2 x3 hf
    cases hf
  | succ n hk4 =>
    intro x1 x2 x3 hf
    rw [f_X7_standBy_a_4] at hf
    refine v_iload_n 3 3 hX dX7_standBy_4 rfl rfl ?_
    refine v_aload_n 0 0 hX dX7_standBy_5 rfl rfl ?_
    refine v_iconst 4 hX dX7_standBy_6 (by decide) ?_
    refine v_aldc (v := σ 11 4) 11 4 hX dX7_standBy_7 (lt_b rfl) ((fun _ => rfl) _) ib_4_85 tn_4 rfl ?_
    refine v_icmp_ge 120 hX dX7_standBy_8 (by decide) (fun c => ?_) (fun c => ?_)
    · have hf := opt_t c hf
      refine v_iload_n 2 2 hX dX7_standBy_120 rfl rfl ?_
      obtain rfl := Option.some.inj hf
      exact v_iret (r := x2) hX dX7_standBy_121 rfl
    · have hf := opt_f c hf
      refine v_aload_n 0 0 hX dX7_standBy_11 rfl rfl ?_
      refine v_bipush 65 hX dX7_standBy_12 (by decide) ?_
      refine v_iload_n 3 3 hX dX7_standBy_14 rfl rfl ?_
      refine v_iadd hX dX7_standBy_15 ?_
      obtain ⟨hi1, hf⟩ := gd_some hf
      refine v_ald (v := σ 11 ((65 + x3).toNatClampNeg)) 11 hX dX7_standBy_16 (lt_b rfl) ((fun _ => rfl) _) hi1 rfl ?_
      refine v_iload_n 1 1 hX dX7_standBy_17 rfl rfl ?_
      refine v_iand hX dX7_standBy_18 ?_
      refine v_istore [(4, .int ((σ 11 ((65 + x3).toNatClampNeg)) &&& x1)), (0, .ref (ad 11)), (1, .int x1), (2, .int x2), (3, .int x3)] hX dX7_standBy_19 (lt_b rfl) rfl ?_
      refine v_aload_n 1 0 hX dX7_standBy_21 rfl rfl ?_
      refine v_bipush 75 hX dX7_standBy_22 (by decide) ?_
      refine v_iload_n 4 3 hX dX7_standBy_24 rfl rfl ?_
      refine v_iadd hX dX7_standBy_25 ?_
      obtain ⟨hi2, hf⟩ := gd_some hf
      refine v_ald (v := σ 11 ((75 + x3).toNatClampNeg)) 11 hX dX7_standBy_26 (lt_b rfl) ((fun _ => rfl) _) hi2 rfl ?_
      refine v_if_eq 46 hX dX7_standBy_27 (by decide) (fun c => ?_) (fun c => ?_)
      · have hf := opt_t c hf
        refine v_iconst 1 hX dX7_standBy_46 (by decide) ?_
        refine v_goto 51 hX dX7_standBy_47 (by decide) ?_
        exact v_sub [1, 2, 3, 4, 0] rfl (s_X7_standBy_a_51 hX fuel σ (f_X7_standBy_a_4 fuel σ n) z hk4 x1 x2 x3 ((σ 11 ((65 + x3).toNatClampNeg)) &&& x1) 1 hf)
      · have hf := opt_f c hf
        refine v_iload_n 3 2 hX dX7_standBy_30 rfl rfl ?_
        refine v_aload_n 1 0 hX dX7_standBy_31 rfl rfl ?_
        refine v_bipush 75 hX dX7_standBy_32 (by decide) ?_
        refine v_iload_n 4 3 hX dX7_standBy_34 rfl rfl ?_
        refine v_iadd hX dX7_standBy_35 ?_
        obtain ⟨hi3, hf⟩ := gd_some hf
        refine v_ald (v := σ 11 ((75 + x3).toNatClampNeg)) 11 hX dX7_standBy_36 (lt_b rfl) ((fun _ => rfl) _) hi3 rfl ?_
        refine v_iconst 1 hX dX7_standBy_37 (by decide) ?_
        refine v_isub hX dX7_standBy_38 ?_
        refine v_ishr hX dX7_standBy_39 ?_
        refine v_iconst 1 hX dX7_standBy_40 (by decide) ?_
        refine v_iand hX dX7_standBy_41 ?_
        refine v_iconst 1 hX dX7_standBy_42 (by decide) ?_
        refine v_icmp_ne 50 hX dX7_standBy_43 (by decide) (fun c => ?_) (fun c => ?_)
        · have hf := opt_f c hf
          refine v_iconst 0 hX dX7_standBy_50 (by decide) ?_
          exact v_sub [1, 2, 3, 4, 0] rfl (s_X7_standBy_a_51 hX fuel σ (f_X7_standBy_a_4 fuel σ n) z hk4 x1 x2 x3 ((σ 11 ((65 + x3).toNatClampNeg)) &&& x1) 0 hf)
        · have hf := opt_t c hf
          refine v_iconst 1 hX dX7_standBy_46 (by decide) ?_
          refine v_goto 51 hX dX7_standBy_47 (by decide) ?_
          exact v_sub [1, 2, 3, 4, 0] rfl (s_X7_standBy_a_51 hX fuel σ (f_X7_standBy_a_4 fuel σ n) z hk4 x1 x2 x3 ((σ 11 ((65 + x3).toNatClampNeg)) &&& x1) 1 hf)
set_option maxHeartbeats 4000000 in
set_option maxRecDepth 100000 in
theorem c_X7_standBy_a {l : Launch} {D : va_G} {cs : ClassId × ClassId × ClassId} {ad : Nat → Nat} (fuel : Nat) (σ : Mem)  (x1 : Int32) {z : Int32} (hf : f_X7_standBy_a fuel σ x1 = some z) : CtI l (mW D cs ad) 0 yX7_standBy cX7_standBy 7 (some .int) [.ref (ad 11), .int x1] σ z σ := by
  refine ct_I RX7 [(0, .ref (ad 11)), (1, .int x1)] (by decide +kernel) rfl rfl (Nat.le_of_ble_eq_true rfl) ?_
  intro P M hl0 hX
  unfold f_X7_standBy_a at hf
  refine v_iconst 0 hX dX7_standBy_0 (by decide) ?_
  refine v_istore_n 2 [(2, .int 0), (0, .ref (ad 11)), (1, .int x1)] hX dX7_standBy_1 rfl (lt_b rfl) rfl ?_
  refine v_iconst 0 hX dX7_standBy_2 (by decide) ?_
  refine v_istore_n 3 [(3, .int 0), (2, .int 0), (0, .ref (ad 11)), (1, .int x1)] hX dX7_standBy_3 rfl (lt_b rfl) rfl ?_
  exact v_sub [2, 3, 1, 0] rfl (s_X7_standBy_a_4 hX fuel σ z  fuel x1 0 0 hf)
set_option maxHeartbeats 4000000 in
set_option maxRecDepth 100000 in
theorem s_X7_whites_4 {P : PT} {M : MT} {D : va_G} {cs : ClassId × ClassId × ClassId} {ad : Nat → Nat} (hX : VOk P M (mW D cs ad) 3 cX7_whites RX7 (some .int) 0) (fuel : Nat) (σ : Mem)   (z : Int32)  : ∀ (n : Nat) (x1 : Int32) (x2 : Int32), f_X7_whites_4 fuel σ n x1 x2 = some z → V P M (mW D cs ad) 3 (QI P M (mW D cs ad) z σ) 4 [(0, .ref (ad 5)), (1, .int x1), (2, .int x2)] [] σ := by
  intro n
  induction n with
  | zero =>
    intro x1 x2 hf
    cases hf
  | succ n hk4 =>
    intro x1 x2 hf
    rw [f_X7_whites_4] at hf
    refine v_iload_n 2 2 hX dX7_whites_4 rfl rfl ?_
    refine v_aload_n 0 0 hX dX7_whites_5 rfl rfl ?_
    refine v_iconst 3 hX dX7_whites_6 (by decide) ?_
    refine v_aldc (v := σ 5 3) 5 3 hX dX7_whites_7 (lt_b rfl) ((fun _ => rfl) _) ib_3_85 tn_3 rfl ?_
    refine v_icmp_ge 26 hX dX7_whites_8 (by decide) (fun c => ?_) (fun c => ?_)
    · have hf := opt_t c hf
      refine v_iload_n 1 1 hX dX7_whites_26 rfl rfl ?_
      obtain rfl := Option.some.inj hf
      exact v_iret (r := x1) hX dX7_whites_27 rfl
    · have hf := opt_f c hf
      refine v_iload_n 1 1 hX dX7_whites_11 rfl rfl ?_
      refine v_aload_n 0 0 hX dX7_whites_12 rfl rfl ?_
      refine v_bipush 55 hX dX7_whites_13 (by decide) ?_
      refine v_iload_n 2 2 hX dX7_whites_15 rfl rfl ?_
      refine v_iadd hX dX7_whites_16 ?_
      obtain ⟨hi1, hf⟩ := gd_some hf
      refine v_ald (v := σ 5 ((55 + x2).toNatClampNeg)) 5 hX dX7_whites_17 (lt_b rfl) ((fun _ => rfl) _) hi1 rfl ?_
      refine v_iadd hX dX7_whites_18 ?_
      refine v_istore_n 1 [(1, .int (x1 + (σ 5 ((55 + x2).toNatClampNeg)))), (0, .ref (ad 5)), (2, .int x2)] hX dX7_whites_19 rfl (lt_b rfl) rfl ?_
      refine v_iinc 2 (x2 + 1) [(2, .int (x2 + 1)), (1, .int (x1 + (σ 5 ((55 + x2).toNatClampNeg)))), (0, .ref (ad 5))] hX dX7_whites_20 rfl rfl (lt_b rfl) rfl ?_
      refine v_goto 4 hX dX7_whites_23 (by decide) ?_
      exact v_sub [2, 1, 0] rfl (hk4 (x1 + (σ 5 ((55 + x2).toNatClampNeg))) (x2 + 1) hf)
set_option maxHeartbeats 4000000 in
set_option maxRecDepth 100000 in
theorem c_X7_whites {l : Launch} {D : va_G} {cs : ClassId × ClassId × ClassId} {ad : Nat → Nat} (fuel : Nat) (σ : Mem)   {z : Int32} (hf : f_X7_whites fuel σ = some z) : CtI l (mW D cs ad) 0 yX7_whites cX7_whites 3 (some .int) [.ref (ad 5)] σ z σ := by
  refine ct_I RX7 [(0, .ref (ad 5))] (by decide +kernel) rfl rfl (Nat.le_of_ble_eq_true rfl) ?_
  intro P M hl0 hX
  unfold f_X7_whites at hf
  refine v_iconst 0 hX dX7_whites_0 (by decide) ?_
  refine v_istore_n 1 [(1, .int 0), (0, .ref (ad 5))] hX dX7_whites_1 rfl (lt_b rfl) rfl ?_
  refine v_iconst 0 hX dX7_whites_2 (by decide) ?_
  refine v_istore_n 2 [(2, .int 0), (1, .int 0), (0, .ref (ad 5))] hX dX7_whites_3 rfl (lt_b rfl) rfl ?_
  exact v_sub [2, 1, 0] rfl (s_X7_whites_4 hX fuel σ z  fuel 0 0 hf)
set_option maxHeartbeats 4000000 in
set_option maxRecDepth 100000 in
theorem s_X7_whiteSet_4 {P : PT} {M : MT} {D : va_G} {cs : ClassId × ClassId × ClassId} {ad : Nat → Nat} (hX : VOk P M (mW D cs ad) 3 cX7_whiteSet RX7 (some .int) 0) (fuel : Nat) (σ : Mem)   (z : Int32)  : ∀ (n : Nat) (x1 : Int32) (x2 : Int32), f_X7_whiteSet_4 fuel σ n x1 x2 = some z → V P M (mW D cs ad) 3 (QI P M (mW D cs ad) z σ) 4 [(0, .ref (ad 11)), (1, .int x1), (2, .int x2)] [] σ := by
  intro n
  induction n with
  | zero =>
    intro x1 x2 hf
    cases hf
  | succ n hk4 =>
    intro x1 x2 hf
    rw [f_X7_whiteSet_4] at hf
    refine v_iload_n 2 2 hX dX7_whiteSet_4 rfl rfl ?_
    refine v_aload_n 0 0 hX dX7_whiteSet_5 rfl rfl ?_
    refine v_iconst 3 hX dX7_whiteSet_6 (by decide) ?_
    refine v_aldc (v := σ 11 3) 11 3 hX dX7_whiteSet_7 (lt_b rfl) ((fun _ => rfl) _) ib_3_85 tn_3 rfl ?_
    refine v_icmp_ge 28 hX dX7_whiteSet_8 (by decide) (fun c => ?_) (fun c => ?_)
    · have hf := opt_t c hf
      refine v_iload_n 1 1 hX dX7_whiteSet_28 rfl rfl ?_
      obtain rfl := Option.some.inj hf
      exact v_iret (r := x1) hX dX7_whiteSet_29 rfl
    · have hf := opt_f c hf
      refine v_iload_n 1 1 hX dX7_whiteSet_11 rfl rfl ?_
      refine v_aload_n 0 0 hX dX7_whiteSet_12 rfl rfl ?_
      refine v_bipush 55 hX dX7_whiteSet_13 (by decide) ?_
      refine v_iload_n 2 2 hX dX7_whiteSet_15 rfl rfl ?_
      refine v_iadd hX dX7_whiteSet_16 ?_
      obtain ⟨hi1, hf⟩ := gd_some hf
      refine v_ald (v := σ 11 ((55 + x2).toNatClampNeg)) 11 hX dX7_whiteSet_17 (lt_b rfl) ((fun _ => rfl) _) hi1 rfl ?_
      refine v_iload_n 2 2 hX dX7_whiteSet_18 rfl rfl ?_
      refine v_ishl hX dX7_whiteSet_19 ?_
      refine v_ior hX dX7_whiteSet_20 ?_
      refine v_istore_n 1 [(1, .int (x1 ||| ((σ 11 ((55 + x2).toNatClampNeg)) <<< (x2 &&& 31)))), (0, .ref (ad 11)), (2, .int x2)] hX dX7_whiteSet_21 rfl (lt_b rfl) rfl ?_
      refine v_iinc 2 (x2 + 1) [(2, .int (x2 + 1)), (1, .int (x1 ||| ((σ 11 ((55 + x2).toNatClampNeg)) <<< (x2 &&& 31)))), (0, .ref (ad 11))] hX dX7_whiteSet_22 rfl rfl (lt_b rfl) rfl ?_
      refine v_goto 4 hX dX7_whiteSet_25 (by decide) ?_
      exact v_sub [2, 1, 0] rfl (hk4 (x1 ||| ((σ 11 ((55 + x2).toNatClampNeg)) <<< (x2 &&& 31))) (x2 + 1) hf)
set_option maxHeartbeats 4000000 in
set_option maxRecDepth 100000 in
theorem c_X7_whiteSet {l : Launch} {D : va_G} {cs : ClassId × ClassId × ClassId} {ad : Nat → Nat} (fuel : Nat) (σ : Mem)   {z : Int32} (hf : f_X7_whiteSet fuel σ = some z) : CtI l (mW D cs ad) 0 yX7_whiteSet cX7_whiteSet 3 (some .int) [.ref (ad 11)] σ z σ := by
  refine ct_I RX7 [(0, .ref (ad 11))] (by decide +kernel) rfl rfl (Nat.le_of_ble_eq_true rfl) ?_
  intro P M hl0 hX
  unfold f_X7_whiteSet at hf
  refine v_iconst 0 hX dX7_whiteSet_0 (by decide) ?_
  refine v_istore_n 1 [(1, .int 0), (0, .ref (ad 11))] hX dX7_whiteSet_1 rfl (lt_b rfl) rfl ?_
  refine v_iconst 0 hX dX7_whiteSet_2 (by decide) ?_
  refine v_istore_n 2 [(2, .int 0), (1, .int 0), (0, .ref (ad 11))] hX dX7_whiteSet_3 rfl (lt_b rfl) rfl ?_
  exact v_sub [2, 1, 0] rfl (s_X7_whiteSet_4 hX fuel σ z  fuel 0 0 hf)
set_option maxHeartbeats 4000000 in
set_option maxRecDepth 100000 in
theorem s_X7_copies_10_5_3 {P : PT} {M : MT} {D : va_G} {cs : ClassId × ClassId × ClassId} {ad : Nat → Nat} (hX : VOk P M (mW D cs ad) 5 cX7_copies RX7 none 0) (fuel : Nat)   (z : Mem)  : ∀ (n : Nat) (σ : Mem) (x1 : Int32) (x3 : Int32) (x4 : Int32), f_X7_copies_10_5_3 fuel n σ x1 x3 x4 = some z → V P M (mW D cs ad) 5 (QV P M (mW D cs ad) z) 3 [(0, .ref (ad 10)), (1, .int x1), (2, .ref (ad 5)), (3, .int x3), (4, .int x4)] [] σ := by
  intro n
  induction n with
  | zero =>
    intro σ x1 x3 x4 hf
    cases hf
  | succ n hk3 =>
    intro σ x1 x3 x4 hf
    rw [f_X7_copies_10_5_3] at hf
    refine v_iload 4 hX dX7_copies_3 rfl ?_
    refine v_bipush 85 hX dX7_copies_5 (by decide) ?_
    refine v_icmp_ge 28 hX dX7_copies_7 (by decide) (fun c => ?_) (fun c => ?_)
    · have hf := opt_t c hf
      obtain rfl := Option.some.inj hf
      exact v_vret hX dX7_copies_28
    · have hf := opt_f c hf
      refine v_aload_n 2 2 hX dX7_copies_10 rfl rfl ?_
      refine v_iload_n 3 3 hX dX7_copies_11 rfl rfl ?_
      refine v_iload 4 hX dX7_copies_12 rfl ?_
      refine v_iadd hX dX7_copies_14 ?_
      refine v_aload_n 0 0 hX dX7_copies_15 rfl rfl ?_
      refine v_iload_n 1 1 hX dX7_copies_16 rfl rfl ?_
      refine v_iload 4 hX dX7_copies_17 rfl ?_
      refine v_iadd hX dX7_copies_19 ?_
      obtain ⟨hi1, hf⟩ := gd_some hf
      refine v_ald (v := σ 10 ((x1 + x4).toNatClampNeg)) 10 hX dX7_copies_20 (lt_b rfl) ((fun _ => rfl) _) hi1 rfl ?_
      obtain ⟨hi2, hf⟩ := gd_some hf
      refine v_ast 5 hX dX7_copies_21 (lt_b rfl) (fun _ => rfl) hi2 ?_
      refine v_iinc 4 (x4 + 1) [(4, .int (x4 + 1)), (0, .ref (ad 10)), (1, .int x1), (2, .ref (ad 5)), (3, .int x3)] hX dX7_copies_22 rfl rfl (lt_b rfl) rfl ?_
      refine v_goto 3 hX dX7_copies_25 (by decide) ?_
      exact v_sub [1, 2, 3, 4, 0] rfl (hk3 (mst σ 5 ((x3 + x4).toNatClampNeg) (σ 10 ((x1 + x4).toNatClampNeg))) x1 x3 (x4 + 1) hf)
set_option maxHeartbeats 4000000 in
set_option maxRecDepth 100000 in
theorem c_X7_copies_10_5 {l : Launch} {D : va_G} {cs : ClassId × ClassId × ClassId} {ad : Nat → Nat} (σ : Mem) (fuel : Nat)  (x1 : Int32) (x3 : Int32) {z : Mem} (hf : f_X7_copies_10_5 fuel σ x1 x3 = some z) : CtV l (mW D cs ad) 0 yX7_copies cX7_copies 5 [.ref (ad 10), .int x1, .ref (ad 5), .int x3] σ z := by
  refine ct_V RX7 [(0, .ref (ad 10)), (1, .int x1), (2, .ref (ad 5)), (3, .int x3)] (by decide +kernel) rfl rfl (Nat.le_of_ble_eq_true rfl) ?_
  intro P M hl0 hX
  unfold f_X7_copies_10_5 at hf
  refine v_iconst 0 hX dX7_copies_0 (by decide) ?_
  refine v_istore [(4, .int 0), (0, .ref (ad 10)), (1, .int x1), (2, .ref (ad 5)), (3, .int x3)] hX dX7_copies_1 (lt_b rfl) rfl ?_
  exact v_sub [1, 2, 3, 4, 0] rfl (s_X7_copies_10_5_3 hX fuel z  fuel σ x1 x3 0 hf)
set_option maxHeartbeats 4000000 in
set_option maxRecDepth 100000 in
theorem s_X7_copies_5_6_3 {P : PT} {M : MT} {D : va_G} {cs : ClassId × ClassId × ClassId} {ad : Nat → Nat} (hX : VOk P M (mW D cs ad) 5 cX7_copies RX7 none 0) (fuel : Nat)   (z : Mem)  : ∀ (n : Nat) (σ : Mem) (x1 : Int32) (x3 : Int32) (x4 : Int32), f_X7_copies_5_6_3 fuel n σ x1 x3 x4 = some z → V P M (mW D cs ad) 5 (QV P M (mW D cs ad) z) 3 [(0, .ref (ad 5)), (1, .int x1), (2, .ref (ad 6)), (3, .int x3), (4, .int x4)] [] σ := by
  intro n
  induction n with
  | zero =>
    intro σ x1 x3 x4 hf
    cases hf
  | succ n hk3 =>
    intro σ x1 x3 x4 hf
    rw [f_X7_copies_5_6_3] at hf
    refine v_iload 4 hX dX7_copies_3 rfl ?_
    refine v_bipush 85 hX dX7_copies_5 (by decide) ?_
    refine v_icmp_ge 28 hX dX7_copies_7 (by decide) (fun c => ?_) (fun c => ?_)
    · have hf := opt_t c hf
      obtain rfl := Option.some.inj hf
      exact v_vret hX dX7_copies_28
    · have hf := opt_f c hf
      refine v_aload_n 2 2 hX dX7_copies_10 rfl rfl ?_
      refine v_iload_n 3 3 hX dX7_copies_11 rfl rfl ?_
      refine v_iload 4 hX dX7_copies_12 rfl ?_
      refine v_iadd hX dX7_copies_14 ?_
      refine v_aload_n 0 0 hX dX7_copies_15 rfl rfl ?_
      refine v_iload_n 1 1 hX dX7_copies_16 rfl rfl ?_
      refine v_iload 4 hX dX7_copies_17 rfl ?_
      refine v_iadd hX dX7_copies_19 ?_
      obtain ⟨hi1, hf⟩ := gd_some hf
      refine v_ald (v := σ 5 ((x1 + x4).toNatClampNeg)) 5 hX dX7_copies_20 (lt_b rfl) ((fun _ => rfl) _) hi1 rfl ?_
      obtain ⟨hi2, hf⟩ := gd_some hf
      refine v_ast 6 hX dX7_copies_21 (lt_b rfl) (fun _ => rfl) hi2 ?_
      refine v_iinc 4 (x4 + 1) [(4, .int (x4 + 1)), (0, .ref (ad 5)), (1, .int x1), (2, .ref (ad 6)), (3, .int x3)] hX dX7_copies_22 rfl rfl (lt_b rfl) rfl ?_
      refine v_goto 3 hX dX7_copies_25 (by decide) ?_
      exact v_sub [1, 2, 3, 4, 0] rfl (hk3 (mst σ 6 ((x3 + x4).toNatClampNeg) (σ 5 ((x1 + x4).toNatClampNeg))) x1 x3 (x4 + 1) hf)
set_option maxHeartbeats 4000000 in
set_option maxRecDepth 100000 in
theorem c_X7_copies_5_6 {l : Launch} {D : va_G} {cs : ClassId × ClassId × ClassId} {ad : Nat → Nat} (σ : Mem) (fuel : Nat)  (x1 : Int32) (x3 : Int32) {z : Mem} (hf : f_X7_copies_5_6 fuel σ x1 x3 = some z) : CtV l (mW D cs ad) 0 yX7_copies cX7_copies 5 [.ref (ad 5), .int x1, .ref (ad 6), .int x3] σ z := by
  refine ct_V RX7 [(0, .ref (ad 5)), (1, .int x1), (2, .ref (ad 6)), (3, .int x3)] (by decide +kernel) rfl rfl (Nat.le_of_ble_eq_true rfl) ?_
  intro P M hl0 hX
  unfold f_X7_copies_5_6 at hf
  refine v_iconst 0 hX dX7_copies_0 (by decide) ?_
  refine v_istore [(4, .int 0), (0, .ref (ad 5)), (1, .int x1), (2, .ref (ad 6)), (3, .int x3)] hX dX7_copies_1 (lt_b rfl) rfl ?_
  exact v_sub [1, 2, 3, 4, 0] rfl (s_X7_copies_5_6_3 hX fuel z  fuel σ x1 x3 0 hf)
set_option maxHeartbeats 4000000 in
set_option maxRecDepth 100000 in
theorem s_X7_copies_6_5_3 {P : PT} {M : MT} {D : va_G} {cs : ClassId × ClassId × ClassId} {ad : Nat → Nat} (hX : VOk P M (mW D cs ad) 5 cX7_copies RX7 none 0) (fuel : Nat)   (z : Mem)  : ∀ (n : Nat) (σ : Mem) (x1 : Int32) (x3 : Int32) (x4 : Int32), f_X7_copies_6_5_3 fuel n σ x1 x3 x4 = some z → V P M (mW D cs ad) 5 (QV P M (mW D cs ad) z) 3 [(0, .ref (ad 6)), (1, .int x1), (2, .ref (ad 5)), (3, .int x3), (4, .int x4)] [] σ := by
  intro n
  induction n with
  | zero =>
    intro σ x1 x3 x4 hf
    cases hf
  | succ n hk3 =>
    intro σ x1 x3 x4 hf
    rw [f_X7_copies_6_5_3] at hf
    refine v_iload 4 hX dX7_copies_3 rfl ?_
    refine v_bipush 85 hX dX7_copies_5 (by decide) ?_
    refine v_icmp_ge 28 hX dX7_copies_7 (by decide) (fun c => ?_) (fun c => ?_)
    · have hf := opt_t c hf
      obtain rfl := Option.some.inj hf
      exact v_vret hX dX7_copies_28
    · have hf := opt_f c hf
      refine v_aload_n 2 2 hX dX7_copies_10 rfl rfl ?_
      refine v_iload_n 3 3 hX dX7_copies_11 rfl rfl ?_
      refine v_iload 4 hX dX7_copies_12 rfl ?_
      refine v_iadd hX dX7_copies_14 ?_
      refine v_aload_n 0 0 hX dX7_copies_15 rfl rfl ?_
      refine v_iload_n 1 1 hX dX7_copies_16 rfl rfl ?_
      refine v_iload 4 hX dX7_copies_17 rfl ?_
      refine v_iadd hX dX7_copies_19 ?_
      obtain ⟨hi1, hf⟩ := gd_some hf
      refine v_ald (v := σ 6 ((x1 + x4).toNatClampNeg)) 6 hX dX7_copies_20 (lt_b rfl) ((fun _ => rfl) _) hi1 rfl ?_
      obtain ⟨hi2, hf⟩ := gd_some hf
      refine v_ast 5 hX dX7_copies_21 (lt_b rfl) (fun _ => rfl) hi2 ?_
      refine v_iinc 4 (x4 + 1) [(4, .int (x4 + 1)), (0, .ref (ad 6)), (1, .int x1), (2, .ref (ad 5)), (3, .int x3)] hX dX7_copies_22 rfl rfl (lt_b rfl) rfl ?_
      refine v_goto 3 hX dX7_copies_25 (by decide) ?_
      exact v_sub [1, 2, 3, 4, 0] rfl (hk3 (mst σ 5 ((x3 + x4).toNatClampNeg) (σ 6 ((x1 + x4).toNatClampNeg))) x1 x3 (x4 + 1) hf)
set_option maxHeartbeats 4000000 in
set_option maxRecDepth 100000 in
theorem c_X7_copies_6_5 {l : Launch} {D : va_G} {cs : ClassId × ClassId × ClassId} {ad : Nat → Nat} (σ : Mem) (fuel : Nat)  (x1 : Int32) (x3 : Int32) {z : Mem} (hf : f_X7_copies_6_5 fuel σ x1 x3 = some z) : CtV l (mW D cs ad) 0 yX7_copies cX7_copies 5 [.ref (ad 6), .int x1, .ref (ad 5), .int x3] σ z := by
  refine ct_V RX7 [(0, .ref (ad 6)), (1, .int x1), (2, .ref (ad 5)), (3, .int x3)] (by decide +kernel) rfl rfl (Nat.le_of_ble_eq_true rfl) ?_
  intro P M hl0 hX
  unfold f_X7_copies_6_5 at hf
  refine v_iconst 0 hX dX7_copies_0 (by decide) ?_
  refine v_istore [(4, .int 0), (0, .ref (ad 6)), (1, .int x1), (2, .ref (ad 5)), (3, .int x3)] hX dX7_copies_1 (lt_b rfl) rfl ?_
  exact v_sub [1, 2, 3, 4, 0] rfl (s_X7_copies_6_5_3 hX fuel z  fuel σ x1 x3 0 hf)
set_option maxHeartbeats 4000000 in
set_option maxRecDepth 100000 in
theorem s_X7_copies_5_11_3 {P : PT} {M : MT} {D : va_G} {cs : ClassId × ClassId × ClassId} {ad : Nat → Nat} (hX : VOk P M (mW D cs ad) 5 cX7_copies RX7 none 0) (fuel : Nat)   (z : Mem)  : ∀ (n : Nat) (σ : Mem) (x1 : Int32) (x3 : Int32) (x4 : Int32), f_X7_copies_5_11_3 fuel n σ x1 x3 x4 = some z → V P M (mW D cs ad) 5 (QV P M (mW D cs ad) z) 3 [(0, .ref (ad 5)), (1, .int x1), (2, .ref (ad 11)), (3, .int x3), (4, .int x4)] [] σ := by
  intro n
  induction n with
  | zero =>
    intro σ x1 x3 x4 hf
    cases hf
  | succ n hk3 =>
    intro σ x1 x3 x4 hf
    rw [f_X7_copies_5_11_3] at hf
    refine v_iload 4 hX dX7_copies_3 rfl ?_
    refine v_bipush 85 hX dX7_copies_5 (by decide) ?_
    refine v_icmp_ge 28 hX dX7_copies_7 (by decide) (fun c => ?_) (fun c => ?_)
    · have hf := opt_t c hf
      obtain rfl := Option.some.inj hf
      exact v_vret hX dX7_copies_28
    · have hf := opt_f c hf
      refine v_aload_n 2 2 hX dX7_copies_10 rfl rfl ?_
      refine v_iload_n 3 3 hX dX7_copies_11 rfl rfl ?_
      refine v_iload 4 hX dX7_copies_12 rfl ?_
      refine v_iadd hX dX7_copies_14 ?_
      refine v_aload_n 0 0 hX dX7_copies_15 rfl rfl ?_
      refine v_iload_n 1 1 hX dX7_copies_16 rfl rfl ?_
      refine v_iload 4 hX dX7_copies_17 rfl ?_
      refine v_iadd hX dX7_copies_19 ?_
      obtain ⟨hi1, hf⟩ := gd_some hf
      refine v_ald (v := σ 5 ((x1 + x4).toNatClampNeg)) 5 hX dX7_copies_20 (lt_b rfl) ((fun _ => rfl) _) hi1 rfl ?_
      obtain ⟨hi2, hf⟩ := gd_some hf
      refine v_ast 11 hX dX7_copies_21 (lt_b rfl) (fun _ => rfl) hi2 ?_
      refine v_iinc 4 (x4 + 1) [(4, .int (x4 + 1)), (0, .ref (ad 5)), (1, .int x1), (2, .ref (ad 11)), (3, .int x3)] hX dX7_copies_22 rfl rfl (lt_b rfl) rfl ?_
      refine v_goto 3 hX dX7_copies_25 (by decide) ?_
      exact v_sub [1, 2, 3, 4, 0] rfl (hk3 (mst σ 11 ((x3 + x4).toNatClampNeg) (σ 5 ((x1 + x4).toNatClampNeg))) x1 x3 (x4 + 1) hf)
set_option maxHeartbeats 4000000 in
set_option maxRecDepth 100000 in
theorem c_X7_copies_5_11 {l : Launch} {D : va_G} {cs : ClassId × ClassId × ClassId} {ad : Nat → Nat} (σ : Mem) (fuel : Nat)  (x1 : Int32) (x3 : Int32) {z : Mem} (hf : f_X7_copies_5_11 fuel σ x1 x3 = some z) : CtV l (mW D cs ad) 0 yX7_copies cX7_copies 5 [.ref (ad 5), .int x1, .ref (ad 11), .int x3] σ z := by
  refine ct_V RX7 [(0, .ref (ad 5)), (1, .int x1), (2, .ref (ad 11)), (3, .int x3)] (by decide +kernel) rfl rfl (Nat.le_of_ble_eq_true rfl) ?_
  intro P M hl0 hX
  unfold f_X7_copies_5_11 at hf
  refine v_iconst 0 hX dX7_copies_0 (by decide) ?_
  refine v_istore [(4, .int 0), (0, .ref (ad 5)), (1, .int x1), (2, .ref (ad 11)), (3, .int x3)] hX dX7_copies_1 (lt_b rfl) rfl ?_
  exact v_sub [1, 2, 3, 4, 0] rfl (s_X7_copies_5_11_3 hX fuel z  fuel σ x1 x3 0 hf)
set_option maxHeartbeats 4000000 in
set_option maxRecDepth 100000 in
theorem s_X7_copies_5_7_3 {P : PT} {M : MT} {D : va_G} {cs : ClassId × ClassId × ClassId} {ad : Nat → Nat} (hX : VOk P M (mW D cs ad) 5 cX7_copies RX7 none 0) (fuel : Nat)   (z : Mem)  : ∀ (n : Nat) (σ : Mem) (x1 : Int32) (x3 : Int32) (x4 : Int32), f_X7_copies_5_7_3 fuel n σ x1 x3 x4 = some z → V P M (mW D cs ad) 5 (QV P M (mW D cs ad) z) 3 [(0, .ref (ad 5)), (1, .int x1), (2, .ref (ad 7)), (3, .int x3), (4, .int x4)] [] σ := by
  intro n
  induction n with
  | zero =>
    intro σ x1 x3 x4 hf
    cases hf
  | succ n hk3 =>
    intro σ x1 x3 x4 hf
    rw [f_X7_copies_5_7_3] at hf
    refine v_iload 4 hX dX7_copies_3 rfl ?_
    refine v_bipush 85 hX dX7_copies_5 (by decide) ?_
    refine v_icmp_ge 28 hX dX7_copies_7 (by decide) (fun c => ?_) (fun c => ?_)
    · have hf := opt_t c hf
      obtain rfl := Option.some.inj hf
      exact v_vret hX dX7_copies_28
    · have hf := opt_f c hf
      refine v_aload_n 2 2 hX dX7_copies_10 rfl rfl ?_
      refine v_iload_n 3 3 hX dX7_copies_11 rfl rfl ?_
      refine v_iload 4 hX dX7_copies_12 rfl ?_
      refine v_iadd hX dX7_copies_14 ?_
      refine v_aload_n 0 0 hX dX7_copies_15 rfl rfl ?_
      refine v_iload_n 1 1 hX dX7_copies_16 rfl rfl ?_
      refine v_iload 4 hX dX7_copies_17 rfl ?_
      refine v_iadd hX dX7_copies_19 ?_
      obtain ⟨hi1, hf⟩ := gd_some hf
      refine v_ald (v := σ 5 ((x1 + x4).toNatClampNeg)) 5 hX dX7_copies_20 (lt_b rfl) ((fun _ => rfl) _) hi1 rfl ?_
      obtain ⟨hi2, hf⟩ := gd_some hf
      refine v_ast 7 hX dX7_copies_21 (lt_b rfl) (fun _ => rfl) hi2 ?_
      refine v_iinc 4 (x4 + 1) [(4, .int (x4 + 1)), (0, .ref (ad 5)), (1, .int x1), (2, .ref (ad 7)), (3, .int x3)] hX dX7_copies_22 rfl rfl (lt_b rfl) rfl ?_
      refine v_goto 3 hX dX7_copies_25 (by decide) ?_
      exact v_sub [1, 2, 3, 4, 0] rfl (hk3 (mst σ 7 ((x3 + x4).toNatClampNeg) (σ 5 ((x1 + x4).toNatClampNeg))) x1 x3 (x4 + 1) hf)
set_option maxHeartbeats 4000000 in
set_option maxRecDepth 100000 in
theorem c_X7_copies_5_7 {l : Launch} {D : va_G} {cs : ClassId × ClassId × ClassId} {ad : Nat → Nat} (σ : Mem) (fuel : Nat)  (x1 : Int32) (x3 : Int32) {z : Mem} (hf : f_X7_copies_5_7 fuel σ x1 x3 = some z) : CtV l (mW D cs ad) 0 yX7_copies cX7_copies 5 [.ref (ad 5), .int x1, .ref (ad 7), .int x3] σ z := by
  refine ct_V RX7 [(0, .ref (ad 5)), (1, .int x1), (2, .ref (ad 7)), (3, .int x3)] (by decide +kernel) rfl rfl (Nat.le_of_ble_eq_true rfl) ?_
  intro P M hl0 hX
  unfold f_X7_copies_5_7 at hf
  refine v_iconst 0 hX dX7_copies_0 (by decide) ?_
  refine v_istore [(4, .int 0), (0, .ref (ad 5)), (1, .int x1), (2, .ref (ad 7)), (3, .int x3)] hX dX7_copies_1 (lt_b rfl) rfl ?_
  exact v_sub [1, 2, 3, 4, 0] rfl (s_X7_copies_5_7_3 hX fuel z  fuel σ x1 x3 0 hf)
set_option maxHeartbeats 4000000 in
set_option maxRecDepth 100000 in
theorem s_X7_copies_7_5_3 {P : PT} {M : MT} {D : va_G} {cs : ClassId × ClassId × ClassId} {ad : Nat → Nat} (hX : VOk P M (mW D cs ad) 5 cX7_copies RX7 none 0) (fuel : Nat)   (z : Mem)  : ∀ (n : Nat) (σ : Mem) (x1 : Int32) (x3 : Int32) (x4 : Int32), f_X7_copies_7_5_3 fuel n σ x1 x3 x4 = some z → V P M (mW D cs ad) 5 (QV P M (mW D cs ad) z) 3 [(0, .ref (ad 7)), (1, .int x1), (2, .ref (ad 5)), (3, .int x3), (4, .int x4)] [] σ := by
  intro n
  induction n with
  | zero =>
    intro σ x1 x3 x4 hf
    cases hf
  | succ n hk3 =>
    intro σ x1 x3 x4 hf
    rw [f_X7_copies_7_5_3] at hf
    refine v_iload 4 hX dX7_copies_3 rfl ?_
    refine v_bipush 85 hX dX7_copies_5 (by decide) ?_
    refine v_icmp_ge 28 hX dX7_copies_7 (by decide) (fun c => ?_) (fun c => ?_)
    · have hf := opt_t c hf
      obtain rfl := Option.some.inj hf
      exact v_vret hX dX7_copies_28
    · have hf := opt_f c hf
      refine v_aload_n 2 2 hX dX7_copies_10 rfl rfl ?_
      refine v_iload_n 3 3 hX dX7_copies_11 rfl rfl ?_
      refine v_iload 4 hX dX7_copies_12 rfl ?_
      refine v_iadd hX dX7_copies_14 ?_
      refine v_aload_n 0 0 hX dX7_copies_15 rfl rfl ?_
      refine v_iload_n 1 1 hX dX7_copies_16 rfl rfl ?_
      refine v_iload 4 hX dX7_copies_17 rfl ?_
      refine v_iadd hX dX7_copies_19 ?_
      obtain ⟨hi1, hf⟩ := gd_some hf
      refine v_ald (v := σ 7 ((x1 + x4).toNatClampNeg)) 7 hX dX7_copies_20 (lt_b rfl) ((fun _ => rfl) _) hi1 rfl ?_
      obtain ⟨hi2, hf⟩ := gd_some hf
      refine v_ast 5 hX dX7_copies_21 (lt_b rfl) (fun _ => rfl) hi2 ?_
      refine v_iinc 4 (x4 + 1) [(4, .int (x4 + 1)), (0, .ref (ad 7)), (1, .int x1), (2, .ref (ad 5)), (3, .int x3)] hX dX7_copies_22 rfl rfl (lt_b rfl) rfl ?_
      refine v_goto 3 hX dX7_copies_25 (by decide) ?_
      exact v_sub [1, 2, 3, 4, 0] rfl (hk3 (mst σ 5 ((x3 + x4).toNatClampNeg) (σ 7 ((x1 + x4).toNatClampNeg))) x1 x3 (x4 + 1) hf)
set_option maxHeartbeats 4000000 in
set_option maxRecDepth 100000 in
theorem c_X7_copies_7_5 {l : Launch} {D : va_G} {cs : ClassId × ClassId × ClassId} {ad : Nat → Nat} (σ : Mem) (fuel : Nat)  (x1 : Int32) (x3 : Int32) {z : Mem} (hf : f_X7_copies_7_5 fuel σ x1 x3 = some z) : CtV l (mW D cs ad) 0 yX7_copies cX7_copies 5 [.ref (ad 7), .int x1, .ref (ad 5), .int x3] σ z := by
  refine ct_V RX7 [(0, .ref (ad 7)), (1, .int x1), (2, .ref (ad 5)), (3, .int x3)] (by decide +kernel) rfl rfl (Nat.le_of_ble_eq_true rfl) ?_
  intro P M hl0 hX
  unfold f_X7_copies_7_5 at hf
  refine v_iconst 0 hX dX7_copies_0 (by decide) ?_
  refine v_istore [(4, .int 0), (0, .ref (ad 7)), (1, .int x1), (2, .ref (ad 5)), (3, .int x3)] hX dX7_copies_1 (lt_b rfl) rfl ?_
  exact v_sub [1, 2, 3, 4, 0] rfl (s_X7_copies_7_5_3 hX fuel z  fuel σ x1 x3 0 hf)
set_option maxHeartbeats 4000000 in
set_option maxRecDepth 100000 in
theorem c_X7_found {l : Launch} {D : va_G} {cs : ClassId × ClassId × ClassId} {ad : Nat → Nat} (σ : Mem)   (x1 : Int32) {z : Int32 × Mem} (hf : f_X7_found σ x1 = some z) : CtI l (mW D cs ad) 0 yX7_found cX7_found 2 (some .int) [.ref (ad 0), .int x1] σ z.1 z.2 := by
  refine ct_I RX7 [(0, .ref (ad 0)), (1, .int x1)] (by decide +kernel) rfl rfl (Nat.le_of_ble_eq_true rfl) ?_
  intro P M hl0 hX
  unfold f_X7_found at hf
  refine v_aload_n 0 0 hX dX7_found_0 rfl rfl ?_
  refine v_iload_n 1 1 hX dX7_found_1 rfl rfl ?_
  refine v_put (C := RX7) (T := TX7) (N := 22) (ci := 7) (ty := .int) tyX7 0 3 hX dX7_found_2 mw_839 rfl inlX7 tyX7_ok nmX7 rfl (lt_b rfl) (lt_b rfl) rfl (tyX7_ok 3 (lt_b rfl)) rfl rfl rfl (lt_b rfl) rfl ?_
  refine v_ldc (-1000010) hX dX7_found_5 mw_921 ?_
  refine v_iload_n 1 1 hX dX7_found_7 rfl rfl ?_
  refine v_isub hX dX7_found_8 ?_
  obtain rfl := Option.some.inj hf
  exact v_iret (r := (-1000010) - x1) hX dX7_found_9 rfl
set_option maxHeartbeats 4000000 in
set_option maxRecDepth 100000 in
theorem c_X7_well {l : Launch} {D : va_G} {cs : ClassId × ClassId × ClassId} {ad : Nat → Nat} (σ : Mem)   (x1 : Int32) {z : Int32 × Mem} (hf : f_X7_well σ x1 = some z) : CtI l (mW D cs ad) 0 yX7_well cX7_well 2 (some .int) [.ref (ad 0), .int x1] σ z.1 z.2 := by
  refine ct_I RX7 [(0, .ref (ad 0)), (1, .int x1)] (by decide +kernel) rfl rfl (Nat.le_of_ble_eq_true rfl) ?_
  intro P M hl0 hX
  unfold f_X7_well at hf
  refine v_aload_n 0 0 hX dX7_well_0 rfl rfl ?_
  refine v_iconst 0 hX dX7_well_1 (by decide) ?_
  refine v_put (C := RX7) (T := TX7) (N := 22) (ci := 7) (ty := .int) tyX7 0 3 hX dX7_well_2 mw_839 rfl inlX7 tyX7_ok nmX7 rfl (lt_b rfl) (lt_b rfl) rfl (tyX7_ok 3 (lt_b rfl)) rfl rfl rfl (lt_b rfl) rfl ?_
  refine v_iload_n 1 1 hX dX7_well_5 rfl rfl ?_
  obtain rfl := Option.some.inj hf
  exact v_iret (r := x1) hX dX7_well_6 rfl
set_option maxHeartbeats 4000000 in
set_option maxRecDepth 100000 in
theorem c_X7_fails {l : Launch} {D : va_G} {cs : ClassId × ClassId × ClassId} {ad : Nat → Nat} (σ : Mem)   (x1 : Int32) {z : Int32 × Mem} (hf : f_X7_fails σ x1 = some z) : CtI l (mW D cs ad) 0 yX7_fails cX7_fails 2 (some .boolean) [.ref (ad 0), .int x1] σ z.1 z.2 := by
  refine ct_I RX7 [(0, .ref (ad 0)), (1, .int x1)] (by decide +kernel) rfl rfl (Nat.le_of_ble_eq_true rfl) ?_
  intro P M hl0 hX
  unfold f_X7_fails at hf
  refine v_aload_n 0 0 hX dX7_fails_0 rfl rfl ?_
  refine v_iload_n 1 1 hX dX7_fails_1 rfl rfl ?_
  refine v_put (C := RX7) (T := TX7) (N := 22) (ci := 7) (ty := .int) tyX7 0 6 hX dX7_fails_2 mw_842 rfl inlX7 tyX7_ok nmX7 rfl (lt_b rfl) (lt_b rfl) rfl (tyX7_ok 6 (lt_b rfl)) rfl rfl rfl (lt_b rfl) rfl ?_
  refine v_iconst 0 hX dX7_fails_5 (by decide) ?_
  obtain rfl := Option.some.inj hf
  exact v_iret (r := 0) hX dX7_fails_6 rfl
set_option maxHeartbeats 4000000 in
set_option maxRecDepth 100000 in
theorem c_X7_isLetter {l : Launch} {D : va_G} {cs : ClassId × ClassId × ClassId} {ad : Nat → Nat} (σ : Mem)  (x1 : Int32) {z : Int32} (hf : f_X7_isLetter σ x1 = some z) : CtI l (mW D cs ad) 0 yX7_isLetter cX7_isLetter 2 (some .boolean) [.ref (ad 0), .int x1] σ z σ := by
  refine ct_I RX7 [(0, .ref (ad 0)), (1, .int x1)] (by decide +kernel) rfl rfl (Nat.le_of_ble_eq_true rfl) ?_
  intro P M hl0 hX
  unfold f_X7_isLetter at hf
  refine v_aload_n 0 0 hX dX7_isLetter_0 rfl rfl ?_
  refine v_get (C := RX7) (T := TX7) (N := 22) (ci := 7) (v := .int (σ 0 17)) 0 17 hX dX7_isLetter_1 mw_853 rfl inlX7 rfl (lt_b rfl) (lt_b rfl) rfl rfl ?_
  refine v_iconst 1 hX dX7_isLetter_4 (by decide) ?_
  refine v_icmp_ne 20 hX dX7_isLetter_5 (by decide) (fun c => ?_) (fun c => ?_)
  · have hf := opt_f c hf
    refine v_iconst 0 hX dX7_isLetter_20 (by decide) ?_
    obtain rfl := Option.some.inj hf
    exact v_iret (r := 0) hX dX7_isLetter_21 rfl
  · have hf := opt_t c hf
    refine v_aload_n 0 0 hX dX7_isLetter_8 rfl rfl ?_
    refine v_get (C := RX7) (T := TX7) (N := 22) (ci := 7) (v := .int (σ 0 18)) 0 18 hX dX7_isLetter_9 mw_854 rfl inlX7 rfl (lt_b rfl) (lt_b rfl) rfl rfl ?_
    refine v_iload_n 1 1 hX dX7_isLetter_12 rfl rfl ?_
    refine v_icmp_ne 20 hX dX7_isLetter_13 (by decide) (fun c => ?_) (fun c => ?_)
    · have hf := opt_f c hf
      refine v_iconst 0 hX dX7_isLetter_20 (by decide) ?_
      obtain rfl := Option.some.inj hf
      exact v_iret (r := 0) hX dX7_isLetter_21 rfl
    · have hf := opt_t c hf
      refine v_iconst 1 hX dX7_isLetter_16 (by decide) ?_
      refine v_goto 21 hX dX7_isLetter_17 (by decide) ?_
      obtain rfl := Option.some.inj hf
      exact v_iret (r := 1) hX dX7_isLetter_21 rfl
set_option maxHeartbeats 4000000 in
set_option maxRecDepth 100000 in
theorem c_X7_fault {l : Launch} {D : va_G} {cs : ClassId × ClassId × ClassId} {ad : Nat → Nat} (σ : Mem)   {z : Int32} (hf : f_X7_fault σ = some z) : CtI l (mW D cs ad) 0 yX7_fault cX7_fault 1 (some .int) [.ref (ad 0)] σ z σ := by
  refine ct_I RX7 [(0, .ref (ad 0))] (by decide +kernel) rfl rfl (Nat.le_of_ble_eq_true rfl) ?_
  intro P M hl0 hX
  unfold f_X7_fault at hf
  refine v_aload_n 0 0 hX dX7_fault_0 rfl rfl ?_
  refine v_get (C := RX7) (T := TX7) (N := 22) (ci := 7) (v := .int (σ 0 6)) 0 6 hX dX7_fault_1 mw_842 rfl inlX7 rfl (lt_b rfl) (lt_b rfl) rfl rfl ?_
  obtain rfl := Option.some.inj hf
  exact v_iret (r := σ 0 6) hX dX7_fault_4 rfl
set_option maxHeartbeats 4000000 in
set_option maxRecDepth 100000 in
theorem s_X7_copiesOf_5 {P : PT} {M : MT} {D : va_G} {cs : ClassId × ClassId × ClassId} {ad : Nat → Nat} (hX : VOk P M (mW D cs ad) 5 cX7_copiesOf RX7 (some .int) 0) (fuel : Nat) (σ : Mem)   (z : Int32)  : ∀ (n : Nat) (x1 : Int32) (x2 : Int32) (x3 : Int32) (x4 : Int32), f_X7_copiesOf_5 fuel σ n x1 x2 x3 x4 = some z → V P M (mW D cs ad) 5 (QI P M (mW D cs ad) z σ) 5 [(0, .ref (ad 0)), (1, .int x1), (2, .int x2), (3, .int x3), (4, .int x4)] [] σ := by
  intro n
  induction n with
  | zero =>
    intro x1 x2 x3 x4 hf
    cases hf
  | succ n hk5 =>
    intro x1 x2 x3 x4 hf
    rw [f_X7_copiesOf_5] at hf
    refine v_iload 4 hX dX7_copiesOf_5 rfl ?_
    refine v_aload_n 0 0 hX dX7_copiesOf_7 rfl rfl ?_
    refine v_get (C := RX7) (T := TX7) (N := 22) (ci := 7) (v := .ref (ad 5)) 0 8 hX dX7_copiesOf_8 mw_844 rfl inlX7 rfl (lt_b rfl) (lt_b rfl) rfl rfl ?_
    refine v_iconst 3 hX dX7_copiesOf_11 (by decide) ?_
    refine v_aldc (v := σ 5 3) 5 3 hX dX7_copiesOf_12 (lt_b rfl) ((fun _ => rfl) _) ib_3_85 tn_3 rfl ?_
    refine v_icmp_ge 46 hX dX7_copiesOf_13 (by decide) (fun c => ?_) (fun c => ?_)
    · have hf := opt_t c hf
      refine v_iload_n 3 3 hX dX7_copiesOf_46 rfl rfl ?_
      obtain rfl := Option.some.inj hf
      exact v_iret (r := x3) hX dX7_copiesOf_47 rfl
    · have hf := opt_f c hf
      refine v_iload_n 3 3 hX dX7_copiesOf_16 rfl rfl ?_
      refine v_aload_n 0 0 hX dX7_copiesOf_17 rfl rfl ?_
      refine v_get (C := RX7) (T := TX7) (N := 22) (ci := 7) (v := .ref (ad 5)) 0 8 hX dX7_copiesOf_18 mw_844 rfl inlX7 rfl (lt_b rfl) (lt_b rfl) rfl rfl ?_
      refine v_iload_n 1 1 hX dX7_copiesOf_21 rfl rfl ?_
      refine v_iload 4 hX dX7_copiesOf_22 rfl ?_
      refine v_iadd hX dX7_copiesOf_24 ?_
      obtain ⟨hi1, hf⟩ := gd_some hf
      refine v_ald (v := σ 5 ((x1 + x4).toNatClampNeg)) 5 hX dX7_copiesOf_25 (lt_b rfl) ((fun _ => rfl) _) hi1 rfl ?_
      refine v_iload_n 2 2 hX dX7_copiesOf_26 rfl rfl ?_
      refine v_icmp_ne 37 hX dX7_copiesOf_27 (by decide) (fun c => ?_) (fun c => ?_)
      · have hf := opt_f c hf
        refine v_iconst 0 hX dX7_copiesOf_37 (by decide) ?_
        refine v_ior hX dX7_copiesOf_38 ?_
        refine v_istore_n 3 [(3, .int (x3 ||| 0)), (0, .ref (ad 0)), (1, .int x1), (2, .int x2), (4, .int x4)] hX dX7_copiesOf_39 rfl (lt_b rfl) rfl ?_
        refine v_iinc 4 (x4 + 1) [(4, .int (x4 + 1)), (3, .int (x3 ||| 0)), (0, .ref (ad 0)), (1, .int x1), (2, .int x2)] hX dX7_copiesOf_40 rfl rfl (lt_b rfl) rfl ?_
        refine v_goto 5 hX dX7_copiesOf_43 (by decide) ?_
        exact v_sub [2, 3, 4, 1, 0] rfl (hk5 x1 x2 (x3 ||| 0) (x4 + 1) hf)
      · have hf := opt_t c hf
        refine v_iconst 1 hX dX7_copiesOf_30 (by decide) ?_
        refine v_iload 4 hX dX7_copiesOf_31 rfl ?_
        refine v_ishl hX dX7_copiesOf_33 ?_
        refine v_goto 38 hX dX7_copiesOf_34 (by decide) ?_
        refine v_ior hX dX7_copiesOf_38 ?_
        refine v_istore_n 3 [(3, .int (x3 ||| (1 <<< (x4 &&& 31)))), (0, .ref (ad 0)), (1, .int x1), (2, .int x2), (4, .int x4)] hX dX7_copiesOf_39 rfl (lt_b rfl) rfl ?_
        refine v_iinc 4 (x4 + 1) [(4, .int (x4 + 1)), (3, .int (x3 ||| (1 <<< (x4 &&& 31)))), (0, .ref (ad 0)), (1, .int x1), (2, .int x2)] hX dX7_copiesOf_40 rfl rfl (lt_b rfl) rfl ?_
        refine v_goto 5 hX dX7_copiesOf_43 (by decide) ?_
        exact v_sub [2, 3, 4, 1, 0] rfl (hk5 x1 x2 (x3 ||| (1 <<< (x4 &&& 31))) (x4 + 1) hf)
set_option maxHeartbeats 4000000 in
set_option maxRecDepth 100000 in
theorem c_X7_copiesOf {l : Launch} {D : va_G} {cs : ClassId × ClassId × ClassId} {ad : Nat → Nat} (fuel : Nat) (σ : Mem)  (x1 : Int32) (x2 : Int32) {z : Int32} (hf : f_X7_copiesOf fuel σ x1 x2 = some z) : CtI l (mW D cs ad) 0 yX7_copiesOf cX7_copiesOf 5 (some .int) [.ref (ad 0), .int x1, .int x2] σ z σ := by
  refine ct_I RX7 [(0, .ref (ad 0)), (1, .int x1), (2, .int x2)] (by decide +kernel) rfl rfl (Nat.le_of_ble_eq_true rfl) ?_
  intro P M hl0 hX
  unfold f_X7_copiesOf at hf
  refine v_iconst 0 hX dX7_copiesOf_0 (by decide) ?_
  refine v_istore_n 3 [(3, .int 0), (0, .ref (ad 0)), (1, .int x1), (2, .int x2)] hX dX7_copiesOf_1 rfl (lt_b rfl) rfl ?_
  refine v_iconst 0 hX dX7_copiesOf_2 (by decide) ?_
  refine v_istore [(4, .int 0), (3, .int 0), (0, .ref (ad 0)), (1, .int x1), (2, .int x2)] hX dX7_copiesOf_3 (lt_b rfl) rfl ?_
  exact v_sub [2, 3, 4, 1, 0] rfl (s_X7_copiesOf_5 hX fuel σ z  fuel x1 x2 0 0 hf)
set_option maxHeartbeats 4000000 in
set_option maxRecDepth 100000 in
theorem c_X7_handAt {l : Launch} {D : va_G} {cs : ClassId × ClassId × ClassId} {ad : Nat → Nat} (σ : Mem)  (x1 : Int32) (x2 : Int32) {z : Int32} (hf : f_X7_handAt σ x1 x2 = some z) : CtI l (mW D cs ad) 0 yX7_handAt cX7_handAt 3 (some .int) [.ref (ad 0), .int x1, .int x2] σ z σ := by
  refine ct_I RX7 [(0, .ref (ad 0)), (1, .int x1), (2, .int x2)] (by decide +kernel) rfl rfl (Nat.le_of_ble_eq_true rfl) ?_
  intro P M hl0 hX
  unfold f_X7_handAt at hf
  refine v_iload_n 1 1 hX dX7_handAt_0 rfl rfl ?_
  refine v_iconst 2 hX dX7_handAt_1 (by decide) ?_
  refine v_aload_n 0 0 hX dX7_handAt_2 rfl rfl ?_
  refine v_get (C := RX7) (T := TX7) (N := 22) (ci := 7) (v := .ref (ad 5)) 0 8 hX dX7_handAt_3 mw_844 rfl inlX7 rfl (lt_b rfl) (lt_b rfl) rfl rfl ?_
  refine v_iconst 2 hX dX7_handAt_6 (by decide) ?_
  refine v_aldc (v := σ 5 2) 5 2 hX dX7_handAt_7 (lt_b rfl) ((fun _ => rfl) _) ib_2_85 tn_2 rfl ?_
  refine v_iconst 1 hX dX7_handAt_8 (by decide) ?_
  refine v_isub hX dX7_handAt_9 ?_
  refine v_iload_n 2 2 hX dX7_handAt_10 rfl rfl ?_
  refine v_isub hX dX7_handAt_11 ?_
  refine v_imul hX dX7_handAt_12 ?_
  refine v_ishr hX dX7_handAt_13 ?_
  refine v_iconst 3 hX dX7_handAt_14 (by decide) ?_
  refine v_iand hX dX7_handAt_15 ?_
  obtain rfl := Option.some.inj hf
  exact v_iret (r := (x1 >>> ((2 * (((σ 5 2) - 1) - x2)) &&& 31)) &&& 3) hX dX7_handAt_16 rfl
set_option maxHeartbeats 4000000 in
set_option maxRecDepth 100000 in
theorem s_X7_blackOf_4 {P : PT} {M : MT} {D : va_G} {cs : ClassId × ClassId × ClassId} {ad : Nat → Nat} (hX : VOk P M (mW D cs ad) 4 cX7_blackOf RX7 (some .int) 0) (fuel : Nat) (σ : Mem)   (z : Int32)  : ∀ (n : Nat) (x1 : Int32) (x2 : Int32) (x3 : Int32), f_X7_blackOf_4 fuel σ n x1 x2 x3 = some z → V P M (mW D cs ad) 4 (QI P M (mW D cs ad) z σ) 4 [(0, .ref (ad 0)), (1, .int x1), (2, .int x2), (3, .int x3)] [] σ := by
  intro n
  induction n with
  | zero =>
    intro x1 x2 x3 hf
    cases hf
  | succ n hk4 =>
    intro x1 x2 x3 hf
    rw [f_X7_blackOf_4] at hf
    refine v_iload_n 3 3 hX dX7_blackOf_4 rfl rfl ?_
    refine v_aload_n 0 0 hX dX7_blackOf_5 rfl rfl ?_
    refine v_get (C := RX7) (T := TX7) (N := 22) (ci := 7) (v := .ref (ad 5)) 0 8 hX dX7_blackOf_6 mw_844 rfl inlX7 rfl (lt_b rfl) (lt_b rfl) rfl rfl ?_
    refine v_iconst 3 hX dX7_blackOf_9 (by decide) ?_
    refine v_aldc (v := σ 5 3) 5 3 hX dX7_blackOf_10 (lt_b rfl) ((fun _ => rfl) _) ib_3_85 tn_3 rfl ?_
    refine v_icmp_ge 53 hX dX7_blackOf_11 (by decide) (fun c => ?_) (fun c => ?_)
    · have hf := opt_t c hf
      refine v_iload_n 2 2 hX dX7_blackOf_53 rfl rfl ?_
      obtain rfl := Option.some.inj hf
      exact v_iret (r := x2) hX dX7_blackOf_54 rfl
    · have hf := opt_f c hf
      refine v_iload_n 2 2 hX dX7_blackOf_14 rfl rfl ?_
      refine v_aload_n 0 0 hX dX7_blackOf_15 rfl rfl ?_
      refine v_get (C := RX7) (T := TX7) (N := 22) (ci := 7) (v := .ref (ad 5)) 0 8 hX dX7_blackOf_16 mw_844 rfl inlX7 rfl (lt_b rfl) (lt_b rfl) rfl rfl ?_
      refine v_bipush 25 hX dX7_blackOf_19 (by decide) ?_
      refine v_iload_n 3 3 hX dX7_blackOf_21 rfl rfl ?_
      refine v_iadd hX dX7_blackOf_22 ?_
      obtain ⟨hi1, hf⟩ := gd_some hf
      refine v_ald (v := σ 5 ((25 + x3).toNatClampNeg)) 5 hX dX7_blackOf_23 (lt_b rfl) ((fun _ => rfl) _) hi1 rfl ?_
      refine v_iload_n 1 1 hX dX7_blackOf_24 rfl rfl ?_
      refine v_icmp_ne 44 hX dX7_blackOf_25 (by decide) (fun c => ?_) (fun c => ?_)
      · have hf := opt_f c hf
        refine v_iconst 0 hX dX7_blackOf_44 (by decide) ?_
        refine v_iadd hX dX7_blackOf_45 ?_
        refine v_istore_n 2 [(2, .int (x2 + 0)), (0, .ref (ad 0)), (1, .int x1), (3, .int x3)] hX dX7_blackOf_46 rfl (lt_b rfl) rfl ?_
        refine v_iinc 3 (x3 + 1) [(3, .int (x3 + 1)), (2, .int (x2 + 0)), (0, .ref (ad 0)), (1, .int x1)] hX dX7_blackOf_47 rfl rfl (lt_b rfl) rfl ?_
        refine v_goto 4 hX dX7_blackOf_50 (by decide) ?_
        exact v_sub [2, 3, 1, 0] rfl (hk4 x1 (x2 + 0) (x3 + 1) hf)
      · have hf := opt_t c hf
        refine v_aload_n 0 0 hX dX7_blackOf_28 rfl rfl ?_
        refine v_get (C := RX7) (T := TX7) (N := 22) (ci := 7) (v := .ref (ad 5)) 0 8 hX dX7_blackOf_29 mw_844 rfl inlX7 rfl (lt_b rfl) (lt_b rfl) rfl rfl ?_
        refine v_bipush 55 hX dX7_blackOf_32 (by decide) ?_
        refine v_iload_n 3 3 hX dX7_blackOf_34 rfl rfl ?_
        refine v_iadd hX dX7_blackOf_35 ?_
        obtain ⟨hi2, hf⟩ := gd_some hf
        refine v_ald (v := σ 5 ((55 + x3).toNatClampNeg)) 5 hX dX7_blackOf_36 (lt_b rfl) ((fun _ => rfl) _) hi2 rfl ?_
        refine v_if_ne 44 hX dX7_blackOf_37 (by decide) (fun c => ?_) (fun c => ?_)
        · have hf := opt_f c hf
          refine v_iconst 0 hX dX7_blackOf_44 (by decide) ?_
          refine v_iadd hX dX7_blackOf_45 ?_
          refine v_istore_n 2 [(2, .int (x2 + 0)), (0, .ref (ad 0)), (1, .int x1), (3, .int x3)] hX dX7_blackOf_46 rfl (lt_b rfl) rfl ?_
          refine v_iinc 3 (x3 + 1) [(3, .int (x3 + 1)), (2, .int (x2 + 0)), (0, .ref (ad 0)), (1, .int x1)] hX dX7_blackOf_47 rfl rfl (lt_b rfl) rfl ?_
          refine v_goto 4 hX dX7_blackOf_50 (by decide) ?_
          exact v_sub [2, 3, 1, 0] rfl (hk4 x1 (x2 + 0) (x3 + 1) hf)
        · have hf := opt_t c hf
          refine v_iconst 1 hX dX7_blackOf_40 (by decide) ?_
          refine v_goto 45 hX dX7_blackOf_41 (by decide) ?_
          refine v_iadd hX dX7_blackOf_45 ?_
          refine v_istore_n 2 [(2, .int (x2 + 1)), (0, .ref (ad 0)), (1, .int x1), (3, .int x3)] hX dX7_blackOf_46 rfl (lt_b rfl) rfl ?_
          refine v_iinc 3 (x3 + 1) [(3, .int (x3 + 1)), (2, .int (x2 + 1)), (0, .ref (ad 0)), (1, .int x1)] hX dX7_blackOf_47 rfl rfl (lt_b rfl) rfl ?_
          refine v_goto 4 hX dX7_blackOf_50 (by decide) ?_
          exact v_sub [2, 3, 1, 0] rfl (hk4 x1 (x2 + 1) (x3 + 1) hf)
set_option maxHeartbeats 4000000 in
set_option maxRecDepth 100000 in
theorem c_X7_blackOf {l : Launch} {D : va_G} {cs : ClassId × ClassId × ClassId} {ad : Nat → Nat} (fuel : Nat) (σ : Mem)  (x1 : Int32) {z : Int32} (hf : f_X7_blackOf fuel σ x1 = some z) : CtI l (mW D cs ad) 0 yX7_blackOf cX7_blackOf 4 (some .int) [.ref (ad 0), .int x1] σ z σ := by
  refine ct_I RX7 [(0, .ref (ad 0)), (1, .int x1)] (by decide +kernel) rfl rfl (Nat.le_of_ble_eq_true rfl) ?_
  intro P M hl0 hX
  unfold f_X7_blackOf at hf
  refine v_iconst 0 hX dX7_blackOf_0 (by decide) ?_
  refine v_istore_n 2 [(2, .int 0), (0, .ref (ad 0)), (1, .int x1)] hX dX7_blackOf_1 rfl (lt_b rfl) rfl ?_
  refine v_iconst 0 hX dX7_blackOf_2 (by decide) ?_
  refine v_istore_n 3 [(3, .int 0), (2, .int 0), (0, .ref (ad 0)), (1, .int x1)] hX dX7_blackOf_3 rfl (lt_b rfl) rfl ?_
  exact v_sub [2, 3, 1, 0] rfl (s_X7_blackOf_4 hX fuel σ z  fuel x1 0 0 hf)
set_option maxHeartbeats 4000000 in
set_option maxRecDepth 100000 in
theorem c_X7_status {l : Launch} {D : va_G} {cs : ClassId × ClassId × ClassId} {ad : Nat → Nat} (σ : Mem)   {z : Int32} (hf : f_X7_status σ = some z) : CtI l (mW D cs ad) 0 yX7_status cX7_status 1 (some .int) [.ref (ad 0)] σ z σ := by
  refine ct_I RX7 [(0, .ref (ad 0))] (by decide +kernel) rfl rfl (Nat.le_of_ble_eq_true rfl) ?_
  intro P M hl0 hX
  unfold f_X7_status at hf
  refine v_aload_n 0 0 hX dX7_status_0 rfl rfl ?_
  refine v_get (C := RX7) (T := TX7) (N := 22) (ci := 7) (v := .int (σ 0 3)) 0 3 hX dX7_status_1 mw_839 rfl inlX7 rfl (lt_b rfl) (lt_b rfl) rfl rfl ?_
  obtain rfl := Option.some.inj hf
  exact v_iret (r := σ 0 3) hX dX7_status_4 rfl
set_option maxHeartbeats 4000000 in
set_option maxRecDepth 100000 in
theorem s_X7_leave_24 {P : PT} {M : MT} {D : va_G} {cs : ClassId × ClassId × ClassId} {ad : Nat → Nat} (hX : VOk P M (mW D cs ad) 7 cX7_leave RX7 none 0) (fuel : Nat)   (z : Mem)  : ∀ (n : Nat) (σ : Mem) (x3 : Int64) (x5 : Int64), f_X7_leave_24 fuel n σ x3 x5 = some z → V P M (mW D cs ad) 7 (QV P M (mW D cs ad) z) 24 [(0, .ref (ad 0)), (3, .long x3), (5, .long x5)] [] σ := by
  intro n
  induction n with
  | zero =>
    intro σ x3 x5 hf
    cases hf
  | succ n hk24 =>
    intro σ x3 x5 hf
    rw [f_X7_leave_24] at hf
    refine v_lload_n 1 3 hX dX7_leave_24 rfl rfl ?_
    refine v_lconst 0 hX dX7_leave_25 (by decide) ?_
    refine v_lcmp hX dX7_leave_26 ?_
    refine v_if_le 69 hX dX7_leave_27 (by decide) (fun c => ?_) (fun c => ?_)
    · have hf := opt_t c hf
      obtain rfl := Option.some.inj hf
      exact v_vret hX dX7_leave_69
    · have hf := opt_f c hf
      refine v_aload_n 0 0 hX dX7_leave_30 rfl rfl ?_
      refine v_get (C := RX7) (T := TX7) (N := 22) (ci := 7) (v := .ref (ad 9)) 0 14 hX dX7_leave_31 mw_850 rfl inlX7 rfl (lt_b rfl) (lt_b rfl) rfl rfl ?_
      refine v_aload_n 0 0 hX dX7_leave_34 rfl rfl ?_
      refine v_get (C := RX7) (T := TX7) (N := 22) (ci := 7) (v := .int (σ 0 13)) 0 13 hX dX7_leave_35 mw_849 rfl inlX7 rfl (lt_b rfl) (lt_b rfl) rfl rfl ?_
      refine v_lload 2 hX dX7_leave_38 rfl ?_
      refine v_lload_n 1 3 hX dX7_leave_40 rfl rfl ?_
      obtain ⟨hg1, hf⟩ := gd_some hf
      refine v_ldiv hX dX7_leave_41 (of_decide_eq_true hg1) ?_
      refine v_l2i hX dX7_leave_42 ?_
      obtain ⟨hi2, hf⟩ := gd_some hf
      refine v_ast 9 hX dX7_leave_43 (lt_b rfl) (fun _ => rfl) hi2 ?_
      refine v_lload 2 hX dX7_leave_44 rfl ?_
      refine v_lload_n 1 3 hX dX7_leave_46 rfl rfl ?_
      obtain ⟨hg3, hf⟩ := gd_some hf
      refine v_lrem hX dX7_leave_47 (of_decide_eq_true hg3) ?_
      refine v_lstore [(5, .long (x5 - x5 / x3 * x3)), (0, .ref (ad 0)), (3, .long x3)] hX dX7_leave_48 (lt_b rfl) rfl ?_
      refine v_aload_n 1 0 hX dX7_leave_50 rfl rfl ?_
      refine v_dup hX dX7_leave_51 rfl ?_
      refine v_get (C := RX7) (T := TX7) (N := 22) (ci := 7) (v := .int (σ 0 13)) 0 13 hX dX7_leave_52 mw_849 rfl inlX7 rfl (lt_b rfl) (lt_b rfl) rfl rfl ?_
      refine v_iconst 1 hX dX7_leave_55 (by decide) ?_
      refine v_iadd hX dX7_leave_56 ?_
      refine v_put (C := RX7) (T := TX7) (N := 22) (ci := 7) (ty := .int) tyX7 0 13 hX dX7_leave_57 mw_849 rfl inlX7 tyX7_ok nmX7 rfl (lt_b rfl) (lt_b rfl) rfl (tyX7_ok 13 (lt_b rfl)) rfl rfl rfl (lt_b rfl) rfl ?_
      refine v_lload_n 2 3 hX dX7_leave_60 rfl rfl ?_
      refine v_ldc2 100 hX dX7_leave_61 mw_1183 ?_
      refine v_ldiv hX dX7_leave_64 (by decide) ?_
      refine v_lstore_n 3 [(3, .long (x3 / 100)), (5, .long (x5 - x5 / x3 * x3)), (0, .ref (ad 0))] hX dX7_leave_65 rfl (lt_b rfl) rfl ?_
      refine v_goto 24 hX dX7_leave_66 (by decide) ?_
      exact v_sub [2, 0, 1] rfl (hk24 (mst (mst σ 9 ((σ 0 13).toNatClampNeg) ((x5 / x3).toInt32)) 0 13 ((σ 0 13) + 1)) (x3 / 100) (x5 - x5 / x3 * x3) hf)
set_option maxHeartbeats 4000000 in
set_option maxRecDepth 100000 in
theorem s_X7_leave_2 {P : PT} {M : MT} {D : va_G} {cs : ClassId × ClassId × ClassId} {ad : Nat → Nat} (hX : VOk P M (mW D cs ad) 7 cX7_leave RX7 none 0) (fuel : Nat)   (z : Mem)  : ∀ (n : Nat) (σ : Mem) (x1 : Int64) (x3 : Int64), f_X7_leave_2 fuel n σ x1 x3 = some z → V P M (mW D cs ad) 7 (QV P M (mW D cs ad) z) 2 [(0, .ref (ad 0)), (1, .long x1), (3, .long x3)] [] σ := by
  intro n
  induction n with
  | zero =>
    intro σ x1 x3 hf
    cases hf
  | succ n hk2 =>
    intro σ x1 x3 hf
    rw [f_X7_leave_2] at hf
    refine v_lload_n 2 3 hX dX7_leave_2 rfl rfl ?_
    refine v_ldc2 100 hX dX7_leave_3 mw_1183 ?_
    refine v_lmul hX dX7_leave_6 ?_
    refine v_lload_n 1 1 hX dX7_leave_7 rfl rfl ?_
    refine v_lcmp hX dX7_leave_8 ?_
    refine v_if_gt 21 hX dX7_leave_9 (by decide) (fun c => ?_) (fun c => ?_)
    · have hf := opt_t c hf
      refine v_lload_n 1 1 hX dX7_leave_21 rfl rfl ?_
      refine v_lstore [(5, .long x1), (0, .ref (ad 0)), (1, .long x1), (3, .long x3)] hX dX7_leave_22 (lt_b rfl) rfl ?_
      exact v_sub [1, 3, 0] rfl (s_X7_leave_24 hX fuel z  fuel σ x3 x1 hf)
    · have hf := opt_f c hf
      refine v_lload_n 2 3 hX dX7_leave_12 rfl rfl ?_
      refine v_ldc2 100 hX dX7_leave_13 mw_1183 ?_
      refine v_lmul hX dX7_leave_16 ?_
      refine v_lstore_n 3 [(3, .long (x3 * 100)), (0, .ref (ad 0)), (1, .long x1)] hX dX7_leave_17 rfl (lt_b rfl) rfl ?_
      refine v_goto 2 hX dX7_leave_18 (by decide) ?_
      exact v_sub [1, 2, 0] rfl (hk2 σ x1 (x3 * 100) hf)
set_option maxHeartbeats 4000000 in
set_option maxRecDepth 100000 in
theorem c_X7_leave {l : Launch} {D : va_G} {cs : ClassId × ClassId × ClassId} {ad : Nat → Nat} (σ : Mem) (fuel : Nat)  (x1 : Int64) {z : Mem} (hf : f_X7_leave fuel σ x1 = some z) : CtV l (mW D cs ad) 0 yX7_leave cX7_leave 7 [.ref (ad 0), .long x1] σ z := by
  refine ct_V RX7 [(0, .ref (ad 0)), (1, .long x1)] (by decide +kernel) rfl rfl (Nat.le_of_ble_eq_true rfl) ?_
  intro P M hl0 hX
  unfold f_X7_leave at hf
  refine v_lconst 1 hX dX7_leave_0 (by decide) ?_
  refine v_lstore_n 3 [(3, .long 1), (0, .ref (ad 0)), (1, .long x1)] hX dX7_leave_1 rfl (lt_b rfl) rfl ?_
  exact v_sub [1, 2, 0] rfl (s_X7_leave_2 hX fuel z  fuel σ x1 1 hf)
set_option maxHeartbeats 4000000 in
set_option maxRecDepth 100000 in
theorem c_X6_isRow {l : Launch} {D : va_G} {cs : ClassId × ClassId × ClassId} {ad : Nat → Nat} {ts : Nat × Nat × Nat} (σ : Mem)   (x0 : Int32) {z : Int32} (hf : f_X6_isRow x0 = some z) : CtI l (xW D cs ad ts) 1 yX6_isRow cX6_isRow 1 (some .boolean) [.int x0] σ z σ := by
  refine ct_I RX6 [(0, .int x0)] (by decide +kernel) rfl rfl (Nat.le_of_ble_eq_true rfl) ?_
  intro P M hl0 hX
  unfold f_X6_isRow at hf
  refine v_iload_n 0 0 hX dX6_isRow_0 rfl rfl ?_
  refine v_bipush 8 hX dX6_isRow_1 (by decide) ?_
  obtain ⟨v1, hc, hf⟩ := opt_b hf
  refine v_callSi (rest := []) (As := [.int x0, .int 8]) hX dX6_isRow_3 (c_X6_isBelow σ x0 8 hc) rfl rfl mw_321 mw_57 mw_320 mw_322 gAll ds_X6_isBelow rfl ⟨Nat.le_of_ble_eq_true rfl, Nat.le_of_ble_eq_true rfl⟩ (Nat.le_of_ble_eq_true rfl) ?_
  obtain ⟨hg2, hf⟩ := gd_some hf
  obtain rfl := Option.some.inj hf
  exact v_iret (r := v1) hX dX6_isRow_6 (isB_n hg2)
set_option maxHeartbeats 4000000 in
set_option maxRecDepth 100000 in
theorem c_X1_isInLimit {l : Launch} {D : va_G} {cs : ClassId × ClassId × ClassId} {ad : Nat → Nat} {ts : Nat × Nat × Nat} (σ : Mem)  (x1 : Int32) (x2 : Int32) {z : Int32} (hf : f_X1_isInLimit σ x1 x2 = some z) : CtI l (xW D cs ad ts) 1 yX1_isInLimit cX1_isInLimit 3 (some .boolean) [.ref (ad 13), .int x1, .int x2] σ z σ := by
  refine ct_I RX1 [(0, .ref (ad 13)), (1, .int x1), (2, .int x2)] (by decide +kernel) rfl rfl (Nat.le_of_ble_eq_true rfl) ?_
  intro P M hl0 hX
  unfold f_X1_isInLimit at hf
  refine v_iload_n 2 2 hX dX1_isInLimit_0 rfl rfl ?_
  refine v_aload_n 0 0 hX dX1_isInLimit_1 rfl rfl ?_
  refine v_get (C := RX1) (T := TX1) (N := 19) (ci := 1) (v := .ref (ad 19)) 13 14 hX dX1_isInLimit_2 mw_155 rfl inlX1 rfl (lt_b rfl) (lt_b rfl) rfl rfl ?_
  refine v_iload_n 1 1 hX dX1_isInLimit_5 rfl rfl ?_
  obtain ⟨hi1, hf⟩ := gd_some hf
  refine v_ald (v := σ 19 x1.toNatClampNeg) 19 hX dX1_isInLimit_6 (lt_b rfl) ((fun _ => rfl) _) hi1 rfl ?_
  refine v_isub hX dX1_isInLimit_7 ?_
  refine v_aload_n 0 0 hX dX1_isInLimit_8 rfl rfl ?_
  refine v_aload_n 0 0 hX dX1_isInLimit_9 rfl rfl ?_
  refine v_get (C := RX1) (T := TX1) (N := 19) (ci := 1) (v := .ref (ad 17)) 13 12 hX dX1_isInLimit_10 mw_148 rfl inlX1 rfl (lt_b rfl) (lt_b rfl) rfl rfl ?_
  refine v_iload_n 1 1 hX dX1_isInLimit_13 rfl rfl ?_
  obtain ⟨hi2, hf⟩ := gd_some hf
  refine v_ald (v := σ 17 x1.toNatClampNeg) 17 hX dX1_isInLimit_14 (lt_b rfl) ((fun _ => rfl) _) hi2 rfl ?_
  refine v_aload_n 0 0 hX dX1_isInLimit_15 rfl rfl ?_
  refine v_get (C := RX1) (T := TX1) (N := 19) (ci := 1) (v := .int (σ 13 1)) 13 1 hX dX1_isInLimit_16 mw_108 rfl inlX1 rfl (lt_b rfl) (lt_b rfl) rfl rfl ?_
  obtain ⟨v3, hc, hf⟩ := opt_b hf
  refine v_callVi (rest := [.int (x2 - (σ 19 x1.toNatClampNeg))]) (As := [.int (σ 17 x1.toNatClampNeg), .int (σ 13 1)]) (C := RX1) (T := TX1) (N := 19) (ci := 1) 13 hX dX1_isInLimit_19 (c_X1_limitOf σ (σ 17 x1.toNatClampNeg) (σ 13 1) hc) rfl rfl (lt_b rfl) rfl rfl rfl mw_516 mw_517 mw_59 mw_515 mw_518 gAll ds_X1_limitOf rfl ⟨Nat.le_of_ble_eq_true rfl, Nat.le_of_ble_eq_true rfl⟩ (Nat.le_of_ble_eq_true rfl) ?_
  refine v_icmp_gt 29 hX dX1_isInLimit_22 (by decide) (fun c => ?_) (fun c => ?_)
  · have hf := opt_t c hf
    refine v_iconst 0 hX dX1_isInLimit_29 (by decide) ?_
    obtain rfl := Option.some.inj hf
    exact v_iret (r := 0) hX dX1_isInLimit_30 rfl
  · have hf := opt_f c hf
    refine v_iconst 1 hX dX1_isInLimit_25 (by decide) ?_
    refine v_goto 30 hX dX1_isInLimit_26 (by decide) ?_
    obtain rfl := Option.some.inj hf
    exact v_iret (r := 1) hX dX1_isInLimit_30 rfl
set_option maxHeartbeats 4000000 in
set_option maxRecDepth 100000 in
theorem s_X1_recallableBy_50 {P : PT} {M : MT} {D : va_G} {cs : ClassId × ClassId × ClassId} {ad : Nat → Nat} {ts : Nat × Nat × Nat} (hX : VOk P M (xW D cs ad ts) 7 cX1_recallableBy RX1 (some .int) 1) (fuel : Nat) (σ : Mem) (k5 : Int32 → Int32 → Int32 → Int32 → Option (Int32))  (z : Int32) (hk5 : ∀ (x1 : Int32) (x2 : Int32) (x3 : Int32) (x4 : Int32), k5 x1 x2 x3 x4 = some z → V P M (xW D cs ad ts) 7 (QI P M (xW D cs ad ts) z σ) 5 [(0, .ref (ad 13)), (1, .int x1), (2, .int x2), (3, .int x3), (4, .int x4)] [] σ) (x1 : Int32) (x2 : Int32) (x3 : Int32) (x4 : Int32) (x5 : Int32) (y0 : Int32) (hf : f_X1_recallableBy_50 fuel σ k5 x1 x2 x3 x4 x5 y0 = some z) : V P M (xW D cs ad ts) 7 (QI P M (xW D cs ad ts) z σ) 50 [(0, .ref (ad 13)), (1, .int x1), (2, .int x2), (3, .int x3), (4, .int x4), (5, .int x5)] [.int y0] σ := by
  unfold f_X1_recallableBy_50 at hf
  refine v_istore [(6, .int y0), (0, .ref (ad 13)), (1, .int x1), (2, .int x2), (3, .int x3), (4, .int x4), (5, .int x5)] hX dX1_recallableBy_50 (lt_b rfl) rfl ?_
  refine v_iload 0 hX dX1_recallableBy_52 rfl ?_
  refine v_if_eq 86 hX dX1_recallableBy_54 (by decide) (fun c => ?_) (fun c => ?_)
  · have hf := opt_t c hf
    refine v_iinc 5 (x4 + 1) [(4, .int (x4 + 1)), (6, .int y0), (0, .ref (ad 13)), (1, .int x1), (2, .int x2), (3, .int x3), (5, .int x5)] hX dX1_recallableBy_86 rfl rfl (lt_b rfl) rfl ?_
    refine v_goto 5 hX dX1_recallableBy_89 (by decide) ?_
    exact v_sub [2, 3, 4, 5, 0] rfl (hk5 x1 x2 x3 (x4 + 1) hf)
  · have hf := opt_f c hf
    refine v_aload_n 1 0 hX dX1_recallableBy_57 rfl rfl ?_
    refine v_get (C := RX1) (T := TX1) (N := 19) (ci := 1) (v := .int (σ 13 3)) 13 3 hX dX1_recallableBy_58 mw_114 rfl inlX1 rfl (lt_b rfl) (lt_b rfl) rfl rfl ?_
    refine v_aload_n 1 0 hX dX1_recallableBy_61 rfl rfl ?_
    refine v_get (C := RX1) (T := TX1) (N := 19) (ci := 1) (v := .ref (ad 19)) 13 14 hX dX1_recallableBy_62 mw_155 rfl inlX1 rfl (lt_b rfl) (lt_b rfl) rfl rfl ?_
    refine v_iload 5 hX dX1_recallableBy_65 rfl ?_
    obtain ⟨hi4, hf⟩ := gd_some hf
    refine v_ald (v := σ 19 x4.toNatClampNeg) 19 hX dX1_recallableBy_67 (lt_b rfl) ((fun _ => rfl) _) hi4 rfl ?_
    refine v_isub hX dX1_recallableBy_68 ?_
    refine v_aload_n 1 0 hX dX1_recallableBy_69 rfl rfl ?_
    refine v_iload 6 hX dX1_recallableBy_70 rfl ?_
    refine v_iload_n 3 2 hX dX1_recallableBy_72 rfl rfl ?_
    obtain ⟨v5, hc, hf⟩ := opt_b hf
    refine v_callVi (rest := [.int ((σ 13 3) - (σ 19 x4.toNatClampNeg))]) (As := [.int x5, .int x2]) (C := RX1) (T := TX1) (N := 19) (ci := 1) 13 hX dX1_recallableBy_73 (c_X1_limitOf σ x5 x2 hc) rfl rfl (lt_b rfl) rfl rfl rfl mw_516 mw_517 mw_59 mw_515 mw_518 gAll ds_X1_limitOf rfl ⟨Nat.le_of_ble_eq_true rfl, Nat.le_of_ble_eq_true rfl⟩ (Nat.le_of_ble_eq_true rfl) ?_
    refine v_icmp_gt 86 hX dX1_recallableBy_76 (by decide) (fun c => ?_) (fun c => ?_)
    · have hf := opt_t c hf
      refine v_iinc 5 (x4 + 1) [(4, .int (x4 + 1)), (6, .int y0), (0, .ref (ad 13)), (1, .int x1), (2, .int x2), (3, .int x3), (5, .int x5)] hX dX1_recallableBy_86 rfl rfl (lt_b rfl) rfl ?_
      refine v_goto 5 hX dX1_recallableBy_89 (by decide) ?_
      exact v_sub [2, 3, 4, 5, 0] rfl (hk5 x1 x2 x3 (x4 + 1) hf)
    · have hf := opt_f c hf
      refine v_iload_n 4 3 hX dX1_recallableBy_79 rfl rfl ?_
      refine v_iconst 1 hX dX1_recallableBy_80 (by decide) ?_
      refine v_iload 5 hX dX1_recallableBy_81 rfl ?_
      refine v_ishl hX dX1_recallableBy_83 ?_
      refine v_ior hX dX1_recallableBy_84 ?_
      refine v_istore_n 3 [(3, .int (x3 ||| (1 <<< (x4 &&& 31)))), (6, .int y0), (0, .ref (ad 13)), (1, .int x1), (2, .int x2), (4, .int x4), (5, .int x5)] hX dX1_recallableBy_85 rfl (lt_b rfl) rfl ?_
      refine v_iinc 5 (x4 + 1) [(4, .int (x4 + 1)), (3, .int (x3 ||| (1 <<< (x4 &&& 31)))), (6, .int y0), (0, .ref (ad 13)), (1, .int x1), (2, .int x2), (5, .int x5)] hX dX1_recallableBy_86 rfl rfl (lt_b rfl) rfl ?_
      refine v_goto 5 hX dX1_recallableBy_89 (by decide) ?_
      exact v_sub [3, 4, 5, 1, 0] rfl (hk5 x1 x2 (x3 ||| (1 <<< (x4 &&& 31))) (x4 + 1) hf)
set_option maxHeartbeats 4000000 in
set_option maxRecDepth 100000 in
theorem s_X1_recallableBy_5 {P : PT} {M : MT} {D : va_G} {cs : ClassId × ClassId × ClassId} {ad : Nat → Nat} {ts : Nat × Nat × Nat} (hX : VOk P M (xW D cs ad ts) 7 cX1_recallableBy RX1 (some .int) 1) (fuel : Nat) (σ : Mem)   (z : Int32)  : ∀ (n : Nat) (x1 : Int32) (x2 : Int32) (x3 : Int32) (x4 : Int32), f_X1_recallableBy_5 fuel σ n x1 x2 x3 x4 = some z → V P M (xW D cs ad ts) 7 (QI P M (xW D cs ad ts) z σ) 5 [(0, .ref (ad 13)), (1, .int x1), (2, .int x2), (3, .int x3), (4, .int x4)] [] σ := by
  intro n
  induction n with
  | zero =>
    intro x1 x2 x3 x4 hf
    cases hf
  | succ n hk5 =>
    intro x1 x2 x3 x4 hf
    rw [f_X1_recallableBy_5] at hf
    refine v_iload 4 hX dX1_recallableBy_5 rfl ?_
    refine v_aload_n 0 0 hX dX1_recallableBy_7 rfl rfl ?_
    refine v_get (C := RX1) (T := TX1) (N := 19) (ci := 1) (v := .int (σ 13 7)) 13 7 hX dX1_recallableBy_8 mw_129 rfl inlX1 rfl (lt_b rfl) (lt_b rfl) rfl rfl ?_
    refine v_icmp_ge 92 hX dX1_recallableBy_11 (by decide) (fun c => ?_) (fun c => ?_)
    · have hf := opt_t c hf
      refine v_iload_n 3 3 hX dX1_recallableBy_92 rfl rfl ?_
      obtain rfl := Option.some.inj hf
      exact v_iret (r := x3) hX dX1_recallableBy_93 rfl
    · have hf := opt_f c hf
      refine v_aload_n 0 0 hX dX1_recallableBy_14 rfl rfl ?_
      refine v_get (C := RX1) (T := TX1) (N := 19) (ci := 1) (v := .ref (ad 17)) 13 12 hX dX1_recallableBy_15 mw_148 rfl inlX1 rfl (lt_b rfl) (lt_b rfl) rfl rfl ?_
      refine v_iload 4 hX dX1_recallableBy_18 rfl ?_
      obtain ⟨hi1, hf⟩ := gd_some hf
      refine v_ald (v := σ 17 x4.toNatClampNeg) 17 hX dX1_recallableBy_20 (lt_b rfl) ((fun _ => rfl) _) hi1 rfl ?_
      refine v_istore [(5, .int (σ 17 x4.toNatClampNeg)), (0, .ref (ad 13)), (1, .int x1), (2, .int x2), (3, .int x3), (4, .int x4)] hX dX1_recallableBy_21 (lt_b rfl) rfl ?_
      refine v_iload_n 2 1 hX dX1_recallableBy_23 rfl rfl ?_
      refine v_iload 0 hX dX1_recallableBy_24 rfl ?_
      obtain ⟨v2, hc, hf⟩ := opt_b hf
      refine v_callNi (rest := []) (As := [.int x1, .int (σ 17 x4.toNatClampNeg)]) hX dX1_recallableBy_26 (c_X6_bitOf σ x1 (σ 17 x4.toNatClampNeg) hc) rfl rfl mw_509 mw_57 (ex_RX1_81 hX) mw_510 gAll ds_X6_bitOf rfl ⟨Nat.le_of_ble_eq_true rfl, Nat.le_of_ble_eq_true rfl⟩ (Nat.le_of_ble_eq_true rfl) ?_
      refine v_iconst 1 hX dX1_recallableBy_29 (by decide) ?_
      refine v_icmp_ne 49 hX dX1_recallableBy_30 (by decide) (fun c => ?_) (fun c => ?_)
      · have hf := opt_f c hf
        refine v_iconst 0 hX dX1_recallableBy_49 (by decide) ?_
        exact v_sub [1, 2, 3, 4, 5, 0] rfl (s_X1_recallableBy_50 hX fuel σ (f_X1_recallableBy_5 fuel σ n) z hk5 x1 x2 x3 x4 (σ 17 x4.toNatClampNeg) 0 hf)
      · have hf := opt_t c hf
        refine v_aload_n 1 0 hX dX1_recallableBy_33 rfl rfl ?_
        refine v_get (C := RX1) (T := TX1) (N := 19) (ci := 1) (v := .int (σ 13 5)) 13 5 hX dX1_recallableBy_34 mw_122 rfl inlX1 rfl (lt_b rfl) (lt_b rfl) rfl rfl ?_
        refine v_iload 5 hX dX1_recallableBy_37 rfl ?_
        obtain ⟨v3, hc, hf⟩ := opt_b hf
        refine v_callNi (rest := []) (As := [.int (σ 13 5), .int x4]) hX dX1_recallableBy_39 (c_X6_bitOf σ (σ 13 5) x4 hc) rfl rfl mw_509 mw_57 (ex_RX1_81 hX) mw_510 gAll ds_X6_bitOf rfl ⟨Nat.le_of_ble_eq_true rfl, Nat.le_of_ble_eq_true rfl⟩ (Nat.le_of_ble_eq_true rfl) ?_
        refine v_if_ne 49 hX dX1_recallableBy_42 (by decide) (fun c => ?_) (fun c => ?_)
        · have hf := opt_f c hf
          refine v_iconst 0 hX dX1_recallableBy_49 (by decide) ?_
          exact v_sub [1, 2, 3, 4, 5, 0] rfl (s_X1_recallableBy_50 hX fuel σ (f_X1_recallableBy_5 fuel σ n) z hk5 x1 x2 x3 x4 (σ 17 x4.toNatClampNeg) 0 hf)
        · have hf := opt_t c hf
          refine v_iconst 1 hX dX1_recallableBy_45 (by decide) ?_
          refine v_goto 50 hX dX1_recallableBy_46 (by decide) ?_
          exact v_sub [1, 2, 3, 4, 5, 0] rfl (s_X1_recallableBy_50 hX fuel σ (f_X1_recallableBy_5 fuel σ n) z hk5 x1 x2 x3 x4 (σ 17 x4.toNatClampNeg) 1 hf)
set_option maxHeartbeats 4000000 in
set_option maxRecDepth 100000 in
theorem c_X1_recallableBy {l : Launch} {D : va_G} {cs : ClassId × ClassId × ClassId} {ad : Nat → Nat} {ts : Nat × Nat × Nat} (fuel : Nat) (σ : Mem)  (x1 : Int32) (x2 : Int32) {z : Int32} (hf : f_X1_recallableBy fuel σ x1 x2 = some z) : CtI l (xW D cs ad ts) 1 yX1_recallableBy cX1_recallableBy 7 (some .int) [.ref (ad 13), .int x1, .int x2] σ z σ := by
  refine ct_I RX1 [(0, .ref (ad 13)), (1, .int x1), (2, .int x2)] (by decide +kernel) rfl rfl (Nat.le_of_ble_eq_true rfl) ?_
  intro P M hl0 hX
  unfold f_X1_recallableBy at hf
  refine v_iconst 0 hX dX1_recallableBy_0 (by decide) ?_
  refine v_istore_n 3 [(3, .int 0), (0, .ref (ad 13)), (1, .int x1), (2, .int x2)] hX dX1_recallableBy_1 rfl (lt_b rfl) rfl ?_
  refine v_iconst 0 hX dX1_recallableBy_2 (by decide) ?_
  refine v_istore [(4, .int 0), (3, .int 0), (0, .ref (ad 13)), (1, .int x1), (2, .int x2)] hX dX1_recallableBy_3 (lt_b rfl) rfl ?_
  exact v_sub [2, 3, 4, 1, 0] rfl (s_X1_recallableBy_5 hX fuel σ z  fuel x1 x2 0 0 hf)
set_option maxHeartbeats 4000000 in
set_option maxRecDepth 100000 in
theorem c_X1_unwhiteBy {l : Launch} {D : va_G} {cs : ClassId × ClassId × ClassId} {ad : Nat → Nat} {ts : Nat × Nat × Nat} (fuel : Nat) (σ : Mem)  (x1 : Int32) {z : Int32} (hf : f_X1_unwhiteBy fuel σ x1 = some z) : CtI l (xW D cs ad ts) 1 yX1_unwhiteBy cX1_unwhiteBy 2 (some .int) [.ref (ad 13), .int x1] σ z σ := by
  refine ct_I RX1 [(0, .ref (ad 13)), (1, .int x1)] (by decide +kernel) rfl rfl (Nat.le_of_ble_eq_true rfl) ?_
  intro P M hl0 hX
  unfold f_X1_unwhiteBy at hf
  refine v_aload_n 0 0 hX dX1_unwhiteBy_0 rfl rfl ?_
  refine v_iload_n 1 1 hX dX1_unwhiteBy_1 rfl rfl ?_
  obtain ⟨v1, hc, hf⟩ := opt_b hf
  refine v_callVi (rest := []) (As := [.int x1]) (C := RX1) (T := TX1) (N := 19) (ci := 1) 13 hX dX1_unwhiteBy_2 (c_X1_copiesBy fuel σ x1 hc) rfl rfl (lt_b rfl) rfl rfl rfl mw_559 mw_560 mw_59 mw_810 mw_561 gAll ds_X1_copiesBy rfl ⟨Nat.le_of_ble_eq_true rfl, Nat.le_of_ble_eq_true rfl⟩ (Nat.le_of_ble_eq_true rfl) ?_
  refine v_aload_n 0 0 hX dX1_unwhiteBy_5 rfl rfl ?_
  refine v_get (C := RX1) (T := TX1) (N := 19) (ci := 1) (v := .int (σ 13 5)) 13 5 hX dX1_unwhiteBy_6 mw_122 rfl inlX1 rfl (lt_b rfl) (lt_b rfl) rfl rfl ?_
  refine v_iconst (-1) hX dX1_unwhiteBy_9 (by decide) ?_
  refine v_ixor hX dX1_unwhiteBy_10 ?_
  refine v_iand hX dX1_unwhiteBy_11 ?_
  obtain ⟨v2, hc, hf⟩ := opt_b hf
  refine v_callSi (rest := []) (As := [.int (v1 &&& ((σ 13 5) ^^^ (-1)))]) hX dX1_unwhiteBy_12 (c_J6_bitCount_0f7a4 σ (v1 &&& ((σ 13 5) ^^^ (-1))) hc) rfl rfl mw_670 mw_68 mw_811 mw_671 gAll ds_J6_bitCount_0f7a4 rfl ⟨Nat.le_of_ble_eq_true rfl, Nat.le_of_ble_eq_true rfl⟩ (Nat.le_of_ble_eq_true rfl) ?_
  obtain rfl := Option.some.inj hf
  exact v_iret (r := v2) hX dX1_unwhiteBy_15 rfl
set_option maxHeartbeats 4000000 in
set_option maxRecDepth 100000 in
theorem s_X1_blackBy_4 {P : PT} {M : MT} {D : va_G} {cs : ClassId × ClassId × ClassId} {ad : Nat → Nat} {ts : Nat × Nat × Nat} (hX : VOk P M (xW D cs ad ts) 4 cX1_blackBy RX1 (some .int) 1) (fuel : Nat) (σ : Mem)   (z : Int32)  : ∀ (n : Nat) (x1 : Int32) (x2 : Int32) (x3 : Int32), f_X1_blackBy_4 fuel σ n x1 x2 x3 = some z → V P M (xW D cs ad ts) 4 (QI P M (xW D cs ad ts) z σ) 4 [(0, .ref (ad 13)), (1, .int x1), (2, .int x2), (3, .int x3)] [] σ := by
  intro n
  induction n with
  | zero =>
    intro x1 x2 x3 hf
    cases hf
  | succ n hk4 =>
    intro x1 x2 x3 hf
    rw [f_X1_blackBy_4] at hf
    refine v_iload_n 3 3 hX dX1_blackBy_4 rfl rfl ?_
    refine v_aload_n 0 0 hX dX1_blackBy_5 rfl rfl ?_
    refine v_get (C := RX1) (T := TX1) (N := 19) (ci := 1) (v := .int (σ 13 7)) 13 7 hX dX1_blackBy_6 mw_129 rfl inlX1 rfl (lt_b rfl) (lt_b rfl) rfl rfl ?_
    refine v_icmp_ge 37 hX dX1_blackBy_9 (by decide) (fun c => ?_) (fun c => ?_)
    · have hf := opt_t c hf
      refine v_iload_n 2 2 hX dX1_blackBy_37 rfl rfl ?_
      obtain rfl := Option.some.inj hf
      exact v_iret (r := x2) hX dX1_blackBy_38 rfl
    · have hf := opt_f c hf
      refine v_iload_n 1 1 hX dX1_blackBy_12 rfl rfl ?_
      refine v_iload_n 3 3 hX dX1_blackBy_13 rfl rfl ?_
      obtain ⟨v1, hc, hf⟩ := opt_b hf
      refine v_callNi (rest := []) (As := [.int x1, .int x3]) hX dX1_blackBy_14 (c_X6_bitOf σ x1 x3 hc) rfl rfl mw_509 mw_57 (ex_RX1_81 hX) mw_510 gAll ds_X6_bitOf rfl ⟨Nat.le_of_ble_eq_true rfl, Nat.le_of_ble_eq_true rfl⟩ (Nat.le_of_ble_eq_true rfl) ?_
      refine v_if_ne 31 hX dX1_blackBy_17 (by decide) (fun c => ?_) (fun c => ?_)
      · have hf := opt_f c hf
        refine v_iinc 3 (x3 + 1) [(3, .int (x3 + 1)), (0, .ref (ad 13)), (1, .int x1), (2, .int x2)] hX dX1_blackBy_31 rfl rfl (lt_b rfl) rfl ?_
        refine v_goto 4 hX dX1_blackBy_34 (by decide) ?_
        exact v_sub [1, 2, 3, 0] rfl (hk4 x1 x2 (x3 + 1) hf)
      · have hf := opt_t c hf
        refine v_iload_n 2 2 hX dX1_blackBy_20 rfl rfl ?_
        refine v_iconst 1 hX dX1_blackBy_21 (by decide) ?_
        refine v_aload_n 0 0 hX dX1_blackBy_22 rfl rfl ?_
        refine v_get (C := RX1) (T := TX1) (N := 19) (ci := 1) (v := .ref (ad 16)) 13 11 hX dX1_blackBy_23 mw_146 rfl inlX1 rfl (lt_b rfl) (lt_b rfl) rfl rfl ?_
        refine v_iload_n 3 3 hX dX1_blackBy_26 rfl rfl ?_
        obtain ⟨hi2, hf⟩ := gd_some hf
        refine v_ald (v := σ 16 x3.toNatClampNeg) 16 hX dX1_blackBy_27 (lt_b rfl) ((fun _ => rfl) _) hi2 rfl ?_
        refine v_ishl hX dX1_blackBy_28 ?_
        refine v_ior hX dX1_blackBy_29 ?_
        refine v_istore_n 2 [(2, .int (x2 ||| (1 <<< ((σ 16 x3.toNatClampNeg) &&& 31)))), (0, .ref (ad 13)), (1, .int x1), (3, .int x3)] hX dX1_blackBy_30 rfl (lt_b rfl) rfl ?_
        refine v_iinc 3 (x3 + 1) [(3, .int (x3 + 1)), (2, .int (x2 ||| (1 <<< ((σ 16 x3.toNatClampNeg) &&& 31)))), (0, .ref (ad 13)), (1, .int x1)] hX dX1_blackBy_31 rfl rfl (lt_b rfl) rfl ?_
        refine v_goto 4 hX dX1_blackBy_34 (by decide) ?_
        exact v_sub [2, 3, 1, 0] rfl (hk4 x1 (x2 ||| (1 <<< ((σ 16 x3.toNatClampNeg) &&& 31))) (x3 + 1) hf)
set_option maxHeartbeats 4000000 in
set_option maxRecDepth 100000 in
theorem c_X1_blackBy {l : Launch} {D : va_G} {cs : ClassId × ClassId × ClassId} {ad : Nat → Nat} {ts : Nat × Nat × Nat} (fuel : Nat) (σ : Mem)  (x1 : Int32) {z : Int32} (hf : f_X1_blackBy fuel σ x1 = some z) : CtI l (xW D cs ad ts) 1 yX1_blackBy cX1_blackBy 4 (some .int) [.ref (ad 13), .int x1] σ z σ := by
  refine ct_I RX1 [(0, .ref (ad 13)), (1, .int x1)] (by decide +kernel) rfl rfl (Nat.le_of_ble_eq_true rfl) ?_
  intro P M hl0 hX
  unfold f_X1_blackBy at hf
  refine v_iconst 0 hX dX1_blackBy_0 (by decide) ?_
  refine v_istore_n 2 [(2, .int 0), (0, .ref (ad 13)), (1, .int x1)] hX dX1_blackBy_1 rfl (lt_b rfl) rfl ?_
  refine v_iconst 0 hX dX1_blackBy_2 (by decide) ?_
  refine v_istore_n 3 [(3, .int 0), (2, .int 0), (0, .ref (ad 13)), (1, .int x1)] hX dX1_blackBy_3 rfl (lt_b rfl) rfl ?_
  exact v_sub [2, 3, 1, 0] rfl (s_X1_blackBy_4 hX fuel σ z  fuel x1 0 0 hf)
set_option maxHeartbeats 4000000 in
set_option maxRecDepth 100000 in
theorem s_X1_standingOn_89 {P : PT} {M : MT} {D : va_G} {cs : ClassId × ClassId × ClassId} {ad : Nat → Nat} {ts : Nat × Nat × Nat} (hX : VOk P M (xW D cs ad ts) 6 cX1_standingOn RX1 (some .int) 1) (fuel : Nat) (σ : Mem) (k4 : Int32 → Int32 → Int32 → Option (Int32))  (z : Int32) (hk4 : ∀ (x1 : Int32) (x2 : Int32) (x3 : Int32), k4 x1 x2 x3 = some z → V P M (xW D cs ad ts) 6 (QI P M (xW D cs ad ts) z σ) 4 [(0, .ref (ad 13)), (1, .int x1), (2, .int x2), (3, .int x3)] [] σ) (x1 : Int32) (x2 : Int32) (x3 : Int32) (x4 : Int32) (y0 : Int32) (hf : f_X1_standingOn_89 fuel σ k4 x1 x2 x3 x4 y0 = some z) : V P M (xW D cs ad ts) 6 (QI P M (xW D cs ad ts) z σ) 89 [(0, .ref (ad 13)), (1, .int x1), (2, .int x2), (3, .int x3), (4, .int x4)] [.int y0] σ := by
  unfold f_X1_standingOn_89 at hf
  refine v_istore [(5, .int y0), (0, .ref (ad 13)), (1, .int x1), (2, .int x2), (3, .int x3), (4, .int x4)] hX dX1_standingOn_89 (lt_b rfl) rfl ?_
  refine v_iload 5 hX dX1_standingOn_91 rfl ?_
  refine v_if_eq 107 hX dX1_standingOn_93 (by decide) (fun c => ?_) (fun c => ?_)
  · have hf := opt_t c hf
    refine v_iinc 4 (x3 + 1) [(3, .int (x3 + 1)), (5, .int y0), (0, .ref (ad 13)), (1, .int x1), (2, .int x2), (4, .int x4)] hX dX1_standingOn_107 rfl rfl (lt_b rfl) rfl ?_
    refine v_goto 4 hX dX1_standingOn_110 (by decide) ?_
    exact v_sub [2, 3, 4, 0] rfl (hk4 x1 x2 (x3 + 1) hf)
  · have hf := opt_f c hf
    refine v_iload 0 hX dX1_standingOn_96 rfl ?_
    refine v_if_eq 107 hX dX1_standingOn_98 (by decide) (fun c => ?_) (fun c => ?_)
    · have hf := opt_t c hf
      refine v_iinc 4 (x3 + 1) [(3, .int (x3 + 1)), (5, .int y0), (0, .ref (ad 13)), (1, .int x1), (2, .int x2), (4, .int x4)] hX dX1_standingOn_107 rfl rfl (lt_b rfl) rfl ?_
      refine v_goto 4 hX dX1_standingOn_110 (by decide) ?_
      exact v_sub [2, 3, 4, 0] rfl (hk4 x1 x2 (x3 + 1) hf)
    · have hf := opt_f c hf
      refine v_iload_n 3 2 hX dX1_standingOn_101 rfl rfl ?_
      refine v_iconst 1 hX dX1_standingOn_102 (by decide) ?_
      refine v_iload_n 4 3 hX dX1_standingOn_103 rfl rfl ?_
      refine v_ishl hX dX1_standingOn_104 ?_
      refine v_ior hX dX1_standingOn_105 ?_
      refine v_istore_n 2 [(2, .int (x2 ||| (1 <<< (x3 &&& 31)))), (5, .int y0), (0, .ref (ad 13)), (1, .int x1), (3, .int x3), (4, .int x4)] hX dX1_standingOn_106 rfl (lt_b rfl) rfl ?_
      refine v_iinc 4 (x3 + 1) [(3, .int (x3 + 1)), (2, .int (x2 ||| (1 <<< (x3 &&& 31)))), (5, .int y0), (0, .ref (ad 13)), (1, .int x1), (4, .int x4)] hX dX1_standingOn_107 rfl rfl (lt_b rfl) rfl ?_
      refine v_goto 4 hX dX1_standingOn_110 (by decide) ?_
      exact v_sub [3, 4, 1, 0] rfl (hk4 x1 (x2 ||| (1 <<< (x3 &&& 31))) (x3 + 1) hf)
set_option maxHeartbeats 4000000 in
set_option maxRecDepth 100000 in
theorem s_X1_standingOn_59 {P : PT} {M : MT} {D : va_G} {cs : ClassId × ClassId × ClassId} {ad : Nat → Nat} {ts : Nat × Nat × Nat} (hX : VOk P M (xW D cs ad ts) 6 cX1_standingOn RX1 (some .int) 1) (fuel : Nat) (σ : Mem) (k4 : Int32 → Int32 → Int32 → Option (Int32))  (z : Int32) (hk4 : ∀ (x1 : Int32) (x2 : Int32) (x3 : Int32), k4 x1 x2 x3 = some z → V P M (xW D cs ad ts) 6 (QI P M (xW D cs ad ts) z σ) 4 [(0, .ref (ad 13)), (1, .int x1), (2, .int x2), (3, .int x3)] [] σ) (x1 : Int32) (x2 : Int32) (x3 : Int32) (y0 : Int32) (hf : f_X1_standingOn_59 fuel σ k4 x1 x2 x3 y0 = some z) : V P M (xW D cs ad ts) 6 (QI P M (xW D cs ad ts) z σ) 59 [(0, .ref (ad 13)), (1, .int x1), (2, .int x2), (3, .int x3)] [.int y0] σ := by
  unfold f_X1_standingOn_59 at hf
  refine v_istore [(4, .int y0), (0, .ref (ad 13)), (1, .int x1), (2, .int x2), (3, .int x3)] hX dX1_standingOn_59 (lt_b rfl) rfl ?_
  refine v_aload_n 1 0 hX dX1_standingOn_61 rfl rfl ?_
  refine v_get (C := RX1) (T := TX1) (N := 19) (ci := 1) (v := .ref (ad 22)) 13 17 hX dX1_standingOn_62 mw_162 rfl inlX1 rfl (lt_b rfl) (lt_b rfl) rfl rfl ?_
  refine v_iload_n 4 3 hX dX1_standingOn_65 rfl rfl ?_
  obtain ⟨hi4, hf⟩ := gd_some hf
  refine v_ald (v := σ 22 x3.toNatClampNeg) 22 hX dX1_standingOn_66 (lt_b rfl) ((fun _ => rfl) _) hi4 rfl ?_
  refine v_if_lt 84 hX dX1_standingOn_67 (by decide) (fun c => ?_) (fun c => ?_)
  · have hf := opt_t c hf
    refine v_iconst 1 hX dX1_standingOn_84 (by decide) ?_
    refine v_goto 89 hX dX1_standingOn_85 (by decide) ?_
    exact v_sub [1, 2, 3, 4, 0] rfl (s_X1_standingOn_89 hX fuel σ k4 z hk4 x1 x2 x3 y0 1 hf)
  · have hf := opt_f c hf
    refine v_iload_n 3 2 hX dX1_standingOn_70 rfl rfl ?_
    refine v_aload_n 1 0 hX dX1_standingOn_71 rfl rfl ?_
    refine v_get (C := RX1) (T := TX1) (N := 19) (ci := 1) (v := .ref (ad 22)) 13 17 hX dX1_standingOn_72 mw_162 rfl inlX1 rfl (lt_b rfl) (lt_b rfl) rfl rfl ?_
    refine v_iload_n 4 3 hX dX1_standingOn_75 rfl rfl ?_
    obtain ⟨hi5, hf⟩ := gd_some hf
    refine v_ald (v := σ 22 x3.toNatClampNeg) 22 hX dX1_standingOn_76 (lt_b rfl) ((fun _ => rfl) _) hi5 rfl ?_
    obtain ⟨v6, hc, hf⟩ := opt_b hf
    refine v_callNi (rest := []) (As := [.int x2, .int (σ 22 x3.toNatClampNeg)]) hX dX1_standingOn_77 (c_X6_bitOf σ x2 (σ 22 x3.toNatClampNeg) hc) rfl rfl mw_509 mw_57 (ex_RX1_81 hX) mw_510 gAll ds_X6_bitOf rfl ⟨Nat.le_of_ble_eq_true rfl, Nat.le_of_ble_eq_true rfl⟩ (Nat.le_of_ble_eq_true rfl) ?_
    refine v_iconst 1 hX dX1_standingOn_80 (by decide) ?_
    refine v_icmp_ne 88 hX dX1_standingOn_81 (by decide) (fun c => ?_) (fun c => ?_)
    · have hf := opt_f c hf
      refine v_iconst 0 hX dX1_standingOn_88 (by decide) ?_
      exact v_sub [1, 2, 3, 4, 0] rfl (s_X1_standingOn_89 hX fuel σ k4 z hk4 x1 x2 x3 y0 0 hf)
    · have hf := opt_t c hf
      refine v_iconst 1 hX dX1_standingOn_84 (by decide) ?_
      refine v_goto 89 hX dX1_standingOn_85 (by decide) ?_
      exact v_sub [1, 2, 3, 4, 0] rfl (s_X1_standingOn_89 hX fuel σ k4 z hk4 x1 x2 x3 y0 1 hf)
set_option maxHeartbeats 4000000 in
set_option maxRecDepth 100000 in
theorem s_X1_standingOn_4 {P : PT} {M : MT} {D : va_G} {cs : ClassId × ClassId × ClassId} {ad : Nat → Nat} {ts : Nat × Nat × Nat} (hX : VOk P M (xW D cs ad ts) 6 cX1_standingOn RX1 (some .int) 1) (fuel : Nat) (σ : Mem)   (z : Int32)  : ∀ (n : Nat) (x1 : Int32) (x2 : Int32) (x3 : Int32), f_X1_standingOn_4 fuel σ n x1 x2 x3 = some z → V P M (xW D cs ad ts) 6 (QI P M (xW D cs ad ts) z σ) 4 [(0, .ref (ad 13)), (1, .int x1), (2, .int x2), (3, .int x3)] [] σ := by
  intro n
  induction n with
  | zero =>
    intro x1 x2 x3 hf
    cases hf
  | succ n hk4 =>
    intro x1 x2 x3 hf
    rw [f_X1_standingOn_4] at hf
    refine v_iload_n 3 3 hX dX1_standingOn_4 rfl rfl ?_
    refine v_aload_n 0 0 hX dX1_standingOn_5 rfl rfl ?_
    refine v_get (C := RX1) (T := TX1) (N := 19) (ci := 1) (v := .int (σ 13 8)) 13 8 hX dX1_standingOn_6 mw_134 rfl inlX1 rfl (lt_b rfl) (lt_b rfl) rfl rfl ?_
    refine v_icmp_ge 113 hX dX1_standingOn_9 (by decide) (fun c => ?_) (fun c => ?_)
    · have hf := opt_t c hf
      refine v_iload_n 2 2 hX dX1_standingOn_113 rfl rfl ?_
      obtain rfl := Option.some.inj hf
      exact v_iret (r := x2) hX dX1_standingOn_114 rfl
    · have hf := opt_f c hf
      refine v_aload_n 0 0 hX dX1_standingOn_12 rfl rfl ?_
      refine v_get (C := RX1) (T := TX1) (N := 19) (ci := 1) (v := .ref (ad 21)) 13 16 hX dX1_standingOn_13 mw_160 rfl inlX1 rfl (lt_b rfl) (lt_b rfl) rfl rfl ?_
      refine v_iload_n 3 3 hX dX1_standingOn_16 rfl rfl ?_
      obtain ⟨hi1, hf⟩ := gd_some hf
      refine v_ald (v := σ 21 x3.toNatClampNeg) 21 hX dX1_standingOn_17 (lt_b rfl) ((fun _ => rfl) _) hi1 rfl ?_
      refine v_iconst 1 hX dX1_standingOn_18 (by decide) ?_
      refine v_icmp_ne 43 hX dX1_standingOn_19 (by decide) (fun c => ?_) (fun c => ?_)
      · have hf := opt_f c hf
        refine v_aload_n 0 0 hX dX1_standingOn_43 rfl rfl ?_
        refine v_get (C := RX1) (T := TX1) (N := 19) (ci := 1) (v := .ref (ad 20)) 13 15 hX dX1_standingOn_44 mw_158 rfl inlX1 rfl (lt_b rfl) (lt_b rfl) rfl rfl ?_
        refine v_iload_n 3 3 hX dX1_standingOn_47 rfl rfl ?_
        obtain ⟨hi2, hf⟩ := gd_some hf
        refine v_ald (v := σ 20 x3.toNatClampNeg) 20 hX dX1_standingOn_48 (lt_b rfl) ((fun _ => rfl) _) hi2 rfl ?_
        refine v_iload_n 1 1 hX dX1_standingOn_49 rfl rfl ?_
        refine v_iand hX dX1_standingOn_50 ?_
        refine v_if_eq 58 hX dX1_standingOn_51 (by decide) (fun c => ?_) (fun c => ?_)
        · have hf := opt_t c hf
          refine v_iconst 0 hX dX1_standingOn_58 (by decide) ?_
          exact (s_X1_standingOn_59 hX fuel σ (f_X1_standingOn_4 fuel σ n) z hk4 x1 x2 x3 0 hf)
        · have hf := opt_f c hf
          refine v_iconst 1 hX dX1_standingOn_54 (by decide) ?_
          refine v_goto 59 hX dX1_standingOn_55 (by decide) ?_
          exact (s_X1_standingOn_59 hX fuel σ (f_X1_standingOn_4 fuel σ n) z hk4 x1 x2 x3 1 hf)
      · have hf := opt_t c hf
        refine v_aload_n 0 0 hX dX1_standingOn_22 rfl rfl ?_
        refine v_get (C := RX1) (T := TX1) (N := 19) (ci := 1) (v := .ref (ad 20)) 13 15 hX dX1_standingOn_23 mw_158 rfl inlX1 rfl (lt_b rfl) (lt_b rfl) rfl rfl ?_
        refine v_iload_n 3 3 hX dX1_standingOn_26 rfl rfl ?_
        obtain ⟨hi3, hf⟩ := gd_some hf
        refine v_ald (v := σ 20 x3.toNatClampNeg) 20 hX dX1_standingOn_27 (lt_b rfl) ((fun _ => rfl) _) hi3 rfl ?_
        refine v_iload_n 1 1 hX dX1_standingOn_28 rfl rfl ?_
        refine v_iconst (-1) hX dX1_standingOn_29 (by decide) ?_
        refine v_ixor hX dX1_standingOn_30 ?_
        refine v_iand hX dX1_standingOn_31 ?_
        refine v_if_ne 39 hX dX1_standingOn_32 (by decide) (fun c => ?_) (fun c => ?_)
        · have hf := opt_f c hf
          refine v_iconst 0 hX dX1_standingOn_39 (by decide) ?_
          refine v_goto 59 hX dX1_standingOn_40 (by decide) ?_
          exact (s_X1_standingOn_59 hX fuel σ (f_X1_standingOn_4 fuel σ n) z hk4 x1 x2 x3 0 hf)
        · have hf := opt_t c hf
          refine v_iconst 1 hX dX1_standingOn_35 (by decide) ?_
          refine v_goto 59 hX dX1_standingOn_36 (by decide) ?_
          exact (s_X1_standingOn_59 hX fuel σ (f_X1_standingOn_4 fuel σ n) z hk4 x1 x2 x3 1 hf)
set_option maxHeartbeats 4000000 in
set_option maxRecDepth 100000 in
theorem c_X1_standingOn {l : Launch} {D : va_G} {cs : ClassId × ClassId × ClassId} {ad : Nat → Nat} {ts : Nat × Nat × Nat} (fuel : Nat) (σ : Mem)  (x1 : Int32) {z : Int32} (hf : f_X1_standingOn fuel σ x1 = some z) : CtI l (xW D cs ad ts) 1 yX1_standingOn cX1_standingOn 6 (some .int) [.ref (ad 13), .int x1] σ z σ := by
  refine ct_I RX1 [(0, .ref (ad 13)), (1, .int x1)] (by decide +kernel) rfl rfl (Nat.le_of_ble_eq_true rfl) ?_
  intro P M hl0 hX
  unfold f_X1_standingOn at hf
  refine v_iconst 0 hX dX1_standingOn_0 (by decide) ?_
  refine v_istore_n 2 [(2, .int 0), (0, .ref (ad 13)), (1, .int x1)] hX dX1_standingOn_1 rfl (lt_b rfl) rfl ?_
  refine v_iconst 0 hX dX1_standingOn_2 (by decide) ?_
  refine v_istore_n 3 [(3, .int 0), (2, .int 0), (0, .ref (ad 13)), (1, .int x1)] hX dX1_standingOn_3 rfl (lt_b rfl) rfl ?_
  exact v_sub [2, 3, 1, 0] rfl (s_X1_standingOn_4 hX fuel σ z  fuel x1 0 0 hf)
