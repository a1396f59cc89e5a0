set_option maxHeartbeats 4000000 in
set_option maxRecDepth 100000 in
theorem s_X1_whiteOn_5 {P : PT} {M : MT} {D : va_G} {cs : ClassId × ClassId × ClassId} {ad : Nat → Nat} {ts : Nat × Nat × Nat} (hX : VOk P M (xW D cs ad ts) 5 cX1_whiteOn RX1 (some .int) 1) (fuel : Nat) (σ : Mem)   (z : Int32)  : ∀ (n : Nat) (x2 : Int32) (x3 : Int32) (x4 : Int32), f_X1_whiteOn_5 fuel σ n x2 x3 x4 = some z → V P M (xW D cs ad ts) 5 (QI P M (xW D cs ad ts) z σ) 5 [(0, .ref (ad 13)), (2, .int x2), (3, .int x3), (4, .int x4)] [] σ := by
  intro n
  induction n with
  | zero =>
    intro x2 x3 x4 hf
    cases hf
  | succ n hk5 =>
    intro x2 x3 x4 hf
    rw [f_X1_whiteOn_5] at hf
    refine v_iload 3 hX dX1_whiteOn_5 rfl ?_
    refine v_aload_n 0 0 hX dX1_whiteOn_7 rfl rfl ?_
    refine v_get (C := RX1) (T := TX1) (N := 19) (ci := 1) (v := .int (σ 13 7)) 13 7 hX dX1_whiteOn_8 mw_129 rfl inlX1 rfl (lt_b rfl) (lt_b rfl) rfl rfl ?_
    refine v_icmp_ge 57 hX dX1_whiteOn_11 (by decide) (fun c => ?_) (fun c => ?_)
    · have hf := opt_t c hf
      refine v_iload_n 2 3 hX dX1_whiteOn_57 rfl rfl ?_
      obtain rfl := Option.some.inj hf
      exact v_iret (r := x3) hX dX1_whiteOn_58 rfl
    · have hf := opt_f c hf
      refine v_aload_n 0 0 hX dX1_whiteOn_14 rfl rfl ?_
      refine v_aload_n 0 0 hX dX1_whiteOn_15 rfl rfl ?_
      refine v_get (C := RX1) (T := TX1) (N := 19) (ci := 1) (v := .ref (ad 17)) 13 12 hX dX1_whiteOn_16 mw_148 rfl inlX1 rfl (lt_b rfl) (lt_b rfl) rfl rfl ?_
      refine v_iload 3 hX dX1_whiteOn_19 rfl ?_
      obtain ⟨hi1, hf⟩ := gd_some hf
      refine v_ald (v := σ 17 x4.toNatClampNeg) 17 hX dX1_whiteOn_21 (lt_b rfl) ((fun _ => rfl) _) hi1 rfl ?_
      obtain ⟨v2, hc, hf⟩ := opt_b hf
      refine v_callVi (rest := []) (As := [.int (σ 17 x4.toNatClampNeg)]) (C := RX1) (T := TX1) (N := 19) (ci := 1) 13 hX dX1_whiteOn_22 (c_X1_isDrunk σ (σ 17 x4.toNatClampNeg) hc) rfl rfl (lt_b rfl) rfl rfl rfl mw_537 mw_538 mw_59 mw_536 mw_539 gAll ds_X1_isDrunk rfl ⟨Nat.le_of_ble_eq_true rfl, Nat.le_of_ble_eq_true rfl⟩ (Nat.le_of_ble_eq_true rfl) ?_
      refine v_if_eq 51 hX dX1_whiteOn_25 (by decide) (fun c => ?_) (fun c => ?_)
      · have hf := opt_t c hf
        refine v_iinc 3 (x4 + 1) [(4, .int (x4 + 1)), (0, .ref (ad 13)), (2, .int x2), (3, .int x3)] hX dX1_whiteOn_51 rfl rfl (lt_b rfl) rfl ?_
        refine v_goto 5 hX dX1_whiteOn_54 (by decide) ?_
        exact v_sub [1, 2, 3, 0] rfl (hk5 x2 x3 (x4 + 1) hf)
      · have hf := opt_f c hf
        refine v_iload_n 1 2 hX dX1_whiteOn_28 rfl rfl ?_
        refine v_aload_n 0 0 hX dX1_whiteOn_29 rfl rfl ?_
        refine v_get (C := RX1) (T := TX1) (N := 19) (ci := 1) (v := .ref (ad 19)) 13 14 hX dX1_whiteOn_30 mw_155 rfl inlX1 rfl (lt_b rfl) (lt_b rfl) rfl rfl ?_
        refine v_iload 3 hX dX1_whiteOn_33 rfl ?_
        obtain ⟨hi3, hf⟩ := gd_some hf
        refine v_ald (v := σ 19 x4.toNatClampNeg) 19 hX dX1_whiteOn_35 (lt_b rfl) ((fun _ => rfl) _) hi3 rfl ?_
        refine v_isub hX dX1_whiteOn_36 ?_
        refine v_aload_n 0 0 hX dX1_whiteOn_37 rfl rfl ?_
        refine v_get (C := RX1) (T := TX1) (N := 19) (ci := 1) (v := .int (σ 13 2)) 13 2 hX dX1_whiteOn_38 mw_111 rfl inlX1 rfl (lt_b rfl) (lt_b rfl) rfl rfl ?_
        refine v_icmp_lt 51 hX dX1_whiteOn_41 (by decide) (fun c => ?_) (fun c => ?_)
        · have hf := opt_t c hf
          refine v_iinc 3 (x4 + 1) [(4, .int (x4 + 1)), (0, .ref (ad 13)), (2, .int x2), (3, .int x3)] hX dX1_whiteOn_51 rfl rfl (lt_b rfl) rfl ?_
          refine v_goto 5 hX dX1_whiteOn_54 (by decide) ?_
          exact v_sub [1, 2, 3, 0] rfl (hk5 x2 x3 (x4 + 1) hf)
        · have hf := opt_f c hf
          refine v_iload_n 2 3 hX dX1_whiteOn_44 rfl rfl ?_
          refine v_iconst 1 hX dX1_whiteOn_45 (by decide) ?_
          refine v_iload 3 hX dX1_whiteOn_46 rfl ?_
          refine v_ishl hX dX1_whiteOn_48 ?_
          refine v_ior hX dX1_whiteOn_49 ?_
          refine v_istore_n 3 [(3, .int (x3 ||| (1 <<< (x4 &&& 31)))), (0, .ref (ad 13)), (2, .int x2), (4, .int x4)] hX dX1_whiteOn_50 rfl (lt_b rfl) rfl ?_
          refine v_iinc 3 (x4 + 1) [(4, .int (x4 + 1)), (3, .int (x3 ||| (1 <<< (x4 &&& 31)))), (0, .ref (ad 13)), (2, .int x2)] hX dX1_whiteOn_51 rfl rfl (lt_b rfl) rfl ?_
          refine v_goto 5 hX dX1_whiteOn_54 (by decide) ?_
          exact v_sub [2, 3, 1, 0] rfl (hk5 x2 (x3 ||| (1 <<< (x4 &&& 31))) (x4 + 1) hf)
set_option maxHeartbeats 4000000 in
set_option maxRecDepth 100000 in
theorem c_X1_whiteOn {l : Launch} {D : va_G} {cs : ClassId × ClassId × ClassId} {ad : Nat → Nat} {ts : Nat × Nat × Nat} (fuel : Nat) (σ : Mem)  (x1 : Int32) (x2 : Int32) {z : Int32} (hf : f_X1_whiteOn fuel σ x1 x2 = some z) : CtI l (xW D cs ad ts) 1 yX1_whiteOn cX1_whiteOn 5 (some .int) [.ref (ad 13), .int x1, .int x2] σ z σ := by
  refine ct_I RX1 [(0, .ref (ad 13)), (1, .int x1), (2, .int x2)] (by decide +kernel) rfl rfl (Nat.le_of_ble_eq_true rfl) ?_
  intro P M hl0 hX
  unfold f_X1_whiteOn at hf
  refine v_iload_n 1 1 hX dX1_whiteOn_0 rfl rfl ?_
  refine v_istore_n 3 [(3, .int x1), (0, .ref (ad 13)), (1, .int x1), (2, .int x2)] hX dX1_whiteOn_1 rfl (lt_b rfl) rfl ?_
  refine v_iconst 0 hX dX1_whiteOn_2 (by decide) ?_
  refine v_istore [(4, .int 0), (3, .int x1), (0, .ref (ad 13)), (1, .int x1), (2, .int x2)] hX dX1_whiteOn_3 (lt_b rfl) rfl ?_
  exact v_sub [2, 4, 1, 0] rfl (s_X1_whiteOn_5 hX fuel σ z  fuel x2 x1 0 hf)
set_option maxHeartbeats 4000000 in
set_option maxRecDepth 100000 in
theorem c_X1_become_13_48 {l : Launch} {D : va_G} {cs : ClassId × ClassId × ClassId} {ad : Nat → Nat} {ts : Nat × Nat × Nat} (σ : Mem)    {z : Mem} (hf : f_X1_become_13_48 σ = some z) : CtV l (xW D cs ad ts) 1 yX1_become cX1_become 2 [.ref (ad 13), .ref (ad 48)] σ z := by
  refine ct_V RX1 [(0, .ref (ad 13)), (1, .ref (ad 48))] (by decide +kernel) rfl rfl (Nat.le_of_ble_eq_true rfl) ?_
  intro P M hl0 hX
  unfold f_X1_become_13_48 at hf
  refine v_aload_n 0 0 hX dX1_become_0 rfl rfl ?_
  refine v_aload_n 1 1 hX dX1_become_1 rfl rfl ?_
  refine v_get (C := RX1) (T := TX1) (N := 19) (ci := 1) (v := .int (σ 48 0)) 48 0 hX dX1_become_2 mw_105 rfl inlX1 rfl (lt_b rfl) (lt_b rfl) rfl rfl ?_
  obtain ⟨hg1, hf⟩ := gd_some hf
  refine v_put (C := RX1) (T := TX1) (N := 19) (ci := 1) (ty := .boolean) tyX1 13 0 hX dX1_become_5 mw_105 rfl inlX1 tyX1_ok nmX1 rfl (lt_b rfl) (lt_b rfl) rfl (tyX1_ok 0 (lt_b rfl)) (isB_n hg1) (isB_f hg1) rfl (lt_b rfl) rfl ?_
  refine v_aload_n 0 0 hX dX1_become_8 rfl rfl ?_
  refine v_aload_n 1 1 hX dX1_become_9 rfl rfl ?_
  refine v_get (C := RX1) (T := TX1) (N := 19) (ci := 1) (v := .int (σ 48 1)) 48 1 hX dX1_become_10 mw_108 rfl inlX1 rfl (lt_b rfl) (lt_b rfl) rfl rfl ?_
  refine v_put (C := RX1) (T := TX1) (N := 19) (ci := 1) (ty := .int) tyX1 13 1 hX dX1_become_13 mw_108 rfl inlX1 tyX1_ok nmX1 rfl (lt_b rfl) (lt_b rfl) rfl (tyX1_ok 1 (lt_b rfl)) rfl rfl rfl (lt_b rfl) rfl ?_
  refine v_aload_n 0 0 hX dX1_become_16 rfl rfl ?_
  refine v_aload_n 1 1 hX dX1_become_17 rfl rfl ?_
  refine v_get (C := RX1) (T := TX1) (N := 19) (ci := 1) (v := .int (σ 48 2)) 48 2 hX dX1_become_18 mw_111 rfl inlX1 rfl (lt_b rfl) (lt_b rfl) rfl rfl ?_
  refine v_put (C := RX1) (T := TX1) (N := 19) (ci := 1) (ty := .int) tyX1 13 2 hX dX1_become_21 mw_111 rfl inlX1 tyX1_ok nmX1 rfl (lt_b rfl) (lt_b rfl) rfl (tyX1_ok 2 (lt_b rfl)) rfl rfl rfl (lt_b rfl) rfl ?_
  refine v_aload_n 0 0 hX dX1_become_24 rfl rfl ?_
  refine v_aload_n 1 1 hX dX1_become_25 rfl rfl ?_
  refine v_get (C := RX1) (T := TX1) (N := 19) (ci := 1) (v := .int (σ 48 3)) 48 3 hX dX1_become_26 mw_114 rfl inlX1 rfl (lt_b rfl) (lt_b rfl) rfl rfl ?_
  refine v_put (C := RX1) (T := TX1) (N := 19) (ci := 1) (ty := .int) tyX1 13 3 hX dX1_become_29 mw_114 rfl inlX1 tyX1_ok nmX1 rfl (lt_b rfl) (lt_b rfl) rfl (tyX1_ok 3 (lt_b rfl)) rfl rfl rfl (lt_b rfl) rfl ?_
  refine v_aload_n 0 0 hX dX1_become_32 rfl rfl ?_
  refine v_aload_n 1 1 hX dX1_become_33 rfl rfl ?_
  refine v_get (C := RX1) (T := TX1) (N := 19) (ci := 1) (v := .int (σ 48 4)) 48 4 hX dX1_become_34 mw_118 rfl inlX1 rfl (lt_b rfl) (lt_b rfl) rfl rfl ?_
  refine v_put (C := RX1) (T := TX1) (N := 19) (ci := 1) (ty := .int) tyX1 13 4 hX dX1_become_37 mw_118 rfl inlX1 tyX1_ok nmX1 rfl (lt_b rfl) (lt_b rfl) rfl (tyX1_ok 4 (lt_b rfl)) rfl rfl rfl (lt_b rfl) rfl ?_
  refine v_aload_n 0 0 hX dX1_become_40 rfl rfl ?_
  refine v_aload_n 1 1 hX dX1_become_41 rfl rfl ?_
  refine v_get (C := RX1) (T := TX1) (N := 19) (ci := 1) (v := .int (σ 48 5)) 48 5 hX dX1_become_42 mw_122 rfl inlX1 rfl (lt_b rfl) (lt_b rfl) rfl rfl ?_
  refine v_put (C := RX1) (T := TX1) (N := 19) (ci := 1) (ty := .int) tyX1 13 5 hX dX1_become_45 mw_122 rfl inlX1 tyX1_ok nmX1 rfl (lt_b rfl) (lt_b rfl) rfl (tyX1_ok 5 (lt_b rfl)) rfl rfl rfl (lt_b rfl) rfl ?_
  refine v_aload_n 0 0 hX dX1_become_48 rfl rfl ?_
  refine v_aload_n 1 1 hX dX1_become_49 rfl rfl ?_
  refine v_get (C := RX1) (T := TX1) (N := 19) (ci := 1) (v := .int (σ 48 6)) 48 6 hX dX1_become_50 mw_125 rfl inlX1 rfl (lt_b rfl) (lt_b rfl) rfl rfl ?_
  refine v_put (C := RX1) (T := TX1) (N := 19) (ci := 1) (ty := .int) tyX1 13 6 hX dX1_become_53 mw_125 rfl inlX1 tyX1_ok nmX1 rfl (lt_b rfl) (lt_b rfl) rfl (tyX1_ok 6 (lt_b rfl)) rfl rfl rfl (lt_b rfl) rfl ?_
  refine v_aload_n 0 0 hX dX1_become_56 rfl rfl ?_
  refine v_aload_n 1 1 hX dX1_become_57 rfl rfl ?_
  refine v_get (C := RX1) (T := TX1) (N := 19) (ci := 1) (v := .int (σ 48 7)) 48 7 hX dX1_become_58 mw_129 rfl inlX1 rfl (lt_b rfl) (lt_b rfl) rfl rfl ?_
  refine v_put (C := RX1) (T := TX1) (N := 19) (ci := 1) (ty := .int) tyX1 13 7 hX dX1_become_61 mw_129 rfl inlX1 tyX1_ok nmX1 rfl (lt_b rfl) (lt_b rfl) rfl (tyX1_ok 7 (lt_b rfl)) rfl rfl rfl (lt_b rfl) rfl ?_
  refine v_aload_n 0 0 hX dX1_become_64 rfl rfl ?_
  refine v_aload_n 1 1 hX dX1_become_65 rfl rfl ?_
  refine v_get (C := RX1) (T := TX1) (N := 19) (ci := 1) (v := .int (σ 48 8)) 48 8 hX dX1_become_66 mw_134 rfl inlX1 rfl (lt_b rfl) (lt_b rfl) rfl rfl ?_
  refine v_put (C := RX1) (T := TX1) (N := 19) (ci := 1) (ty := .int) tyX1 13 8 hX dX1_become_69 mw_134 rfl inlX1 tyX1_ok nmX1 rfl (lt_b rfl) (lt_b rfl) rfl (tyX1_ok 8 (lt_b rfl)) rfl rfl rfl (lt_b rfl) rfl ?_
  refine v_aload_n 1 1 hX dX1_become_72 rfl rfl ?_
  refine v_get (C := RX1) (T := TX1) (N := 19) (ci := 1) (v := .ref (ad 49)) 48 9 hX dX1_become_73 mw_138 rfl inlX1 rfl (lt_b rfl) (lt_b rfl) rfl rfl ?_
  refine v_iconst 0 hX dX1_become_76 (by decide) ?_
  refine v_aload_n 0 0 hX dX1_become_77 rfl rfl ?_
  refine v_get (C := RX1) (T := TX1) (N := 19) (ci := 1) (v := .ref (ad 14)) 13 9 hX dX1_become_78 mw_138 rfl inlX1 rfl (lt_b rfl) (lt_b rfl) rfl rfl ?_
  refine v_iconst 0 hX dX1_become_81 (by decide) ?_
  refine v_iconst 4 hX dX1_become_82 (by decide) ?_
  obtain ⟨hc2, hf⟩ := gd_some hf
  refine v_cpy (rest := []) 49 14 hX dX1_become_83 mw_460 mw_362 mw_361 mw_66 (lt_b rfl) (lt_b rfl) (fun _ => rfl) (fun _ => rfl) hc2 (Nat.le_of_ble_eq_true rfl) (Nat.le_of_ble_eq_true rfl) ?_
  refine v_aload_n 1 1 hX dX1_become_86 rfl rfl ?_
  refine v_get (C := RX1) (T := TX1) (N := 19) (ci := 1) (v := .ref (ad 50)) 48 10 hX dX1_become_87 mw_141 rfl inlX1 rfl (lt_b rfl) (lt_b rfl) rfl rfl ?_
  refine v_iconst 0 hX dX1_become_90 (by decide) ?_
  refine v_aload_n 0 0 hX dX1_become_91 rfl rfl ?_
  refine v_get (C := RX1) (T := TX1) (N := 19) (ci := 1) (v := .ref (ad 15)) 13 10 hX dX1_become_92 mw_141 rfl inlX1 rfl (lt_b rfl) (lt_b rfl) rfl rfl ?_
  refine v_iconst 0 hX dX1_become_95 (by decide) ?_
  refine v_iconst 4 hX dX1_become_96 (by decide) ?_
  obtain ⟨hc3, hf⟩ := gd_some hf
  refine v_cpy (rest := []) 50 15 hX dX1_become_97 mw_460 mw_362 mw_361 mw_66 (lt_b rfl) (lt_b rfl) (fun _ => rfl) (fun _ => rfl) hc3 (Nat.le_of_ble_eq_true rfl) (Nat.le_of_ble_eq_true rfl) ?_
  refine v_aload_n 1 1 hX dX1_become_100 rfl rfl ?_
  refine v_get (C := RX1) (T := TX1) (N := 19) (ci := 1) (v := .ref (ad 51)) 48 11 hX dX1_become_101 mw_146 rfl inlX1 rfl (lt_b rfl) (lt_b rfl) rfl rfl ?_
  refine v_iconst 0 hX dX1_become_104 (by decide) ?_
  refine v_aload_n 0 0 hX dX1_become_105 rfl rfl ?_
  refine v_get (C := RX1) (T := TX1) (N := 19) (ci := 1) (v := .ref (ad 16)) 13 11 hX dX1_become_106 mw_146 rfl inlX1 rfl (lt_b rfl) (lt_b rfl) rfl rfl ?_
  refine v_iconst 0 hX dX1_become_109 (by decide) ?_
  refine v_bipush 10 hX dX1_become_110 (by decide) ?_
  obtain ⟨hc4, hf⟩ := gd_some hf
  refine v_cpy (rest := []) 51 16 hX dX1_become_112 mw_460 mw_362 mw_361 mw_66 (lt_b rfl) (lt_b rfl) (fun _ => rfl) (fun _ => rfl) hc4 (Nat.le_of_ble_eq_true rfl) (Nat.le_of_ble_eq_true rfl) ?_
  refine v_aload_n 1 1 hX dX1_become_115 rfl rfl ?_
  refine v_get (C := RX1) (T := TX1) (N := 19) (ci := 1) (v := .ref (ad 52)) 48 12 hX dX1_become_116 mw_148 rfl inlX1 rfl (lt_b rfl) (lt_b rfl) rfl rfl ?_
  refine v_iconst 0 hX dX1_become_119 (by decide) ?_
  refine v_aload_n 0 0 hX dX1_become_120 rfl rfl ?_
  refine v_get (C := RX1) (T := TX1) (N := 19) (ci := 1) (v := .ref (ad 17)) 13 12 hX dX1_become_121 mw_148 rfl inlX1 rfl (lt_b rfl) (lt_b rfl) rfl rfl ?_
  refine v_iconst 0 hX dX1_become_124 (by decide) ?_
  refine v_bipush 10 hX dX1_become_125 (by decide) ?_
  obtain ⟨hc5, hf⟩ := gd_some hf
  refine v_cpy (rest := []) 52 17 hX dX1_become_127 mw_460 mw_362 mw_361 mw_66 (lt_b rfl) (lt_b rfl) (fun _ => rfl) (fun _ => rfl) hc5 (Nat.le_of_ble_eq_true rfl) (Nat.le_of_ble_eq_true rfl) ?_
  refine v_aload_n 1 1 hX dX1_become_130 rfl rfl ?_
  refine v_get (C := RX1) (T := TX1) (N := 19) (ci := 1) (v := .ref (ad 53)) 48 13 hX dX1_become_131 mw_152 rfl inlX1 rfl (lt_b rfl) (lt_b rfl) rfl rfl ?_
  refine v_iconst 0 hX dX1_become_134 (by decide) ?_
  refine v_aload_n 0 0 hX dX1_become_135 rfl rfl ?_
  refine v_get (C := RX1) (T := TX1) (N := 19) (ci := 1) (v := .ref (ad 18)) 13 13 hX dX1_become_136 mw_152 rfl inlX1 rfl (lt_b rfl) (lt_b rfl) rfl rfl ?_
  refine v_iconst 0 hX dX1_become_139 (by decide) ?_
  refine v_bipush 10 hX dX1_become_140 (by decide) ?_
  obtain ⟨hc6, hf⟩ := gd_some hf
  refine v_cpy (rest := []) 53 18 hX dX1_become_142 mw_460 mw_362 mw_361 mw_66 (lt_b rfl) (lt_b rfl) (fun _ => rfl) (fun _ => rfl) hc6 (Nat.le_of_ble_eq_true rfl) (Nat.le_of_ble_eq_true rfl) ?_
  refine v_aload_n 1 1 hX dX1_become_145 rfl rfl ?_
  refine v_get (C := RX1) (T := TX1) (N := 19) (ci := 1) (v := .ref (ad 54)) 48 14 hX dX1_become_146 mw_155 rfl inlX1 rfl (lt_b rfl) (lt_b rfl) rfl rfl ?_
  refine v_iconst 0 hX dX1_become_149 (by decide) ?_
  refine v_aload_n 0 0 hX dX1_become_150 rfl rfl ?_
  refine v_get (C := RX1) (T := TX1) (N := 19) (ci := 1) (v := .ref (ad 19)) 13 14 hX dX1_become_151 mw_155 rfl inlX1 rfl (lt_b rfl) (lt_b rfl) rfl rfl ?_
  refine v_iconst 0 hX dX1_become_154 (by decide) ?_
  refine v_bipush 10 hX dX1_become_155 (by decide) ?_
  obtain ⟨hc7, hf⟩ := gd_some hf
  refine v_cpy (rest := []) 54 19 hX dX1_become_157 mw_460 mw_362 mw_361 mw_66 (lt_b rfl) (lt_b rfl) (fun _ => rfl) (fun _ => rfl) hc7 (Nat.le_of_ble_eq_true rfl) (Nat.le_of_ble_eq_true rfl) ?_
  refine v_aload_n 1 1 hX dX1_become_160 rfl rfl ?_
  refine v_get (C := RX1) (T := TX1) (N := 19) (ci := 1) (v := .ref (ad 55)) 48 15 hX dX1_become_161 mw_158 rfl inlX1 rfl (lt_b rfl) (lt_b rfl) rfl rfl ?_
  refine v_iconst 0 hX dX1_become_164 (by decide) ?_
  refine v_aload_n 0 0 hX dX1_become_165 rfl rfl ?_
  refine v_get (C := RX1) (T := TX1) (N := 19) (ci := 1) (v := .ref (ad 20)) 13 15 hX dX1_become_166 mw_158 rfl inlX1 rfl (lt_b rfl) (lt_b rfl) rfl rfl ?_
  refine v_iconst 0 hX dX1_become_169 (by decide) ?_
  refine v_iconst 5 hX dX1_become_170 (by decide) ?_
  obtain ⟨hc8, hf⟩ := gd_some hf
  refine v_cpy (rest := []) 55 20 hX dX1_become_171 mw_460 mw_362 mw_361 mw_66 (lt_b rfl) (lt_b rfl) (fun _ => rfl) (fun _ => rfl) hc8 (Nat.le_of_ble_eq_true rfl) (Nat.le_of_ble_eq_true rfl) ?_
  refine v_aload_n 1 1 hX dX1_become_174 rfl rfl ?_
  refine v_get (C := RX1) (T := TX1) (N := 19) (ci := 1) (v := .ref (ad 56)) 48 16 hX dX1_become_175 mw_160 rfl inlX1 rfl (lt_b rfl) (lt_b rfl) rfl rfl ?_
  refine v_iconst 0 hX dX1_become_178 (by decide) ?_
  refine v_aload_n 0 0 hX dX1_become_179 rfl rfl ?_
  refine v_get (C := RX1) (T := TX1) (N := 19) (ci := 1) (v := .ref (ad 21)) 13 16 hX dX1_become_180 mw_160 rfl inlX1 rfl (lt_b rfl) (lt_b rfl) rfl rfl ?_
  refine v_iconst 0 hX dX1_become_183 (by decide) ?_
  refine v_iconst 5 hX dX1_become_184 (by decide) ?_
  obtain ⟨hc9, hf⟩ := gd_some hf
  refine v_cpy (rest := []) 56 21 hX dX1_become_185 mw_460 mw_362 mw_361 mw_66 (lt_b rfl) (lt_b rfl) (fun _ => rfl) (fun _ => rfl) hc9 (Nat.le_of_ble_eq_true rfl) (Nat.le_of_ble_eq_true rfl) ?_
  refine v_aload_n 1 1 hX dX1_become_188 rfl rfl ?_
  refine v_get (C := RX1) (T := TX1) (N := 19) (ci := 1) (v := .ref (ad 57)) 48 17 hX dX1_become_189 mw_162 rfl inlX1 rfl (lt_b rfl) (lt_b rfl) rfl rfl ?_
  refine v_iconst 0 hX dX1_become_192 (by decide) ?_
  refine v_aload_n 0 0 hX dX1_become_193 rfl rfl ?_
  refine v_get (C := RX1) (T := TX1) (N := 19) (ci := 1) (v := .ref (ad 22)) 13 17 hX dX1_become_194 mw_162 rfl inlX1 rfl (lt_b rfl) (lt_b rfl) rfl rfl ?_
  refine v_iconst 0 hX dX1_become_197 (by decide) ?_
  refine v_iconst 5 hX dX1_become_198 (by decide) ?_
  obtain ⟨hc10, hf⟩ := gd_some hf
  refine v_cpy (rest := []) 57 22 hX dX1_become_199 mw_460 mw_362 mw_361 mw_66 (lt_b rfl) (lt_b rfl) (fun _ => rfl) (fun _ => rfl) hc10 (Nat.le_of_ble_eq_true rfl) (Nat.le_of_ble_eq_true rfl) ?_
  refine v_aload_n 1 1 hX dX1_become_202 rfl rfl ?_
  refine v_get (C := RX1) (T := TX1) (N := 19) (ci := 1) (v := .ref (ad 58)) 48 18 hX dX1_become_203 mw_164 rfl inlX1 rfl (lt_b rfl) (lt_b rfl) rfl rfl ?_
  refine v_iconst 0 hX dX1_become_206 (by decide) ?_
  refine v_aload_n 0 0 hX dX1_become_207 rfl rfl ?_
  refine v_get (C := RX1) (T := TX1) (N := 19) (ci := 1) (v := .ref (ad 23)) 13 18 hX dX1_become_208 mw_164 rfl inlX1 rfl (lt_b rfl) (lt_b rfl) rfl rfl ?_
  refine v_iconst 0 hX dX1_become_211 (by decide) ?_
  refine v_iconst 5 hX dX1_become_212 (by decide) ?_
  obtain ⟨hc11, hf⟩ := gd_some hf
  refine v_cpy (rest := []) 58 23 hX dX1_become_213 mw_460 mw_362 mw_361 mw_66 (lt_b rfl) (lt_b rfl) (fun _ => rfl) (fun _ => rfl) hc11 (Nat.le_of_ble_eq_true rfl) (Nat.le_of_ble_eq_true rfl) ?_
  obtain rfl := Option.some.inj hf
  exact v_vret hX dX1_become_216
set_option maxHeartbeats 4000000 in
set_option maxRecDepth 100000 in
theorem c_X1_become_24_13 {l : Launch} {D : va_G} {cs : ClassId × ClassId × ClassId} {ad : Nat → Nat} {ts : Nat × Nat × Nat} (σ : Mem)    {z : Mem} (hf : f_X1_become_24_13 σ = some z) : CtV l (xW D cs ad ts) 1 yX1_become cX1_become 2 [.ref (ad 24), .ref (ad 13)] σ z := by
  refine ct_V RX1 [(0, .ref (ad 24)), (1, .ref (ad 13))] (by decide +kernel) rfl rfl (Nat.le_of_ble_eq_true rfl) ?_
  intro P M hl0 hX
  unfold f_X1_become_24_13 at hf
  refine v_aload_n 0 0 hX dX1_become_0 rfl rfl ?_
  refine v_aload_n 1 1 hX dX1_become_1 rfl rfl ?_
  refine v_get (C := RX1) (T := TX1) (N := 19) (ci := 1) (v := .int (σ 13 0)) 13 0 hX dX1_become_2 mw_105 rfl inlX1 rfl (lt_b rfl) (lt_b rfl) rfl rfl ?_
  obtain ⟨hg1, hf⟩ := gd_some hf
  refine v_put (C := RX1) (T := TX1) (N := 19) (ci := 1) (ty := .boolean) tyX1 24 0 hX dX1_become_5 mw_105 rfl inlX1 tyX1_ok nmX1 rfl (lt_b rfl) (lt_b rfl) rfl (tyX1_ok 0 (lt_b rfl)) (isB_n hg1) (isB_f hg1) rfl (lt_b rfl) rfl ?_
  refine v_aload_n 0 0 hX dX1_become_8 rfl rfl ?_
  refine v_aload_n 1 1 hX dX1_become_9 rfl rfl ?_
  refine v_get (C := RX1) (T := TX1) (N := 19) (ci := 1) (v := .int (σ 13 1)) 13 1 hX dX1_become_10 mw_108 rfl inlX1 rfl (lt_b rfl) (lt_b rfl) rfl rfl ?_
  refine v_put (C := RX1) (T := TX1) (N := 19) (ci := 1) (ty := .int) tyX1 24 1 hX dX1_become_13 mw_108 rfl inlX1 tyX1_ok nmX1 rfl (lt_b rfl) (lt_b rfl) rfl (tyX1_ok 1 (lt_b rfl)) rfl rfl rfl (lt_b rfl) rfl ?_
  refine v_aload_n 0 0 hX dX1_become_16 rfl rfl ?_
  refine v_aload_n 1 1 hX dX1_become_17 rfl rfl ?_
  refine v_get (C := RX1) (T := TX1) (N := 19) (ci := 1) (v := .int (σ 13 2)) 13 2 hX dX1_become_18 mw_111 rfl inlX1 rfl (lt_b rfl) (lt_b rfl) rfl rfl ?_
  refine v_put (C := RX1) (T := TX1) (N := 19) (ci := 1) (ty := .int) tyX1 24 2 hX dX1_become_21 mw_111 rfl inlX1 tyX1_ok nmX1 rfl (lt_b rfl) (lt_b rfl) rfl (tyX1_ok 2 (lt_b rfl)) rfl rfl rfl (lt_b rfl) rfl ?_
  refine v_aload_n 0 0 hX dX1_become_24 rfl rfl ?_
  refine v_aload_n 1 1 hX dX1_become_25 rfl rfl ?_
  refine v_get (C := RX1) (T := TX1) (N := 19) (ci := 1) (v := .int (σ 13 3)) 13 3 hX dX1_become_26 mw_114 rfl inlX1 rfl (lt_b rfl) (lt_b rfl) rfl rfl ?_
  refine v_put (C := RX1) (T := TX1) (N := 19) (ci := 1) (ty := .int) tyX1 24 3 hX dX1_become_29 mw_114 rfl inlX1 tyX1_ok nmX1 rfl (lt_b rfl) (lt_b rfl) rfl (tyX1_ok 3 (lt_b rfl)) rfl rfl rfl (lt_b rfl) rfl ?_
  refine v_aload_n 0 0 hX dX1_become_32 rfl rfl ?_
  refine v_aload_n 1 1 hX dX1_become_33 rfl rfl ?_
  refine v_get (C := RX1) (T := TX1) (N := 19) (ci := 1) (v := .int (σ 13 4)) 13 4 hX dX1_become_34 mw_118 rfl inlX1 rfl (lt_b rfl) (lt_b rfl) rfl rfl ?_
  refine v_put (C := RX1) (T := TX1) (N := 19) (ci := 1) (ty := .int) tyX1 24 4 hX dX1_become_37 mw_118 rfl inlX1 tyX1_ok nmX1 rfl (lt_b rfl) (lt_b rfl) rfl (tyX1_ok 4 (lt_b rfl)) rfl rfl rfl (lt_b rfl) rfl ?_
  refine v_aload_n 0 0 hX dX1_become_40 rfl rfl ?_
  refine v_aload_n 1 1 hX dX1_become_41 rfl rfl ?_
  refine v_get (C := RX1) (T := TX1) (N := 19) (ci := 1) (v := .int (σ 13 5)) 13 5 hX dX1_become_42 mw_122 rfl inlX1 rfl (lt_b rfl) (lt_b rfl) rfl rfl ?_
  refine v_put (C := RX1) (T := TX1) (N := 19) (ci := 1) (ty := .int) tyX1 24 5 hX dX1_become_45 mw_122 rfl inlX1 tyX1_ok nmX1 rfl (lt_b rfl) (lt_b rfl) rfl (tyX1_ok 5 (lt_b rfl)) rfl rfl rfl (lt_b rfl) rfl ?_
  refine v_aload_n 0 0 hX dX1_become_48 rfl rfl ?_
  refine v_aload_n 1 1 hX dX1_become_49 rfl rfl ?_
  refine v_get (C := RX1) (T := TX1) (N := 19) (ci := 1) (v := .int (σ 13 6)) 13 6 hX dX1_become_50 mw_125 rfl inlX1 rfl (lt_b rfl) (lt_b rfl) rfl rfl ?_
  refine v_put (C := RX1) (T := TX1) (N := 19) (ci := 1) (ty := .int) tyX1 24 6 hX dX1_become_53 mw_125 rfl inlX1 tyX1_ok nmX1 rfl (lt_b rfl) (lt_b rfl) rfl (tyX1_ok 6 (lt_b rfl)) rfl rfl rfl (lt_b rfl) rfl ?_
  refine v_aload_n 0 0 hX dX1_become_56 rfl rfl ?_
  refine v_aload_n 1 1 hX dX1_become_57 rfl rfl ?_
  refine v_get (C := RX1) (T := TX1) (N := 19) (ci := 1) (v := .int (σ 13 7)) 13 7 hX dX1_become_58 mw_129 rfl inlX1 rfl (lt_b rfl) (lt_b rfl) rfl rfl ?_
  refine v_put (C := RX1) (T := TX1) (N := 19) (ci := 1) (ty := .int) tyX1 24 7 hX dX1_become_61 mw_129 rfl inlX1 tyX1_ok nmX1 rfl (lt_b rfl) (lt_b rfl) rfl (tyX1_ok 7 (lt_b rfl)) rfl rfl rfl (lt_b rfl) rfl ?_
  refine v_aload_n 0 0 hX dX1_become_64 rfl rfl ?_
  refine v_aload_n 1 1 hX dX1_become_65 rfl rfl ?_
  refine v_get (C := RX1) (T := TX1) (N := 19) (ci := 1) (v := .int (σ 13 8)) 13 8 hX dX1_become_66 mw_134 rfl inlX1 rfl (lt_b rfl) (lt_b rfl) rfl rfl ?_
  refine v_put (C := RX1) (T := TX1) (N := 19) (ci := 1) (ty := .int) tyX1 24 8 hX dX1_become_69 mw_134 rfl inlX1 tyX1_ok nmX1 rfl (lt_b rfl) (lt_b rfl) rfl (tyX1_ok 8 (lt_b rfl)) rfl rfl rfl (lt_b rfl) rfl ?_
  refine v_aload_n 1 1 hX dX1_become_72 rfl rfl ?_
  refine v_get (C := RX1) (T := TX1) (N := 19) (ci := 1) (v := .ref (ad 14)) 13 9 hX dX1_become_73 mw_138 rfl inlX1 rfl (lt_b rfl) (lt_b rfl) rfl rfl ?_
  refine v_iconst 0 hX dX1_become_76 (by decide) ?_
  refine v_aload_n 0 0 hX dX1_become_77 rfl rfl ?_
  refine v_get (C := RX1) (T := TX1) (N := 19) (ci := 1) (v := .ref (ad 25)) 24 9 hX dX1_become_78 mw_138 rfl inlX1 rfl (lt_b rfl) (lt_b rfl) rfl rfl ?_
  refine v_iconst 0 hX dX1_become_81 (by decide) ?_
  refine v_iconst 4 hX dX1_become_82 (by decide) ?_
  obtain ⟨hc2, hf⟩ := gd_some hf
  refine v_cpy (rest := []) 14 25 hX dX1_become_83 mw_460 mw_362 mw_361 mw_66 (lt_b rfl) (lt_b rfl) (fun _ => rfl) (fun _ => rfl) hc2 (Nat.le_of_ble_eq_true rfl) (Nat.le_of_ble_eq_true rfl) ?_
  refine v_aload_n 1 1 hX dX1_become_86 rfl rfl ?_
  refine v_get (C := RX1) (T := TX1) (N := 19) (ci := 1) (v := .ref (ad 15)) 13 10 hX dX1_become_87 mw_141 rfl inlX1 rfl (lt_b rfl) (lt_b rfl) rfl rfl ?_
  refine v_iconst 0 hX dX1_become_90 (by decide) ?_
  refine v_aload_n 0 0 hX dX1_become_91 rfl rfl ?_
  refine v_get (C := RX1) (T := TX1) (N := 19) (ci := 1) (v := .ref (ad 26)) 24 10 hX dX1_become_92 mw_141 rfl inlX1 rfl (lt_b rfl) (lt_b rfl) rfl rfl ?_
  refine v_iconst 0 hX dX1_become_95 (by decide) ?_
  refine v_iconst 4 hX dX1_become_96 (by decide) ?_
  obtain ⟨hc3, hf⟩ := gd_some hf
  refine v_cpy (rest := []) 15 26 hX dX1_become_97 mw_460 mw_362 mw_361 mw_66 (lt_b rfl) (lt_b rfl) (fun _ => rfl) (fun _ => rfl) hc3 (Nat.le_of_ble_eq_true rfl) (Nat.le_of_ble_eq_true rfl) ?_
  refine v_aload_n 1 1 hX dX1_become_100 rfl rfl ?_
  refine v_get (C := RX1) (T := TX1) (N := 19) (ci := 1) (v := .ref (ad 16)) 13 11 hX dX1_become_101 mw_146 rfl inlX1 rfl (lt_b rfl) (lt_b rfl) rfl rfl ?_
  refine v_iconst 0 hX dX1_become_104 (by decide) ?_
  refine v_aload_n 0 0 hX dX1_become_105 rfl rfl ?_
  refine v_get (C := RX1) (T := TX1) (N := 19) (ci := 1) (v := .ref (ad 27)) 24 11 hX dX1_become_106 mw_146 rfl inlX1 rfl (lt_b rfl) (lt_b rfl) rfl rfl ?_
  refine v_iconst 0 hX dX1_become_109 (by decide) ?_
  refine v_bipush 10 hX dX1_become_110 (by decide) ?_
  obtain ⟨hc4, hf⟩ := gd_some hf
  refine v_cpy (rest := []) 16 27 hX dX1_become_112 mw_460 mw_362 mw_361 mw_66 (lt_b rfl) (lt_b rfl) (fun _ => rfl) (fun _ => rfl) hc4 (Nat.le_of_ble_eq_true rfl) (Nat.le_of_ble_eq_true rfl) ?_
  refine v_aload_n 1 1 hX dX1_become_115 rfl rfl ?_
  refine v_get (C := RX1) (T := TX1) (N := 19) (ci := 1) (v := .ref (ad 17)) 13 12 hX dX1_become_116 mw_148 rfl inlX1 rfl (lt_b rfl) (lt_b rfl) rfl rfl ?_
  refine v_iconst 0 hX dX1_become_119 (by decide) ?_
  refine v_aload_n 0 0 hX dX1_become_120 rfl rfl ?_
  refine v_get (C := RX1) (T := TX1) (N := 19) (ci := 1) (v := .ref (ad 28)) 24 12 hX dX1_become_121 mw_148 rfl inlX1 rfl (lt_b rfl) (lt_b rfl) rfl rfl ?_
  refine v_iconst 0 hX dX1_become_124 (by decide) ?_
  refine v_bipush 10 hX dX1_become_125 (by decide) ?_
  obtain ⟨hc5, hf⟩ := gd_some hf
  refine v_cpy (rest := []) 17 28 hX dX1_become_127 mw_460 mw_362 mw_361 mw_66 (lt_b rfl) (lt_b rfl) (fun _ => rfl) (fun _ => rfl) hc5 (Nat.le_of_ble_eq_true rfl) (Nat.le_of_ble_eq_true rfl) ?_
  refine v_aload_n 1 1 hX dX1_become_130 rfl rfl ?_
  refine v_get (C := RX1) (T := TX1) (N := 19) (ci := 1) (v := .ref (ad 18)) 13 13 hX dX1_become_131 mw_152 rfl inlX1 rfl (lt_b rfl) (lt_b rfl) rfl rfl ?_
  refine v_iconst 0 hX dX1_become_134 (by decide) ?_
  refine v_aload_n 0 0 hX dX1_become_135 rfl rfl ?_
  refine v_get (C := RX1) (T := TX1) (N := 19) (ci := 1) (v := .ref (ad 29)) 24 13 hX dX1_become_136 mw_152 rfl inlX1 rfl (lt_b rfl) (lt_b rfl) rfl rfl ?_
  refine v_iconst 0 hX dX1_become_139 (by decide) ?_
  refine v_bipush 10 hX dX1_become_140 (by decide) ?_
  obtain ⟨hc6, hf⟩ := gd_some hf
  refine v_cpy (rest := []) 18 29 hX dX1_become_142 mw_460 mw_362 mw_361 mw_66 (lt_b rfl) (lt_b rfl) (fun _ => rfl) (fun _ => rfl) hc6 (Nat.le_of_ble_eq_true rfl) (Nat.le_of_ble_eq_true rfl) ?_
  refine v_aload_n 1 1 hX dX1_become_145 rfl rfl ?_
  refine v_get (C := RX1) (T := TX1) (N := 19) (ci := 1) (v := .ref (ad 19)) 13 14 hX dX1_become_146 mw_155 rfl inlX1 rfl (lt_b rfl) (lt_b rfl) rfl rfl ?_
  refine v_iconst 0 hX dX1_become_149 (by decide) ?_
  refine v_aload_n 0 0 hX dX1_become_150 rfl rfl ?_
  refine v_get (C := RX1) (T := TX1) (N := 19) (ci := 1) (v := .ref (ad 30)) 24 14 hX dX1_become_151 mw_155 rfl inlX1 rfl (lt_b rfl) (lt_b rfl) rfl rfl ?_
  refine v_iconst 0 hX dX1_become_154 (by decide) ?_
  refine v_bipush 10 hX dX1_become_155 (by decide) ?_
  obtain ⟨hc7, hf⟩ := gd_some hf
  refine v_cpy (rest := []) 19 30 hX dX1_become_157 mw_460 mw_362 mw_361 mw_66 (lt_b rfl) (lt_b rfl) (fun _ => rfl) (fun _ => rfl) hc7 (Nat.le_of_ble_eq_true rfl) (Nat.le_of_ble_eq_true rfl) ?_
  refine v_aload_n 1 1 hX dX1_become_160 rfl rfl ?_
  refine v_get (C := RX1) (T := TX1) (N := 19) (ci := 1) (v := .ref (ad 20)) 13 15 hX dX1_become_161 mw_158 rfl inlX1 rfl (lt_b rfl) (lt_b rfl) rfl rfl ?_
  refine v_iconst 0 hX dX1_become_164 (by decide) ?_
  refine v_aload_n 0 0 hX dX1_become_165 rfl rfl ?_
  refine v_get (C := RX1) (T := TX1) (N := 19) (ci := 1) (v := .ref (ad 31)) 24 15 hX dX1_become_166 mw_158 rfl inlX1 rfl (lt_b rfl) (lt_b rfl) rfl rfl ?_
  refine v_iconst 0 hX dX1_become_169 (by decide) ?_
  refine v_iconst 5 hX dX1_become_170 (by decide) ?_
  obtain ⟨hc8, hf⟩ := gd_some hf
  refine v_cpy (rest := []) 20 31 hX dX1_become_171 mw_460 mw_362 mw_361 mw_66 (lt_b rfl) (lt_b rfl) (fun _ => rfl) (fun _ => rfl) hc8 (Nat.le_of_ble_eq_true rfl) (Nat.le_of_ble_eq_true rfl) ?_
  refine v_aload_n 1 1 hX dX1_become_174 rfl rfl ?_
  refine v_get (C := RX1) (T := TX1) (N := 19) (ci := 1) (v := .ref (ad 21)) 13 16 hX dX1_become_175 mw_160 rfl inlX1 rfl (lt_b rfl) (lt_b rfl) rfl rfl ?_
  refine v_iconst 0 hX dX1_become_178 (by decide) ?_
  refine v_aload_n 0 0 hX dX1_become_179 rfl rfl ?_
  refine v_get (C := RX1) (T := TX1) (N := 19) (ci := 1) (v := .ref (ad 32)) 24 16 hX dX1_become_180 mw_160 rfl inlX1 rfl (lt_b rfl) (lt_b rfl) rfl rfl ?_
  refine v_iconst 0 hX dX1_become_183 (by decide) ?_
  refine v_iconst 5 hX dX1_become_184 (by decide) ?_
  obtain ⟨hc9, hf⟩ := gd_some hf
  refine v_cpy (rest := []) 21 32 hX dX1_become_185 mw_460 mw_362 mw_361 mw_66 (lt_b rfl) (lt_b rfl) (fun _ => rfl) (fun _ => rfl) hc9 (Nat.le_of_ble_eq_true rfl) (Nat.le_of_ble_eq_true rfl) ?_
  refine v_aload_n 1 1 hX dX1_become_188 rfl rfl ?_
  refine v_get (C := RX1) (T := TX1) (N := 19) (ci := 1) (v := .ref (ad 22)) 13 17 hX dX1_become_189 mw_162 rfl inlX1 rfl (lt_b rfl) (lt_b rfl) rfl rfl ?_
  refine v_iconst 0 hX dX1_become_192 (by decide) ?_
  refine v_aload_n 0 0 hX dX1_become_193 rfl rfl ?_
  refine v_get (C := RX1) (T := TX1) (N := 19) (ci := 1) (v := .ref (ad 33)) 24 17 hX dX1_become_194 mw_162 rfl inlX1 rfl (lt_b rfl) (lt_b rfl) rfl rfl ?_
  refine v_iconst 0 hX dX1_become_197 (by decide) ?_
  refine v_iconst 5 hX dX1_become_198 (by decide) ?_
  obtain ⟨hc10, hf⟩ := gd_some hf
  refine v_cpy (rest := []) 22 33 hX dX1_become_199 mw_460 mw_362 mw_361 mw_66 (lt_b rfl) (lt_b rfl) (fun _ => rfl) (fun _ => rfl) hc10 (Nat.le_of_ble_eq_true rfl) (Nat.le_of_ble_eq_true rfl) ?_
  refine v_aload_n 1 1 hX dX1_become_202 rfl rfl ?_
  refine v_get (C := RX1) (T := TX1) (N := 19) (ci := 1) (v := .ref (ad 23)) 13 18 hX dX1_become_203 mw_164 rfl inlX1 rfl (lt_b rfl) (lt_b rfl) rfl rfl ?_
  refine v_iconst 0 hX dX1_become_206 (by decide) ?_
  refine v_aload_n 0 0 hX dX1_become_207 rfl rfl ?_
  refine v_get (C := RX1) (T := TX1) (N := 19) (ci := 1) (v := .ref (ad 34)) 24 18 hX dX1_become_208 mw_164 rfl inlX1 rfl (lt_b rfl) (lt_b rfl) rfl rfl ?_
  refine v_iconst 0 hX dX1_become_211 (by decide) ?_
  refine v_iconst 5 hX dX1_become_212 (by decide) ?_
  obtain ⟨hc11, hf⟩ := gd_some hf
  refine v_cpy (rest := []) 23 34 hX dX1_become_213 mw_460 mw_362 mw_361 mw_66 (lt_b rfl) (lt_b rfl) (fun _ => rfl) (fun _ => rfl) hc11 (Nat.le_of_ble_eq_true rfl) (Nat.le_of_ble_eq_true rfl) ?_
  obtain rfl := Option.some.inj hf
  exact v_vret hX dX1_become_216
set_option maxHeartbeats 4000000 in
set_option maxRecDepth 100000 in
theorem c_X1_become_35_13 {l : Launch} {D : va_G} {cs : ClassId × ClassId × ClassId} {ad : Nat → Nat} {ts : Nat × Nat × Nat} (σ : Mem)    {z : Mem} (hf : f_X1_become_35_13 σ = some z) : CtV l (xW D cs ad ts) 1 yX1_become cX1_become 2 [.ref (ad 35), .ref (ad 13)] σ z := by
  refine ct_V RX1 [(0, .ref (ad 35)), (1, .ref (ad 13))] (by decide +kernel) rfl rfl (Nat.le_of_ble_eq_true rfl) ?_
  intro P M hl0 hX
  unfold f_X1_become_35_13 at hf
  refine v_aload_n 0 0 hX dX1_become_0 rfl rfl ?_
  refine v_aload_n 1 1 hX dX1_become_1 rfl rfl ?_
  refine v_get (C := RX1) (T := TX1) (N := 19) (ci := 1) (v := .int (σ 13 0)) 13 0 hX dX1_become_2 mw_105 rfl inlX1 rfl (lt_b rfl) (lt_b rfl) rfl rfl ?_
  obtain ⟨hg1, hf⟩ := gd_some hf
  refine v_put (C := RX1) (T := TX1) (N := 19) (ci := 1) (ty := .boolean) tyX1 35 0 hX dX1_become_5 mw_105 rfl inlX1 tyX1_ok nmX1 rfl (lt_b rfl) (lt_b rfl) rfl (tyX1_ok 0 (lt_b rfl)) (isB_n hg1) (isB_f hg1) rfl (lt_b rfl) rfl ?_
  refine v_aload_n 0 0 hX dX1_become_8 rfl rfl ?_
  refine v_aload_n 1 1 hX dX1_become_9 rfl rfl ?_
  refine v_get (C := RX1) (T := TX1) (N := 19) (ci := 1) (v := .int (σ 13 1)) 13 1 hX dX1_become_10 mw_108 rfl inlX1 rfl (lt_b rfl) (lt_b rfl) rfl rfl ?_
  refine v_put (C := RX1) (T := TX1) (N := 19) (ci := 1) (ty := .int) tyX1 35 1 hX dX1_become_13 mw_108 rfl inlX1 tyX1_ok nmX1 rfl (lt_b rfl) (lt_b rfl) rfl (tyX1_ok 1 (lt_b rfl)) rfl rfl rfl (lt_b rfl) rfl ?_
  refine v_aload_n 0 0 hX dX1_become_16 rfl rfl ?_
  refine v_aload_n 1 1 hX dX1_become_17 rfl rfl ?_
  refine v_get (C := RX1) (T := TX1) (N := 19) (ci := 1) (v := .int (σ 13 2)) 13 2 hX dX1_become_18 mw_111 rfl inlX1 rfl (lt_b rfl) (lt_b rfl) rfl rfl ?_
  refine v_put (C := RX1) (T := TX1) (N := 19) (ci := 1) (ty := .int) tyX1 35 2 hX dX1_become_21 mw_111 rfl inlX1 tyX1_ok nmX1 rfl (lt_b rfl) (lt_b rfl) rfl (tyX1_ok 2 (lt_b rfl)) rfl rfl rfl (lt_b rfl) rfl ?_
  refine v_aload_n 0 0 hX dX1_become_24 rfl rfl ?_
  refine v_aload_n 1 1 hX dX1_become_25 rfl rfl ?_
  refine v_get (C := RX1) (T := TX1) (N := 19) (ci := 1) (v := .int (σ 13 3)) 13 3 hX dX1_become_26 mw_114 rfl inlX1 rfl (lt_b rfl) (lt_b rfl) rfl rfl ?_
  refine v_put (C := RX1) (T := TX1) (N := 19) (ci := 1) (ty := .int) tyX1 35 3 hX dX1_become_29 mw_114 rfl inlX1 tyX1_ok nmX1 rfl (lt_b rfl) (lt_b rfl) rfl (tyX1_ok 3 (lt_b rfl)) rfl rfl rfl (lt_b rfl) rfl ?_
  refine v_aload_n 0 0 hX dX1_become_32 rfl rfl ?_
  refine v_aload_n 1 1 hX dX1_become_33 rfl rfl ?_
  refine v_get (C := RX1) (T := TX1) (N := 19) (ci := 1) (v := .int (σ 13 4)) 13 4 hX dX1_become_34 mw_118 rfl inlX1 rfl (lt_b rfl) (lt_b rfl) rfl rfl ?_
  refine v_put (C := RX1) (T := TX1) (N := 19) (ci := 1) (ty := .int) tyX1 35 4 hX dX1_become_37 mw_118 rfl inlX1 tyX1_ok nmX1 rfl (lt_b rfl) (lt_b rfl) rfl (tyX1_ok 4 (lt_b rfl)) rfl rfl rfl (lt_b rfl) rfl ?_
  refine v_aload_n 0 0 hX dX1_become_40 rfl rfl ?_
  refine v_aload_n 1 1 hX dX1_become_41 rfl rfl ?_
  refine v_get (C := RX1) (T := TX1) (N := 19) (ci := 1) (v := .int (σ 13 5)) 13 5 hX dX1_become_42 mw_122 rfl inlX1 rfl (lt_b rfl) (lt_b rfl) rfl rfl ?_
  refine v_put (C := RX1) (T := TX1) (N := 19) (ci := 1) (ty := .int) tyX1 35 5 hX dX1_become_45 mw_122 rfl inlX1 tyX1_ok nmX1 rfl (lt_b rfl) (lt_b rfl) rfl (tyX1_ok 5 (lt_b rfl)) rfl rfl rfl (lt_b rfl) rfl ?_
  refine v_aload_n 0 0 hX dX1_become_48 rfl rfl ?_
  refine v_aload_n 1 1 hX dX1_become_49 rfl rfl ?_
  refine v_get (C := RX1) (T := TX1) (N := 19) (ci := 1) (v := .int (σ 13 6)) 13 6 hX dX1_become_50 mw_125 rfl inlX1 rfl (lt_b rfl) (lt_b rfl) rfl rfl ?_
  refine v_put (C := RX1) (T := TX1) (N := 19) (ci := 1) (ty := .int) tyX1 35 6 hX dX1_become_53 mw_125 rfl inlX1 tyX1_ok nmX1 rfl (lt_b rfl) (lt_b rfl) rfl (tyX1_ok 6 (lt_b rfl)) rfl rfl rfl (lt_b rfl) rfl ?_
  refine v_aload_n 0 0 hX dX1_become_56 rfl rfl ?_
  refine v_aload_n 1 1 hX dX1_become_57 rfl rfl ?_
  refine v_get (C := RX1) (T := TX1) (N := 19) (ci := 1) (v := .int (σ 13 7)) 13 7 hX dX1_become_58 mw_129 rfl inlX1 rfl (lt_b rfl) (lt_b rfl) rfl rfl ?_
  refine v_put (C := RX1) (T := TX1) (N := 19) (ci := 1) (ty := .int) tyX1 35 7 hX dX1_become_61 mw_129 rfl inlX1 tyX1_ok nmX1 rfl (lt_b rfl) (lt_b rfl) rfl (tyX1_ok 7 (lt_b rfl)) rfl rfl rfl (lt_b rfl) rfl ?_
  refine v_aload_n 0 0 hX dX1_become_64 rfl rfl ?_
  refine v_aload_n 1 1 hX dX1_become_65 rfl rfl ?_
  refine v_get (C := RX1) (T := TX1) (N := 19) (ci := 1) (v := .int (σ 13 8)) 13 8 hX dX1_become_66 mw_134 rfl inlX1 rfl (lt_b rfl) (lt_b rfl) rfl rfl ?_
  refine v_put (C := RX1) (T := TX1) (N := 19) (ci := 1) (ty := .int) tyX1 35 8 hX dX1_become_69 mw_134 rfl inlX1 tyX1_ok nmX1 rfl (lt_b rfl) (lt_b rfl) rfl (tyX1_ok 8 (lt_b rfl)) rfl rfl rfl (lt_b rfl) rfl ?_
  refine v_aload_n 1 1 hX dX1_become_72 rfl rfl ?_
  refine v_get (C := RX1) (T := TX1) (N := 19) (ci := 1) (v := .ref (ad 14)) 13 9 hX dX1_become_73 mw_138 rfl inlX1 rfl (lt_b rfl) (lt_b rfl) rfl rfl ?_
  refine v_iconst 0 hX dX1_become_76 (by decide) ?_
  refine v_aload_n 0 0 hX dX1_become_77 rfl rfl ?_
  refine v_get (C := RX1) (T := TX1) (N := 19) (ci := 1) (v := .ref (ad 36)) 35 9 hX dX1_become_78 mw_138 rfl inlX1 rfl (lt_b rfl) (lt_b rfl) rfl rfl ?_
  refine v_iconst 0 hX dX1_become_81 (by decide) ?_
  refine v_iconst 4 hX dX1_become_82 (by decide) ?_
  obtain ⟨hc2, hf⟩ := gd_some hf
  refine v_cpy (rest := []) 14 36 hX dX1_become_83 mw_460 mw_362 mw_361 mw_66 (lt_b rfl) (lt_b rfl) (fun _ => rfl) (fun _ => rfl) hc2 (Nat.le_of_ble_eq_true rfl) (Nat.le_of_ble_eq_true rfl) ?_
  refine v_aload_n 1 1 hX dX1_become_86 rfl rfl ?_
  refine v_get (C := RX1) (T := TX1) (N := 19) (ci := 1) (v := .ref (ad 15)) 13 10 hX dX1_become_87 mw_141 rfl inlX1 rfl (lt_b rfl) (lt_b rfl) rfl rfl ?_
  refine v_iconst 0 hX dX1_become_90 (by decide) ?_
  refine v_aload_n 0 0 hX dX1_become_91 rfl rfl ?_
  refine v_get (C := RX1) (T := TX1) (N := 19) (ci := 1) (v := .ref (ad 37)) 35 10 hX dX1_become_92 mw_141 rfl inlX1 rfl (lt_b rfl) (lt_b rfl) rfl rfl ?_
  refine v_iconst 0 hX dX1_become_95 (by decide) ?_
  refine v_iconst 4 hX dX1_become_96 (by decide) ?_
  obtain ⟨hc3, hf⟩ := gd_some hf
  refine v_cpy (rest := []) 15 37 hX dX1_become_97 mw_460 mw_362 mw_361 mw_66 (lt_b rfl) (lt_b rfl) (fun _ => rfl) (fun _ => rfl) hc3 (Nat.le_of_ble_eq_true rfl) (Nat.le_of_ble_eq_true rfl) ?_
  refine v_aload_n 1 1 hX dX1_become_100 rfl rfl ?_
  refine v_get (C := RX1) (T := TX1) (N := 19) (ci := 1) (v := .ref (ad 16)) 13 11 hX dX1_become_101 mw_146 rfl inlX1 rfl (lt_b rfl) (lt_b rfl) rfl rfl ?_
  refine v_iconst 0 hX dX1_become_104 (by decide) ?_
  refine v_aload_n 0 0 hX dX1_become_105 rfl rfl ?_
  refine v_get (C := RX1) (T := TX1) (N := 19) (ci := 1) (v := .ref (ad 38)) 35 11 hX dX1_become_106 mw_146 rfl inlX1 rfl (lt_b rfl) (lt_b rfl) rfl rfl ?_
  refine v_iconst 0 hX dX1_become_109 (by decide) ?_
  refine v_bipush 10 hX dX1_become_110 (by decide) ?_
  obtain ⟨hc4, hf⟩ := gd_some hf
  refine v_cpy (rest := []) 16 38 hX dX1_become_112 mw_460 mw_362 mw_361 mw_66 (lt_b rfl) (lt_b rfl) (fun _ => rfl) (fun _ => rfl) hc4 (Nat.le_of_ble_eq_true rfl) (Nat.le_of_ble_eq_true rfl) ?_
  refine v_aload_n 1 1 hX dX1_become_115 rfl rfl ?_
  refine v_get (C := RX1) (T := TX1) (N := 19) (ci := 1) (v := .ref (ad 17)) 13 12 hX dX1_become_116 mw_148 rfl inlX1 rfl (lt_b rfl) (lt_b rfl) rfl rfl ?_
  refine v_iconst 0 hX dX1_become_119 (by decide) ?_
  refine v_aload_n 0 0 hX dX1_become_120 rfl rfl ?_
  refine v_get (C := RX1) (T := TX1) (N := 19) (ci := 1) (v := .ref (ad 39)) 35 12 hX dX1_become_121 mw_148 rfl inlX1 rfl (lt_b rfl) (lt_b rfl) rfl rfl ?_
  refine v_iconst 0 hX dX1_become_124 (by decide) ?_
  refine v_bipush 10 hX dX1_become_125 (by decide) ?_
  obtain ⟨hc5, hf⟩ := gd_some hf
  refine v_cpy (rest := []) 17 39 hX dX1_become_127 mw_460 mw_362 mw_361 mw_66 (lt_b rfl) (lt_b rfl) (fun _ => rfl) (fun _ => rfl) hc5 (Nat.le_of_ble_eq_true rfl) (Nat.le_of_ble_eq_true rfl) ?_
  refine v_aload_n 1 1 hX dX1_become_130 rfl rfl ?_
  refine v_get (C := RX1) (T := TX1) (N := 19) (ci := 1) (v := .ref (ad 18)) 13 13 hX dX1_become_131 mw_152 rfl inlX1 rfl (lt_b rfl) (lt_b rfl) rfl rfl ?_
  refine v_iconst 0 hX dX1_become_134 (by decide) ?_
  refine v_aload_n 0 0 hX dX1_become_135 rfl rfl ?_
  refine v_get (C := RX1) (T := TX1) (N := 19) (ci := 1) (v := .ref (ad 40)) 35 13 hX dX1_become_136 mw_152 rfl inlX1 rfl (lt_b rfl) (lt_b rfl) rfl rfl ?_
  refine v_iconst 0 hX dX1_become_139 (by decide) ?_
  refine v_bipush 10 hX dX1_become_140 (by decide) ?_
  obtain ⟨hc6, hf⟩ := gd_some hf
  refine v_cpy (rest := []) 18 40 hX dX1_become_142 mw_460 mw_362 mw_361 mw_66 (lt_b rfl) (lt_b rfl) (fun _ => rfl) (fun _ => rfl) hc6 (Nat.le_of_ble_eq_true rfl) (Nat.le_of_ble_eq_true rfl) ?_
  refine v_aload_n 1 1 hX dX1_become_145 rfl rfl ?_
  refine v_get (C := RX1) (T := TX1) (N := 19) (ci := 1) (v := .ref (ad 19)) 13 14 hX dX1_become_146 mw_155 rfl inlX1 rfl (lt_b rfl) (lt_b rfl) rfl rfl ?_
  refine v_iconst 0 hX dX1_become_149 (by decide) ?_
  refine v_aload_n 0 0 hX dX1_become_150 rfl rfl ?_
  refine v_get (C := RX1) (T := TX1) (N := 19) (ci := 1) (v := .ref (ad 41)) 35 14 hX dX1_become_151 mw_155 rfl inlX1 rfl (lt_b rfl) (lt_b rfl) rfl rfl ?_
  refine v_iconst 0 hX dX1_become_154 (by decide) ?_
  refine v_bipush 10 hX dX1_become_155 (by decide) ?_
  obtain ⟨hc7, hf⟩ := gd_some hf
  refine v_cpy (rest := []) 19 41 hX dX1_become_157 mw_460 mw_362 mw_361 mw_66 (lt_b rfl) (lt_b rfl) (fun _ => rfl) (fun _ => rfl) hc7 (Nat.le_of_ble_eq_true rfl) (Nat.le_of_ble_eq_true rfl) ?_
  refine v_aload_n 1 1 hX dX1_become_160 rfl rfl ?_
  refine v_get (C := RX1) (T := TX1) (N := 19) (ci := 1) (v := .ref (ad 20)) 13 15 hX dX1_become_161 mw_158 rfl inlX1 rfl (lt_b rfl) (lt_b rfl) rfl rfl ?_
  refine v_iconst 0 hX dX1_become_164 (by decide) ?_
  refine v_aload_n 0 0 hX dX1_become_165 rfl rfl ?_
  refine v_get (C := RX1) (T := TX1) (N := 19) (ci := 1) (v := .ref (ad 42)) 35 15 hX dX1_become_166 mw_158 rfl inlX1 rfl (lt_b rfl) (lt_b rfl) rfl rfl ?_
  refine v_iconst 0 hX dX1_become_169 (by decide) ?_
  refine v_iconst 5 hX dX1_become_170 (by decide) ?_
  obtain ⟨hc8, hf⟩ := gd_some hf
  refine v_cpy (rest := []) 20 42 hX dX1_become_171 mw_460 mw_362 mw_361 mw_66 (lt_b rfl) (lt_b rfl) (fun _ => rfl) (fun _ => rfl) hc8 (Nat.le_of_ble_eq_true rfl) (Nat.le_of_ble_eq_true rfl) ?_
  refine v_aload_n 1 1 hX dX1_become_174 rfl rfl ?_
  refine v_get (C := RX1) (T := TX1) (N := 19) (ci := 1) (v := .ref (ad 21)) 13 16 hX dX1_become_175 mw_160 rfl inlX1 rfl (lt_b rfl) (lt_b rfl) rfl rfl ?_
  refine v_iconst 0 hX dX1_become_178 (by decide) ?_
  refine v_aload_n 0 0 hX dX1_become_179 rfl rfl ?_
  refine v_get (C := RX1) (T := TX1) (N := 19) (ci := 1) (v := .ref (ad 43)) 35 16 hX dX1_become_180 mw_160 rfl inlX1 rfl (lt_b rfl) (lt_b rfl) rfl rfl ?_
  refine v_iconst 0 hX dX1_become_183 (by decide) ?_
  refine v_iconst 5 hX dX1_become_184 (by decide) ?_
  obtain ⟨hc9, hf⟩ := gd_some hf
  refine v_cpy (rest := []) 21 43 hX dX1_become_185 mw_460 mw_362 mw_361 mw_66 (lt_b rfl) (lt_b rfl) (fun _ => rfl) (fun _ => rfl) hc9 (Nat.le_of_ble_eq_true rfl) (Nat.le_of_ble_eq_true rfl) ?_
  refine v_aload_n 1 1 hX dX1_become_188 rfl rfl ?_
  refine v_get (C := RX1) (T := TX1) (N := 19) (ci := 1) (v := .ref (ad 22)) 13 17 hX dX1_become_189 mw_162 rfl inlX1 rfl (lt_b rfl) (lt_b rfl) rfl rfl ?_
  refine v_iconst 0 hX dX1_become_192 (by decide) ?_
  refine v_aload_n 0 0 hX dX1_become_193 rfl rfl ?_
  refine v_get (C := RX1) (T := TX1) (N := 19) (ci := 1) (v := .ref (ad 44)) 35 17 hX dX1_become_194 mw_162 rfl inlX1 rfl (lt_b rfl) (lt_b rfl) rfl rfl ?_
  refine v_iconst 0 hX dX1_become_197 (by decide) ?_
  refine v_iconst 5 hX dX1_become_198 (by decide) ?_
  obtain ⟨hc10, hf⟩ := gd_some hf
  refine v_cpy (rest := []) 22 44 hX dX1_become_199 mw_460 mw_362 mw_361 mw_66 (lt_b rfl) (lt_b rfl) (fun _ => rfl) (fun _ => rfl) hc10 (Nat.le_of_ble_eq_true rfl) (Nat.le_of_ble_eq_true rfl) ?_
  refine v_aload_n 1 1 hX dX1_become_202 rfl rfl ?_
  refine v_get (C := RX1) (T := TX1) (N := 19) (ci := 1) (v := .ref (ad 23)) 13 18 hX dX1_become_203 mw_164 rfl inlX1 rfl (lt_b rfl) (lt_b rfl) rfl rfl ?_
  refine v_iconst 0 hX dX1_become_206 (by decide) ?_
  refine v_aload_n 0 0 hX dX1_become_207 rfl rfl ?_
  refine v_get (C := RX1) (T := TX1) (N := 19) (ci := 1) (v := .ref (ad 45)) 35 18 hX dX1_become_208 mw_164 rfl inlX1 rfl (lt_b rfl) (lt_b rfl) rfl rfl ?_
  refine v_iconst 0 hX dX1_become_211 (by decide) ?_
  refine v_iconst 5 hX dX1_become_212 (by decide) ?_
  obtain ⟨hc11, hf⟩ := gd_some hf
  refine v_cpy (rest := []) 23 45 hX dX1_become_213 mw_460 mw_362 mw_361 mw_66 (lt_b rfl) (lt_b rfl) (fun _ => rfl) (fun _ => rfl) hc11 (Nat.le_of_ble_eq_true rfl) (Nat.le_of_ble_eq_true rfl) ?_
  obtain rfl := Option.some.inj hf
  exact v_vret hX dX1_become_216
set_option maxHeartbeats 4000000 in
set_option maxRecDepth 100000 in
theorem c_X1_become_13_24 {l : Launch} {D : va_G} {cs : ClassId × ClassId × ClassId} {ad : Nat → Nat} {ts : Nat × Nat × Nat} (σ : Mem)    {z : Mem} (hf : f_X1_become_13_24 σ = some z) : CtV l (xW D cs ad ts) 1 yX1_become cX1_become 2 [.ref (ad 13), .ref (ad 24)] σ z := by
  refine ct_V RX1 [(0, .ref (ad 13)), (1, .ref (ad 24))] (by decide +kernel) rfl rfl (Nat.le_of_ble_eq_true rfl) ?_
  intro P M hl0 hX
  unfold f_X1_become_13_24 at hf
  refine v_aload_n 0 0 hX dX1_become_0 rfl rfl ?_
  refine v_aload_n 1 1 hX dX1_become_1 rfl rfl ?_
  refine v_get (C := RX1) (T := TX1) (N := 19) (ci := 1) (v := .int (σ 24 0)) 24 0 hX dX1_become_2 mw_105 rfl inlX1 rfl (lt_b rfl) (lt_b rfl) rfl rfl ?_
  obtain ⟨hg1, hf⟩ := gd_some hf
  refine v_put (C := RX1) (T := TX1) (N := 19) (ci := 1) (ty := .boolean) tyX1 13 0 hX dX1_become_5 mw_105 rfl inlX1 tyX1_ok nmX1 rfl (lt_b rfl) (lt_b rfl) rfl (tyX1_ok 0 (lt_b rfl)) (isB_n hg1) (isB_f hg1) rfl (lt_b rfl) rfl ?_
  refine v_aload_n 0 0 hX dX1_become_8 rfl rfl ?_
  refine v_aload_n 1 1 hX dX1_become_9 rfl rfl ?_
  refine v_get (C := RX1) (T := TX1) (N := 19) (ci := 1) (v := .int (σ 24 1)) 24 1 hX dX1_become_10 mw_108 rfl inlX1 rfl (lt_b rfl) (lt_b rfl) rfl rfl ?_
  refine v_put (C := RX1) (T := TX1) (N := 19) (ci := 1) (ty := .int) tyX1 13 1 hX dX1_become_13 mw_108 rfl inlX1 tyX1_ok nmX1 rfl (lt_b rfl) (lt_b rfl) rfl (tyX1_ok 1 (lt_b rfl)) rfl rfl rfl (lt_b rfl) rfl ?_
  refine v_aload_n 0 0 hX dX1_become_16 rfl rfl ?_
  refine v_aload_n 1 1 hX dX1_become_17 rfl rfl ?_
  refine v_get (C := RX1) (T := TX1) (N := 19) (ci := 1) (v := .int (σ 24 2)) 24 2 hX dX1_become_18 mw_111 rfl inlX1 rfl (lt_b rfl) (lt_b rfl) rfl rfl ?_
  refine v_put (C := RX1) (T := TX1) (N := 19) (ci := 1) (ty := .int) tyX1 13 2 hX dX1_become_21 mw_111 rfl inlX1 tyX1_ok nmX1 rfl (lt_b rfl) (lt_b rfl) rfl (tyX1_ok 2 (lt_b rfl)) rfl rfl rfl (lt_b rfl) rfl ?_
  refine v_aload_n 0 0 hX dX1_become_24 rfl rfl ?_
  refine v_aload_n 1 1 hX dX1_become_25 rfl rfl ?_
  refine v_get (C := RX1) (T := TX1) (N := 19) (ci := 1) (v := .int (σ 24 3)) 24 3 hX dX1_become_26 mw_114 rfl inlX1 rfl (lt_b rfl) (lt_b rfl) rfl rfl ?_
  refine v_put (C := RX1) (T := TX1) (N := 19) (ci := 1) (ty := .int) tyX1 13 3 hX dX1_become_29 mw_114 rfl inlX1 tyX1_ok nmX1 rfl (lt_b rfl) (lt_b rfl) rfl (tyX1_ok 3 (lt_b rfl)) rfl rfl rfl (lt_b rfl) rfl ?_
  refine v_aload_n 0 0 hX dX1_become_32 rfl rfl ?_
  refine v_aload_n 1 1 hX dX1_become_33 rfl rfl ?_
  refine v_get (C := RX1) (T := TX1) (N := 19) (ci := 1) (v := .int (σ 24 4)) 24 4 hX dX1_become_34 mw_118 rfl inlX1 rfl (lt_b rfl) (lt_b rfl) rfl rfl ?_
  refine v_put (C := RX1) (T := TX1) (N := 19) (ci := 1) (ty := .int) tyX1 13 4 hX dX1_become_37 mw_118 rfl inlX1 tyX1_ok nmX1 rfl (lt_b rfl) (lt_b rfl) rfl (tyX1_ok 4 (lt_b rfl)) rfl rfl rfl (lt_b rfl) rfl ?_
  refine v_aload_n 0 0 hX dX1_become_40 rfl rfl ?_
  refine v_aload_n 1 1 hX dX1_become_41 rfl rfl ?_
  refine v_get (C := RX1) (T := TX1) (N := 19) (ci := 1) (v := .int (σ 24 5)) 24 5 hX dX1_become_42 mw_122 rfl inlX1 rfl (lt_b rfl) (lt_b rfl) rfl rfl ?_
  refine v_put (C := RX1) (T := TX1) (N := 19) (ci := 1) (ty := .int) tyX1 13 5 hX dX1_become_45 mw_122 rfl inlX1 tyX1_ok nmX1 rfl (lt_b rfl) (lt_b rfl) rfl (tyX1_ok 5 (lt_b rfl)) rfl rfl rfl (lt_b rfl) rfl ?_
  refine v_aload_n 0 0 hX dX1_become_48 rfl rfl ?_
  refine v_aload_n 1 1 hX dX1_become_49 rfl rfl ?_
  refine v_get (C := RX1) (T := TX1) (N := 19) (ci := 1) (v := .int (σ 24 6)) 24 6 hX dX1_become_50 mw_125 rfl inlX1 rfl (lt_b rfl) (lt_b rfl) rfl rfl ?_
  refine v_put (C := RX1) (T := TX1) (N := 19) (ci := 1) (ty := .int) tyX1 13 6 hX dX1_become_53 mw_125 rfl inlX1 tyX1_ok nmX1 rfl (lt_b rfl) (lt_b rfl) rfl (tyX1_ok 6 (lt_b rfl)) rfl rfl rfl (lt_b rfl) rfl ?_
  refine v_aload_n 0 0 hX dX1_become_56 rfl rfl ?_
  refine v_aload_n 1 1 hX dX1_become_57 rfl rfl ?_
  refine v_get (C := RX1) (T := TX1) (N := 19) (ci := 1) (v := .int (σ 24 7)) 24 7 hX dX1_become_58 mw_129 rfl inlX1 rfl (lt_b rfl) (lt_b rfl) rfl rfl ?_
  refine v_put (C := RX1) (T := TX1) (N := 19) (ci := 1) (ty := .int) tyX1 13 7 hX dX1_become_61 mw_129 rfl inlX1 tyX1_ok nmX1 rfl (lt_b rfl) (lt_b rfl) rfl (tyX1_ok 7 (lt_b rfl)) rfl rfl rfl (lt_b rfl) rfl ?_
  refine v_aload_n 0 0 hX dX1_become_64 rfl rfl ?_
  refine v_aload_n 1 1 hX dX1_become_65 rfl rfl ?_
  refine v_get (C := RX1) (T := TX1) (N := 19) (ci := 1) (v := .int (σ 24 8)) 24 8 hX dX1_become_66 mw_134 rfl inlX1 rfl (lt_b rfl) (lt_b rfl) rfl rfl ?_
  refine v_put (C := RX1) (T := TX1) (N := 19) (ci := 1) (ty := .int) tyX1 13 8 hX dX1_become_69 mw_134 rfl inlX1 tyX1_ok nmX1 rfl (lt_b rfl) (lt_b rfl) rfl (tyX1_ok 8 (lt_b rfl)) rfl rfl rfl (lt_b rfl) rfl ?_
  refine v_aload_n 1 1 hX dX1_become_72 rfl rfl ?_
  refine v_get (C := RX1) (T := TX1) (N := 19) (ci := 1) (v := .ref (ad 25)) 24 9 hX dX1_become_73 mw_138 rfl inlX1 rfl (lt_b rfl) (lt_b rfl) rfl rfl ?_
  refine v_iconst 0 hX dX1_become_76 (by decide) ?_
  refine v_aload_n 0 0 hX dX1_become_77 rfl rfl ?_
  refine v_get (C := RX1) (T := TX1) (N := 19) (ci := 1) (v := .ref (ad 14)) 13 9 hX dX1_become_78 mw_138 rfl inlX1 rfl (lt_b rfl) (lt_b rfl) rfl rfl ?_
  refine v_iconst 0 hX dX1_become_81 (by decide) ?_
  refine v_iconst 4 hX dX1_become_82 (by decide) ?_
  obtain ⟨hc2, hf⟩ := gd_some hf
  refine v_cpy (rest := []) 25 14 hX dX1_become_83 mw_460 mw_362 mw_361 mw_66 (lt_b rfl) (lt_b rfl) (fun _ => rfl) (fun _ => rfl) hc2 (Nat.le_of_ble_eq_true rfl) (Nat.le_of_ble_eq_true rfl) ?_
  refine v_aload_n 1 1 hX dX1_become_86 rfl rfl ?_
  refine v_get (C := RX1) (T := TX1) (N := 19) (ci := 1) (v := .ref (ad 26)) 24 10 hX dX1_become_87 mw_141 rfl inlX1 rfl (lt_b rfl) (lt_b rfl) rfl rfl ?_
  refine v_iconst 0 hX dX1_become_90 (by decide) ?_
  refine v_aload_n 0 0 hX dX1_become_91 rfl rfl ?_
  refine v_get (C := RX1) (T := TX1) (N := 19) (ci := 1) (v := .ref (ad 15)) 13 10 hX dX1_become_92 mw_141 rfl inlX1 rfl (lt_b rfl) (lt_b rfl) rfl rfl ?_
  refine v_iconst 0 hX dX1_become_95 (by decide) ?_
  refine v_iconst 4 hX dX1_become_96 (by decide) ?_
  obtain ⟨hc3, hf⟩ := gd_some hf
  refine v_cpy (rest := []) 26 15 hX dX1_become_97 mw_460 mw_362 mw_361 mw_66 (lt_b rfl) (lt_b rfl) (fun _ => rfl) (fun _ => rfl) hc3 (Nat.le_of_ble_eq_true rfl) (Nat.le_of_ble_eq_true rfl) ?_
  refine v_aload_n 1 1 hX dX1_become_100 rfl rfl ?_
  refine v_get (C := RX1) (T := TX1) (N := 19) (ci := 1) (v := .ref (ad 27)) 24 11 hX dX1_become_101 mw_146 rfl inlX1 rfl (lt_b rfl) (lt_b rfl) rfl rfl ?_
  refine v_iconst 0 hX dX1_become_104 (by decide) ?_
  refine v_aload_n 0 0 hX dX1_become_105 rfl rfl ?_
  refine v_get (C := RX1) (T := TX1) (N := 19) (ci := 1) (v := .ref (ad 16)) 13 11 hX dX1_become_106 mw_146 rfl inlX1 rfl (lt_b rfl) (lt_b rfl) rfl rfl ?_
  refine v_iconst 0 hX dX1_become_109 (by decide) ?_
  refine v_bipush 10 hX dX1_become_110 (by decide) ?_
  obtain ⟨hc4, hf⟩ := gd_some hf
  refine v_cpy (rest := []) 27 16 hX dX1_become_112 mw_460 mw_362 mw_361 mw_66 (lt_b rfl) (lt_b rfl) (fun _ => rfl) (fun _ => rfl) hc4 (Nat.le_of_ble_eq_true rfl) (Nat.le_of_ble_eq_true rfl) ?_
  refine v_aload_n 1 1 hX dX1_become_115 rfl rfl ?_
  refine v_get (C := RX1) (T := TX1) (N := 19) (ci := 1) (v := .ref (ad 28)) 24 12 hX dX1_become_116 mw_148 rfl inlX1 rfl (lt_b rfl) (lt_b rfl) rfl rfl ?_
  refine v_iconst 0 hX dX1_become_119 (by decide) ?_
  refine v_aload_n 0 0 hX dX1_become_120 rfl rfl ?_
  refine v_get (C := RX1) (T := TX1) (N := 19) (ci := 1) (v := .ref (ad 17)) 13 12 hX dX1_become_121 mw_148 rfl inlX1 rfl (lt_b rfl) (lt_b rfl) rfl rfl ?_
  refine v_iconst 0 hX dX1_become_124 (by decide) ?_
  refine v_bipush 10 hX dX1_become_125 (by decide) ?_
  obtain ⟨hc5, hf⟩ := gd_some hf
  refine v_cpy (rest := []) 28 17 hX dX1_become_127 mw_460 mw_362 mw_361 mw_66 (lt_b rfl) (lt_b rfl) (fun _ => rfl) (fun _ => rfl) hc5 (Nat.le_of_ble_eq_true rfl) (Nat.le_of_ble_eq_true rfl) ?_
  refine v_aload_n 1 1 hX dX1_become_130 rfl rfl ?_
  refine v_get (C := RX1) (T := TX1) (N := 19) (ci := 1) (v := .ref (ad 29)) 24 13 hX dX1_become_131 mw_152 rfl inlX1 rfl (lt_b rfl) (lt_b rfl) rfl rfl ?_
  refine v_iconst 0 hX dX1_become_134 (by decide) ?_
  refine v_aload_n 0 0 hX dX1_become_135 rfl rfl ?_
  refine v_get (C := RX1) (T := TX1) (N := 19) (ci := 1) (v := .ref (ad 18)) 13 13 hX dX1_become_136 mw_152 rfl inlX1 rfl (lt_b rfl) (lt_b rfl) rfl rfl ?_
  refine v_iconst 0 hX dX1_become_139 (by decide) ?_
  refine v_bipush 10 hX dX1_become_140 (by decide) ?_
  obtain ⟨hc6, hf⟩ := gd_some hf
  refine v_cpy (rest := []) 29 18 hX dX1_become_142 mw_460 mw_362 mw_361 mw_66 (lt_b rfl) (lt_b rfl) (fun _ => rfl) (fun _ => rfl) hc6 (Nat.le_of_ble_eq_true rfl) (Nat.le_of_ble_eq_true rfl) ?_
  refine v_aload_n 1 1 hX dX1_become_145 rfl rfl ?_
  refine v_get (C := RX1) (T := TX1) (N := 19) (ci := 1) (v := .ref (ad 30)) 24 14 hX dX1_become_146 mw_155 rfl inlX1 rfl (lt_b rfl) (lt_b rfl) rfl rfl ?_
  refine v_iconst 0 hX dX1_become_149 (by decide) ?_
  refine v_aload_n 0 0 hX dX1_become_150 rfl rfl ?_
  refine v_get (C := RX1) (T := TX1) (N := 19) (ci := 1) (v := .ref (ad 19)) 13 14 hX dX1_become_151 mw_155 rfl inlX1 rfl (lt_b rfl) (lt_b rfl) rfl rfl ?_
  refine v_iconst 0 hX dX1_become_154 (by decide) ?_
  refine v_bipush 10 hX dX1_become_155 (by decide) ?_
  obtain ⟨hc7, hf⟩ := gd_some hf
  refine v_cpy (rest := []) 30 19 hX dX1_become_157 mw_460 mw_362 mw_361 mw_66 (lt_b rfl) (lt_b rfl) (fun _ => rfl) (fun _ => rfl) hc7 (Nat.le_of_ble_eq_true rfl) (Nat.le_of_ble_eq_true rfl) ?_
  refine v_aload_n 1 1 hX dX1_become_160 rfl rfl ?_
  refine v_get (C := RX1) (T := TX1) (N := 19) (ci := 1) (v := .ref (ad 31)) 24 15 hX dX1_become_161 mw_158 rfl inlX1 rfl (lt_b rfl) (lt_b rfl) rfl rfl ?_
  refine v_iconst 0 hX dX1_become_164 (by decide) ?_
  refine v_aload_n 0 0 hX dX1_become_165 rfl rfl ?_
  refine v_get (C := RX1) (T := TX1) (N := 19) (ci := 1) (v := .ref (ad 20)) 13 15 hX dX1_become_166 mw_158 rfl inlX1 rfl (lt_b rfl) (lt_b rfl) rfl rfl ?_
  refine v_iconst 0 hX dX1_become_169 (by decide) ?_
  refine v_iconst 5 hX dX1_become_170 (by decide) ?_
  obtain ⟨hc8, hf⟩ := gd_some hf
  refine v_cpy (rest := []) 31 20 hX dX1_become_171 mw_460 mw_362 mw_361 mw_66 (lt_b rfl) (lt_b rfl) (fun _ => rfl) (fun _ => rfl) hc8 (Nat.le_of_ble_eq_true rfl) (Nat.le_of_ble_eq_true rfl) ?_
  refine v_aload_n 1 1 hX dX1_become_174 rfl rfl ?_
  refine v_get (C := RX1) (T := TX1) (N := 19) (ci := 1) (v := .ref (ad 32)) 24 16 hX dX1_become_175 mw_160 rfl inlX1 rfl (lt_b rfl) (lt_b rfl) rfl rfl ?_
  refine v_iconst 0 hX dX1_become_178 (by decide) ?_
  refine v_aload_n 0 0 hX dX1_become_179 rfl rfl ?_
  refine v_get (C := RX1) (T := TX1) (N := 19) (ci := 1) (v := .ref (ad 21)) 13 16 hX dX1_become_180 mw_160 rfl inlX1 rfl (lt_b rfl) (lt_b rfl) rfl rfl ?_
  refine v_iconst 0 hX dX1_become_183 (by decide) ?_
  refine v_iconst 5 hX dX1_become_184 (by decide) ?_
  obtain ⟨hc9, hf⟩ := gd_some hf
  refine v_cpy (rest := []) 32 21 hX dX1_become_185 mw_460 mw_362 mw_361 mw_66 (lt_b rfl) (lt_b rfl) (fun _ => rfl) (fun _ => rfl) hc9 (Nat.le_of_ble_eq_true rfl) (Nat.le_of_ble_eq_true rfl) ?_
  refine v_aload_n 1 1 hX dX1_become_188 rfl rfl ?_
  refine v_get (C := RX1) (T := TX1) (N := 19) (ci := 1) (v := .ref (ad 33)) 24 17 hX dX1_become_189 mw_162 rfl inlX1 rfl (lt_b rfl) (lt_b rfl) rfl rfl ?_
  refine v_iconst 0 hX dX1_become_192 (by decide) ?_
  refine v_aload_n 0 0 hX dX1_become_193 rfl rfl ?_
  refine v_get (C := RX1) (T := TX1) (N := 19) (ci := 1) (v := .ref (ad 22)) 13 17 hX dX1_become_194 mw_162 rfl inlX1 rfl (lt_b rfl) (lt_b rfl) rfl rfl ?_
  refine v_iconst 0 hX dX1_become_197 (by decide) ?_
  refine v_iconst 5 hX dX1_become_198 (by decide) ?_
  obtain ⟨hc10, hf⟩ := gd_some hf
  refine v_cpy (rest := []) 33 22 hX dX1_become_199 mw_460 mw_362 mw_361 mw_66 (lt_b rfl) (lt_b rfl) (fun _ => rfl) (fun _ => rfl) hc10 (Nat.le_of_ble_eq_true rfl) (Nat.le_of_ble_eq_true rfl) ?_
  refine v_aload_n 1 1 hX dX1_become_202 rfl rfl ?_
  refine v_get (C := RX1) (T := TX1) (N := 19) (ci := 1) (v := .ref (ad 34)) 24 18 hX dX1_become_203 mw_164 rfl inlX1 rfl (lt_b rfl) (lt_b rfl) rfl rfl ?_
  refine v_iconst 0 hX dX1_become_206 (by decide) ?_
  refine v_aload_n 0 0 hX dX1_become_207 rfl rfl ?_
  refine v_get (C := RX1) (T := TX1) (N := 19) (ci := 1) (v := .ref (ad 23)) 13 18 hX dX1_become_208 mw_164 rfl inlX1 rfl (lt_b rfl) (lt_b rfl) rfl rfl ?_
  refine v_iconst 0 hX dX1_become_211 (by decide) ?_
  refine v_iconst 5 hX dX1_become_212 (by decide) ?_
  obtain ⟨hc11, hf⟩ := gd_some hf
  refine v_cpy (rest := []) 34 23 hX dX1_become_213 mw_460 mw_362 mw_361 mw_66 (lt_b rfl) (lt_b rfl) (fun _ => rfl) (fun _ => rfl) hc11 (Nat.le_of_ble_eq_true rfl) (Nat.le_of_ble_eq_true rfl) ?_
  obtain rfl := Option.some.inj hf
  exact v_vret hX dX1_become_216
set_option maxHeartbeats 4000000 in
set_option maxRecDepth 100000 in
theorem c_X1_become_13_35 {l : Launch} {D : va_G} {cs : ClassId × ClassId × ClassId} {ad : Nat → Nat} {ts : Nat × Nat × Nat} (σ : Mem)    {z : Mem} (hf : f_X1_become_13_35 σ = some z) : CtV l (xW D cs ad ts) 1 yX1_become cX1_become 2 [.ref (ad 13), .ref (ad 35)] σ z := by
  refine ct_V RX1 [(0, .ref (ad 13)), (1, .ref (ad 35))] (by decide +kernel) rfl rfl (Nat.le_of_ble_eq_true rfl) ?_
  intro P M hl0 hX
  unfold f_X1_become_13_35 at hf
  refine v_aload_n 0 0 hX dX1_become_0 rfl rfl ?_
  refine v_aload_n 1 1 hX dX1_become_1 rfl rfl ?_
  refine v_get (C := RX1) (T := TX1) (N := 19) (ci := 1) (v := .int (σ 35 0)) 35 0 hX dX1_become_2 mw_105 rfl inlX1 rfl (lt_b rfl) (lt_b rfl) rfl rfl ?_
  obtain ⟨hg1, hf⟩ := gd_some hf
  refine v_put (C := RX1) (T := TX1) (N := 19) (ci := 1) (ty := .boolean) tyX1 13 0 hX dX1_become_5 mw_105 rfl inlX1 tyX1_ok nmX1 rfl (lt_b rfl) (lt_b rfl) rfl (tyX1_ok 0 (lt_b rfl)) (isB_n hg1) (isB_f hg1) rfl (lt_b rfl) rfl ?_
  refine v_aload_n 0 0 hX dX1_become_8 rfl rfl ?_
  refine v_aload_n 1 1 hX dX1_become_9 rfl rfl ?_
  refine v_get (C := RX1) (T := TX1) (N := 19) (ci := 1) (v := .int (σ 35 1)) 35 1 hX dX1_become_10 mw_108 rfl inlX1 rfl (lt_b rfl) (lt_b rfl) rfl rfl ?_
  refine v_put (C := RX1) (T := TX1) (N := 19) (ci := 1) (ty := .int) tyX1 13 1 hX dX1_become_13 mw_108 rfl inlX1 tyX1_ok nmX1 rfl (lt_b rfl) (lt_b rfl) rfl (tyX1_ok 1 (lt_b rfl)) rfl rfl rfl (lt_b rfl) rfl ?_
  refine v_aload_n 0 0 hX dX1_become_16 rfl rfl ?_
  refine v_aload_n 1 1 hX dX1_become_17 rfl rfl ?_
  refine v_get (C := RX1) (T := TX1) (N := 19) (ci := 1) (v := .int (σ 35 2)) 35 2 hX dX1_become_18 mw_111 rfl inlX1 rfl (lt_b rfl) (lt_b rfl) rfl rfl ?_
  refine v_put (C := RX1) (T := TX1) (N := 19) (ci := 1) (ty := .int) tyX1 13 2 hX dX1_become_21 mw_111 rfl inlX1 tyX1_ok nmX1 rfl (lt_b rfl) (lt_b rfl) rfl (tyX1_ok 2 (lt_b rfl)) rfl rfl rfl (lt_b rfl) rfl ?_
  refine v_aload_n 0 0 hX dX1_become_24 rfl rfl ?_
  refine v_aload_n 1 1 hX dX1_become_25 rfl rfl ?_
  refine v_get (C := RX1) (T := TX1) (N := 19) (ci := 1) (v := .int (σ 35 3)) 35 3 hX dX1_become_26 mw_114 rfl inlX1 rfl (lt_b rfl) (lt_b rfl) rfl rfl ?_
  refine v_put (C := RX1) (T := TX1) (N := 19) (ci := 1) (ty := .int) tyX1 13 3 hX dX1_become_29 mw_114 rfl inlX1 tyX1_ok nmX1 rfl (lt_b rfl) (lt_b rfl) rfl (tyX1_ok 3 (lt_b rfl)) rfl rfl rfl (lt_b rfl) rfl ?_
  refine v_aload_n 0 0 hX dX1_become_32 rfl rfl ?_
  refine v_aload_n 1 1 hX dX1_become_33 rfl rfl ?_
  refine v_get (C := RX1) (T := TX1) (N := 19) (ci := 1) (v := .int (σ 35 4)) 35 4 hX dX1_become_34 mw_118 rfl inlX1 rfl (lt_b rfl) (lt_b rfl) rfl rfl ?_
  refine v_put (C := RX1) (T := TX1) (N := 19) (ci := 1) (ty := .int) tyX1 13 4 hX dX1_become_37 mw_118 rfl inlX1 tyX1_ok nmX1 rfl (lt_b rfl) (lt_b rfl) rfl (tyX1_ok 4 (lt_b rfl)) rfl rfl rfl (lt_b rfl) rfl ?_
  refine v_aload_n 0 0 hX dX1_become_40 rfl rfl ?_
  refine v_aload_n 1 1 hX dX1_become_41 rfl rfl ?_
  refine v_get (C := RX1) (T := TX1) (N := 19) (ci := 1) (v := .int (σ 35 5)) 35 5 hX dX1_become_42 mw_122 rfl inlX1 rfl (lt_b rfl) (lt_b rfl) rfl rfl ?_
  refine v_put (C := RX1) (T := TX1) (N := 19) (ci := 1) (ty := .int) tyX1 13 5 hX dX1_become_45 mw_122 rfl inlX1 tyX1_ok nmX1 rfl (lt_b rfl) (lt_b rfl) rfl (tyX1_ok 5 (lt_b rfl)) rfl rfl rfl (lt_b rfl) rfl ?_
  refine v_aload_n 0 0 hX dX1_become_48 rfl rfl ?_
  refine v_aload_n 1 1 hX dX1_become_49 rfl rfl ?_
  refine v_get (C := RX1) (T := TX1) (N := 19) (ci := 1) (v := .int (σ 35 6)) 35 6 hX dX1_become_50 mw_125 rfl inlX1 rfl (lt_b rfl) (lt_b rfl) rfl rfl ?_
  refine v_put (C := RX1) (T := TX1) (N := 19) (ci := 1) (ty := .int) tyX1 13 6 hX dX1_become_53 mw_125 rfl inlX1 tyX1_ok nmX1 rfl (lt_b rfl) (lt_b rfl) rfl (tyX1_ok 6 (lt_b rfl)) rfl rfl rfl (lt_b rfl) rfl ?_
  refine v_aload_n 0 0 hX dX1_become_56 rfl rfl ?_
  refine v_aload_n 1 1 hX dX1_become_57 rfl rfl ?_
  refine v_get (C := RX1) (T := TX1) (N := 19) (ci := 1) (v := .int (σ 35 7)) 35 7 hX dX1_become_58 mw_129 rfl inlX1 rfl (lt_b rfl) (lt_b rfl) rfl rfl ?_
  refine v_put (C := RX1) (T := TX1) (N := 19) (ci := 1) (ty := .int) tyX1 13 7 hX dX1_become_61 mw_129 rfl inlX1 tyX1_ok nmX1 rfl (lt_b rfl) (lt_b rfl) rfl (tyX1_ok 7 (lt_b rfl)) rfl rfl rfl (lt_b rfl) rfl ?_
  refine v_aload_n 0 0 hX dX1_become_64 rfl rfl ?_
  refine v_aload_n 1 1 hX dX1_become_65 rfl rfl ?_
  refine v_get (C := RX1) (T := TX1) (N := 19) (ci := 1) (v := .int (σ 35 8)) 35 8 hX dX1_become_66 mw_134 rfl inlX1 rfl (lt_b rfl) (lt_b rfl) rfl rfl ?_
  refine v_put (C := RX1) (T := TX1) (N := 19) (ci := 1) (ty := .int) tyX1 13 8 hX dX1_become_69 mw_134 rfl inlX1 tyX1_ok nmX1 rfl (lt_b rfl) (lt_b rfl) rfl (tyX1_ok 8 (lt_b rfl)) rfl rfl rfl (lt_b rfl) rfl ?_
  refine v_aload_n 1 1 hX dX1_become_72 rfl rfl ?_
  refine v_get (C := RX1) (T := TX1) (N := 19) (ci := 1) (v := .ref (ad 36)) 35 9 hX dX1_become_73 mw_138 rfl inlX1 rfl (lt_b rfl) (lt_b rfl) rfl rfl ?_
  refine v_iconst 0 hX dX1_become_76 (by decide) ?_
  refine v_aload_n 0 0 hX dX1_become_77 rfl rfl ?_
  refine v_get (C := RX1) (T := TX1) (N := 19) (ci := 1) (v := .ref (ad 14)) 13 9 hX dX1_become_78 mw_138 rfl inlX1 rfl (lt_b rfl) (lt_b rfl) rfl rfl ?_
  refine v_iconst 0 hX dX1_become_81 (by decide) ?_
  refine v_iconst 4 hX dX1_become_82 (by decide) ?_
  obtain ⟨hc2, hf⟩ := gd_some hf
  refine v_cpy (rest := []) 36 14 hX dX1_become_83 mw_460 mw_362 mw_361 mw_66 (lt_b rfl) (lt_b rfl) (fun _ => rfl) (fun _ => rfl) hc2 (Nat.le_of_ble_eq_true rfl) (Nat.le_of_ble_eq_true rfl) ?_
  refine v_aload_n 1 1 hX dX1_become_86 rfl rfl ?_
  refine v_get (C := RX1) (T := TX1) (N := 19) (ci := 1) (v := .ref (ad 37)) 35 10 hX dX1_become_87 mw_141 rfl inlX1 rfl (lt_b rfl) (lt_b rfl) rfl rfl ?_
  refine v_iconst 0 hX dX1_become_90 (by decide) ?_
  refine v_aload_n 0 0 hX dX1_become_91 rfl rfl ?_
  refine v_get (C := RX1) (T := TX1) (N := 19) (ci := 1) (v := .ref (ad 15)) 13 10 hX dX1_become_92 mw_141 rfl inlX1 rfl (lt_b rfl) (lt_b rfl) rfl rfl ?_
  refine v_iconst 0 hX dX1_become_95 (by decide) ?_
  refine v_iconst 4 hX dX1_become_96 (by decide) ?_
  obtain ⟨hc3, hf⟩ := gd_some hf
  refine v_cpy (rest := []) 37 15 hX dX1_become_97 mw_460 mw_362 mw_361 mw_66 (lt_b rfl) (lt_b rfl) (fun _ => rfl) (fun _ => rfl) hc3 (Nat.le_of_ble_eq_true rfl) (Nat.le_of_ble_eq_true rfl) ?_
  refine v_aload_n 1 1 hX dX1_become_100 rfl rfl ?_
  refine v_get (C := RX1) (T := TX1) (N := 19) (ci := 1) (v := .ref (ad 38)) 35 11 hX dX1_become_101 mw_146 rfl inlX1 rfl (lt_b rfl) (lt_b rfl) rfl rfl ?_
  refine v_iconst 0 hX dX1_become_104 (by decide) ?_
  refine v_aload_n 0 0 hX dX1_become_105 rfl rfl ?_
  refine v_get (C := RX1) (T := TX1) (N := 19) (ci := 1) (v := .ref (ad 16)) 13 11 hX dX1_become_106 mw_146 rfl inlX1 rfl (lt_b rfl) (lt_b rfl) rfl rfl ?_
  refine v_iconst 0 hX dX1_become_109 (by decide) ?_
  refine v_bipush 10 hX dX1_become_110 (by decide) ?_
  obtain ⟨hc4, hf⟩ := gd_some hf
  refine v_cpy (rest := []) 38 16 hX dX1_become_112 mw_460 mw_362 mw_361 mw_66 (lt_b rfl) (lt_b rfl) (fun _ => rfl) (fun _ => rfl) hc4 (Nat.le_of_ble_eq_true rfl) (Nat.le_of_ble_eq_true rfl) ?_
  refine v_aload_n 1 1 hX dX1_become_115 rfl rfl ?_
  refine v_get (C := RX1) (T := TX1) (N := 19) (ci := 1) (v := .ref (ad 39)) 35 12 hX dX1_become_116 mw_148 rfl inlX1 rfl (lt_b rfl) (lt_b rfl) rfl rfl ?_
  refine v_iconst 0 hX dX1_become_119 (by decide) ?_
  refine v_aload_n 0 0 hX dX1_become_120 rfl rfl ?_
  refine v_get (C := RX1) (T := TX1) (N := 19) (ci := 1) (v := .ref (ad 17)) 13 12 hX dX1_become_121 mw_148 rfl inlX1 rfl (lt_b rfl) (lt_b rfl) rfl rfl ?_
  refine v_iconst 0 hX dX1_become_124 (by decide) ?_
  refine v_bipush 10 hX dX1_become_125 (by decide) ?_
  obtain ⟨hc5, hf⟩ := gd_some hf
  refine v_cpy (rest := []) 39 17 hX dX1_become_127 mw_460 mw_362 mw_361 mw_66 (lt_b rfl) (lt_b rfl) (fun _ => rfl) (fun _ => rfl) hc5 (Nat.le_of_ble_eq_true rfl) (Nat.le_of_ble_eq_true rfl) ?_
  refine v_aload_n 1 1 hX dX1_become_130 rfl rfl ?_
  refine v_get (C := RX1) (T := TX1) (N := 19) (ci := 1) (v := .ref (ad 40)) 35 13 hX dX1_become_131 mw_152 rfl inlX1 rfl (lt_b rfl) (lt_b rfl) rfl rfl ?_
  refine v_iconst 0 hX dX1_become_134 (by decide) ?_
  refine v_aload_n 0 0 hX dX1_become_135 rfl rfl ?_
  refine v_get (C := RX1) (T := TX1) (N := 19) (ci := 1) (v := .ref (ad 18)) 13 13 hX dX1_become_136 mw_152 rfl inlX1 rfl (lt_b rfl) (lt_b rfl) rfl rfl ?_
  refine v_iconst 0 hX dX1_become_139 (by decide) ?_
  refine v_bipush 10 hX dX1_become_140 (by decide) ?_
  obtain ⟨hc6, hf⟩ := gd_some hf
  refine v_cpy (rest := []) 40 18 hX dX1_become_142 mw_460 mw_362 mw_361 mw_66 (lt_b rfl) (lt_b rfl) (fun _ => rfl) (fun _ => rfl) hc6 (Nat.le_of_ble_eq_true rfl) (Nat.le_of_ble_eq_true rfl) ?_
  refine v_aload_n 1 1 hX dX1_become_145 rfl rfl ?_
  refine v_get (C := RX1) (T := TX1) (N := 19) (ci := 1) (v := .ref (ad 41)) 35 14 hX dX1_become_146 mw_155 rfl inlX1 rfl (lt_b rfl) (lt_b rfl) rfl rfl ?_
  refine v_iconst 0 hX dX1_become_149 (by decide) ?_
  refine v_aload_n 0 0 hX dX1_become_150 rfl rfl ?_
  refine v_get (C := RX1) (T := TX1) (N := 19) (ci := 1) (v := .ref (ad 19)) 13 14 hX dX1_become_151 mw_155 rfl inlX1 rfl (lt_b rfl) (lt_b rfl) rfl rfl ?_
  refine v_iconst 0 hX dX1_become_154 (by decide) ?_
  refine v_bipush 10 hX dX1_become_155 (by decide) ?_
  obtain ⟨hc7, hf⟩ := gd_some hf
  refine v_cpy (rest := []) 41 19 hX dX1_become_157 mw_460 mw_362 mw_361 mw_66 (lt_b rfl) (lt_b rfl) (fun _ => rfl) (fun _ => rfl) hc7 (Nat.le_of_ble_eq_true rfl) (Nat.le_of_ble_eq_true rfl) ?_
  refine v_aload_n 1 1 hX dX1_become_160 rfl rfl ?_
  refine v_get (C := RX1) (T := TX1) (N := 19) (ci := 1) (v := .ref (ad 42)) 35 15 hX dX1_become_161 mw_158 rfl inlX1 rfl (lt_b rfl) (lt_b rfl) rfl rfl ?_
  refine v_iconst 0 hX dX1_become_164 (by decide) ?_
  refine v_aload_n 0 0 hX dX1_become_165 rfl rfl ?_
  refine v_get (C := RX1) (T := TX1) (N := 19) (ci := 1) (v := .ref (ad 20)) 13 15 hX dX1_become_166 mw_158 rfl inlX1 rfl (lt_b rfl) (lt_b rfl) rfl rfl ?_
  refine v_iconst 0 hX dX1_become_169 (by decide) ?_
  refine v_iconst 5 hX dX1_become_170 (by decide) ?_
  obtain ⟨hc8, hf⟩ := gd_some hf
  refine v_cpy (rest := []) 42 20 hX dX1_become_171 mw_460 mw_362 mw_361 mw_66 (lt_b rfl) (lt_b rfl) (fun _ => rfl) (fun _ => rfl) hc8 (Nat.le_of_ble_eq_true rfl) (Nat.le_of_ble_eq_true rfl) ?_
  refine v_aload_n 1 1 hX dX1_become_174 rfl rfl ?_
  refine v_get (C := RX1) (T := TX1) (N := 19) (ci := 1) (v := .ref (ad 43)) 35 16 hX dX1_become_175 mw_160 rfl inlX1 rfl (lt_b rfl) (lt_b rfl) rfl rfl ?_
  refine v_iconst 0 hX dX1_become_178 (by decide) ?_
  refine v_aload_n 0 0 hX dX1_become_179 rfl rfl ?_
  refine v_get (C := RX1) (T := TX1) (N := 19) (ci := 1) (v := .ref (ad 21)) 13 16 hX dX1_become_180 mw_160 rfl inlX1 rfl (lt_b rfl) (lt_b rfl) rfl rfl ?_
  refine v_iconst 0 hX dX1_become_183 (by decide) ?_
  refine v_iconst 5 hX dX1_become_184 (by decide) ?_
  obtain ⟨hc9, hf⟩ := gd_some hf
  refine v_cpy (rest := []) 43 21 hX dX1_become_185 mw_460 mw_362 mw_361 mw_66 (lt_b rfl) (lt_b rfl) (fun _ => rfl) (fun _ => rfl) hc9 (Nat.le_of_ble_eq_true rfl) (Nat.le_of_ble_eq_true rfl) ?_
  refine v_aload_n 1 1 hX dX1_become_188 rfl rfl ?_
  refine v_get (C := RX1) (T := TX1) (N := 19) (ci := 1) (v := .ref (ad 44)) 35 17 hX dX1_become_189 mw_162 rfl inlX1 rfl (lt_b rfl) (lt_b rfl) rfl rfl ?_
  refine v_iconst 0 hX dX1_become_192 (by decide) ?_
  refine v_aload_n 0 0 hX dX1_become_193 rfl rfl ?_
  refine v_get (C := RX1) (T := TX1) (N := 19) (ci := 1) (v := .ref (ad 22)) 13 17 hX dX1_become_194 mw_162 rfl inlX1 rfl (lt_b rfl) (lt_b rfl) rfl rfl ?_
  refine v_iconst 0 hX dX1_become_197 (by decide) ?_
  refine v_iconst 5 hX dX1_become_198 (by decide) ?_
  obtain ⟨hc10, hf⟩ := gd_some hf
  refine v_cpy (rest := []) 44 22 hX dX1_become_199 mw_460 mw_362 mw_361 mw_66 (lt_b rfl) (lt_b rfl) (fun _ => rfl) (fun _ => rfl) hc10 (Nat.le_of_ble_eq_true rfl) (Nat.le_of_ble_eq_true rfl) ?_
  refine v_aload_n 1 1 hX dX1_become_202 rfl rfl ?_
  refine v_get (C := RX1) (T := TX1) (N := 19) (ci := 1) (v := .ref (ad 45)) 35 18 hX dX1_become_203 mw_164 rfl inlX1 rfl (lt_b rfl) (lt_b rfl) rfl rfl ?_
  refine v_iconst 0 hX dX1_become_206 (by decide) ?_
  refine v_aload_n 0 0 hX dX1_become_207 rfl rfl ?_
  refine v_get (C := RX1) (T := TX1) (N := 19) (ci := 1) (v := .ref (ad 23)) 13 18 hX dX1_become_208 mw_164 rfl inlX1 rfl (lt_b rfl) (lt_b rfl) rfl rfl ?_
  refine v_iconst 0 hX dX1_become_211 (by decide) ?_
  refine v_iconst 5 hX dX1_become_212 (by decide) ?_
  obtain ⟨hc11, hf⟩ := gd_some hf
  refine v_cpy (rest := []) 45 23 hX dX1_become_213 mw_460 mw_362 mw_361 mw_66 (lt_b rfl) (lt_b rfl) (fun _ => rfl) (fun _ => rfl) hc11 (Nat.le_of_ble_eq_true rfl) (Nat.le_of_ble_eq_true rfl) ?_
  obtain rfl := Option.some.inj hf
  exact v_vret hX dX1_become_216
set_option maxHeartbeats 4000000 in
set_option maxRecDepth 100000 in
theorem s_X0_keep_45 {P : PT} {M : MT} {D : va_G} {cs : ClassId × ClassId × ClassId} {ad : Nat → Nat} {ts : Nat × Nat × Nat} (hX : VOk P M (xW D cs ad ts) 3 cX0_keep RX0 none 1)    (z : Mem)  (σ : Mem) (x1 : Int32) (x2 : Int32) (hf : f_X0_keep_45  σ x1 x2 = some z) : V P M (xW D cs ad ts) 3 (QV P M (xW D cs ad ts) z) 45 [(0, .ref (ad 59)), (1, .int x1), (2, .int x2)] [] σ := by
  unfold f_X0_keep_45 at hf
  refine v_aload_n 0 0 hX dX0_keep_45 rfl rfl ?_
  refine v_get (C := RX0) (T := TX0) (N := 3) (ci := 0) (v := .ref (ad 60)) 59 0 hX dX0_keep_46 mw_240 rfl inlX0 rfl (lt_b rfl) (lt_b rfl) rfl rfl ?_
  refine v_aload_n 0 0 hX dX0_keep_49 rfl rfl ?_
  refine v_get (C := RX0) (T := TX0) (N := 3) (ci := 0) (v := .int (σ 59 2)) 59 2 hX dX0_keep_50 mw_242 rfl inlX0 rfl (lt_b rfl) (lt_b rfl) rfl rfl ?_
  refine v_iload_n 1 1 hX dX0_keep_53 rfl rfl ?_
  obtain ⟨hi3, hf⟩ := gd_some hf
  refine v_ast 60 hX dX0_keep_54 (lt_b rfl) (fun _ => rfl) hi3 ?_
  refine v_aload_n 0 0 hX dX0_keep_55 rfl rfl ?_
  refine v_get (C := RX0) (T := TX0) (N := 3) (ci := 0) (v := .ref (ad 61)) 59 1 hX dX0_keep_56 mw_241 rfl inlX0 rfl (lt_b rfl) (lt_b rfl) rfl rfl ?_
  refine v_aload_n 0 0 hX dX0_keep_59 rfl rfl ?_
  refine v_get (C := RX0) (T := TX0) (N := 3) (ci := 0) (v := .int (σ 59 2)) 59 2 hX dX0_keep_60 mw_242 rfl inlX0 rfl (lt_b rfl) (lt_b rfl) rfl rfl ?_
  refine v_iload_n 2 2 hX dX0_keep_63 rfl rfl ?_
  obtain ⟨hi4, hf⟩ := gd_some hf
  refine v_ast 61 hX dX0_keep_64 (lt_b rfl) (fun _ => rfl) hi4 ?_
  refine v_aload_n 0 0 hX dX0_keep_65 rfl rfl ?_
  refine v_dup hX dX0_keep_66 rfl ?_
  refine v_get (C := RX0) (T := TX0) (N := 3) (ci := 0) (v := .int (σ 59 2)) 59 2 hX dX0_keep_67 mw_242 rfl inlX0 rfl (lt_b rfl) (lt_b rfl) rfl rfl ?_
  refine v_iconst 1 hX dX0_keep_70 (by decide) ?_
  refine v_iadd hX dX0_keep_71 ?_
  refine v_put (C := RX0) (T := TX0) (N := 3) (ci := 0) (ty := .int) tyX0 59 2 hX dX0_keep_72 mw_242 rfl inlX0 tyX0_ok nmX0 rfl (lt_b rfl) (lt_b rfl) rfl (tyX0_ok 2 (lt_b rfl)) rfl rfl rfl (lt_b rfl) rfl ?_
  obtain rfl := Option.some.inj hf
  exact v_vret hX dX0_keep_75
set_option maxHeartbeats 4000000 in
set_option maxRecDepth 100000 in
theorem c_X0_keep {l : Launch} {D : va_G} {cs : ClassId × ClassId × ClassId} {ad : Nat → Nat} {ts : Nat × Nat × Nat} (σ : Mem)   (x1 : Int32) (x2 : Int32) {z : Mem} (hf : f_X0_keep σ x1 x2 = some z) : CtV l (xW D cs ad ts) 1 yX0_keep cX0_keep 3 [.ref (ad 59), .int x1, .int x2] σ z := by
  refine ct_V RX0 [(0, .ref (ad 59)), (1, .int x1), (2, .int x2)] (by decide +kernel) rfl rfl (Nat.le_of_ble_eq_true rfl) ?_
  intro P M hl0 hX
  unfold f_X0_keep at hf
  refine v_aload_n 0 0 hX dX0_keep_0 rfl rfl ?_
  refine v_get (C := RX0) (T := TX0) (N := 3) (ci := 0) (v := .int (σ 59 2)) 59 2 hX dX0_keep_1 mw_242 rfl inlX0 rfl (lt_b rfl) (lt_b rfl) rfl rfl ?_
  refine v_bipush 24 hX dX0_keep_4 (by decide) ?_
  refine v_icmp_lt 45 hX dX0_keep_6 (by decide) (fun c => ?_) (fun c => ?_)
  · have hf := opt_t c hf
    exact (s_X0_keep_45 hX  z  σ x1 x2 hf)
  · have hf := opt_f c hf
    refine v_aload_n 0 0 hX dX0_keep_9 rfl rfl ?_
    refine v_get (C := RX0) (T := TX0) (N := 3) (ci := 0) (v := .ref (ad 60)) 59 0 hX dX0_keep_10 mw_240 rfl inlX0 rfl (lt_b rfl) (lt_b rfl) rfl rfl ?_
    refine v_iconst 1 hX dX0_keep_13 (by decide) ?_
    refine v_aload_n 0 0 hX dX0_keep_14 rfl rfl ?_
    refine v_get (C := RX0) (T := TX0) (N := 3) (ci := 0) (v := .ref (ad 60)) 59 0 hX dX0_keep_15 mw_240 rfl inlX0 rfl (lt_b rfl) (lt_b rfl) rfl rfl ?_
    refine v_iconst 0 hX dX0_keep_18 (by decide) ?_
    refine v_bipush 23 hX dX0_keep_19 (by decide) ?_
    obtain ⟨hc1, hf⟩ := gd_some hf
    refine v_cpy (rest := []) 60 60 hX dX0_keep_21 mw_490 mw_362 mw_361 mw_66 (lt_b rfl) (lt_b rfl) (fun _ => rfl) (fun _ => rfl) hc1 (Nat.le_of_ble_eq_true rfl) (Nat.le_of_ble_eq_true rfl) ?_
    refine v_aload_n 0 0 hX dX0_keep_24 rfl rfl ?_
    refine v_get (C := RX0) (T := TX0) (N := 3) (ci := 0) (v := .ref (ad 61)) 59 1 hX dX0_keep_25 mw_241 rfl inlX0 rfl (lt_b rfl) (lt_b rfl) rfl rfl ?_
    refine v_iconst 1 hX dX0_keep_28 (by decide) ?_
    refine v_aload_n 0 0 hX dX0_keep_29 rfl rfl ?_
    refine v_get (C := RX0) (T := TX0) (N := 3) (ci := 0) (v := .ref (ad 61)) 59 1 hX dX0_keep_30 mw_241 rfl inlX0 rfl (lt_b rfl) (lt_b rfl) rfl rfl ?_
    refine v_iconst 0 hX dX0_keep_33 (by decide) ?_
    refine v_bipush 23 hX dX0_keep_34 (by decide) ?_
    obtain ⟨hc2, hf⟩ := gd_some hf
    refine v_cpy (rest := []) 61 61 hX dX0_keep_36 mw_490 mw_362 mw_361 mw_66 (lt_b rfl) (lt_b rfl) (fun _ => rfl) (fun _ => rfl) hc2 (Nat.le_of_ble_eq_true rfl) (Nat.le_of_ble_eq_true rfl) ?_
    refine v_aload_n 0 0 hX dX0_keep_39 rfl rfl ?_
    refine v_bipush 23 hX dX0_keep_40 (by decide) ?_
    refine v_put (C := RX0) (T := TX0) (N := 3) (ci := 0) (ty := .int) tyX0 59 2 hX dX0_keep_42 mw_242 rfl inlX0 tyX0_ok nmX0 rfl (lt_b rfl) (lt_b rfl) rfl (tyX0_ok 2 (lt_b rfl)) rfl rfl rfl (lt_b rfl) rfl ?_
    exact (s_X0_keep_45 hX  z  (mst (mcpy (mcpy σ 60 60 ((1 : Int32).toNatClampNeg) ((0 : Int32).toNatClampNeg) ((23 : Int32).toNatClampNeg)) 61 61 ((1 : Int32).toNatClampNeg) ((0 : Int32).toNatClampNeg) ((23 : Int32).toNatClampNeg)) 59 2 23) x1 x2 hf)
set_option maxHeartbeats 4000000 in
set_option maxRecDepth 100000 in
theorem c_X5_lay {l : Launch} {D : va_G} {cs : ClassId × ClassId × ClassId} {ad : Nat → Nat} {ts : Nat × Nat × Nat} (σ : Mem) (fuel : Nat)  (x1 : Int32) (x2 : Int32) (x3 : Int32) {z : Mem} (hf : f_X5_lay fuel σ x1 x2 x3 = some z) : CtV l (xW D cs ad ts) 1 yX5_lay cX5_lay 4 [.ref (ad 1), .int x1, .int x2, .int x3] σ z := by
  refine ct_V RX5 [(0, .ref (ad 1)), (1, .int x1), (2, .int x2), (3, .int x3)] (by decide +kernel) rfl rfl (Nat.le_of_ble_eq_true rfl) ?_
  intro P M hl0 hX
  unfold f_X5_lay at hf
  refine v_aload_n 0 0 hX dX5_lay_0 rfl rfl ?_
  refine v_get (C := RX5) (T := TX5) (N := 3) (ci := 5) (v := .ref (ad 2)) 1 0 hX dX5_lay_1 mw_85 rfl inlX5 rfl (lt_b rfl) (lt_b rfl) rfl rfl ?_
  refine v_iload_n 1 1 hX dX5_lay_4 rfl rfl ?_
  refine v_iload_n 2 2 hX dX5_lay_5 rfl rfl ?_
  obtain ⟨hi1, hf⟩ := gd_some hf
  refine v_ast 2 hX dX5_lay_6 (lt_b rfl) (fun _ => rfl) hi1 ?_
  refine v_aload_n 0 0 hX dX5_lay_7 rfl rfl ?_
  refine v_get (C := RX5) (T := TX5) (N := 3) (ci := 5) (v := .ref (ad 3)) 1 1 hX dX5_lay_8 mw_87 rfl inlX5 rfl (lt_b rfl) (lt_b rfl) rfl rfl ?_
  refine v_iload_n 1 1 hX dX5_lay_11 rfl rfl ?_
  refine v_iload_n 3 3 hX dX5_lay_12 rfl rfl ?_
  obtain ⟨hi2, hf⟩ := gd_some hf
  refine v_ast 3 hX dX5_lay_13 (lt_b rfl) (fun _ => rfl) hi2 ?_
  refine v_aload_n 0 0 hX dX5_lay_14 rfl rfl ?_
  refine v_get (C := RX5) (T := TX5) (N := 3) (ci := 5) (v := .ref (ad 4)) 1 2 hX dX5_lay_15 mw_89 rfl inlX5 rfl (lt_b rfl) (lt_b rfl) rfl rfl ?_
  refine v_iload_n 1 1 hX dX5_lay_18 rfl rfl ?_
  obtain ⟨hi3, hf⟩ := gd_some hf
  refine v_aald hX dX5_lay_19 hi3 ?_
  refine v_iconst 0 hX dX5_lay_20 (by decide) ?_
  obtain ⟨v4, hc, hf⟩ := opt_b hf
  refine v_callSv (rest := []) (As := [.ref (ad (5 + x1.toNatClampNeg)), .int 0]) hX dX5_lay_21 (c_J7_fill_r (mst (mst σ 2 x1.toNatClampNeg x2) 3 x1.toNatClampNeg x3) fuel x1.toNatClampNeg (inB_lt hi3) 0 hc) rfl rfl mw_334 mw_65 mw_333 mw_335 gAll ds_J7_fill_53178 rfl ⟨Nat.le_of_ble_eq_true rfl, Nat.le_of_ble_eq_true rfl⟩ (Nat.le_of_ble_eq_true rfl) ?_
  obtain rfl := Option.some.inj hf
  exact v_vret hX dX5_lay_24
set_option maxHeartbeats 4000000 in
set_option maxRecDepth 100000 in
theorem s_X5_present_4 {P : PT} {M : MT} {D : va_G} {cs : ClassId × ClassId × ClassId} {ad : Nat → Nat} {ts : Nat × Nat × Nat} (hX : VOk P M (xW D cs ad ts) 3 cX5_present RX5 (some .int) 1) (fuel : Nat) (σ : Mem)   (z : Int32)  : ∀ (n : Nat) (x1 : Int32) (x2 : Int32), f_X5_present_4 fuel σ n x1 x2 = some z → V P M (xW D cs ad ts) 3 (QI P M (xW D cs ad ts) z σ) 4 [(0, .ref (ad 1)), (1, .int x1), (2, .int x2)] [] σ := by
  intro n
  induction n with
  | zero =>
    intro x1 x2 hf
    cases hf
  | succ n hk4 =>
    intro x1 x2 hf
    rw [f_X5_present_4] at hf
    refine v_iload_n 2 2 hX dX5_present_4 rfl rfl ?_
    refine v_bipush 8 hX dX5_present_5 (by decide) ?_
    refine v_icmp_ge 27 hX dX5_present_7 (by decide) (fun c => ?_) (fun c => ?_)
    · have hf := opt_t c hf
      refine v_iload_n 1 1 hX dX5_present_27 rfl rfl ?_
      obtain rfl := Option.some.inj hf
      exact v_iret (r := x1) hX dX5_present_28 rfl
    · have hf := opt_f c hf
      refine v_aload_n 0 0 hX dX5_present_10 rfl rfl ?_
      refine v_iload_n 2 2 hX dX5_present_11 rfl rfl ?_
      obtain ⟨v1, hc, hf⟩ := opt_b hf
      refine v_callVi (rest := []) (As := [.int x2]) (C := RX5) (T := TX5) (N := 3) (ci := 5) 1 hX dX5_present_12 (c_X5_isMissing σ x2 hc) rfl rfl (lt_b rfl) rfl rfl rfl mw_345 mw_346 mw_58 mw_824 mw_347 gAll ds_X5_isMissing rfl ⟨Nat.le_of_ble_eq_true rfl, Nat.le_of_ble_eq_true rfl⟩ (Nat.le_of_ble_eq_true rfl) ?_
      refine v_if_ne 21 hX dX5_present_15 (by decide) (fun c => ?_) (fun c => ?_)
      · have hf := opt_f c hf
        refine v_iinc 2 (x2 + 1) [(2, .int (x2 + 1)), (0, .ref (ad 1)), (1, .int x1)] hX dX5_present_21 rfl rfl (lt_b rfl) rfl ?_
        refine v_goto 4 hX dX5_present_24 (by decide) ?_
        exact v_sub [1, 2, 0] rfl (hk4 x1 (x2 + 1) hf)
      · have hf := opt_t c hf
        refine v_iinc 1 (x1 + 1) [(1, .int (x1 + 1)), (0, .ref (ad 1)), (2, .int x2)] hX dX5_present_18 rfl rfl (lt_b rfl) rfl ?_
        refine v_iinc 2 (x2 + 1) [(2, .int (x2 + 1)), (1, .int (x1 + 1)), (0, .ref (ad 1))] hX dX5_present_21 rfl rfl (lt_b rfl) rfl ?_
        refine v_goto 4 hX dX5_present_24 (by decide) ?_
        exact v_sub [2, 1, 0] rfl (hk4 (x1 + 1) (x2 + 1) hf)
set_option maxHeartbeats 4000000 in
set_option maxRecDepth 100000 in
theorem c_X5_present {l : Launch} {D : va_G} {cs : ClassId × ClassId × ClassId} {ad : Nat → Nat} {ts : Nat × Nat × Nat} (fuel : Nat) (σ : Mem)   {z : Int32} (hf : f_X5_present fuel σ = some z) : CtI l (xW D cs ad ts) 1 yX5_present cX5_present 3 (some .int) [.ref (ad 1)] σ z σ := by
  refine ct_I RX5 [(0, .ref (ad 1))] (by decide +kernel) rfl rfl (Nat.le_of_ble_eq_true rfl) ?_
  intro P M hl0 hX
  unfold f_X5_present at hf
  refine v_iconst 0 hX dX5_present_0 (by decide) ?_
  refine v_istore_n 1 [(1, .int 0), (0, .ref (ad 1))] hX dX5_present_1 rfl (lt_b rfl) rfl ?_
  refine v_iconst 0 hX dX5_present_2 (by decide) ?_
  refine v_istore_n 2 [(2, .int 0), (1, .int 0), (0, .ref (ad 1))] hX dX5_present_3 rfl (lt_b rfl) rfl ?_
  exact v_sub [2, 1, 0] rfl (s_X5_present_4 hX fuel σ z  fuel 0 0 hf)
set_option maxHeartbeats 4000000 in
set_option maxRecDepth 100000 in
theorem c_X4_readSign {l : Launch} {D : va_G} {cs : ClassId × ClassId × ClassId} {ad : Nat → Nat} {ts : Nat × Nat × Nat} (σ : Mem)   (x1 : Int32) {z : Int32 × Mem} (hf : f_X4_readSign σ x1 = some z) : CtI l (xW D cs ad ts) 1 yX4_readSign cX4_readSign 2 (some .boolean) [.ref (ad 46), .int x1] σ z.1 z.2 := by
  refine ct_I RX4 [(0, .ref (ad 46)), (1, .int x1)] (by decide +kernel) rfl rfl (Nat.le_of_ble_eq_true rfl) ?_
  intro P M hl0 hX
  unfold f_X4_readSign at hf
  refine v_aload_n 0 0 hX dX4_readSign_0 rfl rfl ?_
  obtain ⟨v1, hc, hf⟩ := opt_b hf
  refine v_callVi (rest := []) (As := []) (C := RX4) (T := TX4) (N := 5) (ci := 4) 46 hX dX4_readSign_1 (c_X4_next σ hc) rfl rfl (lt_b rfl) rfl rfl rfl mw_398 mw_4 mw_60 mw_396 mw_399 gAll ds_X4_next rfl ⟨Nat.le_of_ble_eq_true rfl, Nat.le_of_ble_eq_true rfl⟩ (Nat.le_of_ble_eq_true rfl) ?_
  refine v_iload_n 1 1 hX dX4_readSign_4 rfl rfl ?_
  refine v_icmp_eq 14 hX dX4_readSign_5 (by decide) (fun c => ?_) (fun c => ?_)
  · have hf := opt_t c hf
    refine v_aload_n 0 0 hX dX4_readSign_14 rfl rfl ?_
    refine v_dup hX dX4_readSign_15 rfl ?_
    refine v_get (C := RX4) (T := TX4) (N := 5) (ci := 4) (v := .int (σ 46 3)) 46 3 hX dX4_readSign_16 mw_219 rfl inlX4 rfl (lt_b rfl) (lt_b rfl) rfl rfl ?_
    refine v_iconst 1 hX dX4_readSign_19 (by decide) ?_
    refine v_iadd hX dX4_readSign_20 ?_
    refine v_put (C := RX4) (T := TX4) (N := 5) (ci := 4) (ty := .int) tyX4 46 3 hX dX4_readSign_21 mw_219 rfl inlX4 tyX4_ok nmX4 rfl (lt_b rfl) (lt_b rfl) rfl (tyX4_ok 3 (lt_b rfl)) rfl rfl rfl (lt_b rfl) rfl ?_
    refine v_iconst 1 hX dX4_readSign_24 (by decide) ?_
    obtain rfl := Option.some.inj hf
    exact v_iret (r := 1) hX dX4_readSign_25 rfl
  · have hf := opt_f c hf
    refine v_aload_n 0 0 hX dX4_readSign_8 rfl rfl ?_
    refine v_iconst 1 hX dX4_readSign_9 (by decide) ?_
    obtain ⟨v2, hc, hf⟩ := opt_b hf
    refine v_callVi (rest := []) (As := [.int 1]) (C := RX4) (T := TX4) (N := 5) (ci := 4) 46 hX dX4_readSign_10 (c_X4_fail σ 1 hc) rfl rfl (lt_b rfl) rfl rfl rfl mw_402 mw_5 mw_60 mw_400 mw_403 gAll ds_X4_fail rfl ⟨Nat.le_of_ble_eq_true rfl, Nat.le_of_ble_eq_true rfl⟩ (Nat.le_of_ble_eq_true rfl) ?_
    obtain ⟨hg3, hf⟩ := gd_some hf
    obtain rfl := Option.some.inj hf
    exact v_iret (r := v2.1) hX dX4_readSign_13 (isB_n hg3)
