set_option maxHeartbeats 4000000 in
set_option maxRecDepth 100000 in
theorem s_X7_readsOne_98 {P : PT} {M : MT} {D : va_G} {cs : ClassId × ClassId × ClassId} {ad : Nat → Nat} (hX : VOk P M (mW D cs ad) 2 cX7_readsOne RX7 (some .boolean) 5) (fuel : Nat)   (z : Int32 × Mem)  (σ : Mem) (hf : f_X7_readsOne_98 fuel σ = some z) : V P M (mW D cs ad) 2 (QI P M (mW D cs ad) z.1 z.2) 98 [(0, .ref (ad 0))] [] σ := by
  unfold f_X7_readsOne_98 at hf
  refine v_aload_n 0 0 hX dX7_readsOne_98 rfl rfl ?_
  refine v_get (C := RX7) (T := TX7) (N := 22) (ci := 7) (v := .ref (ad 10)) 0 20 hX dX7_readsOne_99 mw_856 rfl inlX7 rfl (lt_b rfl) (lt_b rfl) rfl rfl ?_
  refine v_iconst 2 hX dX7_readsOne_102 (by decide) ?_
  refine v_aldc (v := σ 10 2) 10 2 hX dX7_readsOne_103 (lt_b rfl) ((fun _ => rfl) _) ib_2_85 tn_2 rfl ?_
  refine v_if_le 114 hX dX7_readsOne_104 (by decide) (fun c => ?_) (fun c => ?_)
  · have hf := opt_t c hf
    refine v_aload_n 0 0 hX dX7_readsOne_114 rfl rfl ?_
    refine v_iconst 1 hX dX7_readsOne_115 (by decide) ?_
    obtain ⟨v11, hc, hf⟩ := opt_b hf
    refine v_callVi (rest := []) (As := [.int 1]) (C := RX7) (T := TX7) (N := 22) (ci := 7) 0 hX dX7_readsOne_116 (c_X7_fails σ 1 hc) rfl rfl (lt_b rfl) rfl rfl rfl mw_973 mw_33 mw_64 mw_971 mw_974 gAll ds_X7_fails rfl ⟨Nat.le_of_ble_eq_true rfl, Nat.le_of_ble_eq_true rfl⟩ (Nat.le_of_ble_eq_true rfl) ?_
    obtain ⟨hg12, hf⟩ := gd_some hf
    obtain rfl := Option.some.inj hf
    exact v_iret (r := v11.1) hX dX7_readsOne_119 (isB_n hg12)
  · have hf := opt_f c hf
    refine v_aload_n 0 0 hX dX7_readsOne_107 rfl rfl ?_
    obtain ⟨v13, hc, hf⟩ := opt_b hf
    refine v_callVi (rest := []) (As := []) (C := RX7) (T := TX7) (N := 22) (ci := 7) 0 hX dX7_readsOne_108 (c_X7_readsDeed σ fuel hc) rfl rfl (lt_b rfl) rfl rfl rfl mw_1000 mw_39 mw_64 mw_998 mw_1001 gAll ds_X7_readsDeed rfl ⟨Nat.le_of_ble_eq_true rfl, Nat.le_of_ble_eq_true rfl⟩ (Nat.le_of_ble_eq_true rfl) ?_
    refine v_goto 119 hX dX7_readsOne_111 (by decide) ?_
    obtain ⟨hg14, hf⟩ := gd_some hf
    obtain rfl := Option.some.inj hf
    exact v_iret (r := v13.1) hX dX7_readsOne_119 (isB_n hg14)
set_option maxHeartbeats 4000000 in
set_option maxRecDepth 100000 in
theorem s_X7_readsOne_80 {P : PT} {M : MT} {D : va_G} {cs : ClassId × ClassId × ClassId} {ad : Nat → Nat} (hX : VOk P M (mW D cs ad) 2 cX7_readsOne RX7 (some .boolean) 5) (fuel : Nat)   (z : Int32 × Mem)  (σ : Mem) (hf : f_X7_readsOne_80 fuel σ = some z) : V P M (mW D cs ad) 2 (QI P M (mW D cs ad) z.1 z.2) 80 [(0, .ref (ad 0))] [] σ := by
  unfold f_X7_readsOne_80 at hf
  refine v_aload_n 0 0 hX dX7_readsOne_80 rfl rfl ?_
  refine v_bipush 97 hX dX7_readsOne_81 (by decide) ?_
  obtain ⟨v7, hc, hf⟩ := opt_b hf
  refine v_callVi (rest := []) (As := [.int 97]) (C := RX7) (T := TX7) (N := 22) (ci := 7) 0 hX dX7_readsOne_83 (c_X7_isLetter σ 97 hc) rfl rfl (lt_b rfl) rfl rfl rfl mw_969 mw_32 mw_64 mw_967 mw_970 gAll ds_X7_isLetter rfl ⟨Nat.le_of_ble_eq_true rfl, Nat.le_of_ble_eq_true rfl⟩ (Nat.le_of_ble_eq_true rfl) ?_
  refine v_if_ne 98 hX dX7_readsOne_86 (by decide) (fun c => ?_) (fun c => ?_)
  · have hf := opt_f c hf
    exact (s_X7_readsOne_98 hX fuel z  σ hf)
  · have hf := opt_t c hf
    refine v_aload_n 0 0 hX dX7_readsOne_89 rfl rfl ?_
    refine v_bipush 121 hX dX7_readsOne_90 (by decide) ?_
    obtain ⟨v8, hc, hf⟩ := opt_b hf
    refine v_callVi (rest := []) (As := [.int 121]) (C := RX7) (T := TX7) (N := 22) (ci := 7) 0 hX dX7_readsOne_92 (c_X7_isLetter σ 121 hc) rfl rfl (lt_b rfl) rfl rfl rfl mw_969 mw_32 mw_64 mw_967 mw_970 gAll ds_X7_isLetter rfl ⟨Nat.le_of_ble_eq_true rfl, Nat.le_of_ble_eq_true rfl⟩ (Nat.le_of_ble_eq_true rfl) ?_
    refine v_if_eq 114 hX dX7_readsOne_95 (by decide) (fun c => ?_) (fun c => ?_)
    · have hf := opt_t c hf
      refine v_aload_n 0 0 hX dX7_readsOne_114 rfl rfl ?_
      refine v_iconst 1 hX dX7_readsOne_115 (by decide) ?_
      obtain ⟨v9, hc, hf⟩ := opt_b hf
      refine v_callVi (rest := []) (As := [.int 1]) (C := RX7) (T := TX7) (N := 22) (ci := 7) 0 hX dX7_readsOne_116 (c_X7_fails σ 1 hc) rfl rfl (lt_b rfl) rfl rfl rfl mw_973 mw_33 mw_64 mw_971 mw_974 gAll ds_X7_fails rfl ⟨Nat.le_of_ble_eq_true rfl, Nat.le_of_ble_eq_true rfl⟩ (Nat.le_of_ble_eq_true rfl) ?_
      obtain ⟨hg10, hf⟩ := gd_some hf
      obtain rfl := Option.some.inj hf
      exact v_iret (r := v9.1) hX dX7_readsOne_119 (isB_n hg10)
    · have hf := opt_f c hf
      exact (s_X7_readsOne_98 hX fuel z  σ hf)
set_option maxHeartbeats 4000000 in
set_option maxRecDepth 100000 in
theorem s_X7_readsOne_48 {P : PT} {M : MT} {D : va_G} {cs : ClassId × ClassId × ClassId} {ad : Nat → Nat} (hX : VOk P M (mW D cs ad) 2 cX7_readsOne RX7 (some .boolean) 5) (fuel : Nat)   (z : Int32 × Mem)  (σ : Mem) (hf : f_X7_readsOne_48 fuel σ = some z) : V P M (mW D cs ad) 2 (QI P M (mW D cs ad) z.1 z.2) 48 [(0, .ref (ad 0))] [] σ := by
  unfold f_X7_readsOne_48 at hf
  refine v_aload_n 0 0 hX dX7_readsOne_48 rfl rfl ?_
  refine v_bipush 119 hX dX7_readsOne_49 (by decide) ?_
  obtain ⟨v4, hc, hf⟩ := opt_b hf
  refine v_callVi (rest := []) (As := [.int 119]) (C := RX7) (T := TX7) (N := 22) (ci := 7) 0 hX dX7_readsOne_51 (c_X7_isLetter σ 119 hc) rfl rfl (lt_b rfl) rfl rfl rfl mw_969 mw_32 mw_64 mw_967 mw_970 gAll ds_X7_isLetter rfl ⟨Nat.le_of_ble_eq_true rfl, Nat.le_of_ble_eq_true rfl⟩ (Nat.le_of_ble_eq_true rfl) ?_
  refine v_if_eq 80 hX dX7_readsOne_54 (by decide) (fun c => ?_) (fun c => ?_)
  · have hf := opt_t c hf
    exact (s_X7_readsOne_80 hX fuel z  σ hf)
  · have hf := opt_f c hf
    refine v_aload_n 0 0 hX dX7_readsOne_57 rfl rfl ?_
    refine v_get (C := RX7) (T := TX7) (N := 22) (ci := 7) (v := .ref (ad 10)) 0 20 hX dX7_readsOne_58 mw_856 rfl inlX7 rfl (lt_b rfl) (lt_b rfl) rfl rfl ?_
    refine v_iconst 2 hX dX7_readsOne_61 (by decide) ?_
    refine v_aldc (v := σ 10 2) 10 2 hX dX7_readsOne_62 (lt_b rfl) ((fun _ => rfl) _) ib_2_85 tn_2 rfl ?_
    refine v_if_le 80 hX dX7_readsOne_63 (by decide) (fun c => ?_) (fun c => ?_)
    · have hf := opt_t c hf
      exact (s_X7_readsOne_80 hX fuel z  σ hf)
    · have hf := opt_f c hf
      refine v_aload_n 0 0 hX dX7_readsOne_66 rfl rfl ?_
      refine v_get (C := RX7) (T := TX7) (N := 22) (ci := 7) (v := .ref (ad 10)) 0 20 hX dX7_readsOne_67 mw_856 rfl inlX7 rfl (lt_b rfl) (lt_b rfl) rfl rfl ?_
      refine v_iconst 4 hX dX7_readsOne_70 (by decide) ?_
      refine v_aldc (v := σ 10 4) 10 4 hX dX7_readsOne_71 (lt_b rfl) ((fun _ => rfl) _) ib_4_85 tn_4 rfl ?_
      refine v_if_ne 80 hX dX7_readsOne_72 (by decide) (fun c => ?_) (fun c => ?_)
      · have hf := opt_f c hf
        exact (s_X7_readsOne_80 hX fuel z  σ hf)
      · have hf := opt_t c hf
        refine v_aload_n 0 0 hX dX7_readsOne_75 rfl rfl ?_
        obtain ⟨v5, hc, hf⟩ := opt_b hf
        refine v_callVi (rest := []) (As := []) (C := RX7) (T := TX7) (N := 22) (ci := 7) 0 hX dX7_readsOne_76 (c_X7_readsCopy σ fuel hc) rfl rfl (lt_b rfl) rfl rfl rfl mw_996 mw_38 mw_64 mw_994 mw_997 gAll ds_X7_readsCopy rfl ⟨Nat.le_of_ble_eq_true rfl, Nat.le_of_ble_eq_true rfl⟩ (Nat.le_of_ble_eq_true rfl) ?_
        obtain ⟨hg6, hf⟩ := gd_some hf
        obtain rfl := Option.some.inj hf
        exact v_iret (r := v5.1) hX dX7_readsOne_79 (isB_n hg6)
set_option maxHeartbeats 4000000 in
set_option maxRecDepth 100000 in
theorem s_X7_readsOne_19 {P : PT} {M : MT} {D : va_G} {cs : ClassId × ClassId × ClassId} {ad : Nat → Nat} (hX : VOk P M (mW D cs ad) 2 cX7_readsOne RX7 (some .boolean) 5) (fuel : Nat)   (z : Int32 × Mem)  (σ : Mem) (y0 : Int32) (hf : f_X7_readsOne_19 fuel σ y0 = some z) : V P M (mW D cs ad) 2 (QI P M (mW D cs ad) z.1 z.2) 19 [(0, .ref (ad 0))] [.int y0] σ := by
  unfold f_X7_readsOne_19 at hf
  refine v_istore_n 1 [(1, .int y0), (0, .ref (ad 0))] hX dX7_readsOne_19 rfl (lt_b rfl) rfl ?_
  refine v_iload_n 0 1 hX dX7_readsOne_20 rfl rfl ?_
  refine v_if_le 48 hX dX7_readsOne_21 (by decide) (fun c => ?_) (fun c => ?_)
  · have hf := opt_t c hf
    exact v_sub [1] rfl (s_X7_readsOne_48 hX fuel z  σ hf)
  · have hf := opt_f c hf
    refine v_aload_n 1 0 hX dX7_readsOne_24 rfl rfl ?_
    refine v_get (C := RX7) (T := TX7) (N := 22) (ci := 7) (v := .ref (ad 10)) 0 20 hX dX7_readsOne_25 mw_856 rfl inlX7 rfl (lt_b rfl) (lt_b rfl) rfl rfl ?_
    refine v_iconst 3 hX dX7_readsOne_28 (by decide) ?_
    refine v_aldc (v := σ 10 3) 10 3 hX dX7_readsOne_29 (lt_b rfl) ((fun _ => rfl) _) ib_3_85 tn_3 rfl ?_
    refine v_if_ne 48 hX dX7_readsOne_30 (by decide) (fun c => ?_) (fun c => ?_)
    · have hf := opt_f c hf
      exact v_sub [1] rfl (s_X7_readsOne_48 hX fuel z  σ hf)
    · have hf := opt_t c hf
      refine v_aload_n 1 0 hX dX7_readsOne_33 rfl rfl ?_
      refine v_get (C := RX7) (T := TX7) (N := 22) (ci := 7) (v := .ref (ad 10)) 0 20 hX dX7_readsOne_34 mw_856 rfl inlX7 rfl (lt_b rfl) (lt_b rfl) rfl rfl ?_
      refine v_iconst 4 hX dX7_readsOne_37 (by decide) ?_
      refine v_aldc (v := σ 10 4) 10 4 hX dX7_readsOne_38 (lt_b rfl) ((fun _ => rfl) _) ib_4_85 tn_4 rfl ?_
      refine v_if_ne 48 hX dX7_readsOne_39 (by decide) (fun c => ?_) (fun c => ?_)
      · have hf := opt_f c hf
        exact v_sub [1] rfl (s_X7_readsOne_48 hX fuel z  σ hf)
      · have hf := opt_t c hf
        refine v_aload_n 1 0 hX dX7_readsOne_42 rfl rfl ?_
        refine v_iload_n 0 1 hX dX7_readsOne_43 rfl rfl ?_
        obtain ⟨v2, hc, hf⟩ := opt_b hf
        refine v_callVi (rest := []) (As := [.int y0]) (C := RX7) (T := TX7) (N := 22) (ci := 7) 0 hX dX7_readsOne_44 (c_X7_readsHand σ fuel y0 hc) rfl rfl (lt_b rfl) rfl rfl rfl mw_992 mw_37 mw_64 mw_990 mw_993 gAll ds_X7_readsHand rfl ⟨Nat.le_of_ble_eq_true rfl, Nat.le_of_ble_eq_true rfl⟩ (Nat.le_of_ble_eq_true rfl) ?_
        obtain ⟨hg3, hf⟩ := gd_some hf
        obtain rfl := Option.some.inj hf
        exact v_iret (r := v2.1) hX dX7_readsOne_47 (isB_n hg3)
set_option maxHeartbeats 4000000 in
set_option maxRecDepth 100000 in
theorem c_X7_readsOne {l : Launch} {D : va_G} {cs : ClassId × ClassId × ClassId} {ad : Nat → Nat} (σ : Mem) (fuel : Nat)   {z : Int32 × Mem} (hf : f_X7_readsOne fuel σ = some z) : CtI l (mW D cs ad) 5 yX7_readsOne cX7_readsOne 2 (some .boolean) [.ref (ad 0)] σ z.1 z.2 := by
  refine ct_I RX7 [(0, .ref (ad 0))] (by decide +kernel) rfl rfl (Nat.le_of_ble_eq_true rfl) ?_
  intro P M hl0 hX
  unfold f_X7_readsOne at hf
  refine v_aload_n 0 0 hX dX7_readsOne_0 rfl rfl ?_
  refine v_get (C := RX7) (T := TX7) (N := 22) (ci := 7) (v := .int (σ 0 17)) 0 17 hX dX7_readsOne_1 mw_853 rfl inlX7 rfl (lt_b rfl) (lt_b rfl) rfl rfl ?_
  refine v_iconst 1 hX dX7_readsOne_4 (by decide) ?_
  refine v_icmp_ne 18 hX dX7_readsOne_5 (by decide) (fun c => ?_) (fun c => ?_)
  · have hf := opt_f c hf
    refine v_iconst 0 hX dX7_readsOne_18 (by decide) ?_
    exact (s_X7_readsOne_19 hX fuel z  σ 0 hf)
  · have hf := opt_t c hf
    refine v_aload_n 0 0 hX dX7_readsOne_8 rfl rfl ?_
    refine v_get (C := RX7) (T := TX7) (N := 22) (ci := 7) (v := .int (σ 0 18)) 0 18 hX dX7_readsOne_9 mw_854 rfl inlX7 rfl (lt_b rfl) (lt_b rfl) rfl rfl ?_
    obtain ⟨v1, hc, hf⟩ := opt_b hf
    refine v_callSi (rest := []) (As := [.int (σ 0 18)]) hX dX7_readsOne_12 (c_X7_sortOf σ (σ 0 18) hc) rfl rfl mw_988 mw_64 mw_987 mw_989 gAll ds_X7_sortOf rfl ⟨Nat.le_of_ble_eq_true rfl, Nat.le_of_ble_eq_true rfl⟩ (Nat.le_of_ble_eq_true rfl) ?_
    refine v_goto 19 hX dX7_readsOne_15 (by decide) ?_
    exact (s_X7_readsOne_19 hX fuel z  σ v1 hf)
set_option maxHeartbeats 4000000 in
set_option maxRecDepth 100000 in
theorem c_X7_falls {l : Launch} {D : va_G} {cs : ClassId × ClassId × ClassId} {ad : Nat → Nat} (σ : Mem) (fuel : Nat)  (x1 : Int32) (x2 : Int32) {z : Int32 × Mem} (hf : f_X7_falls fuel σ x1 x2 = some z) : CtI l (mW D cs ad) 5 yX7_falls cX7_falls 3 (some .int) [.ref (ad 0), .int x1, .int x2] σ z.1 z.2 := by
  refine ct_I RX7 [(0, .ref (ad 0)), (1, .int x1), (2, .int x2)] (by decide +kernel) rfl rfl (Nat.le_of_ble_eq_true rfl) ?_
  intro P M hl0 hX
  unfold f_X7_falls at hf
  refine v_aload_n 0 0 hX dX7_falls_0 rfl rfl ?_
  refine v_get (C := RX7) (T := TX7) (N := 22) (ci := 7) (v := .int (σ 0 7)) 0 7 hX dX7_falls_1 mw_843 rfl inlX7 rfl (lt_b rfl) (lt_b rfl) rfl rfl ?_
  refine v_if_ne 10 hX dX7_falls_4 (by decide) (fun c => ?_) (fun c => ?_)
  · have hf := opt_f c hf
    refine v_aload_n 0 0 hX dX7_falls_10 rfl rfl ?_
    refine v_iload_n 1 1 hX dX7_falls_11 rfl rfl ?_
    obtain ⟨v1, hc, hf⟩ := opt_b hf
    refine v_callVi (rest := []) (As := [.int x1]) (C := RX7) (T := TX7) (N := 22) (ci := 7) 0 hX dX7_falls_12 (c_X7_areHands σ x1 hc) rfl rfl (lt_b rfl) rfl rfl rfl mw_1095 mw_45 mw_64 mw_1093 mw_1096 gAll ds_X7_areHands rfl ⟨Nat.le_of_ble_eq_true rfl, Nat.le_of_ble_eq_true rfl⟩ (Nat.le_of_ble_eq_true rfl) ?_
    refine v_if_eq 25 hX dX7_falls_15 (by decide) (fun c => ?_) (fun c => ?_)
    · have hf := opt_t c hf
      refine v_ldc (-1000001) hX dX7_falls_25 mw_916 ?_
      obtain rfl := Option.some.inj hf
      exact v_iret (r := (-1000001)) hX dX7_falls_27 rfl
    · have hf := opt_f c hf
      refine v_iload_n 2 2 hX dX7_falls_18 rfl rfl ?_
      obtain ⟨v2, hc, hf⟩ := opt_b hf
      refine v_callSi (rest := []) (As := [.int x2]) hX dX7_falls_19 (c_X7_isTwo σ x2 hc) rfl rfl mw_1087 mw_64 mw_1086 mw_1088 gAll ds_X7_isTwo rfl ⟨Nat.le_of_ble_eq_true rfl, Nat.le_of_ble_eq_true rfl⟩ (Nat.le_of_ble_eq_true rfl) ?_
      refine v_if_ne 28 hX dX7_falls_22 (by decide) (fun c => ?_) (fun c => ?_)
      · have hf := opt_f c hf
        refine v_iload_n 2 2 hX dX7_falls_28 rfl rfl ?_
        refine v_if_ne 40 hX dX7_falls_29 (by decide) (fun c => ?_) (fun c => ?_)
        · have hf := opt_f c hf
          refine v_aload_n 0 0 hX dX7_falls_40 rfl rfl ?_
          refine v_iload_n 1 1 hX dX7_falls_41 rfl rfl ?_
          obtain ⟨v3, hc, hf⟩ := opt_b hf
          refine v_callVi (rest := []) (As := [.int x1]) (C := RX7) (T := TX7) (N := 22) (ci := 7) 0 hX dX7_falls_42 (c_X7_lossBy σ fuel x1 hc) rfl rfl (lt_b rfl) rfl rfl rfl mw_1110 mw_48 mw_64 mw_1108 mw_1111 gAll ds_X7_lossBy rfl ⟨Nat.le_of_ble_eq_true rfl, Nat.le_of_ble_eq_true rfl⟩ (Nat.le_of_ble_eq_true rfl) ?_
          obtain rfl := Option.some.inj hf
          exact v_iret (r := v3.1) hX dX7_falls_45 rfl
        · have hf := opt_t c hf
          refine v_aload_n 0 0 hX dX7_falls_32 rfl rfl ?_
          refine v_iload_n 1 1 hX dX7_falls_33 rfl rfl ?_
          obtain ⟨v4, hc, hf⟩ := opt_b hf
          refine v_callVi (rest := []) (As := [.int x1]) (C := RX7) (T := TX7) (N := 22) (ci := 7) 0 hX dX7_falls_34 (c_X7_fallsBy σ fuel x1 hc) rfl rfl (lt_b rfl) rfl rfl rfl mw_1099 mw_46 mw_64 mw_1097 mw_1100 gAll ds_X7_fallsBy rfl ⟨Nat.le_of_ble_eq_true rfl, Nat.le_of_ble_eq_true rfl⟩ (Nat.le_of_ble_eq_true rfl) ?_
          refine v_goto 45 hX dX7_falls_37 (by decide) ?_
          obtain rfl := Option.some.inj hf
          exact v_iret (r := v4.1) hX dX7_falls_45 rfl
      · have hf := opt_t c hf
        refine v_ldc (-1000001) hX dX7_falls_25 mw_916 ?_
        obtain rfl := Option.some.inj hf
        exact v_iret (r := (-1000001)) hX dX7_falls_27 rfl
  · have hf := opt_t c hf
    refine v_ldc (-1000002) hX dX7_falls_7 mw_1014 ?_
    obtain rfl := Option.some.inj hf
    exact v_iret (r := (-1000002)) hX dX7_falls_9 rfl
set_option maxHeartbeats 4000000 in
set_option maxRecDepth 100000 in
theorem c_X7_ransom {l : Launch} {D : va_G} {cs : ClassId × ClassId × ClassId} {ad : Nat → Nat} (σ : Mem) (fuel : Nat)  (x1 : Int32) {z : Int32 × Mem} (hf : f_X7_ransom fuel σ x1 = some z) : CtI l (mW D cs ad) 5 yX7_ransom cX7_ransom 2 (some .int) [.ref (ad 0), .int x1] σ z.1 z.2 := by
  refine ct_I RX7 [(0, .ref (ad 0)), (1, .int x1)] (by decide +kernel) rfl rfl (Nat.le_of_ble_eq_true rfl) ?_
  intro P M hl0 hX
  unfold f_X7_ransom at hf
  refine v_aload_n 0 0 hX dX7_ransom_0 rfl rfl ?_
  refine v_iload_n 1 1 hX dX7_ransom_1 rfl rfl ?_
  obtain ⟨v1, hc, hf⟩ := opt_b hf
  refine v_callVi (rest := []) (As := [.int x1]) (C := RX7) (T := TX7) (N := 22) (ci := 7) 0 hX dX7_ransom_2 (c_X7_isHand σ x1 hc) rfl rfl (lt_b rfl) rfl rfl rfl mw_1022 mw_40 mw_64 mw_1020 mw_1023 gAll ds_X7_isHand rfl ⟨Nat.le_of_ble_eq_true rfl, Nat.le_of_ble_eq_true rfl⟩ (Nat.le_of_ble_eq_true rfl) ?_
  refine v_if_eq 18 hX dX7_ransom_5 (by decide) (fun c => ?_) (fun c => ?_)
  · have hf := opt_t c hf
    refine v_ldc (-1000001) hX dX7_ransom_18 mw_916 ?_
    obtain rfl := Option.some.inj hf
    exact v_iret (r := (-1000001)) hX dX7_ransom_20 rfl
  · have hf := opt_f c hf
    refine v_aload_n 0 0 hX dX7_ransom_8 rfl rfl ?_
    refine v_iconst 1 hX dX7_ransom_9 (by decide) ?_
    refine v_iload_n 1 1 hX dX7_ransom_10 rfl rfl ?_
    refine v_ishl hX dX7_ransom_11 ?_
    obtain ⟨v2, hc, hf⟩ := opt_b hf
    refine v_callVi (rest := []) (As := [.int (1 <<< (x1 &&& 31))]) (C := RX7) (T := TX7) (N := 22) (ci := 7) 0 hX dX7_ransom_12 (c_X7_lossBy σ fuel (1 <<< (x1 &&& 31)) hc) rfl rfl (lt_b rfl) rfl rfl rfl mw_1110 mw_48 mw_64 mw_1108 mw_1111 gAll ds_X7_lossBy rfl ⟨Nat.le_of_ble_eq_true rfl, Nat.le_of_ble_eq_true rfl⟩ (Nat.le_of_ble_eq_true rfl) ?_
    refine v_goto 20 hX dX7_ransom_15 (by decide) ?_
    obtain rfl := Option.some.inj hf
    exact v_iret (r := v2.1) hX dX7_ransom_20 rfl
set_option maxHeartbeats 4000000 in
set_option maxRecDepth 100000 in
theorem s_X7_pair_107 {P : PT} {M : MT} {D : va_G} {cs : ClassId × ClassId × ClassId} {ad : Nat → Nat} (hX : VOk P M (mW D cs ad) 7 cX7_pair RX7 (some .int) 5) (fuel : Nat) (k29 : Mem → Int32 → Int32 → Int32 → Int32 → Option (Int32 × Mem)) (k46 : Mem → Int32 → Int32 → Int32 → Int32 → Int32 → Option (Int32 × Mem))  (z : Int32 × Mem) (hk29 : ∀ (σ : Mem) (x1 : Int32) (x2 : Int32) (x3 : Int32) (x4 : Int32), k29 σ x1 x2 x3 x4 = some z → V P M (mW D cs ad) 7 (QI P M (mW D cs ad) z.1 z.2) 29 [(0, .ref (ad 0)), (1, .int x1), (2, .int x2), (3, .int x3), (4, .int x4)] [] σ) (hk46 : ∀ (σ : Mem) (x1 : Int32) (x2 : Int32) (x3 : Int32) (x4 : Int32) (x5 : Int32), k46 σ x1 x2 x3 x4 x5 = some z → V P M (mW D cs ad) 7 (QI P M (mW D cs ad) z.1 z.2) 46 [(0, .ref (ad 0)), (1, .int x1), (2, .int x2), (3, .int x3), (4, .int x4), (5, .int x5)] [] σ) (σ : Mem) (x1 : Int32) (x2 : Int32) (x4 : Int32) (x5 : Int32) (x6 : Int32) (y0 : Int32) (hf : f_X7_pair_107 fuel k29 k46 σ x1 x2 x4 x5 x6 y0 = some z) : V P M (mW D cs ad) 7 (QI P M (mW D cs ad) z.1 z.2) 107 [(0, .ref (ad 0)), (1, .int x1), (2, .int x2), (4, .int x4), (5, .int x5), (6, .int x6)] [.int y0] σ := by
  unfold f_X7_pair_107 at hf
  refine v_istore_n 3 [(3, .int y0), (0, .ref (ad 0)), (1, .int x1), (2, .int x2), (4, .int x4), (5, .int x5), (6, .int x6)] hX dX7_pair_107 rfl (lt_b rfl) rfl ?_
  refine v_iload 6 hX dX7_pair_108 rfl ?_
  refine v_iload_n 3 2 hX dX7_pair_110 rfl rfl ?_
  refine v_icmp_le 119 hX dX7_pair_111 (by decide) (fun c => ?_) (fun c => ?_)
  · have hf := opt_t c hf
    refine v_iload_n 3 2 hX dX7_pair_119 rfl rfl ?_
    refine v_istore_n 2 [(2, .int x2), (3, .int y0), (0, .ref (ad 0)), (1, .int x1), (4, .int x4), (5, .int x5), (6, .int x6)] hX dX7_pair_120 rfl (lt_b rfl) rfl ?_
    refine v_iinc 5 (x5 + 1) [(5, .int (x5 + 1)), (2, .int x2), (3, .int y0), (0, .ref (ad 0)), (1, .int x1), (4, .int x4), (6, .int x6)] hX dX7_pair_121 rfl rfl (lt_b rfl) rfl ?_
    refine v_goto 46 hX dX7_pair_124 (by decide) ?_
    exact v_sub [3, 4, 1, 2, 5, 0] rfl (hk46 σ x1 x2 y0 x4 (x5 + 1) hf)
  · have hf := opt_f c hf
    refine v_iload 6 hX dX7_pair_114 rfl ?_
    refine v_goto 120 hX dX7_pair_116 (by decide) ?_
    refine v_istore_n 2 [(2, .int x6), (3, .int y0), (0, .ref (ad 0)), (1, .int x1), (4, .int x4), (5, .int x5), (6, .int x6)] hX dX7_pair_120 rfl (lt_b rfl) rfl ?_
    refine v_iinc 5 (x5 + 1) [(5, .int (x5 + 1)), (2, .int x6), (3, .int y0), (0, .ref (ad 0)), (1, .int x1), (4, .int x4), (6, .int x6)] hX dX7_pair_121 rfl rfl (lt_b rfl) rfl ?_
    refine v_goto 46 hX dX7_pair_124 (by decide) ?_
    exact v_sub [3, 4, 1, 2, 5, 0] rfl (hk46 σ x1 x6 y0 x4 (x5 + 1) hf)
set_option maxHeartbeats 4000000 in
set_option maxRecDepth 100000 in
theorem s_X7_pair_46 {P : PT} {M : MT} {D : va_G} {cs : ClassId × ClassId × ClassId} {ad : Nat → Nat} (hX : VOk P M (mW D cs ad) 7 cX7_pair RX7 (some .int) 5) (fuel : Nat) (k29 : Mem → Int32 → Int32 → Int32 → Int32 → Option (Int32 × Mem))  (z : Int32 × Mem) (hk29 : ∀ (σ : Mem) (x1 : Int32) (x2 : Int32) (x3 : Int32) (x4 : Int32), k29 σ x1 x2 x3 x4 = some z → V P M (mW D cs ad) 7 (QI P M (mW D cs ad) z.1 z.2) 29 [(0, .ref (ad 0)), (1, .int x1), (2, .int x2), (3, .int x3), (4, .int x4)] [] σ) : ∀ (n : Nat) (σ : Mem) (x1 : Int32) (x2 : Int32) (x3 : Int32) (x4 : Int32) (x5 : Int32), f_X7_pair_46 fuel k29 n σ x1 x2 x3 x4 x5 = some z → V P M (mW D cs ad) 7 (QI P M (mW D cs ad) z.1 z.2) 46 [(0, .ref (ad 0)), (1, .int x1), (2, .int x2), (3, .int x3), (4, .int x4), (5, .int x5)] [] σ := by
  intro n
  induction n with
  | zero =>
    intro σ x1 x2 x3 x4 x5 hf
    cases hf
  | succ n hk46 =>
    intro σ x1 x2 x3 x4 x5 hf
    rw [f_X7_pair_46] at hf
    refine v_iload 5 hX dX7_pair_46 rfl ?_
    refine v_aload_n 0 0 hX dX7_pair_48 rfl rfl ?_
    refine v_get (C := RX7) (T := TX7) (N := 22) (ci := 7) (v := .ref (ad 5)) 0 8 hX dX7_pair_49 mw_844 rfl inlX7 rfl (lt_b rfl) (lt_b rfl) rfl rfl ?_
    refine v_iconst 2 hX dX7_pair_52 (by decide) ?_
    refine v_aldc (v := σ 5 2) 5 2 hX dX7_pair_53 (lt_b rfl) ((fun _ => rfl) _) ib_2_85 tn_2 rfl ?_
    refine v_icmp_ge 127 hX dX7_pair_54 (by decide) (fun c => ?_) (fun c => ?_)
    · have hf := opt_t c hf
      refine v_iinc 4 (x4 + 1) [(4, .int (x4 + 1)), (0, .ref (ad 0)), (1, .int x1), (2, .int x2), (3, .int x3), (5, .int x5)] hX dX7_pair_127 rfl rfl (lt_b rfl) rfl ?_
      refine v_goto 29 hX dX7_pair_130 (by decide) ?_
      exact v_sub [1, 2, 3, 4, 0] rfl (hk29 σ x1 x2 x3 (x4 + 1) hf)
    · have hf := opt_f c hf
      refine v_aload_n 0 0 hX dX7_pair_57 rfl rfl ?_
      refine v_iconst 1 hX dX7_pair_58 (by decide) ?_
      refine v_iload 4 hX dX7_pair_59 rfl ?_
      refine v_ishl hX dX7_pair_61 ?_
      refine v_iconst 1 hX dX7_pair_62 (by decide) ?_
      refine v_iload 5 hX dX7_pair_63 rfl ?_
      refine v_ishl hX dX7_pair_65 ?_
      refine v_ior hX dX7_pair_66 ?_
      obtain ⟨v2, hc, hf⟩ := opt_b hf
      refine v_callVi (rest := []) (As := [.int ((1 <<< (x4 &&& 31)) ||| (1 <<< (x5 &&& 31)))]) (C := RX7) (T := TX7) (N := 22) (ci := 7) 0 hX dX7_pair_67 (c_X7_lossBy σ fuel ((1 <<< (x4 &&& 31)) ||| (1 <<< (x5 &&& 31))) hc) rfl rfl (lt_b rfl) rfl rfl rfl mw_1110 mw_48 mw_64 mw_1108 mw_1111 gAll ds_X7_lossBy rfl ⟨Nat.le_of_ble_eq_true rfl, Nat.le_of_ble_eq_true rfl⟩ (Nat.le_of_ble_eq_true rfl) ?_
      refine v_aload_n 0 0 hX dX7_pair_70 rfl rfl ?_
      refine v_iconst 1 hX dX7_pair_71 (by decide) ?_
      refine v_iload 4 hX dX7_pair_72 rfl ?_
      refine v_ishl hX dX7_pair_74 ?_
      obtain ⟨v3, hc, hf⟩ := opt_b hf
      refine v_callVi (rest := [.int v2.1]) (As := [.int (1 <<< (x4 &&& 31))]) (C := RX7) (T := TX7) (N := 22) (ci := 7) 0 hX dX7_pair_75 (c_X7_lossBy v2.2 fuel (1 <<< (x4 &&& 31)) hc) rfl rfl (lt_b rfl) rfl rfl rfl mw_1110 mw_48 mw_64 mw_1108 mw_1111 gAll ds_X7_lossBy rfl ⟨Nat.le_of_ble_eq_true rfl, Nat.le_of_ble_eq_true rfl⟩ (Nat.le_of_ble_eq_true rfl) ?_
      refine v_isub hX dX7_pair_78 ?_
      refine v_aload_n 0 0 hX dX7_pair_79 rfl rfl ?_
      refine v_iconst 1 hX dX7_pair_80 (by decide) ?_
      refine v_iload 5 hX dX7_pair_81 rfl ?_
      refine v_ishl hX dX7_pair_83 ?_
      obtain ⟨v4, hc, hf⟩ := opt_b hf
      refine v_callVi (rest := [.int (v2.1 - v3.1)]) (As := [.int (1 <<< (x5 &&& 31))]) (C := RX7) (T := TX7) (N := 22) (ci := 7) 0 hX dX7_pair_84 (c_X7_lossBy v3.2 fuel (1 <<< (x5 &&& 31)) hc) rfl rfl (lt_b rfl) rfl rfl rfl mw_1110 mw_48 mw_64 mw_1108 mw_1111 gAll ds_X7_lossBy rfl ⟨Nat.le_of_ble_eq_true rfl, Nat.le_of_ble_eq_true rfl⟩ (Nat.le_of_ble_eq_true rfl) ?_
      refine v_isub hX dX7_pair_87 ?_
      refine v_istore [(6, .int ((v2.1 - v3.1) - v4.1)), (0, .ref (ad 0)), (1, .int x1), (2, .int x2), (3, .int x3), (4, .int x4), (5, .int x5)] hX dX7_pair_88 (lt_b rfl) rfl ?_
      refine v_iload 0 hX dX7_pair_90 rfl ?_
      refine v_iload_n 3 2 hX dX7_pair_92 rfl rfl ?_
      refine v_icmp_le 106 hX dX7_pair_93 (by decide) (fun c => ?_) (fun c => ?_)
      · have hf := opt_t c hf
        refine v_iload_n 4 3 hX dX7_pair_106 rfl rfl ?_
        exact v_sub [1, 2, 3, 5, 6, 0] rfl (s_X7_pair_107 hX fuel k29 (f_X7_pair_46 fuel k29 n) z hk29 hk46 v4.2 x1 x2 x4 x5 ((v2.1 - v3.1) - v4.1) x3 hf)
      · have hf := opt_f c hf
        refine v_iconst 4 hX dX7_pair_96 (by decide) ?_
        refine v_iload 5 hX dX7_pair_97 rfl ?_
        refine v_imul hX dX7_pair_99 ?_
        refine v_iload 6 hX dX7_pair_100 rfl ?_
        refine v_iadd hX dX7_pair_102 ?_
        refine v_goto 107 hX dX7_pair_103 (by decide) ?_
        exact v_sub [1, 2, 3, 5, 6, 0] rfl (s_X7_pair_107 hX fuel k29 (f_X7_pair_46 fuel k29 n) z hk29 hk46 v4.2 x1 x2 x4 x5 ((v2.1 - v3.1) - v4.1) ((4 * x4) + x5) hf)
set_option maxHeartbeats 4000000 in
set_option maxRecDepth 100000 in
theorem s_X7_pair_29 {P : PT} {M : MT} {D : va_G} {cs : ClassId × ClassId × ClassId} {ad : Nat → Nat} (hX : VOk P M (mW D cs ad) 7 cX7_pair RX7 (some .int) 5) (fuel : Nat)   (z : Int32 × Mem)  : ∀ (n : Nat) (σ : Mem) (x1 : Int32) (x2 : Int32) (x3 : Int32) (x4 : Int32), f_X7_pair_29 fuel n σ x1 x2 x3 x4 = some z → V P M (mW D cs ad) 7 (QI P M (mW D cs ad) z.1 z.2) 29 [(0, .ref (ad 0)), (1, .int x1), (2, .int x2), (3, .int x3), (4, .int x4)] [] σ := by
  intro n
  induction n with
  | zero =>
    intro σ x1 x2 x3 x4 hf
    cases hf
  | succ n hk29 =>
    intro σ x1 x2 x3 x4 hf
    rw [f_X7_pair_29] at hf
    refine v_iload 4 hX dX7_pair_29 rfl ?_
    refine v_aload_n 0 0 hX dX7_pair_31 rfl rfl ?_
    refine v_get (C := RX7) (T := TX7) (N := 22) (ci := 7) (v := .ref (ad 5)) 0 8 hX dX7_pair_32 mw_844 rfl inlX7 rfl (lt_b rfl) (lt_b rfl) rfl rfl ?_
    refine v_iconst 2 hX dX7_pair_35 (by decide) ?_
    refine v_aldc (v := σ 5 2) 5 2 hX dX7_pair_36 (lt_b rfl) ((fun _ => rfl) _) ib_2_85 tn_2 rfl ?_
    refine v_icmp_ge 133 hX dX7_pair_37 (by decide) (fun c => ?_) (fun c => ?_)
    · have hf := opt_t c hf
      refine v_iload_n 1 1 hX dX7_pair_133 rfl rfl ?_
      refine v_if_eq 143 hX dX7_pair_134 (by decide) (fun c => ?_) (fun c => ?_)
      · have hf := opt_t c hf
        refine v_iload_n 3 3 hX dX7_pair_143 rfl rfl ?_
        refine v_goto 148 hX dX7_pair_144 (by decide) ?_
        obtain rfl := Option.some.inj hf
        exact v_iret (r := x3) hX dX7_pair_148 rfl
      · have hf := opt_f c hf
        refine v_iload_n 3 3 hX dX7_pair_137 rfl rfl ?_
        refine v_ldc (-1000000) hX dX7_pair_138 mw_1081 ?_
        refine v_icmp_ne 147 hX dX7_pair_140 (by decide) (fun c => ?_) (fun c => ?_)
        · have hf := opt_f c hf
          refine v_iload_n 2 2 hX dX7_pair_147 rfl rfl ?_
          obtain rfl := Option.some.inj hf
          exact v_iret (r := x2) hX dX7_pair_148 rfl
        · have hf := opt_t c hf
          refine v_iload_n 3 3 hX dX7_pair_143 rfl rfl ?_
          refine v_goto 148 hX dX7_pair_144 (by decide) ?_
          obtain rfl := Option.some.inj hf
          exact v_iret (r := x3) hX dX7_pair_148 rfl
    · have hf := opt_f c hf
      refine v_iload 4 hX dX7_pair_40 rfl ?_
      refine v_iconst 1 hX dX7_pair_42 (by decide) ?_
      refine v_iadd hX dX7_pair_43 ?_
      refine v_istore [(5, .int (x4 + 1)), (0, .ref (ad 0)), (1, .int x1), (2, .int x2), (3, .int x3), (4, .int x4)] hX dX7_pair_44 (lt_b rfl) rfl ?_
      exact v_sub [1, 2, 3, 4, 5, 0] rfl (s_X7_pair_46 hX fuel (f_X7_pair_29 fuel n) z hk29 fuel σ x1 x2 x3 x4 (x4 + 1) hf)
set_option maxHeartbeats 4000000 in
set_option maxRecDepth 100000 in
theorem c_X7_pair {l : Launch} {D : va_G} {cs : ClassId × ClassId × ClassId} {ad : Nat → Nat} (σ : Mem) (fuel : Nat)  (x1 : Int32) {z : Int32 × Mem} (hf : f_X7_pair fuel σ x1 = some z) : CtI l (mW D cs ad) 5 yX7_pair cX7_pair 7 (some .int) [.ref (ad 0), .int x1] σ z.1 z.2 := by
  refine ct_I RX7 [(0, .ref (ad 0)), (1, .int x1)] (by decide +kernel) rfl rfl (Nat.le_of_ble_eq_true rfl) ?_
  intro P M hl0 hX
  unfold f_X7_pair at hf
  refine v_aload_n 0 0 hX dX7_pair_0 rfl rfl ?_
  refine v_get (C := RX7) (T := TX7) (N := 22) (ci := 7) (v := .int (σ 0 7)) 0 7 hX dX7_pair_1 mw_843 rfl inlX7 rfl (lt_b rfl) (lt_b rfl) rfl rfl ?_
  refine v_if_ne 10 hX dX7_pair_4 (by decide) (fun c => ?_) (fun c => ?_)
  · have hf := opt_f c hf
    refine v_iload_n 1 1 hX dX7_pair_10 rfl rfl ?_
    obtain ⟨v1, hc, hf⟩ := opt_b hf
    refine v_callSi (rest := []) (As := [.int x1]) hX dX7_pair_11 (c_X7_isTwo σ x1 hc) rfl rfl mw_1087 mw_64 mw_1086 mw_1088 gAll ds_X7_isTwo rfl ⟨Nat.le_of_ble_eq_true rfl, Nat.le_of_ble_eq_true rfl⟩ (Nat.le_of_ble_eq_true rfl) ?_
    refine v_if_ne 20 hX dX7_pair_14 (by decide) (fun c => ?_) (fun c => ?_)
    · have hf := opt_f c hf
      refine v_ldc (-1000000) hX dX7_pair_20 mw_1081 ?_
      refine v_istore_n 2 [(2, .int (-1000000)), (0, .ref (ad 0)), (1, .int x1)] hX dX7_pair_22 rfl (lt_b rfl) rfl ?_
      refine v_ldc (-1000000) hX dX7_pair_23 mw_1081 ?_
      refine v_istore_n 3 [(3, .int (-1000000)), (2, .int (-1000000)), (0, .ref (ad 0)), (1, .int x1)] hX dX7_pair_25 rfl (lt_b rfl) rfl ?_
      refine v_iconst 0 hX dX7_pair_26 (by decide) ?_
      refine v_istore [(4, .int 0), (3, .int (-1000000)), (2, .int (-1000000)), (0, .ref (ad 0)), (1, .int x1)] hX dX7_pair_27 (lt_b rfl) rfl ?_
      exact v_sub [3, 4, 2, 1, 0] rfl (s_X7_pair_29 hX fuel z  fuel σ x1 (-1000000) (-1000000) 0 hf)
    · have hf := opt_t c hf
      refine v_ldc (-1000001) hX dX7_pair_17 mw_916 ?_
      obtain rfl := Option.some.inj hf
      exact v_iret (r := (-1000001)) hX dX7_pair_19 rfl
  · have hf := opt_t c hf
    refine v_ldc (-1000002) hX dX7_pair_7 mw_1014 ?_
    obtain rfl := Option.some.inj hf
    exact v_iret (r := (-1000002)) hX dX7_pair_9 rfl
set_option maxHeartbeats 4000000 in
set_option maxRecDepth 100000 in
theorem s_X7_order_122 {P : PT} {M : MT} {D : va_G} {cs : ClassId × ClassId × ClassId} {ad : Nat → Nat} (hX : VOk P M (mW D cs ad) 8 cX7_order RX7 (some .int) 5) (fuel : Nat) (k34 : Mem → Int32 → Int32 → Int32 → Int32 → Option (Int32 × Mem))  (z : Int32 × Mem) (hk34 : ∀ (σ : Mem) (x1 : Int32) (x2 : Int32) (x3 : Int32) (x4 : Int32), k34 σ x1 x2 x3 x4 = some z → V P M (mW D cs ad) 8 (QI P M (mW D cs ad) z.1 z.2) 34 [(0, .ref (ad 0)), (1, .int x1), (2, .int x2), (3, .int x3), (4, .int x4)] [] σ) (σ : Mem) (x1 : Int32) (x2 : Int32) (x4 : Int32) (x6 : Int32) (y0 : Int32) (hf : f_X7_order_122 fuel k34 σ x1 x2 x4 x6 y0 = some z) : V P M (mW D cs ad) 8 (QI P M (mW D cs ad) z.1 z.2) 122 [(0, .ref (ad 0)), (1, .int x1), (2, .int x2), (4, .int x4), (6, .int x6)] [.int y0] σ := by
  unfold f_X7_order_122 at hf
  refine v_istore_n 3 [(3, .int y0), (0, .ref (ad 0)), (1, .int x1), (2, .int x2), (4, .int x4), (6, .int x6)] hX dX7_order_122 rfl (lt_b rfl) rfl ?_
  refine v_iload 5 hX dX7_order_123 rfl ?_
  refine v_iload_n 3 2 hX dX7_order_125 rfl rfl ?_
  refine v_icmp_le 134 hX dX7_order_126 (by decide) (fun c => ?_) (fun c => ?_)
  · have hf := opt_t c hf
    refine v_iload_n 3 2 hX dX7_order_134 rfl rfl ?_
    refine v_istore_n 2 [(2, .int x2), (3, .int y0), (0, .ref (ad 0)), (1, .int x1), (4, .int x4), (6, .int x6)] hX dX7_order_135 rfl (lt_b rfl) rfl ?_
    refine v_iinc 4 (x4 + 1) [(4, .int (x4 + 1)), (2, .int x2), (3, .int y0), (0, .ref (ad 0)), (1, .int x1), (6, .int x6)] hX dX7_order_136 rfl rfl (lt_b rfl) rfl ?_
    refine v_goto 34 hX dX7_order_139 (by decide) ?_
    exact v_sub [3, 4, 1, 2, 0] rfl (hk34 σ x1 x2 y0 (x4 + 1) hf)
  · have hf := opt_f c hf
    refine v_iload 5 hX dX7_order_129 rfl ?_
    refine v_goto 135 hX dX7_order_131 (by decide) ?_
    refine v_istore_n 2 [(2, .int x6), (3, .int y0), (0, .ref (ad 0)), (1, .int x1), (4, .int x4), (6, .int x6)] hX dX7_order_135 rfl (lt_b rfl) rfl ?_
    refine v_iinc 4 (x4 + 1) [(4, .int (x4 + 1)), (2, .int x6), (3, .int y0), (0, .ref (ad 0)), (1, .int x1), (6, .int x6)] hX dX7_order_136 rfl rfl (lt_b rfl) rfl ?_
    refine v_goto 34 hX dX7_order_139 (by decide) ?_
    exact v_sub [3, 4, 1, 2, 0] rfl (hk34 σ x1 x6 y0 (x4 + 1) hf)
set_option maxHeartbeats 4000000 in
set_option maxRecDepth 100000 in
theorem s_X7_order_67 {P : PT} {M : MT} {D : va_G} {cs : ClassId × ClassId × ClassId} {ad : Nat → Nat} (hX : VOk P M (mW D cs ad) 8 cX7_order RX7 (some .int) 5) (fuel : Nat) (k34 : Mem → Int32 → Int32 → Int32 → Int32 → Option (Int32 × Mem))  (z : Int32 × Mem) (hk34 : ∀ (σ : Mem) (x1 : Int32) (x2 : Int32) (x3 : Int32) (x4 : Int32), k34 σ x1 x2 x3 x4 = some z → V P M (mW D cs ad) 8 (QI P M (mW D cs ad) z.1 z.2) 34 [(0, .ref (ad 0)), (1, .int x1), (2, .int x2), (3, .int x3), (4, .int x4)] [] σ) : ∀ (n : Nat) (σ : Mem) (x1 : Int32) (x2 : Int32) (x3 : Int32) (x4 : Int32) (x5 : Int32) (x6 : Int32) (x7 : Int32), f_X7_order_67 fuel k34 n σ x1 x2 x3 x4 x5 x6 x7 = some z → V P M (mW D cs ad) 8 (QI P M (mW D cs ad) z.1 z.2) 67 [(0, .ref (ad 0)), (1, .int x1), (2, .int x2), (3, .int x3), (4, .int x4), (5, .int x5), (6, .int x6), (7, .int x7)] [] σ := by
  intro n
  induction n with
  | zero =>
    intro σ x1 x2 x3 x4 x5 x6 x7 hf
    cases hf
  | succ n hk67 =>
    intro σ x1 x2 x3 x4 x5 x6 x7 hf
    rw [f_X7_order_67] at hf
    refine v_iload 7 hX dX7_order_67 rfl ?_
    refine v_aload_n 0 0 hX dX7_order_69 rfl rfl ?_
    refine v_get (C := RX7) (T := TX7) (N := 22) (ci := 7) (v := .ref (ad 5)) 0 8 hX dX7_order_70 mw_844 rfl inlX7 rfl (lt_b rfl) (lt_b rfl) rfl rfl ?_
    refine v_iconst 2 hX dX7_order_73 (by decide) ?_
    refine v_aldc (v := σ 5 2) 5 2 hX dX7_order_74 (lt_b rfl) ((fun _ => rfl) _) ib_2_85 tn_2 rfl ?_
    refine v_icmp_ge 110 hX dX7_order_75 (by decide) (fun c => ?_) (fun c => ?_)
    · have hf := opt_t c hf
      refine v_iload 6 hX dX7_order_110 rfl ?_
      refine v_iload_n 2 2 hX dX7_order_112 rfl rfl ?_
      refine v_icmp_le 121 hX dX7_order_113 (by decide) (fun c => ?_) (fun c => ?_)
      · have hf := opt_t c hf
        refine v_iload_n 3 3 hX dX7_order_121 rfl rfl ?_
        exact v_sub [0, 1, 2, 4, 6] rfl (s_X7_order_122 hX fuel k34 z hk34 σ x1 x2 x4 x6 x3 hf)
      · have hf := opt_f c hf
        refine v_iload 4 hX dX7_order_116 rfl ?_
        refine v_goto 122 hX dX7_order_118 (by decide) ?_
        exact v_sub [0, 1, 2, 4, 6] rfl (s_X7_order_122 hX fuel k34 z hk34 σ x1 x2 x4 x6 x4 hf)
    · have hf := opt_f c hf
      refine v_iload 5 hX dX7_order_78 rfl ?_
      refine v_iconst 1 hX dX7_order_80 (by decide) ?_
      refine v_aload_n 0 0 hX dX7_order_81 rfl rfl ?_
      refine v_iload 4 hX dX7_order_82 rfl ?_
      refine v_iload 7 hX dX7_order_84 rfl ?_
      obtain ⟨v4, hc, hf⟩ := opt_b hf
      refine v_callVi (rest := [.int 1, .int x5]) (As := [.int x4, .int x7]) (C := RX7) (T := TX7) (N := 22) (ci := 7) 0 hX dX7_order_86 (c_X7_handAt σ x4 x7 hc) rfl rfl (lt_b rfl) rfl rfl rfl mw_1160 mw_50 mw_64 mw_1158 mw_1161 gAll ds_X7_handAt rfl ⟨Nat.le_of_ble_eq_true rfl, Nat.le_of_ble_eq_true rfl⟩ (Nat.le_of_ble_eq_true rfl) ?_
      refine v_ishl hX dX7_order_89 ?_
      refine v_ior hX dX7_order_90 ?_
      refine v_istore [(5, .int (x5 ||| (1 <<< (v4 &&& 31)))), (0, .ref (ad 0)), (1, .int x1), (2, .int x2), (3, .int x3), (4, .int x4), (6, .int x6), (7, .int x7)] hX dX7_order_91 (lt_b rfl) rfl ?_
      refine v_iload 6 hX dX7_order_93 rfl ?_
      refine v_aload_n 1 0 hX dX7_order_95 rfl rfl ?_
      refine v_iload 0 hX dX7_order_96 rfl ?_
      obtain ⟨v5, hc, hf⟩ := opt_b hf
      refine v_callVi (rest := [.int x6]) (As := [.int (x5 ||| (1 <<< (v4 &&& 31)))]) (C := RX7) (T := TX7) (N := 22) (ci := 7) 0 hX dX7_order_98 (c_X7_lossBy σ fuel (x5 ||| (1 <<< (v4 &&& 31))) hc) rfl rfl (lt_b rfl) rfl rfl rfl mw_1110 mw_48 mw_64 mw_1108 mw_1111 gAll ds_X7_lossBy rfl ⟨Nat.le_of_ble_eq_true rfl, Nat.le_of_ble_eq_true rfl⟩ (Nat.le_of_ble_eq_true rfl) ?_
      refine v_iadd hX dX7_order_101 ?_
      refine v_istore [(6, .int (x6 + v5.1)), (5, .int (x5 ||| (1 <<< (v4 &&& 31)))), (0, .ref (ad 0)), (1, .int x1), (2, .int x2), (3, .int x3), (4, .int x4), (7, .int x7)] hX dX7_order_102 (lt_b rfl) rfl ?_
      refine v_iinc 7 (x7 + 1) [(7, .int (x7 + 1)), (6, .int (x6 + v5.1)), (5, .int (x5 ||| (1 <<< (v4 &&& 31)))), (0, .ref (ad 0)), (1, .int x1), (2, .int x2), (3, .int x3), (4, .int x4)] hX dX7_order_104 rfl rfl (lt_b rfl) rfl ?_
      refine v_goto 67 hX dX7_order_107 (by decide) ?_
      exact v_sub [3, 4, 5, 6, 7, 2, 1, 0] rfl (hk67 v5.2 x1 x2 x3 x4 (x5 ||| (1 <<< (v4 &&& 31))) (x6 + v5.1) (x7 + 1) hf)
set_option maxHeartbeats 4000000 in
set_option maxRecDepth 100000 in
theorem s_X7_order_34 {P : PT} {M : MT} {D : va_G} {cs : ClassId × ClassId × ClassId} {ad : Nat → Nat} (hX : VOk P M (mW D cs ad) 8 cX7_order RX7 (some .int) 5) (fuel : Nat)   (z : Int32 × Mem)  : ∀ (n : Nat) (σ : Mem) (x1 : Int32) (x2 : Int32) (x3 : Int32) (x4 : Int32), f_X7_order_34 fuel n σ x1 x2 x3 x4 = some z → V P M (mW D cs ad) 8 (QI P M (mW D cs ad) z.1 z.2) 34 [(0, .ref (ad 0)), (1, .int x1), (2, .int x2), (3, .int x3), (4, .int x4)] [] σ := by
  intro n
  induction n with
  | zero =>
    intro σ x1 x2 x3 x4 hf
    cases hf
  | succ n hk34 =>
    intro σ x1 x2 x3 x4 hf
    rw [f_X7_order_34] at hf
    refine v_iload 4 hX dX7_order_34 rfl ?_
    refine v_iconst 1 hX dX7_order_36 (by decide) ?_
    refine v_iconst 2 hX dX7_order_37 (by decide) ?_
    refine v_aload_n 0 0 hX dX7_order_38 rfl rfl ?_
    refine v_get (C := RX7) (T := TX7) (N := 22) (ci := 7) (v := .ref (ad 5)) 0 8 hX dX7_order_39 mw_844 rfl inlX7 rfl (lt_b rfl) (lt_b rfl) rfl rfl ?_
    refine v_iconst 2 hX dX7_order_42 (by decide) ?_
    refine v_aldc (v := σ 5 2) 5 2 hX dX7_order_43 (lt_b rfl) ((fun _ => rfl) _) ib_2_85 tn_2 rfl ?_
    refine v_imul hX dX7_order_44 ?_
    refine v_ishl hX dX7_order_45 ?_
    refine v_icmp_ge 142 hX dX7_order_46 (by decide) (fun c => ?_) (fun c => ?_)
    · have hf := opt_t c hf
      refine v_iload_n 1 1 hX dX7_order_142 rfl rfl ?_
      refine v_if_ge 150 hX dX7_order_143 (by decide) (fun c => ?_) (fun c => ?_)
      · have hf := opt_t c hf
        refine v_iload_n 1 1 hX dX7_order_150 rfl rfl ?_
        refine v_aload_n 0 0 hX dX7_order_151 rfl rfl ?_
        refine v_get (C := RX7) (T := TX7) (N := 22) (ci := 7) (v := .ref (ad 5)) 0 8 hX dX7_order_152 mw_844 rfl inlX7 rfl (lt_b rfl) (lt_b rfl) rfl rfl ?_
        refine v_iconst 2 hX dX7_order_155 (by decide) ?_
        refine v_aldc (v := σ 5 2) 5 2 hX dX7_order_156 (lt_b rfl) ((fun _ => rfl) _) ib_2_85 tn_2 rfl ?_
        refine v_icmp_ge 169 hX dX7_order_157 (by decide) (fun c => ?_) (fun c => ?_)
        · have hf := opt_t c hf
          refine v_ldc (-1000000) hX dX7_order_169 mw_1081 ?_
          obtain rfl := Option.some.inj hf
          exact v_iret (r := (-1000000)) hX dX7_order_171 rfl
        · have hf := opt_f c hf
          refine v_aload_n 0 0 hX dX7_order_160 rfl rfl ?_
          refine v_iload_n 3 3 hX dX7_order_161 rfl rfl ?_
          refine v_iload_n 1 1 hX dX7_order_162 rfl rfl ?_
          obtain ⟨v2, hc, hf⟩ := opt_b hf
          refine v_callVi (rest := []) (As := [.int x3, .int x1]) (C := RX7) (T := TX7) (N := 22) (ci := 7) 0 hX dX7_order_163 (c_X7_handAt σ x3 x1 hc) rfl rfl (lt_b rfl) rfl rfl rfl mw_1160 mw_50 mw_64 mw_1158 mw_1161 gAll ds_X7_handAt rfl ⟨Nat.le_of_ble_eq_true rfl, Nat.le_of_ble_eq_true rfl⟩ (Nat.le_of_ble_eq_true rfl) ?_
          refine v_goto 171 hX dX7_order_166 (by decide) ?_
          obtain rfl := Option.some.inj hf
          exact v_iret (r := v2) hX dX7_order_171 rfl
      · have hf := opt_f c hf
        refine v_iload_n 2 2 hX dX7_order_146 rfl rfl ?_
        refine v_goto 171 hX dX7_order_147 (by decide) ?_
        obtain rfl := Option.some.inj hf
        exact v_iret (r := x2) hX dX7_order_171 rfl
    · have hf := opt_f c hf
      refine v_aload_n 0 0 hX dX7_order_49 rfl rfl ?_
      refine v_iload 4 hX dX7_order_50 rfl ?_
      obtain ⟨v3, hc, hf⟩ := opt_b hf
      refine v_callVi (rest := []) (As := [.int x4]) (C := RX7) (T := TX7) (N := 22) (ci := 7) 0 hX dX7_order_52 (c_X7_isOrder fuel σ x4 hc) rfl rfl (lt_b rfl) rfl rfl rfl mw_1156 mw_49 mw_64 mw_1154 mw_1157 gAll ds_X7_isOrder rfl ⟨Nat.le_of_ble_eq_true rfl, Nat.le_of_ble_eq_true rfl⟩ (Nat.le_of_ble_eq_true rfl) ?_
      refine v_if_eq 136 hX dX7_order_55 (by decide) (fun c => ?_) (fun c => ?_)
      · have hf := opt_t c hf
        refine v_iinc 4 (x4 + 1) [(4, .int (x4 + 1)), (0, .ref (ad 0)), (1, .int x1), (2, .int x2), (3, .int x3)] hX dX7_order_136 rfl rfl (lt_b rfl) rfl ?_
        refine v_goto 34 hX dX7_order_139 (by decide) ?_
        exact v_sub [1, 2, 3, 4, 0] rfl (hk34 σ x1 x2 x3 (x4 + 1) hf)
      · have hf := opt_f c hf
        refine v_iconst 0 hX dX7_order_58 (by decide) ?_
        refine v_istore [(5, .int 0), (0, .ref (ad 0)), (1, .int x1), (2, .int x2), (3, .int x3), (4, .int x4)] hX dX7_order_59 (lt_b rfl) rfl ?_
        refine v_iconst 0 hX dX7_order_61 (by decide) ?_
        refine v_istore [(6, .int 0), (5, .int 0), (0, .ref (ad 0)), (1, .int x1), (2, .int x2), (3, .int x3), (4, .int x4)] hX dX7_order_62 (lt_b rfl) rfl ?_
        refine v_iconst 0 hX dX7_order_64 (by decide) ?_
        refine v_istore [(7, .int 0), (6, .int 0), (5, .int 0), (0, .ref (ad 0)), (1, .int x1), (2, .int x2), (3, .int x3), (4, .int x4)] hX dX7_order_65 (lt_b rfl) rfl ?_
        exact v_sub [3, 4, 5, 6, 7, 2, 1, 0] rfl (s_X7_order_67 hX fuel (f_X7_order_34 fuel n) z hk34 fuel σ x1 x2 x3 x4 0 0 0 hf)
set_option maxHeartbeats 4000000 in
set_option maxRecDepth 100000 in
theorem c_X7_order {l : Launch} {D : va_G} {cs : ClassId × ClassId × ClassId} {ad : Nat → Nat} (σ : Mem) (fuel : Nat)  (x1 : Int32) {z : Int32 × Mem} (hf : f_X7_order fuel σ x1 = some z) : CtI l (mW D cs ad) 5 yX7_order cX7_order 8 (some .int) [.ref (ad 0), .int x1] σ z.1 z.2 := by
  refine ct_I RX7 [(0, .ref (ad 0)), (1, .int x1)] (by decide +kernel) rfl rfl (Nat.le_of_ble_eq_true rfl) ?_
  intro P M hl0 hX
  unfold f_X7_order at hf
  refine v_aload_n 0 0 hX dX7_order_0 rfl rfl ?_
  refine v_get (C := RX7) (T := TX7) (N := 22) (ci := 7) (v := .int (σ 0 7)) 0 7 hX dX7_order_1 mw_843 rfl inlX7 rfl (lt_b rfl) (lt_b rfl) rfl rfl ?_
  refine v_if_ne 10 hX dX7_order_4 (by decide) (fun c => ?_) (fun c => ?_)
  · have hf := opt_f c hf
    refine v_iload_n 1 1 hX dX7_order_10 rfl rfl ?_
    refine v_i2l hX dX7_order_11 ?_
    refine v_ldc2 (-1) hX dX7_order_12 mw_1152 ?_
    refine v_ldc2 3 hX dX7_order_15 mw_1153 ?_
    obtain ⟨v1, hc, hf⟩ := opt_b hf
    refine v_callSi (rest := []) (As := [.long x1.toInt64, .long (-1), .long 3]) hX dX7_order_18 (c_X7_in σ x1.toInt64 (-1) 3 hc) rfl rfl mw_913 mw_64 mw_912 mw_914 gAll ds_X7_in rfl ⟨Nat.le_of_ble_eq_true rfl, Nat.le_of_ble_eq_true rfl⟩ (Nat.le_of_ble_eq_true rfl) ?_
    refine v_if_ne 27 hX dX7_order_21 (by decide) (fun c => ?_) (fun c => ?_)
    · have hf := opt_f c hf
      refine v_iconst (-1) hX dX7_order_27 (by decide) ?_
      refine v_istore_n 2 [(2, .int (-1)), (0, .ref (ad 0)), (1, .int x1)] hX dX7_order_28 rfl (lt_b rfl) rfl ?_
      refine v_iconst 0 hX dX7_order_29 (by decide) ?_
      refine v_istore_n 3 [(3, .int 0), (2, .int (-1)), (0, .ref (ad 0)), (1, .int x1)] hX dX7_order_30 rfl (lt_b rfl) rfl ?_
      refine v_iconst 0 hX dX7_order_31 (by decide) ?_
      refine v_istore [(4, .int 0), (3, .int 0), (2, .int (-1)), (0, .ref (ad 0)), (1, .int x1)] hX dX7_order_32 (lt_b rfl) rfl ?_
      exact v_sub [3, 4, 2, 1, 0] rfl (s_X7_order_34 hX fuel z  fuel σ x1 (-1) 0 0 hf)
    · have hf := opt_t c hf
      refine v_ldc (-1000001) hX dX7_order_24 mw_916 ?_
      obtain rfl := Option.some.inj hf
      exact v_iret (r := (-1000001)) hX dX7_order_26 rfl
  · have hf := opt_t c hf
    refine v_ldc (-1000002) hX dX7_order_7 mw_1014 ?_
    obtain rfl := Option.some.inj hf
    exact v_iret (r := (-1000002)) hX dX7_order_9 rfl
set_option maxHeartbeats 4000000 in
set_option maxRecDepth 100000 in
theorem c_X6_archive {l : Launch} {D : va_G} {cs : ClassId × ClassId × ClassId} {ad : Nat → Nat} {ts : Nat × Nat × Nat} (σ : Mem) (fuel : Nat)   {z : Int32 × Mem} (hf : f_X6_archive fuel σ = some z) : CtI l (xW D cs ad ts) 6 yX6_archive cX6_archive 2 (some .int) [.ref (ad 0)] σ z.1 z.2 := by
  refine ct_I RX6 [(0, .ref (ad 0))] (by decide +kernel) rfl rfl (Nat.le_of_ble_eq_true rfl) ?_
  intro P M hl0 hX
  unfold f_X6_archive at hf
  refine v_aload_n 0 0 hX dX6_archive_0 rfl rfl ?_
  refine v_get (C := RX6) (T := TX6) (N := 10) (ci := 6) (v := .ref (ad 46)) 0 4 hX dX6_archive_1 mw_286 rfl inlX6 rfl (lt_b rfl) (lt_b rfl) rfl rfl ?_
  obtain ⟨v1, hc, hf⟩ := opt_b hf
  refine v_callVi (rest := []) (As := []) (C := RX4) (T := TX4) (N := 5) (ci := 4) 46 hX dX6_archive_4 (c_X4_readTape σ fuel hc) rfl rfl (lt_b rfl) rfl rfl rfl mw_381 mw_382 mw_60 mw_380 mw_383 gAll ds_X4_readTape rfl ⟨Nat.le_of_ble_eq_true rfl, Nat.le_of_ble_eq_true rfl⟩ (Nat.le_of_ble_eq_true rfl) ?_
  refine v_istore_n 1 [(1, .int v1.1), (0, .ref (ad 0))] hX dX6_archive_7 rfl (lt_b rfl) rfl ?_
  refine v_aload_n 1 0 hX dX6_archive_8 rfl rfl ?_
  refine v_get (C := RX6) (T := TX6) (N := 10) (ci := 6) (v := .ref (ad 46)) 0 4 hX dX6_archive_9 mw_286 rfl inlX6 rfl (lt_b rfl) (lt_b rfl) rfl rfl ?_
  refine v_iconst 0 hX dX6_archive_12 (by decide) ?_
  refine v_put (C := RX4) (T := TX4) (N := 5) (ci := 4) (ty := .int) tyX4 46 2 hX dX6_archive_13 mw_218 rfl inlX4 tyX4_ok nmX4 rfl (lt_b rfl) (lt_b rfl) rfl (tyX4_ok 2 (lt_b rfl)) rfl rfl rfl (lt_b rfl) rfl ?_
  refine v_iload_n 0 1 hX dX6_archive_16 rfl rfl ?_
  refine v_if_ne 42 hX dX6_archive_17 (by decide) (fun c => ?_) (fun c => ?_)
  · have hf := opt_f c hf
    refine v_aload_n 1 0 hX dX6_archive_42 rfl rfl ?_
    refine v_get (C := RX6) (T := TX6) (N := 10) (ci := 6) (v := .ref (ad 13)) 0 1 hX dX6_archive_43 mw_283 rfl inlX6 rfl (lt_b rfl) (lt_b rfl) rfl rfl ?_
    refine v_aload_n 1 0 hX dX6_archive_46 rfl rfl ?_
    refine v_get (C := RX6) (T := TX6) (N := 10) (ci := 6) (v := .ref (ad 46)) 0 4 hX dX6_archive_47 mw_286 rfl inlX6 rfl (lt_b rfl) (lt_b rfl) rfl rfl ?_
    refine v_get (C := RX4) (T := TX4) (N := 5) (ci := 4) (v := .ref (ad 48)) 46 1 hX dX6_archive_50 mw_216 rfl inlX4 rfl (lt_b rfl) (lt_b rfl) rfl rfl ?_
    obtain ⟨v2, hc, hf⟩ := opt_b hf
    refine v_callVv (rest := []) (As := [.ref (ad 48)]) (C := RX1) (T := TX1) (N := 19) (ci := 1) 13 hX dX6_archive_53 (c_X1_become_13_48 (mst v1.2 46 2 0) hc) rfl rfl (lt_b rfl) rfl rfl rfl mw_457 mw_458 mw_59 mw_456 mw_459 gAll ds_X1_become rfl ⟨Nat.le_of_ble_eq_true rfl, Nat.le_of_ble_eq_true rfl⟩ (Nat.le_of_ble_eq_true rfl) ?_
    refine v_aload_n 1 0 hX dX6_archive_56 rfl rfl ?_
    refine v_get (C := RX6) (T := TX6) (N := 10) (ci := 6) (v := .ref (ad 59)) 0 5 hX dX6_archive_57 mw_287 rfl inlX6 rfl (lt_b rfl) (lt_b rfl) rfl rfl ?_
    obtain ⟨v3, hc, hf⟩ := opt_b hf
    refine v_callVv (rest := []) (As := []) (C := RX0) (T := TX0) (N := 3) (ci := 0) 59 hX dX6_archive_60 (c_X0_forget v2 hc) rfl rfl (lt_b rfl) rfl rfl rfl mw_462 mw_463 mw_61 mw_461 mw_464 gAll ds_X0_forget rfl ⟨Nat.le_of_ble_eq_true rfl, Nat.le_of_ble_eq_true rfl⟩ (Nat.le_of_ble_eq_true rfl) ?_
    refine v_aload_n 1 0 hX dX6_archive_63 rfl rfl ?_
    refine v_get (C := RX6) (T := TX6) (N := 10) (ci := 6) (v := .ref (ad 13)) 0 1 hX dX6_archive_64 mw_283 rfl inlX6 rfl (lt_b rfl) (lt_b rfl) rfl rfl ?_
    refine v_get (C := RX1) (T := TX1) (N := 19) (ci := 1) (v := .int (v3 13 6)) 13 6 hX dX6_archive_67 mw_127 rfl inlX1 rfl (lt_b rfl) (lt_b rfl) rfl rfl ?_
    obtain rfl := Option.some.inj hf
    exact v_iret (r := v3 13 6) hX dX6_archive_70 rfl
  · have hf := opt_t c hf
    refine v_aload_n 1 0 hX dX6_archive_20 rfl rfl ?_
    refine v_aload_n 1 0 hX dX6_archive_21 rfl rfl ?_
    refine v_get (C := RX6) (T := TX6) (N := 10) (ci := 6) (v := .ref (ad 46)) 0 4 hX dX6_archive_22 mw_286 rfl inlX6 rfl (lt_b rfl) (lt_b rfl) rfl rfl ?_
    refine v_get (C := RX4) (T := TX4) (N := 5) (ci := 4) (v := .int (v1.2 46 4)) 46 4 hX dX6_archive_25 mw_222 rfl inlX4 rfl (lt_b rfl) (lt_b rfl) rfl rfl ?_
    refine v_put (C := RX6) (T := TX6) (N := 10) (ci := 6) (ty := .int) tyX6 0 8 hX dX6_archive_28 mw_290 rfl inlX6 tyX6_ok nmX6 rfl (lt_b rfl) (lt_b rfl) rfl (tyX6_ok 8 (lt_b rfl)) rfl rfl rfl (lt_b rfl) rfl ?_
    refine v_ldc (-1000100) hX dX6_archive_31 mw_455 ?_
    refine v_aload_n 1 0 hX dX6_archive_33 rfl rfl ?_
    refine v_get (C := RX6) (T := TX6) (N := 10) (ci := 6) (v := .ref (ad 46)) 0 4 hX dX6_archive_34 mw_286 rfl inlX6 rfl (lt_b rfl) (lt_b rfl) rfl rfl ?_
    refine v_get (C := RX4) (T := TX4) (N := 5) (ci := 4) (v := .int (v1.2 46 3)) 46 3 hX dX6_archive_37 mw_220 rfl inlX4 rfl (lt_b rfl) (lt_b rfl) rfl rfl ?_
    refine v_isub hX dX6_archive_40 ?_
    obtain rfl := Option.some.inj hf
    exact v_iret (r := (-1000100) - (v1.2 46 3)) hX dX6_archive_41 rfl
set_option maxHeartbeats 4000000 in
set_option maxRecDepth 100000 in
theorem c_X6_pair {l : Launch} {D : va_G} {cs : ClassId × ClassId × ClassId} {ad : Nat → Nat} {ts : Nat × Nat × Nat} (σ : Mem) (fuel : Nat)  (x1 : Int32) {z : Int32 × Mem} (hf : f_X6_pair fuel σ x1 = some z) : CtI l (xW D cs ad ts) 6 yX6_pair cX6_pair 3 (some .int) [.ref (ad 0), .int x1] σ z.1 z.2 := by
  refine ct_I RX6 [(0, .ref (ad 0)), (1, .int x1)] (by decide +kernel) rfl rfl (Nat.le_of_ble_eq_true rfl) ?_
  intro P M hl0 hX
  unfold f_X6_pair at hf
  refine v_aload_n 0 0 hX dX6_pair_0 rfl rfl ?_
  refine v_get (C := RX6) (T := TX6) (N := 10) (ci := 6) (v := .ref (ad 13)) 0 1 hX dX6_pair_1 mw_283 rfl inlX6 rfl (lt_b rfl) (lt_b rfl) rfl rfl ?_
  refine v_get (C := RX1) (T := TX1) (N := 19) (ci := 1) (v := .int (σ 13 0)) 13 0 hX dX6_pair_4 mw_106 rfl inlX1 rfl (lt_b rfl) (lt_b rfl) rfl rfl ?_
  refine v_if_ne 13 hX dX6_pair_7 (by decide) (fun c => ?_) (fun c => ?_)
  · have hf := opt_f c hf
    refine v_iload_n 1 1 hX dX6_pair_13 rfl rfl ?_
    refine v_iconst 2 hX dX6_pair_14 (by decide) ?_
    obtain ⟨v1, hc, hf⟩ := opt_b hf
    refine v_callSi (rest := []) (As := [.int x1, .int 2]) hX dX6_pair_15 (c_X6_isBelow σ x1 2 hc) rfl rfl mw_321 mw_57 mw_320 mw_322 gAll ds_X6_isBelow rfl ⟨Nat.le_of_ble_eq_true rfl, Nat.le_of_ble_eq_true rfl⟩ (Nat.le_of_ble_eq_true rfl) ?_
    refine v_if_ne 24 hX dX6_pair_18 (by decide) (fun c => ?_) (fun c => ?_)
    · have hf := opt_f c hf
      refine v_aload_n 0 0 hX dX6_pair_24 rfl rfl ?_
      refine v_get (C := RX6) (T := TX6) (N := 10) (ci := 6) (v := .ref (ad 62)) 0 6 hX dX6_pair_25 mw_288 rfl inlX6 rfl (lt_b rfl) (lt_b rfl) rfl rfl ?_
      refine v_aload_n 0 0 hX dX6_pair_28 rfl rfl ?_
      refine v_get (C := RX6) (T := TX6) (N := 10) (ci := 6) (v := .ref (ad 13)) 0 1 hX dX6_pair_29 mw_283 rfl inlX6 rfl (lt_b rfl) (lt_b rfl) rfl rfl ?_
      obtain ⟨v2, hc, hf⟩ := opt_b hf
      refine v_callVv (rest := []) (As := [.ref (ad 13)]) (C := RX3) (T := TX3) (N := 3) (ci := 3) 62 hX dX6_pair_32 (c_X3_weighAll σ fuel hc) rfl rfl (lt_b rfl) rfl rfl rfl mw_615 mw_616 mw_62 mw_614 mw_617 gAll ds_X3_weighAll rfl ⟨Nat.le_of_ble_eq_true rfl, Nat.le_of_ble_eq_true rfl⟩ (Nat.le_of_ble_eq_true rfl) ?_
      refine v_aload_n 0 0 hX dX6_pair_35 rfl rfl ?_
      refine v_get (C := RX6) (T := TX6) (N := 10) (ci := 6) (v := .ref (ad 62)) 0 6 hX dX6_pair_36 mw_288 rfl inlX6 rfl (lt_b rfl) (lt_b rfl) rfl rfl ?_
      refine v_aload_n 0 0 hX dX6_pair_39 rfl rfl ?_
      refine v_get (C := RX6) (T := TX6) (N := 10) (ci := 6) (v := .ref (ad 13)) 0 1 hX dX6_pair_40 mw_283 rfl inlX6 rfl (lt_b rfl) (lt_b rfl) rfl rfl ?_
      obtain ⟨v3, hc, hf⟩ := opt_b hf
      refine v_callVi (rest := []) (As := [.ref (ad 13)]) (C := RX3) (T := TX3) (N := 3) (ci := 3) 62 hX dX6_pair_43 (c_X3_bestPair fuel v2 hc) rfl rfl (lt_b rfl) rfl rfl rfl mw_620 mw_621 mw_62 mw_619 mw_622 gAll ds_X3_bestPair rfl ⟨Nat.le_of_ble_eq_true rfl, Nat.le_of_ble_eq_true rfl⟩ (Nat.le_of_ble_eq_true rfl) ?_
      refine v_istore_n 2 [(2, .int v3), (0, .ref (ad 0)), (1, .int x1)] hX dX6_pair_46 rfl (lt_b rfl) rfl ?_
      refine v_iload_n 2 1 hX dX6_pair_47 rfl rfl ?_
      refine v_if_eq 57 hX dX6_pair_48 (by decide) (fun c => ?_) (fun c => ?_)
      · have hf := opt_t c hf
        refine v_iload_n 0 2 hX dX6_pair_57 rfl rfl ?_
        refine v_goto 74 hX dX6_pair_58 (by decide) ?_
        obtain rfl := Option.some.inj hf
        exact v_iret (r := v3) hX dX6_pair_74 rfl
      · have hf := opt_f c hf
        refine v_iload_n 0 2 hX dX6_pair_51 rfl rfl ?_
        refine v_ldc (-1000000) hX dX6_pair_52 mw_570 ?_
        refine v_icmp_ne 61 hX dX6_pair_54 (by decide) (fun c => ?_) (fun c => ?_)
        · have hf := opt_f c hf
          refine v_aload_n 1 0 hX dX6_pair_61 rfl rfl ?_
          refine v_get (C := RX6) (T := TX6) (N := 10) (ci := 6) (v := .ref (ad 62)) 0 6 hX dX6_pair_62 mw_288 rfl inlX6 rfl (lt_b rfl) (lt_b rfl) rfl rfl ?_
          refine v_iload_n 0 2 hX dX6_pair_65 rfl rfl ?_
          refine v_iconst 4 hX dX6_pair_66 (by decide) ?_
          refine v_idiv hX dX6_pair_67 (by decide) ?_
          refine v_iload_n 0 2 hX dX6_pair_68 rfl rfl ?_
          refine v_iconst 4 hX dX6_pair_69 (by decide) ?_
          refine v_irem hX dX6_pair_70 (by decide) ?_
          obtain ⟨v4, hc, hf⟩ := opt_b hf
          refine v_callVi (rest := []) (As := [.int (v3 / 4), .int (v3 - v3 / 4 * 4)]) (C := RX3) (T := TX3) (N := 3) (ci := 3) 62 hX dX6_pair_71 (c_X3_gainOf v2 (v3 / 4) (v3 - v3 / 4 * 4) hc) rfl rfl (lt_b rfl) rfl rfl rfl mw_625 mw_626 mw_62 mw_628 mw_627 gAll ds_X3_gainOf rfl ⟨Nat.le_of_ble_eq_true rfl, Nat.le_of_ble_eq_true rfl⟩ (Nat.le_of_ble_eq_true rfl) ?_
          obtain rfl := Option.some.inj hf
          exact v_iret (r := v4) hX dX6_pair_74 rfl
        · have hf := opt_t c hf
          refine v_iload_n 0 2 hX dX6_pair_57 rfl rfl ?_
          refine v_goto 74 hX dX6_pair_58 (by decide) ?_
          obtain rfl := Option.some.inj hf
          exact v_iret (r := v3) hX dX6_pair_74 rfl
    · have hf := opt_t c hf
      refine v_ldc (-1000001) hX dX6_pair_21 mw_323 ?_
      obtain rfl := Option.some.inj hf
      exact v_iret (r := (-1000001)) hX dX6_pair_23 rfl
  · have hf := opt_t c hf
    refine v_ldc (-1000002) hX dX6_pair_10 mw_473 ?_
    obtain rfl := Option.some.inj hf
    exact v_iret (r := (-1000002)) hX dX6_pair_12 rfl
set_option maxHeartbeats 4000000 in
set_option maxRecDepth 100000 in
theorem c_X6_order {l : Launch} {D : va_G} {cs : ClassId × ClassId × ClassId} {ad : Nat → Nat} {ts : Nat × Nat × Nat} (σ : Mem) (fuel : Nat)  (x1 : Int32) {z : Int32 × Mem} (hf : f_X6_order fuel σ x1 = some z) : CtI l (xW D cs ad ts) 6 yX6_order cX6_order 3 (some .int) [.ref (ad 0), .int x1] σ z.1 z.2 := by
  refine ct_I RX6 [(0, .ref (ad 0)), (1, .int x1)] (by decide +kernel) rfl rfl (Nat.le_of_ble_eq_true rfl) ?_
  intro P M hl0 hX
  unfold f_X6_order at hf
  refine v_aload_n 0 0 hX dX6_order_0 rfl rfl ?_
  refine v_get (C := RX6) (T := TX6) (N := 10) (ci := 6) (v := .ref (ad 13)) 0 1 hX dX6_order_1 mw_283 rfl inlX6 rfl (lt_b rfl) (lt_b rfl) rfl rfl ?_
  refine v_get (C := RX1) (T := TX1) (N := 19) (ci := 1) (v := .int (σ 13 0)) 13 0 hX dX6_order_4 mw_106 rfl inlX1 rfl (lt_b rfl) (lt_b rfl) rfl rfl ?_
  refine v_if_ne 13 hX dX6_order_7 (by decide) (fun c => ?_) (fun c => ?_)
  · have hf := opt_f c hf
    refine v_iload_n 1 1 hX dX6_order_13 rfl rfl ?_
    refine v_iconst (-1) hX dX6_order_14 (by decide) ?_
    refine v_icmp_lt 23 hX dX6_order_15 (by decide) (fun c => ?_) (fun c => ?_)
    · have hf := opt_t c hf
      refine v_ldc (-1000001) hX dX6_order_23 mw_323 ?_
      obtain rfl := Option.some.inj hf
      exact v_iret (r := (-1000001)) hX dX6_order_25 rfl
    · have hf := opt_f c hf
      refine v_iload_n 1 1 hX dX6_order_18 rfl rfl ?_
      refine v_iconst 4 hX dX6_order_19 (by decide) ?_
      refine v_icmp_lt 26 hX dX6_order_20 (by decide) (fun c => ?_) (fun c => ?_)
      · have hf := opt_t c hf
        refine v_iload_n 1 1 hX dX6_order_26 rfl rfl ?_
        refine v_aload_n 0 0 hX dX6_order_27 rfl rfl ?_
        refine v_get (C := RX6) (T := TX6) (N := 10) (ci := 6) (v := .ref (ad 13)) 0 1 hX dX6_order_28 mw_283 rfl inlX6 rfl (lt_b rfl) (lt_b rfl) rfl rfl ?_
        refine v_get (C := RX1) (T := TX1) (N := 19) (ci := 1) (v := .int (σ 13 6)) 13 6 hX dX6_order_31 mw_127 rfl inlX1 rfl (lt_b rfl) (lt_b rfl) rfl rfl ?_
        refine v_icmp_lt 40 hX dX6_order_34 (by decide) (fun c => ?_) (fun c => ?_)
        · have hf := opt_t c hf
          refine v_aload_n 0 0 hX dX6_order_40 rfl rfl ?_
          refine v_get (C := RX6) (T := TX6) (N := 10) (ci := 6) (v := .ref (ad 62)) 0 6 hX dX6_order_41 mw_288 rfl inlX6 rfl (lt_b rfl) (lt_b rfl) rfl rfl ?_
          refine v_aload_n 0 0 hX dX6_order_44 rfl rfl ?_
          refine v_get (C := RX6) (T := TX6) (N := 10) (ci := 6) (v := .ref (ad 13)) 0 1 hX dX6_order_45 mw_283 rfl inlX6 rfl (lt_b rfl) (lt_b rfl) rfl rfl ?_
          obtain ⟨v1, hc, hf⟩ := opt_b hf
          refine v_callVv (rest := []) (As := [.ref (ad 13)]) (C := RX3) (T := TX3) (N := 3) (ci := 3) 62 hX dX6_order_48 (c_X3_weighAll σ fuel hc) rfl rfl (lt_b rfl) rfl rfl rfl mw_615 mw_616 mw_62 mw_614 mw_617 gAll ds_X3_weighAll rfl ⟨Nat.le_of_ble_eq_true rfl, Nat.le_of_ble_eq_true rfl⟩ (Nat.le_of_ble_eq_true rfl) ?_
          refine v_aload_n 0 0 hX dX6_order_51 rfl rfl ?_
          refine v_get (C := RX6) (T := TX6) (N := 10) (ci := 6) (v := .ref (ad 62)) 0 6 hX dX6_order_52 mw_288 rfl inlX6 rfl (lt_b rfl) (lt_b rfl) rfl rfl ?_
          refine v_aload_n 0 0 hX dX6_order_55 rfl rfl ?_
          refine v_get (C := RX6) (T := TX6) (N := 10) (ci := 6) (v := .ref (ad 13)) 0 1 hX dX6_order_56 mw_283 rfl inlX6 rfl (lt_b rfl) (lt_b rfl) rfl rfl ?_
          obtain ⟨v2, hc, hf⟩ := opt_b hf
          refine v_callVi (rest := []) (As := [.ref (ad 13)]) (C := RX3) (T := TX3) (N := 3) (ci := 3) 62 hX dX6_order_59 (c_X3_bestOrder fuel v1 hc) rfl rfl (lt_b rfl) rfl rfl rfl mw_693 mw_694 mw_62 mw_692 mw_695 gAll ds_X3_bestOrder rfl ⟨Nat.le_of_ble_eq_true rfl, Nat.le_of_ble_eq_true rfl⟩ (Nat.le_of_ble_eq_true rfl) ?_
          refine v_istore_n 2 [(2, .int v2), (0, .ref (ad 0)), (1, .int x1)] hX dX6_order_62 rfl (lt_b rfl) rfl ?_
          refine v_iload_n 2 1 hX dX6_order_63 rfl rfl ?_
          refine v_if_ge 82 hX dX6_order_64 (by decide) (fun c => ?_) (fun c => ?_)
          · have hf := opt_t c hf
            refine v_aload_n 1 0 hX dX6_order_82 rfl rfl ?_
            refine v_get (C := RX6) (T := TX6) (N := 10) (ci := 6) (v := .ref (ad 62)) 0 6 hX dX6_order_83 mw_288 rfl inlX6 rfl (lt_b rfl) (lt_b rfl) rfl rfl ?_
            refine v_aload_n 1 0 hX dX6_order_86 rfl rfl ?_
            refine v_get (C := RX6) (T := TX6) (N := 10) (ci := 6) (v := .ref (ad 13)) 0 1 hX dX6_order_87 mw_283 rfl inlX6 rfl (lt_b rfl) (lt_b rfl) rfl rfl ?_
            refine v_iload_n 0 2 hX dX6_order_90 rfl rfl ?_
            refine v_iload_n 2 1 hX dX6_order_91 rfl rfl ?_
            obtain ⟨v3, hc, hf⟩ := opt_b hf
            refine v_callVi (rest := []) (As := [.ref (ad 13), .int v2, .int x1]) (C := RX3) (T := TX3) (N := 3) (ci := 3) 62 hX dX6_order_92 (c_X3_handInOrder v1 v2 x1 hc) rfl rfl (lt_b rfl) rfl rfl rfl mw_701 mw_702 mw_62 mw_705 mw_703 gAll ds_X3_handInOrder rfl ⟨Nat.le_of_ble_eq_true rfl, Nat.le_of_ble_eq_true rfl⟩ (Nat.le_of_ble_eq_true rfl) ?_
            obtain rfl := Option.some.inj hf
            exact v_iret (r := v3) hX dX6_order_95 rfl
          · have hf := opt_f c hf
            refine v_aload_n 1 0 hX dX6_order_67 rfl rfl ?_
            refine v_get (C := RX6) (T := TX6) (N := 10) (ci := 6) (v := .ref (ad 62)) 0 6 hX dX6_order_68 mw_288 rfl inlX6 rfl (lt_b rfl) (lt_b rfl) rfl rfl ?_
            refine v_aload_n 1 0 hX dX6_order_71 rfl rfl ?_
            refine v_get (C := RX6) (T := TX6) (N := 10) (ci := 6) (v := .ref (ad 13)) 0 1 hX dX6_order_72 mw_283 rfl inlX6 rfl (lt_b rfl) (lt_b rfl) rfl rfl ?_
            refine v_iload_n 0 2 hX dX6_order_75 rfl rfl ?_
            obtain ⟨v4, hc, hf⟩ := opt_b hf
            refine v_callVi (rest := []) (As := [.ref (ad 13), .int v2]) (C := RX3) (T := TX3) (N := 3) (ci := 3) 62 hX dX6_order_76 (c_X3_sumOfOrder fuel v1 v2 hc) rfl rfl (lt_b rfl) rfl rfl rfl mw_697 mw_698 mw_62 mw_704 mw_699 gAll ds_X3_sumOfOrder rfl ⟨Nat.le_of_ble_eq_true rfl, Nat.le_of_ble_eq_true rfl⟩ (Nat.le_of_ble_eq_true rfl) ?_
            refine v_goto 95 hX dX6_order_79 (by decide) ?_
            obtain rfl := Option.some.inj hf
            exact v_iret (r := v4) hX dX6_order_95 rfl
        · have hf := opt_f c hf
          refine v_ldc (-1000000) hX dX6_order_37 mw_570 ?_
          obtain rfl := Option.some.inj hf
          exact v_iret (r := (-1000000)) hX dX6_order_39 rfl
      · have hf := opt_f c hf
        refine v_ldc (-1000001) hX dX6_order_23 mw_323 ?_
        obtain rfl := Option.some.inj hf
        exact v_iret (r := (-1000001)) hX dX6_order_25 rfl
  · have hf := opt_t c hf
    refine v_ldc (-1000002) hX dX6_order_10 mw_473 ?_
    obtain rfl := Option.some.inj hf
    exact v_iret (r := (-1000002)) hX dX6_order_12 rfl
set_option maxHeartbeats 4000000 in
set_option maxRecDepth 100000 in
theorem s_X7_reads_39 {P : PT} {M : MT} {D : va_G} {cs : ClassId × ClassId × ClassId} {ad : Nat → Nat} (hX : VOk P M (mW D cs ad) 2 cX7_reads RX7 (some .boolean) 6) (fuel : Nat)   (z : Int32 × Mem)  : ∀ (n : Nat) (σ : Mem), f_X7_reads_39 fuel n σ = some z → V P M (mW D cs ad) 2 (QI P M (mW D cs ad) z.1 z.2) 39 [(0, .ref (ad 0))] [] σ := by
  intro n
  induction n with
  | zero =>
    intro σ hf
    cases hf
  | succ n hk39 =>
    intro σ hf
    rw [f_X7_reads_39] at hf
    refine v_aload_n 0 0 hX dX7_reads_39 rfl rfl ?_
    refine v_get (C := RX7) (T := TX7) (N := 22) (ci := 7) (v := .int (σ 0 17)) 0 17 hX dX7_reads_40 mw_853 rfl inlX7 rfl (lt_b rfl) (lt_b rfl) rfl rfl ?_
    refine v_if_eq 62 hX dX7_reads_43 (by decide) (fun c => ?_) (fun c => ?_)
    · have hf := opt_t c hf
      refine v_aload_n 0 0 hX dX7_reads_62 rfl rfl ?_
      refine v_get (C := RX7) (T := TX7) (N := 22) (ci := 7) (v := .ref (ad 10)) 0 20 hX dX7_reads_63 mw_856 rfl inlX7 rfl (lt_b rfl) (lt_b rfl) rfl rfl ?_
      refine v_iconst 2 hX dX7_reads_66 (by decide) ?_
      refine v_aldc (v := σ 10 2) 10 2 hX dX7_reads_67 (lt_b rfl) ((fun _ => rfl) _) ib_2_85 tn_2 rfl ?_
      refine v_if_gt 79 hX dX7_reads_68 (by decide) (fun c => ?_) (fun c => ?_)
      · have hf := opt_t c hf
        refine v_iconst 1 hX dX7_reads_79 (by decide) ?_
        refine v_goto 84 hX dX7_reads_80 (by decide) ?_
        obtain rfl := Option.some.inj hf
        exact v_iret (r := 1) hX dX7_reads_84 rfl
      · have hf := opt_f c hf
        refine v_aload_n 0 0 hX dX7_reads_71 rfl rfl ?_
        refine v_iconst 1 hX dX7_reads_72 (by decide) ?_
        obtain ⟨v4, hc, hf⟩ := opt_b hf
        refine v_callVi (rest := []) (As := [.int 1]) (C := RX7) (T := TX7) (N := 22) (ci := 7) 0 hX dX7_reads_73 (c_X7_fails σ 1 hc) rfl rfl (lt_b rfl) rfl rfl rfl mw_973 mw_33 mw_64 mw_971 mw_974 gAll ds_X7_fails rfl ⟨Nat.le_of_ble_eq_true rfl, Nat.le_of_ble_eq_true rfl⟩ (Nat.le_of_ble_eq_true rfl) ?_
        refine v_if_eq 83 hX dX7_reads_76 (by decide) (fun c => ?_) (fun c => ?_)
        · have hf := opt_t c hf
          refine v_iconst 0 hX dX7_reads_83 (by decide) ?_
          obtain rfl := Option.some.inj hf
          exact v_iret (r := 0) hX dX7_reads_84 rfl
        · have hf := opt_f c hf
          refine v_iconst 1 hX dX7_reads_79 (by decide) ?_
          refine v_goto 84 hX dX7_reads_80 (by decide) ?_
          obtain rfl := Option.some.inj hf
          exact v_iret (r := 1) hX dX7_reads_84 rfl
    · have hf := opt_f c hf
      refine v_aload_n 0 0 hX dX7_reads_46 rfl rfl ?_
      obtain ⟨v5, hc, hf⟩ := opt_b hf
      refine v_callVi (rest := []) (As := []) (C := RX7) (T := TX7) (N := 22) (ci := 7) 0 hX dX7_reads_47 (c_X7_readsOne σ fuel hc) rfl rfl (lt_b rfl) rfl rfl rfl mw_985 mw_36 mw_64 mw_983 mw_986 gAll ds_X7_readsOne rfl ⟨Nat.le_of_ble_eq_true rfl, Nat.le_of_ble_eq_true rfl⟩ (Nat.le_of_ble_eq_true rfl) ?_
      refine v_if_ne 55 hX dX7_reads_50 (by decide) (fun c => ?_) (fun c => ?_)
      · have hf := opt_f c hf
        refine v_aload_n 0 0 hX dX7_reads_55 rfl rfl ?_
        obtain ⟨v6, hc, hf⟩ := opt_b hf
        refine v_callVv (rest := []) (As := []) (C := RX7) (T := TX7) (N := 22) (ci := 7) 0 hX dX7_reads_56 (c_X7_next v5.2 fuel hc) rfl rfl (lt_b rfl) rfl rfl rfl mw_958 mw_31 mw_64 mw_956 mw_959 gAll ds_X7_next rfl ⟨Nat.le_of_ble_eq_true rfl, Nat.le_of_ble_eq_true rfl⟩ (Nat.le_of_ble_eq_true rfl) ?_
        refine v_goto 39 hX dX7_reads_59 (by decide) ?_
        exact (hk39 v6 hf)
      · have hf := opt_t c hf
        refine v_iconst 0 hX dX7_reads_53 (by decide) ?_
        obtain rfl := Option.some.inj hf
        exact v_iret (r := 0) hX dX7_reads_54 rfl
set_option maxHeartbeats 4000000 in
set_option maxRecDepth 100000 in
theorem s_X7_reads_2 {P : PT} {M : MT} {D : va_G} {cs : ClassId × ClassId × ClassId} {ad : Nat → Nat} (hX : VOk P M (mW D cs ad) 2 cX7_reads RX7 (some .boolean) 6) (fuel : Nat)   (z : Int32 × Mem)  : ∀ (n : Nat) (σ : Mem) (x1 : Int32), f_X7_reads_2 fuel n σ x1 = some z → V P M (mW D cs ad) 2 (QI P M (mW D cs ad) z.1 z.2) 2 [(0, .ref (ad 0)), (1, .int x1)] [] σ := by
  intro n
  induction n with
  | zero =>
    intro σ x1 hf
    cases hf
  | succ n hk2 =>
    intro σ x1 hf
    rw [f_X7_reads_2] at hf
    refine v_iload_n 1 1 hX dX7_reads_2 rfl rfl ?_
    refine v_bipush 85 hX dX7_reads_3 (by decide) ?_
    refine v_icmp_ge 21 hX dX7_reads_5 (by decide) (fun c => ?_) (fun c => ?_)
    · have hf := opt_t c hf
      refine v_aload_n 0 0 hX dX7_reads_21 rfl rfl ?_
      refine v_iconst 0 hX dX7_reads_22 (by decide) ?_
      refine v_put (C := RX7) (T := TX7) (N := 22) (ci := 7) (ty := .int) tyX7 0 15 hX dX7_reads_23 mw_851 rfl inlX7 tyX7_ok nmX7 rfl (lt_b rfl) (lt_b rfl) rfl (tyX7_ok 15 (lt_b rfl)) rfl rfl rfl (lt_b rfl) rfl ?_
      refine v_aload_n 0 0 hX dX7_reads_26 rfl rfl ?_
      obtain ⟨v1, hc, hf⟩ := opt_b hf
      refine v_callVi (rest := []) (As := []) (C := RX7) (T := TX7) (N := 22) (ci := 7) 0 hX dX7_reads_27 (c_X7_readsLaw (mst σ 0 15 0) fuel hc) rfl rfl (lt_b rfl) rfl rfl rfl mw_954 mw_30 mw_64 mw_952 mw_955 gAll ds_X7_readsLaw rfl ⟨Nat.le_of_ble_eq_true rfl, Nat.le_of_ble_eq_true rfl⟩ (Nat.le_of_ble_eq_true rfl) ?_
      refine v_if_ne 35 hX dX7_reads_30 (by decide) (fun c => ?_) (fun c => ?_)
      · have hf := opt_f c hf
        refine v_aload_n 0 0 hX dX7_reads_35 rfl rfl ?_
        obtain ⟨v2, hc, hf⟩ := opt_b hf
        refine v_callVv (rest := []) (As := []) (C := RX7) (T := TX7) (N := 22) (ci := 7) 0 hX dX7_reads_36 (c_X7_next v1.2 fuel hc) rfl rfl (lt_b rfl) rfl rfl rfl mw_958 mw_31 mw_64 mw_956 mw_959 gAll ds_X7_next rfl ⟨Nat.le_of_ble_eq_true rfl, Nat.le_of_ble_eq_true rfl⟩ (Nat.le_of_ble_eq_true rfl) ?_
        exact v_sub [0] rfl (s_X7_reads_39 hX fuel z  fuel v2 hf)
      · have hf := opt_t c hf
        refine v_iconst 0 hX dX7_reads_33 (by decide) ?_
        obtain rfl := Option.some.inj hf
        exact v_iret (r := 0) hX dX7_reads_34 rfl
    · have hf := opt_f c hf
      refine v_aload_n 0 0 hX dX7_reads_8 rfl rfl ?_
      refine v_get (C := RX7) (T := TX7) (N := 22) (ci := 7) (v := .ref (ad 10)) 0 20 hX dX7_reads_9 mw_856 rfl inlX7 rfl (lt_b rfl) (lt_b rfl) rfl rfl ?_
      refine v_iload_n 1 1 hX dX7_reads_12 rfl rfl ?_
      refine v_iconst 0 hX dX7_reads_13 (by decide) ?_
      obtain ⟨hi3, hf⟩ := gd_some hf
      refine v_ast 10 hX dX7_reads_14 (lt_b rfl) (fun _ => rfl) hi3 ?_
      refine v_iinc 1 (x1 + 1) [(1, .int (x1 + 1)), (0, .ref (ad 0))] hX dX7_reads_15 rfl rfl (lt_b rfl) rfl ?_
      refine v_goto 2 hX dX7_reads_18 (by decide) ?_
      exact v_sub [1, 0] rfl (hk2 (mst σ 10 x1.toNatClampNeg 0) (x1 + 1) hf)
set_option maxHeartbeats 4000000 in
set_option maxRecDepth 100000 in
theorem c_X7_reads {l : Launch} {D : va_G} {cs : ClassId × ClassId × ClassId} {ad : Nat → Nat} (σ : Mem) (fuel : Nat)   {z : Int32 × Mem} (hf : f_X7_reads fuel σ = some z) : CtI l (mW D cs ad) 6 yX7_reads cX7_reads 2 (some .boolean) [.ref (ad 0)] σ z.1 z.2 := by
  refine ct_I RX7 [(0, .ref (ad 0))] (by decide +kernel) rfl rfl (Nat.le_of_ble_eq_true rfl) ?_
  intro P M hl0 hX
  unfold f_X7_reads at hf
  refine v_iconst 0 hX dX7_reads_0 (by decide) ?_
  refine v_istore_n 1 [(1, .int 0), (0, .ref (ad 0))] hX dX7_reads_1 rfl (lt_b rfl) rfl ?_
  exact v_sub [1, 0] rfl (s_X7_reads_2 hX fuel z  fuel σ 0 hf)
set_option maxHeartbeats 4000000 in
set_option maxRecDepth 100000 in
theorem c_X7_archive {l : Launch} {D : va_G} {cs : ClassId × ClassId × ClassId} {ad : Nat → Nat} (σ : Mem) (fuel : Nat)   {z : Int32 × Mem} (hf : f_X7_archive fuel σ = some z) : CtI l (mW D cs ad) 7 yX7_archive cX7_archive 1 (some .int) [.ref (ad 0)] σ z.1 z.2 := by
  refine ct_I RX7 [(0, .ref (ad 0))] (by decide +kernel) rfl rfl (Nat.le_of_ble_eq_true rfl) ?_
  intro P M hl0 hX
  unfold f_X7_archive at hf
  refine v_aload_n 0 0 hX dX7_archive_0 rfl rfl ?_
  refine v_aload_n 0 0 hX dX7_archive_1 rfl rfl ?_
  refine v_get (C := RX7) (T := TX7) (N := 22) (ci := 7) (v := .int (σ 0 5)) 0 5 hX dX7_archive_2 mw_841 rfl inlX7 rfl (lt_b rfl) (lt_b rfl) rfl rfl ?_
  refine v_put (C := RX7) (T := TX7) (N := 22) (ci := 7) (ty := .int) tyX7 0 19 hX dX7_archive_5 mw_855 rfl inlX7 tyX7_ok nmX7 rfl (lt_b rfl) (lt_b rfl) rfl (tyX7_ok 19 (lt_b rfl)) rfl rfl rfl (lt_b rfl) rfl ?_
  refine v_aload_n 0 0 hX dX7_archive_8 rfl rfl ?_
  refine v_iconst 0 hX dX7_archive_9 (by decide) ?_
  refine v_put (C := RX7) (T := TX7) (N := 22) (ci := 7) (ty := .int) tyX7 0 5 hX dX7_archive_10 mw_841 rfl inlX7 tyX7_ok nmX7 rfl (lt_b rfl) (lt_b rfl) rfl (tyX7_ok 5 (lt_b rfl)) rfl rfl rfl (lt_b rfl) rfl ?_
  refine v_aload_n 0 0 hX dX7_archive_13 rfl rfl ?_
  obtain ⟨v1, hc, hf⟩ := opt_b hf
  refine v_callVi (rest := []) (As := []) (C := RX7) (T := TX7) (N := 22) (ci := 7) 0 hX dX7_archive_14 (c_X7_reads (mst (mst σ 0 19 (σ 0 5)) 0 5 0) fuel hc) rfl rfl (lt_b rfl) rfl rfl rfl mw_950 mw_29 mw_64 mw_948 mw_951 gAll ds_X7_reads rfl ⟨Nat.le_of_ble_eq_true rfl, Nat.le_of_ble_eq_true rfl⟩ (Nat.le_of_ble_eq_true rfl) ?_
  refine v_if_ne 28 hX dX7_archive_17 (by decide) (fun c => ?_) (fun c => ?_)
  · have hf := opt_f c hf
    refine v_aload_n 0 0 hX dX7_archive_28 rfl rfl ?_
    refine v_iconst 1 hX dX7_archive_29 (by decide) ?_
    refine v_put (C := RX7) (T := TX7) (N := 22) (ci := 7) (ty := .boolean) tyX7 0 7 hX dX7_archive_30 mw_843 rfl inlX7 tyX7_ok nmX7 rfl (lt_b rfl) (lt_b rfl) rfl (tyX7_ok 7 (lt_b rfl)) rfl rfl rfl (lt_b rfl) rfl ?_
    refine v_aload_n 0 0 hX dX7_archive_33 rfl rfl ?_
    refine v_iconst 0 hX dX7_archive_34 (by decide) ?_
    refine v_put (C := RX7) (T := TX7) (N := 22) (ci := 7) (ty := .int) tyX7 0 9 hX dX7_archive_35 mw_845 rfl inlX7 tyX7_ok nmX7 rfl (lt_b rfl) (lt_b rfl) rfl (tyX7_ok 9 (lt_b rfl)) rfl rfl rfl (lt_b rfl) rfl ?_
    refine v_aload_n 0 0 hX dX7_archive_38 rfl rfl ?_
    refine v_get (C := RX7) (T := TX7) (N := 22) (ci := 7) (v := .ref (ad 10)) 0 20 hX dX7_archive_39 mw_856 rfl inlX7 rfl (lt_b rfl) (lt_b rfl) rfl rfl ?_
    refine v_iconst 0 hX dX7_archive_42 (by decide) ?_
    refine v_aload_n 0 0 hX dX7_archive_43 rfl rfl ?_
    refine v_get (C := RX7) (T := TX7) (N := 22) (ci := 7) (v := .ref (ad 5)) 0 8 hX dX7_archive_44 mw_844 rfl inlX7 rfl (lt_b rfl) (lt_b rfl) rfl rfl ?_
    refine v_iconst 0 hX dX7_archive_47 (by decide) ?_
    obtain ⟨v2, hc, hf⟩ := opt_b hf
    refine v_callSv (rest := []) (As := [.ref (ad 10), .int 0, .ref (ad 5), .int 0]) hX dX7_archive_48 (c_X7_copies_10_5 (mst (mst v1.2 0 7 1) 0 9 0) fuel 0 0 hc) rfl rfl mw_1004 mw_64 mw_1003 mw_1005 gAll ds_X7_copies rfl ⟨Nat.le_of_ble_eq_true rfl, Nat.le_of_ble_eq_true rfl⟩ (Nat.le_of_ble_eq_true rfl) ?_
    refine v_aload_n 0 0 hX dX7_archive_51 rfl rfl ?_
    refine v_get (C := RX7) (T := TX7) (N := 22) (ci := 7) (v := .ref (ad 5)) 0 8 hX dX7_archive_52 mw_844 rfl inlX7 rfl (lt_b rfl) (lt_b rfl) rfl rfl ?_
    refine v_iconst 2 hX dX7_archive_55 (by decide) ?_
    refine v_aldc (v := v2 5 2) 5 2 hX dX7_archive_56 (lt_b rfl) ((fun _ => rfl) _) ib_2_85 tn_2 rfl ?_
    obtain rfl := Option.some.inj hf
    exact v_iret (r := v2 5 2) hX dX7_archive_57 rfl
  · have hf := opt_t c hf
    refine v_ldc (-1000100) hX dX7_archive_20 mw_1002 ?_
    refine v_aload_n 0 0 hX dX7_archive_22 rfl rfl ?_
    refine v_get (C := RX7) (T := TX7) (N := 22) (ci := 7) (v := .int (v1.2 0 16)) 0 16 hX dX7_archive_23 mw_852 rfl inlX7 rfl (lt_b rfl) (lt_b rfl) rfl rfl ?_
    refine v_isub hX dX7_archive_26 ?_
    obtain rfl := Option.some.inj hf
    exact v_iret (r := (-1000100) - (v1.2 0 16)) hX dX7_archive_27 rfl
