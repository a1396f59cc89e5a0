set_option maxHeartbeats 4000000 in
set_option maxRecDepth 100000 in
theorem c_X2_runBody {l : Launch} {D : va_G} {cs : ClassId × ClassId × ClassId} {ad : Nat → Nat} {ts : Nat × Nat × Nat} (σ : Mem) (fuel : Nat) (rb : Mem → Int32 → Int32 → Int32 → Option (Int32 × Mem)) (dr : Nat) (hrb : ∀ (l : Launch) (σ : Mem) (a b c : Int32) (z : Int32 × Mem), rb σ a b c = some z → CtI l (xW D cs ad ts) dr yX2_runBody cX2_runBody 6 (some .int) [.ref (ad 66), .ref (ad 13), .int a, .int b, .int c] σ z.1 z.2) (x2 : Int32) (x3 : Int32) (x4 : Int32) {z : Int32 × Mem} (hf : f_X2_runBody fuel rb σ x2 x3 x4 = some z) : CtI l (xW D cs ad ts) (dr + 5) yX2_runBody cX2_runBody 6 (some .int) [.ref (ad 66), .ref (ad 13), .int x2, .int x3, .int x4] σ z.1 z.2 := by
  refine ct_I RX2 [(0, .ref (ad 66)), (1, .ref (ad 13)), (2, .int x2), (3, .int x3), (4, .int x4)] (by decide +kernel) rfl rfl (Nat.le_of_ble_eq_true rfl) ?_
  intro P M hl0 hX
  unfold f_X2_runBody at hf
  refine v_iload 4 hX dX2_runBody_0 rfl ?_
  refine v_bipush 20 hX dX2_runBody_2 (by decide) ?_
  refine v_icmp_le 9 hX dX2_runBody_4 (by decide) (fun c => ?_) (fun c => ?_)
  · have hf := opt_t c hf
    refine v_aload_n 0 0 hX dX2_runBody_9 rfl rfl ?_
    refine v_iload_n 2 2 hX dX2_runBody_10 rfl rfl ?_
    obtain ⟨v1, hc, hf⟩ := opt_b hf
    refine v_callVv (rest := []) (As := [.int x2]) (C := RX2) (T := TX2) (N := 2) (ci := 2) 66 hX dX2_runBody_11 (c_X2_leave σ x2 hc) rfl rfl (lt_b rfl) rfl rfl rfl mw_804 mw_26 mw_63 mw_802 mw_805 gAll ds_X2_leave rfl ⟨by omega, Nat.le_of_ble_eq_true rfl⟩ (Nat.le_of_ble_eq_true rfl) ?_
    refine v_iload 4 hX dX2_runBody_14 rfl ?_
    refine v_iconst 1 hX dX2_runBody_16 (by decide) ?_
    refine v_iadd hX dX2_runBody_17 ?_
    refine v_istore [(5, .int (x4 + 1)), (0, .ref (ad 66)), (1, .ref (ad 13)), (2, .int x2), (3, .int x3), (4, .int x4)] hX dX2_runBody_18 (lt_b rfl) rfl ?_
    refine v_iload_n 3 2 hX dX2_runBody_20 rfl rfl ?_
    by_cases cs2 : x2 = 10
    · have hf := opt_t cs2 hf
      refine v_tableIn 75 96 hX dX2_runBody_21 (by rw [cs2]; decide) (by rw [cs2]; decide) (by rw [cs2]; decide) (by decide) ?_
      refine v_aload_n 2 1 hX dX2_runBody_96 rfl rfl ?_
      refine v_get (C := RX1) (T := TX1) (N := 19) (ci := 1) (v := .ref (ad 15)) 13 10 hX dX2_runBody_97 mw_143 rfl inlX1 rfl (lt_b rfl) (lt_b rfl) rfl rfl ?_
      refine v_iload_n 4 3 hX dX2_runBody_100 rfl rfl ?_
      obtain ⟨hi3, hf⟩ := gd_some hf
      refine v_ald (v := v1 15 x3.toNatClampNeg) 15 hX dX2_runBody_101 (lt_b rfl) ((fun _ => rfl) _) hi3 rfl ?_
      obtain rfl := Option.some.inj hf
      exact v_iret (r := v1 15 x3.toNatClampNeg) hX dX2_runBody_102 rfl
    have hf := opt_f cs2 hf
    by_cases cs4 : x2 = 11
    · have hf := opt_t cs4 hf
      refine v_tableIn 82 103 hX dX2_runBody_21 (by rw [cs4]; decide) (by rw [cs4]; decide) (by rw [cs4]; decide) (by decide) ?_
      refine v_aload_n 1 0 hX dX2_runBody_103 rfl rfl ?_
      refine v_aload_n 2 1 hX dX2_runBody_104 rfl rfl ?_
      refine v_bipush 10 hX dX2_runBody_105 (by decide) ?_
      refine v_iload_n 4 3 hX dX2_runBody_107 rfl rfl ?_
      refine v_iload 0 hX dX2_runBody_108 rfl ?_
      obtain ⟨v5, hc, hf⟩ := opt_b hf
      refine v_callVi (rest := []) (As := [.ref (ad 13), .int 10, .int x3, .int (x4 + 1)]) (C := RX2) (T := TX2) (N := 2) (ci := 2) 66 hX dX2_runBody_110 (hrb _ v1 10 x3 (x4 + 1) v5 hc) rfl rfl (lt_b rfl) rfl rfl rfl mw_800 mw_25 mw_63 mw_798 mw_801 gAll ds_X2_runBody rfl ⟨by omega, Nat.le_of_ble_eq_true rfl⟩ (Nat.le_of_ble_eq_true rfl) ?_
      refine v_aload_n 1 0 hX dX2_runBody_113 rfl rfl ?_
      refine v_aload_n 2 1 hX dX2_runBody_114 rfl rfl ?_
      refine v_iload_n 4 3 hX dX2_runBody_115 rfl rfl ?_
      refine v_iconst 1 hX dX2_runBody_116 (by decide) ?_
      refine v_iload 0 hX dX2_runBody_117 rfl ?_
      obtain ⟨v6, hc, hf⟩ := opt_b hf
      refine v_callVi (rest := [.int v5.1]) (As := [.ref (ad 13), .int x3, .int 1, .int (x4 + 1)]) (C := RX2) (T := TX2) (N := 2) (ci := 2) 66 hX dX2_runBody_119 (c_X2_askAnew v5.2 fuel rb dr hrb x3 1 (x4 + 1) hc) rfl rfl (lt_b rfl) rfl rfl rfl mw_789 mw_24 mw_63 mw_787 mw_790 gAll ds_X2_askAnew rfl ⟨by omega, Nat.le_of_ble_eq_true rfl⟩ (Nat.le_of_ble_eq_true rfl) ?_
      refine v_iadd hX dX2_runBody_122 ?_
      obtain rfl := Option.some.inj hf
      exact v_iret (r := v5.1 + v6.1) hX dX2_runBody_123 rfl
    have hf := opt_f cs4 hf
    by_cases cs7 : x2 = 12
    · have hf := opt_t cs7 hf
      refine v_tableIn 103 124 hX dX2_runBody_21 (by rw [cs7]; decide) (by rw [cs7]; decide) (by rw [cs7]; decide) (by decide) ?_
      refine v_aload_n 1 0 hX dX2_runBody_124 rfl rfl ?_
      refine v_aload_n 2 1 hX dX2_runBody_125 rfl rfl ?_
      refine v_bipush 11 hX dX2_runBody_126 (by decide) ?_
      refine v_iload_n 4 3 hX dX2_runBody_128 rfl rfl ?_
      refine v_iload 0 hX dX2_runBody_129 rfl ?_
      obtain ⟨v8, hc, hf⟩ := opt_b hf
      refine v_callVi (rest := []) (As := [.ref (ad 13), .int 11, .int x3, .int (x4 + 1)]) (C := RX2) (T := TX2) (N := 2) (ci := 2) 66 hX dX2_runBody_131 (hrb _ v1 11 x3 (x4 + 1) v8 hc) rfl rfl (lt_b rfl) rfl rfl rfl mw_800 mw_25 mw_63 mw_798 mw_801 gAll ds_X2_runBody rfl ⟨by omega, Nat.le_of_ble_eq_true rfl⟩ (Nat.le_of_ble_eq_true rfl) ?_
      refine v_ineg hX dX2_runBody_134 ?_
      obtain rfl := Option.some.inj hf
      exact v_iret (r := -v8.1) hX dX2_runBody_135 rfl
    have hf := opt_f cs7 hf
    by_cases cs9 : x2 = 13
    · have hf := opt_t cs9 hf
      refine v_tableIn 115 136 hX dX2_runBody_21 (by rw [cs9]; decide) (by rw [cs9]; decide) (by rw [cs9]; decide) (by decide) ?_
      refine v_aload_n 1 0 hX dX2_runBody_136 rfl rfl ?_
      refine v_aload_n 2 1 hX dX2_runBody_137 rfl rfl ?_
      refine v_bipush 10 hX dX2_runBody_138 (by decide) ?_
      refine v_iload_n 4 3 hX dX2_runBody_140 rfl rfl ?_
      refine v_iload 0 hX dX2_runBody_141 rfl ?_
      obtain ⟨v10, hc, hf⟩ := opt_b hf
      refine v_callVi (rest := []) (As := [.ref (ad 13), .int 10, .int x3, .int (x4 + 1)]) (C := RX2) (T := TX2) (N := 2) (ci := 2) 66 hX dX2_runBody_143 (hrb _ v1 10 x3 (x4 + 1) v10 hc) rfl rfl (lt_b rfl) rfl rfl rfl mw_800 mw_25 mw_63 mw_798 mw_801 gAll ds_X2_runBody rfl ⟨by omega, Nat.le_of_ble_eq_true rfl⟩ (Nat.le_of_ble_eq_true rfl) ?_
      refine v_bipush 100 hX dX2_runBody_146 (by decide) ?_
      refine v_isub hX dX2_runBody_148 ?_
      obtain rfl := Option.some.inj hf
      exact v_iret (r := v10.1 - 100) hX dX2_runBody_149 rfl
    have hf := opt_f cs9 hf
    by_cases cs11 : x2 = 14
    · have hf := opt_t cs11 hf
      refine v_tableIn 129 150 hX dX2_runBody_21 (by rw [cs11]; decide) (by rw [cs11]; decide) (by rw [cs11]; decide) (by decide) ?_
      refine v_iconst 2 hX dX2_runBody_150 (by decide) ?_
      refine v_aload_n 1 0 hX dX2_runBody_151 rfl rfl ?_
      refine v_aload_n 2 1 hX dX2_runBody_152 rfl rfl ?_
      refine v_bipush 13 hX dX2_runBody_153 (by decide) ?_
      refine v_iload_n 4 3 hX dX2_runBody_155 rfl rfl ?_
      refine v_iload 0 hX dX2_runBody_156 rfl ?_
      obtain ⟨v12, hc, hf⟩ := opt_b hf
      refine v_callVi (rest := [.int 2]) (As := [.ref (ad 13), .int 13, .int x3, .int (x4 + 1)]) (C := RX2) (T := TX2) (N := 2) (ci := 2) 66 hX dX2_runBody_158 (hrb _ v1 13 x3 (x4 + 1) v12 hc) rfl rfl (lt_b rfl) rfl rfl rfl mw_800 mw_25 mw_63 mw_798 mw_801 gAll ds_X2_runBody rfl ⟨by omega, Nat.le_of_ble_eq_true rfl⟩ (Nat.le_of_ble_eq_true rfl) ?_
      refine v_imul hX dX2_runBody_161 ?_
      obtain rfl := Option.some.inj hf
      exact v_iret (r := 2 * v12.1) hX dX2_runBody_162 rfl
    have hf := opt_f cs11 hf
    by_cases cs13 : x2 = 15
    · have hf := opt_t cs13 hf
      refine v_tableIn 210 231 hX dX2_runBody_21 (by rw [cs13]; decide) (by rw [cs13]; decide) (by rw [cs13]; decide) (by decide) ?_
      refine v_iconst 0 hX dX2_runBody_231 (by decide) ?_
      obtain rfl := Option.some.inj hf
      exact v_iret (r := 0) hX dX2_runBody_232 rfl
    have hf := opt_f cs13 hf
    by_cases cs14 : x2 = 16
    · have hf := opt_t cs14 hf
      refine v_tableIn 210 231 hX dX2_runBody_21 (by rw [cs14]; decide) (by rw [cs14]; decide) (by rw [cs14]; decide) (by decide) ?_
      refine v_iconst 0 hX dX2_runBody_231 (by decide) ?_
      obtain rfl := Option.some.inj hf
      exact v_iret (r := 0) hX dX2_runBody_232 rfl
    have hf := opt_f cs14 hf
    by_cases cs15 : x2 = 17
    · have hf := opt_t cs15 hf
      refine v_tableIn 210 231 hX dX2_runBody_21 (by rw [cs15]; decide) (by rw [cs15]; decide) (by rw [cs15]; decide) (by decide) ?_
      refine v_iconst 0 hX dX2_runBody_231 (by decide) ?_
      obtain rfl := Option.some.inj hf
      exact v_iret (r := 0) hX dX2_runBody_232 rfl
    have hf := opt_f cs15 hf
    by_cases cs16 : x2 = 18
    · have hf := opt_t cs16 hf
      refine v_tableIn 210 231 hX dX2_runBody_21 (by rw [cs16]; decide) (by rw [cs16]; decide) (by rw [cs16]; decide) (by decide) ?_
      refine v_iconst 0 hX dX2_runBody_231 (by decide) ?_
      obtain rfl := Option.some.inj hf
      exact v_iret (r := 0) hX dX2_runBody_232 rfl
    have hf := opt_f cs16 hf
    by_cases cs17 : x2 = 19
    · have hf := opt_t cs17 hf
      refine v_tableIn 210 231 hX dX2_runBody_21 (by rw [cs17]; decide) (by rw [cs17]; decide) (by rw [cs17]; decide) (by decide) ?_
      refine v_iconst 0 hX dX2_runBody_231 (by decide) ?_
      obtain rfl := Option.some.inj hf
      exact v_iret (r := 0) hX dX2_runBody_232 rfl
    have hf := opt_f cs17 hf
    by_cases cs18 : x2 = 20
    · have hf := opt_t cs18 hf
      refine v_tableIn 142 163 hX dX2_runBody_21 (by rw [cs18]; decide) (by rw [cs18]; decide) (by rw [cs18]; decide) (by decide) ?_
      refine v_iload_n 4 3 hX dX2_runBody_163 rfl rfl ?_
      obtain rfl := Option.some.inj hf
      exact v_iret (r := x3) hX dX2_runBody_164 rfl
    have hf := opt_f cs18 hf
    by_cases cs19 : x2 = 21
    · have hf := opt_t cs19 hf
      refine v_tableIn 144 165 hX dX2_runBody_21 (by rw [cs19]; decide) (by rw [cs19]; decide) (by rw [cs19]; decide) (by decide) ?_
      refine v_aload_n 1 0 hX dX2_runBody_165 rfl rfl ?_
      refine v_aload_n 2 1 hX dX2_runBody_166 rfl rfl ?_
      refine v_bipush 20 hX dX2_runBody_167 (by decide) ?_
      refine v_iload_n 4 3 hX dX2_runBody_169 rfl rfl ?_
      refine v_iload 0 hX dX2_runBody_170 rfl ?_
      obtain ⟨v20, hc, hf⟩ := opt_b hf
      refine v_callVi (rest := []) (As := [.ref (ad 13), .int 20, .int x3, .int (x4 + 1)]) (C := RX2) (T := TX2) (N := 2) (ci := 2) 66 hX dX2_runBody_172 (hrb _ v1 20 x3 (x4 + 1) v20 hc) rfl rfl (lt_b rfl) rfl rfl rfl mw_800 mw_25 mw_63 mw_798 mw_801 gAll ds_X2_runBody rfl ⟨by omega, Nat.le_of_ble_eq_true rfl⟩ (Nat.le_of_ble_eq_true rfl) ?_
      refine v_aload_n 2 1 hX dX2_runBody_175 rfl rfl ?_
      refine v_iload_n 4 3 hX dX2_runBody_176 rfl rfl ?_
      obtain ⟨v21, hc, hf⟩ := opt_b hf
      refine v_callVi (rest := [.int v20.1]) (As := [.int x3]) (C := RX1) (T := TX1) (N := 19) (ci := 1) 13 hX dX2_runBody_177 (c_X1_unwhiteBy fuel v20.2 x3 hc) rfl rfl (lt_b rfl) rfl rfl rfl mw_807 mw_808 mw_59 mw_806 mw_809 gAll ds_X1_unwhiteBy rfl ⟨by omega, Nat.le_of_ble_eq_true rfl⟩ (Nat.le_of_ble_eq_true rfl) ?_
      refine v_iadd hX dX2_runBody_180 ?_
      obtain rfl := Option.some.inj hf
      exact v_iret (r := v20.1 + v21) hX dX2_runBody_181 rfl
    have hf := opt_f cs19 hf
    by_cases cs22 : x2 = 22
    · have hf := opt_t cs22 hf
      refine v_tableIn 161 182 hX dX2_runBody_21 (by rw [cs22]; decide) (by rw [cs22]; decide) (by rw [cs22]; decide) (by decide) ?_
      refine v_aload_n 1 0 hX dX2_runBody_182 rfl rfl ?_
      refine v_aload_n 2 1 hX dX2_runBody_183 rfl rfl ?_
      refine v_bipush 21 hX dX2_runBody_184 (by decide) ?_
      refine v_iload_n 4 3 hX dX2_runBody_186 rfl rfl ?_
      refine v_iload 0 hX dX2_runBody_187 rfl ?_
      obtain ⟨v23, hc, hf⟩ := opt_b hf
      refine v_callVi (rest := []) (As := [.ref (ad 13), .int 21, .int x3, .int (x4 + 1)]) (C := RX2) (T := TX2) (N := 2) (ci := 2) 66 hX dX2_runBody_189 (hrb _ v1 21 x3 (x4 + 1) v23 hc) rfl rfl (lt_b rfl) rfl rfl rfl mw_800 mw_25 mw_63 mw_798 mw_801 gAll ds_X2_runBody rfl ⟨by omega, Nat.le_of_ble_eq_true rfl⟩ (Nat.le_of_ble_eq_true rfl) ?_
      refine v_sipush 1000 hX dX2_runBody_192 (by decide) ?_
      refine v_isub hX dX2_runBody_195 ?_
      obtain rfl := Option.some.inj hf
      exact v_iret (r := v23.1 - 1000) hX dX2_runBody_196 rfl
    have hf := opt_f cs22 hf
    by_cases cs24 : x2 = 23
    · have hf := opt_t cs24 hf
      refine v_tableIn 176 197 hX dX2_runBody_21 (by rw [cs24]; decide) (by rw [cs24]; decide) (by rw [cs24]; decide) (by decide) ?_
      refine v_aload_n 1 0 hX dX2_runBody_197 rfl rfl ?_
      refine v_aload_n 2 1 hX dX2_runBody_198 rfl rfl ?_
      refine v_bipush 20 hX dX2_runBody_199 (by decide) ?_
      refine v_iload_n 4 3 hX dX2_runBody_201 rfl rfl ?_
      refine v_iload 0 hX dX2_runBody_202 rfl ?_
      obtain ⟨v25, hc, hf⟩ := opt_b hf
      refine v_callVi (rest := []) (As := [.ref (ad 13), .int 20, .int x3, .int (x4 + 1)]) (C := RX2) (T := TX2) (N := 2) (ci := 2) 66 hX dX2_runBody_204 (hrb _ v1 20 x3 (x4 + 1) v25 hc) rfl rfl (lt_b rfl) rfl rfl rfl mw_800 mw_25 mw_63 mw_798 mw_801 gAll ds_X2_runBody rfl ⟨by omega, Nat.le_of_ble_eq_true rfl⟩ (Nat.le_of_ble_eq_true rfl) ?_
      refine v_aload_n 1 0 hX dX2_runBody_207 rfl rfl ?_
      refine v_aload_n 2 1 hX dX2_runBody_208 rfl rfl ?_
      refine v_iload_n 4 3 hX dX2_runBody_209 rfl rfl ?_
      refine v_iconst 0 hX dX2_runBody_210 (by decide) ?_
      refine v_iload 0 hX dX2_runBody_211 rfl ?_
      obtain ⟨v26, hc, hf⟩ := opt_b hf
      refine v_callVi (rest := [.int v25.1]) (As := [.ref (ad 13), .int x3, .int 0, .int (x4 + 1)]) (C := RX2) (T := TX2) (N := 2) (ci := 2) 66 hX dX2_runBody_213 (c_X2_askAnew v25.2 fuel rb dr hrb x3 0 (x4 + 1) hc) rfl rfl (lt_b rfl) rfl rfl rfl mw_789 mw_24 mw_63 mw_787 mw_790 gAll ds_X2_askAnew rfl ⟨by omega, Nat.le_of_ble_eq_true rfl⟩ (Nat.le_of_ble_eq_true rfl) ?_
      refine v_isub hX dX2_runBody_216 ?_
      obtain rfl := Option.some.inj hf
      exact v_iret (r := v25.1 - v26.1) hX dX2_runBody_217 rfl
    have hf := opt_f cs24 hf
    by_cases cs27 : x2 = 24
    · have hf := opt_t cs27 hf
      refine v_tableIn 197 218 hX dX2_runBody_21 (by rw [cs27]; decide) (by rw [cs27]; decide) (by rw [cs27]; decide) (by decide) ?_
      refine v_iconst 2 hX dX2_runBody_218 (by decide) ?_
      refine v_aload_n 1 0 hX dX2_runBody_219 rfl rfl ?_
      refine v_aload_n 2 1 hX dX2_runBody_220 rfl rfl ?_
      refine v_bipush 21 hX dX2_runBody_221 (by decide) ?_
      refine v_iload_n 4 3 hX dX2_runBody_223 rfl rfl ?_
      refine v_iload 0 hX dX2_runBody_224 rfl ?_
      obtain ⟨v28, hc, hf⟩ := opt_b hf
      refine v_callVi (rest := [.int 2]) (As := [.ref (ad 13), .int 21, .int x3, .int (x4 + 1)]) (C := RX2) (T := TX2) (N := 2) (ci := 2) 66 hX dX2_runBody_226 (hrb _ v1 21 x3 (x4 + 1) v28 hc) rfl rfl (lt_b rfl) rfl rfl rfl mw_800 mw_25 mw_63 mw_798 mw_801 gAll ds_X2_runBody rfl ⟨by omega, Nat.le_of_ble_eq_true rfl⟩ (Nat.le_of_ble_eq_true rfl) ?_
      refine v_imul hX dX2_runBody_229 ?_
      obtain rfl := Option.some.inj hf
      exact v_iret (r := 2 * v28.1) hX dX2_runBody_230 rfl
    have hf := opt_f cs27 hf
    refine v_tableOut 231 hX dX2_runBody_21 (by have h0 := lv_neT cs2 (a := 10) (by decide); have h1 := lv_neT cs4 (a := 11) (by decide); have h2 := lv_neT cs7 (a := 12) (by decide); have h3 := lv_neT cs9 (a := 13) (by decide); have h4 := lv_neT cs11 (a := 14) (by decide); have h5 := lv_neT cs13 (a := 15) (by decide); have h6 := lv_neT cs14 (a := 16) (by decide); have h7 := lv_neT cs15 (a := 17) (by decide); have h8 := lv_neT cs16 (a := 18) (by decide); have h9 := lv_neT cs17 (a := 19) (by decide); have h10 := lv_neT cs18 (a := 20) (by decide); have h11 := lv_neT cs19 (a := 21) (by decide); have h12 := lv_neT cs22 (a := 22) (by decide); have h13 := lv_neT cs24 (a := 23) (by decide); have h14 := lv_neT cs27 (a := 24) (by decide); omega) (by decide) ?_
    refine v_iconst 0 hX dX2_runBody_231 (by decide) ?_
    obtain rfl := Option.some.inj hf
    exact v_iret (r := 0) hX dX2_runBody_232 rfl
  · have hf := opt_f c hf
    refine v_iconst 0 hX dX2_runBody_7 (by decide) ?_
    obtain rfl := Option.some.inj hf
    exact v_iret (r := 0) hX dX2_runBody_8 rfl
set_option maxHeartbeats 4000000 in
set_option maxRecDepth 100000 in
theorem c_X2_answerOf {l : Launch} {D : va_G} {cs : ClassId × ClassId × ClassId} {ad : Nat → Nat} {ts : Nat × Nat × Nat} (σ : Mem) (fuel : Nat) (rb : Mem → Int32 → Int32 → Int32 → Option (Int32 × Mem)) (dr : Nat) (hrb : ∀ (l : Launch) (σ : Mem) (a b c : Int32) (z : Int32 × Mem), rb σ a b c = some z → CtI l (xW D cs ad ts) dr yX2_runBody cX2_runBody 6 (some .int) [.ref (ad 66), .ref (ad 13), .int a, .int b, .int c] σ z.1 z.2) (x2 : Int32) (x3 : Int32) {z : Int32 × Mem} (hf : f_X2_answerOf fuel rb σ x2 x3 = some z) : CtI l (xW D cs ad ts) (dr + 3) yX2_answerOf cX2_answerOf 4 (some .int) [.ref (ad 66), .ref (ad 13), .int x2, .int x3] σ z.1 z.2 := by
  refine ct_I RX2 [(0, .ref (ad 66)), (1, .ref (ad 13)), (2, .int x2), (3, .int x3)] (by decide +kernel) rfl rfl (Nat.le_of_ble_eq_true rfl) ?_
  intro P M hl0 hX
  unfold f_X2_answerOf at hf
  refine v_aload_n 0 0 hX dX2_answerOf_0 rfl rfl ?_
  refine v_iconst 0 hX dX2_answerOf_1 (by decide) ?_
  refine v_put (C := RX2) (T := TX2) (N := 2) (ci := 2) (ty := .int) tyX2 66 1 hX dX2_answerOf_2 mw_275 rfl inlX2 tyX2_ok nmX2 rfl (lt_b rfl) (lt_b rfl) rfl (tyX2_ok 1 (lt_b rfl)) rfl rfl rfl (lt_b rfl) rfl ?_
  refine v_aload_n 0 0 hX dX2_answerOf_5 rfl rfl ?_
  refine v_aload_n 1 1 hX dX2_answerOf_6 rfl rfl ?_
  refine v_iload_n 2 2 hX dX2_answerOf_7 rfl rfl ?_
  refine v_iload_n 3 3 hX dX2_answerOf_8 rfl rfl ?_
  refine v_iconst 0 hX dX2_answerOf_9 (by decide) ?_
  obtain ⟨v1, hc, hf⟩ := opt_b hf
  refine v_callVi (rest := []) (As := [.ref (ad 13), .int x2, .int x3, .int 0]) (C := RX2) (T := TX2) (N := 2) (ci := 2) 66 hX dX2_answerOf_10 (c_X2_askAnew (mst σ 66 1 0) fuel rb dr hrb x2 x3 0 hc) rfl rfl (lt_b rfl) rfl rfl rfl mw_789 mw_24 mw_63 mw_787 mw_790 gAll ds_X2_askAnew rfl ⟨by omega, Nat.le_of_ble_eq_true rfl⟩ (Nat.le_of_ble_eq_true rfl) ?_
  obtain rfl := Option.some.inj hf
  exact v_iret (r := v1.1) hX dX2_answerOf_13 rfl
set_option maxHeartbeats 4000000 in
set_option maxRecDepth 100000 in
theorem c_X6_row {l : Launch} {D : va_G} {cs : ClassId × ClassId × ClassId} {ad : Nat → Nat} {ts : Nat × Nat × Nat} (σ : Mem) (fuel : Nat)  (x1 : Int32) (x2 : Int32) (x3 : Int32) {z : Int32 × Mem} (hf : f_X6_row fuel σ x1 x2 x3 = some z) : CtI l (xW D cs ad ts) 2 yX6_row cX6_row 4 (some .int) [.ref (ad 0), .int x1, .int x2, .int x3] σ z.1 z.2 := by
  refine ct_I RX6 [(0, .ref (ad 0)), (1, .int x1), (2, .int x2), (3, .int x3)] (by decide +kernel) rfl rfl (Nat.le_of_ble_eq_true rfl) ?_
  intro P M hl0 hX
  unfold f_X6_row at hf
  refine v_iload_n 1 1 hX dX6_row_0 rfl rfl ?_
  obtain ⟨v1, hc, hf⟩ := opt_b hf
  refine v_callSi (rest := []) (As := [.int x1]) hX dX6_row_1 (c_X6_isRow σ x1 hc) rfl rfl mw_318 mw_57 mw_317 mw_319 gAll ds_X6_isRow rfl ⟨Nat.le_of_ble_eq_true rfl, Nat.le_of_ble_eq_true rfl⟩ (Nat.le_of_ble_eq_true rfl) ?_
  refine v_if_eq 21 hX dX6_row_4 (by decide) (fun c => ?_) (fun c => ?_)
  · have hf := opt_t c hf
    refine v_ldc (-1000001) hX dX6_row_21 mw_323 ?_
    obtain rfl := Option.some.inj hf
    exact v_iret (r := (-1000001)) hX dX6_row_23 rfl
  · have hf := opt_f c hf
    refine v_iload_n 2 2 hX dX6_row_7 rfl rfl ?_
    refine v_iconst 3 hX dX6_row_8 (by decide) ?_
    obtain ⟨v2, hc, hf⟩ := opt_b hf
    refine v_callSi (rest := []) (As := [.int x2, .int 3]) hX dX6_row_9 (c_X6_isBelow σ x2 3 hc) rfl rfl mw_321 mw_57 mw_320 mw_322 gAll ds_X6_isBelow rfl ⟨Nat.le_of_ble_eq_true rfl, Nat.le_of_ble_eq_true rfl⟩ (Nat.le_of_ble_eq_true rfl) ?_
    refine v_if_eq 21 hX dX6_row_12 (by decide) (fun c => ?_) (fun c => ?_)
    · have hf := opt_t c hf
      refine v_ldc (-1000001) hX dX6_row_21 mw_323 ?_
      obtain rfl := Option.some.inj hf
      exact v_iret (r := (-1000001)) hX dX6_row_23 rfl
    · have hf := opt_f c hf
      refine v_iload_n 3 3 hX dX6_row_15 rfl rfl ?_
      refine v_bipush 40 hX dX6_row_16 (by decide) ?_
      refine v_icmp_le 24 hX dX6_row_18 (by decide) (fun c => ?_) (fun c => ?_)
      · have hf := opt_t c hf
        refine v_iload_n 3 3 hX dX6_row_24 rfl rfl ?_
        refine v_if_ge 34 hX dX6_row_25 (by decide) (fun c => ?_) (fun c => ?_)
        · have hf := opt_t c hf
          refine v_aload_n 0 0 hX dX6_row_34 rfl rfl ?_
          refine v_get (C := RX6) (T := TX6) (N := 10) (ci := 6) (v := .ref (ad 1)) 0 0 hX dX6_row_35 mw_282 rfl inlX6 rfl (lt_b rfl) (lt_b rfl) rfl rfl ?_
          refine v_iload_n 1 1 hX dX6_row_38 rfl rfl ?_
          refine v_iload_n 2 2 hX dX6_row_39 rfl rfl ?_
          refine v_iload_n 3 3 hX dX6_row_40 rfl rfl ?_
          obtain ⟨v3, hc, hf⟩ := opt_b hf
          refine v_callVv (rest := []) (As := [.int x1, .int x2, .int x3]) (C := RX5) (T := TX5) (N := 3) (ci := 5) 1 hX dX6_row_41 (c_X5_lay σ fuel x1 x2 x3 hc) rfl rfl (lt_b rfl) rfl rfl rfl mw_330 mw_331 mw_58 mw_329 mw_332 gAll ds_X5_lay rfl ⟨Nat.le_of_ble_eq_true rfl, Nat.le_of_ble_eq_true rfl⟩ (Nat.le_of_ble_eq_true rfl) ?_
          refine v_aload_n 0 0 hX dX6_row_44 rfl rfl ?_
          refine v_iload_n 3 3 hX dX6_row_45 rfl rfl ?_
          obtain ⟨v4, hc, hf⟩ := opt_b hf
          refine v_callVi (rest := []) (As := [.int x3]) (C := RX6) (T := TX6) (N := 10) (ci := 6) 0 hX dX6_row_46 (c_X6_unfound v3 x3 hc) rfl rfl (lt_b rfl) rfl rfl rfl mw_338 mw_1 mw_57 mw_336 mw_339 gAll ds_X6_unfound rfl ⟨Nat.le_of_ble_eq_true rfl, Nat.le_of_ble_eq_true rfl⟩ (Nat.le_of_ble_eq_true rfl) ?_
          obtain rfl := Option.some.inj hf
          exact v_iret (r := v4.1) hX dX6_row_49 rfl
        · have hf := opt_f c hf
          refine v_aload_n 0 0 hX dX6_row_28 rfl rfl ?_
          refine v_iconst 4 hX dX6_row_29 (by decide) ?_
          obtain ⟨v5, hc, hf⟩ := opt_b hf
          refine v_callVi (rest := []) (As := [.int 4]) (C := RX6) (T := TX6) (N := 10) (ci := 6) 0 hX dX6_row_30 (c_X6_found σ 4 hc) rfl rfl (lt_b rfl) rfl rfl rfl mw_326 mw_0 mw_57 mw_324 mw_327 gAll ds_X6_found rfl ⟨Nat.le_of_ble_eq_true rfl, Nat.le_of_ble_eq_true rfl⟩ (Nat.le_of_ble_eq_true rfl) ?_
          obtain rfl := Option.some.inj hf
          exact v_iret (r := v5.1) hX dX6_row_33 rfl
      · have hf := opt_f c hf
        refine v_ldc (-1000001) hX dX6_row_21 mw_323 ?_
        obtain rfl := Option.some.inj hf
        exact v_iret (r := (-1000001)) hX dX6_row_23 rfl
set_option maxHeartbeats 4000000 in
set_option maxRecDepth 100000 in
theorem c_X6_set {l : Launch} {D : va_G} {cs : ClassId × ClassId × ClassId} {ad : Nat → Nat} {ts : Nat × Nat × Nat} (σ : Mem)   (x1 : Int32) (x2 : Int32) (x3 : Int32) {z : Int32 × Mem} (hf : f_X6_set σ x1 x2 x3 = some z) : CtI l (xW D cs ad ts) 2 yX6_set cX6_set 4 (some .int) [.ref (ad 0), .int x1, .int x2, .int x3] σ z.1 z.2 := by
  refine ct_I RX6 [(0, .ref (ad 0)), (1, .int x1), (2, .int x2), (3, .int x3)] (by decide +kernel) rfl rfl (Nat.le_of_ble_eq_true rfl) ?_
  intro P M hl0 hX
  unfold f_X6_set at hf
  refine v_iload_n 1 1 hX dX6_set_0 rfl rfl ?_
  obtain ⟨v1, hc, hf⟩ := opt_b hf
  refine v_callSi (rest := []) (As := [.int x1]) hX dX6_set_1 (c_X6_isRow σ x1 hc) rfl rfl mw_318 mw_57 mw_317 mw_319 gAll ds_X6_isRow rfl ⟨Nat.le_of_ble_eq_true rfl, Nat.le_of_ble_eq_true rfl⟩ (Nat.le_of_ble_eq_true rfl) ?_
  refine v_if_ne 10 hX dX6_set_4 (by decide) (fun c => ?_) (fun c => ?_)
  · have hf := opt_f c hf
    refine v_aload_n 0 0 hX dX6_set_10 rfl rfl ?_
    refine v_get (C := RX6) (T := TX6) (N := 10) (ci := 6) (v := .ref (ad 1)) 0 0 hX dX6_set_11 mw_282 rfl inlX6 rfl (lt_b rfl) (lt_b rfl) rfl rfl ?_
    refine v_iload_n 1 1 hX dX6_set_14 rfl rfl ?_
    obtain ⟨v2, hc, hf⟩ := opt_b hf
    refine v_callVi (rest := []) (As := [.int x1]) (C := RX5) (T := TX5) (N := 3) (ci := 5) 1 hX dX6_set_15 (c_X5_isMissing σ x1 hc) rfl rfl (lt_b rfl) rfl rfl rfl mw_345 mw_346 mw_58 mw_344 mw_347 gAll ds_X5_isMissing rfl ⟨Nat.le_of_ble_eq_true rfl, Nat.le_of_ble_eq_true rfl⟩ (Nat.le_of_ble_eq_true rfl) ?_
    refine v_if_eq 27 hX dX6_set_18 (by decide) (fun c => ?_) (fun c => ?_)
    · have hf := opt_t c hf
      refine v_aload_n 0 0 hX dX6_set_27 rfl rfl ?_
      refine v_get (C := RX6) (T := TX6) (N := 10) (ci := 6) (v := .ref (ad 1)) 0 0 hX dX6_set_28 mw_282 rfl inlX6 rfl (lt_b rfl) (lt_b rfl) rfl rfl ?_
      refine v_iload_n 1 1 hX dX6_set_31 rfl rfl ?_
      refine v_iload_n 2 2 hX dX6_set_32 rfl rfl ?_
      refine v_iconst 1 hX dX6_set_33 (by decide) ?_
      obtain ⟨v3, hc, hf⟩ := opt_b hf
      refine v_callVi (rest := []) (As := [.int x1, .int x2, .int 1]) (C := RX5) (T := TX5) (N := 3) (ci := 5) 1 hX dX6_set_34 (c_X5_hasPlaces σ x1 x2 1 hc) rfl rfl (lt_b rfl) rfl rfl rfl mw_349 mw_350 mw_58 mw_348 mw_351 gAll ds_X5_hasPlaces rfl ⟨Nat.le_of_ble_eq_true rfl, Nat.le_of_ble_eq_true rfl⟩ (Nat.le_of_ble_eq_true rfl) ?_
      refine v_if_ne 46 hX dX6_set_37 (by decide) (fun c => ?_) (fun c => ?_)
      · have hf := opt_f c hf
        refine v_aload_n 0 0 hX dX6_set_46 rfl rfl ?_
        refine v_aload_n 0 0 hX dX6_set_47 rfl rfl ?_
        refine v_get (C := RX6) (T := TX6) (N := 10) (ci := 6) (v := .ref (ad 1)) 0 0 hX dX6_set_48 mw_282 rfl inlX6 rfl (lt_b rfl) (lt_b rfl) rfl rfl ?_
        refine v_iload_n 1 1 hX dX6_set_51 rfl rfl ?_
        refine v_iload_n 2 2 hX dX6_set_52 rfl rfl ?_
        refine v_iload_n 3 3 hX dX6_set_53 rfl rfl ?_
        obtain ⟨v4, hc, hf⟩ := opt_b hf
        refine v_callVi (rest := [.ref (ad 0)]) (As := [.int x1, .int x2, .int x3]) (C := RX5) (T := TX5) (N := 3) (ci := 5) 1 hX dX6_set_54 (c_X5_put σ x1 x2 x3 hc) rfl rfl (lt_b rfl) rfl rfl rfl mw_353 mw_354 mw_58 mw_352 mw_355 gAll ds_X5_put rfl ⟨Nat.le_of_ble_eq_true rfl, Nat.le_of_ble_eq_true rfl⟩ (Nat.le_of_ble_eq_true rfl) ?_
        obtain ⟨v5, hc, hf⟩ := opt_b hf
        refine v_callVi (rest := []) (As := [.int v4.1]) (C := RX6) (T := TX6) (N := 10) (ci := 6) 0 hX dX6_set_57 (c_X6_unfound v4.2 v4.1 hc) rfl rfl (lt_b rfl) rfl rfl rfl mw_338 mw_1 mw_57 mw_336 mw_339 gAll ds_X6_unfound rfl ⟨Nat.le_of_ble_eq_true rfl, Nat.le_of_ble_eq_true rfl⟩ (Nat.le_of_ble_eq_true rfl) ?_
        obtain rfl := Option.some.inj hf
        exact v_iret (r := v5.1) hX dX6_set_60 rfl
      · have hf := opt_t c hf
        refine v_aload_n 0 0 hX dX6_set_40 rfl rfl ?_
        refine v_iconst 2 hX dX6_set_41 (by decide) ?_
        obtain ⟨v6, hc, hf⟩ := opt_b hf
        refine v_callVi (rest := []) (As := [.int 2]) (C := RX6) (T := TX6) (N := 10) (ci := 6) 0 hX dX6_set_42 (c_X6_found σ 2 hc) rfl rfl (lt_b rfl) rfl rfl rfl mw_326 mw_0 mw_57 mw_324 mw_327 gAll ds_X6_found rfl ⟨Nat.le_of_ble_eq_true rfl, Nat.le_of_ble_eq_true rfl⟩ (Nat.le_of_ble_eq_true rfl) ?_
        obtain rfl := Option.some.inj hf
        exact v_iret (r := v6.1) hX dX6_set_45 rfl
    · have hf := opt_f c hf
      refine v_aload_n 0 0 hX dX6_set_21 rfl rfl ?_
      refine v_iconst 1 hX dX6_set_22 (by decide) ?_
      obtain ⟨v7, hc, hf⟩ := opt_b hf
      refine v_callVi (rest := []) (As := [.int 1]) (C := RX6) (T := TX6) (N := 10) (ci := 6) 0 hX dX6_set_23 (c_X6_found σ 1 hc) rfl rfl (lt_b rfl) rfl rfl rfl mw_326 mw_0 mw_57 mw_324 mw_327 gAll ds_X6_found rfl ⟨Nat.le_of_ble_eq_true rfl, Nat.le_of_ble_eq_true rfl⟩ (Nat.le_of_ble_eq_true rfl) ?_
      obtain rfl := Option.some.inj hf
      exact v_iret (r := v7.1) hX dX6_set_26 rfl
  · have hf := opt_t c hf
    refine v_ldc (-1000001) hX dX6_set_7 mw_323 ?_
    obtain rfl := Option.some.inj hf
    exact v_iret (r := (-1000001)) hX dX6_set_9 rfl
set_option maxHeartbeats 4000000 in
set_option maxRecDepth 100000 in
theorem c_X6_copy {l : Launch} {D : va_G} {cs : ClassId × ClassId × ClassId} {ad : Nat → Nat} {ts : Nat × Nat × Nat} (σ : Mem)   (x1 : Int32) (x2 : Int32) (x3 : Int32) (x4 : Int32) (x5 : Int32) {z : Int32 × Mem} (hf : f_X6_copy σ x1 x2 x3 x4 x5 = some z) : CtI l (xW D cs ad ts) 2 yX6_copy cX6_copy 6 (some .int) [.ref (ad 0), .int x1, .int x2, .int x3, .int x4, .int x5] σ z.1 z.2 := by
  refine ct_I RX6 [(0, .ref (ad 0)), (1, .int x1), (2, .int x2), (3, .int x3), (4, .int x4), (5, .int x5)] (by decide +kernel) rfl rfl (Nat.le_of_ble_eq_true rfl) ?_
  intro P M hl0 hX
  unfold f_X6_copy at hf
  refine v_iload_n 1 1 hX dX6_copy_0 rfl rfl ?_
  obtain ⟨v1, hc, hf⟩ := opt_b hf
  refine v_callSi (rest := []) (As := [.int x1]) hX dX6_copy_1 (c_X6_isRow σ x1 hc) rfl rfl mw_318 mw_57 mw_317 mw_319 gAll ds_X6_isRow rfl ⟨Nat.le_of_ble_eq_true rfl, Nat.le_of_ble_eq_true rfl⟩ (Nat.le_of_ble_eq_true rfl) ?_
  refine v_if_eq 14 hX dX6_copy_4 (by decide) (fun c => ?_) (fun c => ?_)
  · have hf := opt_t c hf
    refine v_ldc (-1000001) hX dX6_copy_14 mw_323 ?_
    obtain rfl := Option.some.inj hf
    exact v_iret (r := (-1000001)) hX dX6_copy_16 rfl
  · have hf := opt_f c hf
    refine v_iload_n 3 3 hX dX6_copy_7 rfl rfl ?_
    obtain ⟨v2, hc, hf⟩ := opt_b hf
    refine v_callSi (rest := []) (As := [.int x3]) hX dX6_copy_8 (c_X6_isRow σ x3 hc) rfl rfl mw_318 mw_57 mw_317 mw_319 gAll ds_X6_isRow rfl ⟨Nat.le_of_ble_eq_true rfl, Nat.le_of_ble_eq_true rfl⟩ (Nat.le_of_ble_eq_true rfl) ?_
    refine v_if_ne 17 hX dX6_copy_11 (by decide) (fun c => ?_) (fun c => ?_)
    · have hf := opt_f c hf
      refine v_aload_n 0 0 hX dX6_copy_17 rfl rfl ?_
      refine v_get (C := RX6) (T := TX6) (N := 10) (ci := 6) (v := .ref (ad 1)) 0 0 hX dX6_copy_18 mw_282 rfl inlX6 rfl (lt_b rfl) (lt_b rfl) rfl rfl ?_
      refine v_iload_n 1 1 hX dX6_copy_21 rfl rfl ?_
      obtain ⟨v3, hc, hf⟩ := opt_b hf
      refine v_callVi (rest := []) (As := [.int x1]) (C := RX5) (T := TX5) (N := 3) (ci := 5) 1 hX dX6_copy_22 (c_X5_isMissing σ x1 hc) rfl rfl (lt_b rfl) rfl rfl rfl mw_345 mw_346 mw_58 mw_344 mw_347 gAll ds_X5_isMissing rfl ⟨Nat.le_of_ble_eq_true rfl, Nat.le_of_ble_eq_true rfl⟩ (Nat.le_of_ble_eq_true rfl) ?_
      refine v_if_ne 39 hX dX6_copy_25 (by decide) (fun c => ?_) (fun c => ?_)
      · have hf := opt_f c hf
        refine v_aload_n 0 0 hX dX6_copy_39 rfl rfl ?_
        refine v_iconst 1 hX dX6_copy_40 (by decide) ?_
        obtain ⟨v4, hc, hf⟩ := opt_b hf
        refine v_callVi (rest := []) (As := [.int 1]) (C := RX6) (T := TX6) (N := 10) (ci := 6) 0 hX dX6_copy_41 (c_X6_found σ 1 hc) rfl rfl (lt_b rfl) rfl rfl rfl mw_326 mw_0 mw_57 mw_324 mw_327 gAll ds_X6_found rfl ⟨Nat.le_of_ble_eq_true rfl, Nat.le_of_ble_eq_true rfl⟩ (Nat.le_of_ble_eq_true rfl) ?_
        obtain rfl := Option.some.inj hf
        exact v_iret (r := v4.1) hX dX6_copy_44 rfl
      · have hf := opt_t c hf
        refine v_aload_n 0 0 hX dX6_copy_28 rfl rfl ?_
        refine v_get (C := RX6) (T := TX6) (N := 10) (ci := 6) (v := .ref (ad 1)) 0 0 hX dX6_copy_29 mw_282 rfl inlX6 rfl (lt_b rfl) (lt_b rfl) rfl rfl ?_
        refine v_iload_n 3 3 hX dX6_copy_32 rfl rfl ?_
        obtain ⟨v5, hc, hf⟩ := opt_b hf
        refine v_callVi (rest := []) (As := [.int x3]) (C := RX5) (T := TX5) (N := 3) (ci := 5) 1 hX dX6_copy_33 (c_X5_isMissing σ x3 hc) rfl rfl (lt_b rfl) rfl rfl rfl mw_345 mw_346 mw_58 mw_344 mw_347 gAll ds_X5_isMissing rfl ⟨Nat.le_of_ble_eq_true rfl, Nat.le_of_ble_eq_true rfl⟩ (Nat.le_of_ble_eq_true rfl) ?_
        refine v_if_eq 45 hX dX6_copy_36 (by decide) (fun c => ?_) (fun c => ?_)
        · have hf := opt_t c hf
          refine v_aload_n 0 0 hX dX6_copy_45 rfl rfl ?_
          refine v_get (C := RX6) (T := TX6) (N := 10) (ci := 6) (v := .ref (ad 1)) 0 0 hX dX6_copy_46 mw_282 rfl inlX6 rfl (lt_b rfl) (lt_b rfl) rfl rfl ?_
          refine v_get (C := RX5) (T := TX5) (N := 3) (ci := 5) (v := .ref (ad 2)) 1 0 hX dX6_copy_49 mw_86 rfl inlX5 rfl (lt_b rfl) (lt_b rfl) rfl rfl ?_
          refine v_iload_n 1 1 hX dX6_copy_52 rfl rfl ?_
          obtain ⟨hi6, hf⟩ := gd_some hf
          refine v_ald (v := σ 2 x1.toNatClampNeg) 2 hX dX6_copy_53 (lt_b rfl) ((fun _ => rfl) _) hi6 rfl ?_
          refine v_aload_n 0 0 hX dX6_copy_54 rfl rfl ?_
          refine v_get (C := RX6) (T := TX6) (N := 10) (ci := 6) (v := .ref (ad 1)) 0 0 hX dX6_copy_55 mw_282 rfl inlX6 rfl (lt_b rfl) (lt_b rfl) rfl rfl ?_
          refine v_get (C := RX5) (T := TX5) (N := 3) (ci := 5) (v := .ref (ad 2)) 1 0 hX dX6_copy_58 mw_86 rfl inlX5 rfl (lt_b rfl) (lt_b rfl) rfl rfl ?_
          refine v_iload_n 3 3 hX dX6_copy_61 rfl rfl ?_
          obtain ⟨hi7, hf⟩ := gd_some hf
          refine v_ald (v := σ 2 x3.toNatClampNeg) 2 hX dX6_copy_62 (lt_b rfl) ((fun _ => rfl) _) hi7 rfl ?_
          refine v_icmp_eq 72 hX dX6_copy_63 (by decide) (fun c => ?_) (fun c => ?_)
          · have hf := opt_t c hf
            refine v_aload_n 0 0 hX dX6_copy_72 rfl rfl ?_
            refine v_get (C := RX6) (T := TX6) (N := 10) (ci := 6) (v := .ref (ad 1)) 0 0 hX dX6_copy_73 mw_282 rfl inlX6 rfl (lt_b rfl) (lt_b rfl) rfl rfl ?_
            refine v_iload_n 1 1 hX dX6_copy_76 rfl rfl ?_
            refine v_iload_n 2 2 hX dX6_copy_77 rfl rfl ?_
            refine v_iload 5 hX dX6_copy_78 rfl ?_
            obtain ⟨v8, hc, hf⟩ := opt_b hf
            refine v_callVi (rest := []) (As := [.int x1, .int x2, .int x5]) (C := RX5) (T := TX5) (N := 3) (ci := 5) 1 hX dX6_copy_80 (c_X5_hasPlaces σ x1 x2 x5 hc) rfl rfl (lt_b rfl) rfl rfl rfl mw_349 mw_350 mw_58 mw_348 mw_351 gAll ds_X5_hasPlaces rfl ⟨Nat.le_of_ble_eq_true rfl, Nat.le_of_ble_eq_true rfl⟩ (Nat.le_of_ble_eq_true rfl) ?_
            refine v_if_eq 101 hX dX6_copy_83 (by decide) (fun c => ?_) (fun c => ?_)
            · have hf := opt_t c hf
              refine v_aload_n 0 0 hX dX6_copy_101 rfl rfl ?_
              refine v_iconst 2 hX dX6_copy_102 (by decide) ?_
              obtain ⟨v9, hc, hf⟩ := opt_b hf
              refine v_callVi (rest := []) (As := [.int 2]) (C := RX6) (T := TX6) (N := 10) (ci := 6) 0 hX dX6_copy_103 (c_X6_found σ 2 hc) rfl rfl (lt_b rfl) rfl rfl rfl mw_326 mw_0 mw_57 mw_324 mw_327 gAll ds_X6_found rfl ⟨Nat.le_of_ble_eq_true rfl, Nat.le_of_ble_eq_true rfl⟩ (Nat.le_of_ble_eq_true rfl) ?_
              obtain rfl := Option.some.inj hf
              exact v_iret (r := v9.1) hX dX6_copy_106 rfl
            · have hf := opt_f c hf
              refine v_aload_n 0 0 hX dX6_copy_86 rfl rfl ?_
              refine v_get (C := RX6) (T := TX6) (N := 10) (ci := 6) (v := .ref (ad 1)) 0 0 hX dX6_copy_87 mw_282 rfl inlX6 rfl (lt_b rfl) (lt_b rfl) rfl rfl ?_
              refine v_iload_n 3 3 hX dX6_copy_90 rfl rfl ?_
              refine v_iload 4 hX dX6_copy_91 rfl ?_
              refine v_iload 5 hX dX6_copy_93 rfl ?_
              obtain ⟨v10, hc, hf⟩ := opt_b hf
              refine v_callVi (rest := []) (As := [.int x3, .int x4, .int x5]) (C := RX5) (T := TX5) (N := 3) (ci := 5) 1 hX dX6_copy_95 (c_X5_hasPlaces σ x3 x4 x5 hc) rfl rfl (lt_b rfl) rfl rfl rfl mw_349 mw_350 mw_58 mw_348 mw_351 gAll ds_X5_hasPlaces rfl ⟨Nat.le_of_ble_eq_true rfl, Nat.le_of_ble_eq_true rfl⟩ (Nat.le_of_ble_eq_true rfl) ?_
              refine v_if_ne 107 hX dX6_copy_98 (by decide) (fun c => ?_) (fun c => ?_)
              · have hf := opt_f c hf
                refine v_aload_n 0 0 hX dX6_copy_107 rfl rfl ?_
                refine v_get (C := RX6) (T := TX6) (N := 10) (ci := 6) (v := .ref (ad 1)) 0 0 hX dX6_copy_108 mw_282 rfl inlX6 rfl (lt_b rfl) (lt_b rfl) rfl rfl ?_
                refine v_get (C := RX5) (T := TX5) (N := 3) (ci := 5) (v := .ref (ad 4)) 1 2 hX dX6_copy_111 mw_90 rfl inlX5 rfl (lt_b rfl) (lt_b rfl) rfl rfl ?_
                refine v_iload_n 1 1 hX dX6_copy_114 rfl rfl ?_
                obtain ⟨hi11, hf⟩ := gd_some hf
                refine v_aald hX dX6_copy_115 hi11 ?_
                refine v_iload_n 2 2 hX dX6_copy_116 rfl rfl ?_
                refine v_aload_n 0 0 hX dX6_copy_117 rfl rfl ?_
                refine v_get (C := RX6) (T := TX6) (N := 10) (ci := 6) (v := .ref (ad 1)) 0 0 hX dX6_copy_118 mw_282 rfl inlX6 rfl (lt_b rfl) (lt_b rfl) rfl rfl ?_
                refine v_get (C := RX5) (T := TX5) (N := 3) (ci := 5) (v := .ref (ad 4)) 1 2 hX dX6_copy_121 mw_90 rfl inlX5 rfl (lt_b rfl) (lt_b rfl) rfl rfl ?_
                refine v_iload_n 3 3 hX dX6_copy_124 rfl rfl ?_
                obtain ⟨hi12, hf⟩ := gd_some hf
                refine v_aald hX dX6_copy_125 hi12 ?_
                refine v_iload 4 hX dX6_copy_126 rfl ?_
                refine v_iload 5 hX dX6_copy_128 rfl ?_
                obtain ⟨hc13, hf⟩ := gd_some hf
                refine v_cpy (rest := []) (5 + x1.toNatClampNeg) (5 + x3.toNatClampNeg) hX dX6_copy_130 mw_360 mw_362 mw_361 mw_66 (xr_lt (inB_lt hi11)) (xr_lt (inB_lt hi12)) (xr_cell (inB_lt hi11)) (xr_cell (inB_lt hi12)) hc13 (Nat.le_of_ble_eq_true rfl) (Nat.le_of_ble_eq_true rfl) ?_
                refine v_aload_n 0 0 hX dX6_copy_133 rfl rfl ?_
                refine v_iload 5 hX dX6_copy_134 rfl ?_
                obtain ⟨v14, hc, hf⟩ := opt_b hf
                refine v_callVi (rest := []) (As := [.int x5]) (C := RX6) (T := TX6) (N := 10) (ci := 6) 0 hX dX6_copy_136 (c_X6_unfound (mcpy σ (5 + x1.toNatClampNeg) (5 + x3.toNatClampNeg) x2.toNatClampNeg x4.toNatClampNeg x5.toNatClampNeg) x5 hc) rfl rfl (lt_b rfl) rfl rfl rfl mw_338 mw_1 mw_57 mw_336 mw_339 gAll ds_X6_unfound rfl ⟨Nat.le_of_ble_eq_true rfl, Nat.le_of_ble_eq_true rfl⟩ (Nat.le_of_ble_eq_true rfl) ?_
                obtain rfl := Option.some.inj hf
                exact v_iret (r := v14.1) hX dX6_copy_139 rfl
              · have hf := opt_t c hf
                refine v_aload_n 0 0 hX dX6_copy_101 rfl rfl ?_
                refine v_iconst 2 hX dX6_copy_102 (by decide) ?_
                obtain ⟨v15, hc, hf⟩ := opt_b hf
                refine v_callVi (rest := []) (As := [.int 2]) (C := RX6) (T := TX6) (N := 10) (ci := 6) 0 hX dX6_copy_103 (c_X6_found σ 2 hc) rfl rfl (lt_b rfl) rfl rfl rfl mw_326 mw_0 mw_57 mw_324 mw_327 gAll ds_X6_found rfl ⟨Nat.le_of_ble_eq_true rfl, Nat.le_of_ble_eq_true rfl⟩ (Nat.le_of_ble_eq_true rfl) ?_
                obtain rfl := Option.some.inj hf
                exact v_iret (r := v15.1) hX dX6_copy_106 rfl
          · have hf := opt_f c hf
            refine v_aload_n 0 0 hX dX6_copy_66 rfl rfl ?_
            refine v_iconst 5 hX dX6_copy_67 (by decide) ?_
            obtain ⟨v16, hc, hf⟩ := opt_b hf
            refine v_callVi (rest := []) (As := [.int 5]) (C := RX6) (T := TX6) (N := 10) (ci := 6) 0 hX dX6_copy_68 (c_X6_found σ 5 hc) rfl rfl (lt_b rfl) rfl rfl rfl mw_326 mw_0 mw_57 mw_324 mw_327 gAll ds_X6_found rfl ⟨Nat.le_of_ble_eq_true rfl, Nat.le_of_ble_eq_true rfl⟩ (Nat.le_of_ble_eq_true rfl) ?_
            obtain rfl := Option.some.inj hf
            exact v_iret (r := v16.1) hX dX6_copy_71 rfl
        · have hf := opt_f c hf
          refine v_aload_n 0 0 hX dX6_copy_39 rfl rfl ?_
          refine v_iconst 1 hX dX6_copy_40 (by decide) ?_
          obtain ⟨v17, hc, hf⟩ := opt_b hf
          refine v_callVi (rest := []) (As := [.int 1]) (C := RX6) (T := TX6) (N := 10) (ci := 6) 0 hX dX6_copy_41 (c_X6_found σ 1 hc) rfl rfl (lt_b rfl) rfl rfl rfl mw_326 mw_0 mw_57 mw_324 mw_327 gAll ds_X6_found rfl ⟨Nat.le_of_ble_eq_true rfl, Nat.le_of_ble_eq_true rfl⟩ (Nat.le_of_ble_eq_true rfl) ?_
          obtain rfl := Option.some.inj hf
          exact v_iret (r := v17.1) hX dX6_copy_44 rfl
    · have hf := opt_t c hf
      refine v_ldc (-1000001) hX dX6_copy_14 mw_323 ?_
      obtain rfl := Option.some.inj hf
      exact v_iret (r := (-1000001)) hX dX6_copy_16 rfl
set_option maxHeartbeats 4000000 in
set_option maxRecDepth 100000 in
theorem c_X6_drop {l : Launch} {D : va_G} {cs : ClassId × ClassId × ClassId} {ad : Nat → Nat} {ts : Nat × Nat × Nat} (σ : Mem)   (x1 : Int32) {z : Int32 × Mem} (hf : f_X6_drop σ x1 = some z) : CtI l (xW D cs ad ts) 2 yX6_drop cX6_drop 2 (some .int) [.ref (ad 0), .int x1] σ z.1 z.2 := by
  refine ct_I RX6 [(0, .ref (ad 0)), (1, .int x1)] (by decide +kernel) rfl rfl (Nat.le_of_ble_eq_true rfl) ?_
  intro P M hl0 hX
  unfold f_X6_drop at hf
  refine v_iload_n 1 1 hX dX6_drop_0 rfl rfl ?_
  obtain ⟨v1, hc, hf⟩ := opt_b hf
  refine v_callSi (rest := []) (As := [.int x1]) hX dX6_drop_1 (c_X6_isRow σ x1 hc) rfl rfl mw_318 mw_57 mw_317 mw_319 gAll ds_X6_isRow rfl ⟨Nat.le_of_ble_eq_true rfl, Nat.le_of_ble_eq_true rfl⟩ (Nat.le_of_ble_eq_true rfl) ?_
  refine v_if_ne 10 hX dX6_drop_4 (by decide) (fun c => ?_) (fun c => ?_)
  · have hf := opt_f c hf
    refine v_aload_n 0 0 hX dX6_drop_10 rfl rfl ?_
    refine v_get (C := RX6) (T := TX6) (N := 10) (ci := 6) (v := .ref (ad 1)) 0 0 hX dX6_drop_11 mw_282 rfl inlX6 rfl (lt_b rfl) (lt_b rfl) rfl rfl ?_
    refine v_iload_n 1 1 hX dX6_drop_14 rfl rfl ?_
    obtain ⟨v2, hc, hf⟩ := opt_b hf
    refine v_callVi (rest := []) (As := [.int x1]) (C := RX5) (T := TX5) (N := 3) (ci := 5) 1 hX dX6_drop_15 (c_X5_isMissing σ x1 hc) rfl rfl (lt_b rfl) rfl rfl rfl mw_345 mw_346 mw_58 mw_344 mw_347 gAll ds_X5_isMissing rfl ⟨Nat.le_of_ble_eq_true rfl, Nat.le_of_ble_eq_true rfl⟩ (Nat.le_of_ble_eq_true rfl) ?_
    refine v_if_eq 27 hX dX6_drop_18 (by decide) (fun c => ?_) (fun c => ?_)
    · have hf := opt_t c hf
      refine v_aload_n 0 0 hX dX6_drop_27 rfl rfl ?_
      refine v_get (C := RX6) (T := TX6) (N := 10) (ci := 6) (v := .ref (ad 1)) 0 0 hX dX6_drop_28 mw_282 rfl inlX6 rfl (lt_b rfl) (lt_b rfl) rfl rfl ?_
      refine v_get (C := RX5) (T := TX5) (N := 3) (ci := 5) (v := .ref (ad 2)) 1 0 hX dX6_drop_31 mw_86 rfl inlX5 rfl (lt_b rfl) (lt_b rfl) rfl rfl ?_
      refine v_iload_n 1 1 hX dX6_drop_34 rfl rfl ?_
      refine v_iconst (-1) hX dX6_drop_35 (by decide) ?_
      obtain ⟨hi3, hf⟩ := gd_some hf
      refine v_ast 2 hX dX6_drop_36 (lt_b rfl) (fun _ => rfl) hi3 ?_
      refine v_aload_n 0 0 hX dX6_drop_37 rfl rfl ?_
      refine v_aload_n 0 0 hX dX6_drop_38 rfl rfl ?_
      refine v_get (C := RX6) (T := TX6) (N := 10) (ci := 6) (v := .ref (ad 1)) 0 0 hX dX6_drop_39 mw_282 rfl inlX6 rfl (lt_b rfl) (lt_b rfl) rfl rfl ?_
      refine v_get (C := RX5) (T := TX5) (N := 3) (ci := 5) (v := .ref (ad 3)) 1 1 hX dX6_drop_42 mw_88 rfl inlX5 rfl (lt_b rfl) (lt_b rfl) rfl rfl ?_
      refine v_iload_n 1 1 hX dX6_drop_45 rfl rfl ?_
      obtain ⟨hi4, hf⟩ := gd_some hf
      refine v_ald (v := σ 3 x1.toNatClampNeg) 3 hX dX6_drop_46 (lt_b rfl) ((fun _ => rfl) _) hi4 rfl ?_
      obtain ⟨v5, hc, hf⟩ := opt_b hf
      refine v_callVi (rest := []) (As := [.int (σ 3 x1.toNatClampNeg)]) (C := RX6) (T := TX6) (N := 10) (ci := 6) 0 hX dX6_drop_47 (c_X6_unfound (mst σ 2 x1.toNatClampNeg (-1)) (σ 3 x1.toNatClampNeg) hc) rfl rfl (lt_b rfl) rfl rfl rfl mw_338 mw_1 mw_57 mw_336 mw_339 gAll ds_X6_unfound rfl ⟨Nat.le_of_ble_eq_true rfl, Nat.le_of_ble_eq_true rfl⟩ (Nat.le_of_ble_eq_true rfl) ?_
      obtain rfl := Option.some.inj hf
      exact v_iret (r := v5.1) hX dX6_drop_50 rfl
    · have hf := opt_f c hf
      refine v_aload_n 0 0 hX dX6_drop_21 rfl rfl ?_
      refine v_iconst 1 hX dX6_drop_22 (by decide) ?_
      obtain ⟨v6, hc, hf⟩ := opt_b hf
      refine v_callVi (rest := []) (As := [.int 1]) (C := RX6) (T := TX6) (N := 10) (ci := 6) 0 hX dX6_drop_23 (c_X6_found σ 1 hc) rfl rfl (lt_b rfl) rfl rfl rfl mw_326 mw_0 mw_57 mw_324 mw_327 gAll ds_X6_found rfl ⟨Nat.le_of_ble_eq_true rfl, Nat.le_of_ble_eq_true rfl⟩ (Nat.le_of_ble_eq_true rfl) ?_
      obtain rfl := Option.some.inj hf
      exact v_iret (r := v6.1) hX dX6_drop_26 rfl
  · have hf := opt_t c hf
    refine v_ldc (-1000001) hX dX6_drop_7 mw_323 ?_
    obtain rfl := Option.some.inj hf
    exact v_iret (r := (-1000001)) hX dX6_drop_9 rfl
set_option maxHeartbeats 4000000 in
set_option maxRecDepth 100000 in
theorem c_X6_write {l : Launch} {D : va_G} {cs : ClassId × ClassId × ClassId} {ad : Nat → Nat} {ts : Nat × Nat × Nat} (σ : Mem)   (x1 : Int32) (x2 : Int32) (x3 : Int32) {z : Int32 × Mem} (hf : f_X6_write σ x1 x2 x3 = some z) : CtI l (xW D cs ad ts) 2 yX6_write cX6_write 4 (some .int) [.ref (ad 0), .int x1, .int x2, .int x3] σ z.1 z.2 := by
  refine ct_I RX6 [(0, .ref (ad 0)), (1, .int x1), (2, .int x2), (3, .int x3)] (by decide +kernel) rfl rfl (Nat.le_of_ble_eq_true rfl) ?_
  intro P M hl0 hX
  unfold f_X6_write at hf
  refine v_iload_n 1 1 hX dX6_write_0 rfl rfl ?_
  refine v_bipush 6 hX dX6_write_1 (by decide) ?_
  obtain ⟨v1, hc, hf⟩ := opt_b hf
  refine v_callSi (rest := []) (As := [.int x1, .int 6]) hX dX6_write_3 (c_X6_isBelow σ x1 6 hc) rfl rfl mw_321 mw_57 mw_320 mw_322 gAll ds_X6_isBelow rfl ⟨Nat.le_of_ble_eq_true rfl, Nat.le_of_ble_eq_true rfl⟩ (Nat.le_of_ble_eq_true rfl) ?_
  refine v_if_eq 28 hX dX6_write_6 (by decide) (fun c => ?_) (fun c => ?_)
  · have hf := opt_t c hf
    refine v_ldc (-1000001) hX dX6_write_28 mw_323 ?_
    obtain rfl := Option.some.inj hf
    exact v_iret (r := (-1000001)) hX dX6_write_30 rfl
  · have hf := opt_f c hf
    refine v_aload_n 0 0 hX dX6_write_9 rfl rfl ?_
    refine v_iload_n 2 2 hX dX6_write_10 rfl rfl ?_
    obtain ⟨v2, hc, hf⟩ := opt_b hf
    refine v_callVi (rest := []) (As := [.int x2]) (C := RX6) (T := TX6) (N := 10) (ci := 6) 0 hX dX6_write_11 (c_X6_isHand σ x2 hc) rfl rfl (lt_b rfl) rfl rfl rfl mw_484 mw_15 mw_57 mw_482 mw_485 gAll ds_X6_isHand rfl ⟨Nat.le_of_ble_eq_true rfl, Nat.le_of_ble_eq_true rfl⟩ (Nat.le_of_ble_eq_true rfl) ?_
    refine v_if_eq 28 hX dX6_write_14 (by decide) (fun c => ?_) (fun c => ?_)
    · have hf := opt_t c hf
      refine v_ldc (-1000001) hX dX6_write_28 mw_323 ?_
      obtain rfl := Option.some.inj hf
      exact v_iret (r := (-1000001)) hX dX6_write_30 rfl
    · have hf := opt_f c hf
      refine v_iload_n 3 3 hX dX6_write_17 rfl rfl ?_
      refine v_iconst 1 hX dX6_write_18 (by decide) ?_
      refine v_icmp_lt 28 hX dX6_write_19 (by decide) (fun c => ?_) (fun c => ?_)
      · have hf := opt_t c hf
        refine v_ldc (-1000001) hX dX6_write_28 mw_323 ?_
        obtain rfl := Option.some.inj hf
        exact v_iret (r := (-1000001)) hX dX6_write_30 rfl
      · have hf := opt_f c hf
        refine v_iload_n 3 3 hX dX6_write_22 rfl rfl ?_
        refine v_bipush 9 hX dX6_write_23 (by decide) ?_
        refine v_icmp_le 31 hX dX6_write_25 (by decide) (fun c => ?_) (fun c => ?_)
        · have hf := opt_t c hf
          refine v_aload_n 0 0 hX dX6_write_31 rfl rfl ?_
          refine v_get (C := RX6) (T := TX6) (N := 10) (ci := 6) (v := .ref (ad 13)) 0 1 hX dX6_write_32 mw_283 rfl inlX6 rfl (lt_b rfl) (lt_b rfl) rfl rfl ?_
          refine v_get (C := RX1) (T := TX1) (N := 19) (ci := 1) (v := .int (σ 13 7)) 13 7 hX dX6_write_35 mw_131 rfl inlX1 rfl (lt_b rfl) (lt_b rfl) rfl rfl ?_
          refine v_bipush 10 hX dX6_write_38 (by decide) ?_
          refine v_icmp_lt 46 hX dX6_write_40 (by decide) (fun c => ?_) (fun c => ?_)
          · have hf := opt_t c hf
            refine v_aload_n 0 0 hX dX6_write_46 rfl rfl ?_
            refine v_get (C := RX6) (T := TX6) (N := 10) (ci := 6) (v := .ref (ad 59)) 0 5 hX dX6_write_47 mw_287 rfl inlX6 rfl (lt_b rfl) (lt_b rfl) rfl rfl ?_
            refine v_iconst 0 hX dX6_write_50 (by decide) ?_
            refine v_aload_n 0 0 hX dX6_write_51 rfl rfl ?_
            refine v_get (C := RX6) (T := TX6) (N := 10) (ci := 6) (v := .ref (ad 13)) 0 1 hX dX6_write_52 mw_283 rfl inlX6 rfl (lt_b rfl) (lt_b rfl) rfl rfl ?_
            refine v_get (C := RX1) (T := TX1) (N := 19) (ci := 1) (v := .int (σ 13 5)) 13 5 hX dX6_write_55 mw_124 rfl inlX1 rfl (lt_b rfl) (lt_b rfl) rfl rfl ?_
            obtain ⟨v3, hc, hf⟩ := opt_b hf
            refine v_callVv (rest := []) (As := [.int 0, .int (σ 13 5)]) (C := RX0) (T := TX0) (N := 3) (ci := 0) 59 hX dX6_write_58 (c_X0_keep σ 0 (σ 13 5) hc) rfl rfl (lt_b rfl) rfl rfl rfl mw_487 mw_488 mw_61 mw_486 mw_489 gAll ds_X0_keep rfl ⟨Nat.le_of_ble_eq_true rfl, Nat.le_of_ble_eq_true rfl⟩ (Nat.le_of_ble_eq_true rfl) ?_
            refine v_aload_n 0 0 hX dX6_write_61 rfl rfl ?_
            refine v_get (C := RX6) (T := TX6) (N := 10) (ci := 6) (v := .ref (ad 13)) 0 1 hX dX6_write_62 mw_283 rfl inlX6 rfl (lt_b rfl) (lt_b rfl) rfl rfl ?_
            refine v_iload_n 1 1 hX dX6_write_65 rfl rfl ?_
            refine v_iload_n 2 2 hX dX6_write_66 rfl rfl ?_
            refine v_iload_n 3 3 hX dX6_write_67 rfl rfl ?_
            obtain ⟨v4, hc, hf⟩ := opt_b hf
            refine v_callVv (rest := []) (As := [.int x1, .int x2, .int x3]) (C := RX1) (T := TX1) (N := 19) (ci := 1) 13 hX dX6_write_68 (c_X1_addCopy v3 x1 x2 x3 hc) rfl rfl (lt_b rfl) rfl rfl rfl mw_440 mw_441 mw_59 mw_491 mw_442 gAll ds_X1_addCopy rfl ⟨Nat.le_of_ble_eq_true rfl, Nat.le_of_ble_eq_true rfl⟩ (Nat.le_of_ble_eq_true rfl) ?_
            refine v_aload_n 0 0 hX dX6_write_71 rfl rfl ?_
            refine v_get (C := RX6) (T := TX6) (N := 10) (ci := 6) (v := .ref (ad 13)) 0 1 hX dX6_write_72 mw_283 rfl inlX6 rfl (lt_b rfl) (lt_b rfl) rfl rfl ?_
            refine v_dup hX dX6_write_75 rfl ?_
            refine v_get (C := RX1) (T := TX1) (N := 19) (ci := 1) (v := .int (v4 13 4)) 13 4 hX dX6_write_76 mw_120 rfl inlX1 rfl (lt_b rfl) (lt_b rfl) rfl rfl ?_
            refine v_aload_n 0 0 hX dX6_write_79 rfl rfl ?_
            refine v_get (C := RX6) (T := TX6) (N := 10) (ci := 6) (v := .ref (ad 13)) 0 1 hX dX6_write_80 mw_283 rfl inlX6 rfl (lt_b rfl) (lt_b rfl) rfl rfl ?_
            refine v_get (C := RX1) (T := TX1) (N := 19) (ci := 1) (v := .ref (ad 15)) 13 10 hX dX6_write_83 mw_144 rfl inlX1 rfl (lt_b rfl) (lt_b rfl) rfl rfl ?_
            refine v_iload_n 2 2 hX dX6_write_86 rfl rfl ?_
            obtain ⟨hi5, hf⟩ := gd_some hf
            refine v_ald (v := v4 15 x2.toNatClampNeg) 15 hX dX6_write_87 (lt_b rfl) ((fun _ => rfl) _) hi5 rfl ?_
            refine v_iadd hX dX6_write_88 ?_
            refine v_put (C := RX1) (T := TX1) (N := 19) (ci := 1) (ty := .int) tyX1 13 4 hX dX6_write_89 mw_120 rfl inlX1 tyX1_ok nmX1 rfl (lt_b rfl) (lt_b rfl) rfl (tyX1_ok 4 (lt_b rfl)) rfl rfl rfl (lt_b rfl) rfl ?_
            refine v_aload_n 0 0 hX dX6_write_92 rfl rfl ?_
            refine v_get (C := RX6) (T := TX6) (N := 10) (ci := 6) (v := .ref (ad 13)) 0 1 hX dX6_write_93 mw_283 rfl inlX6 rfl (lt_b rfl) (lt_b rfl) rfl rfl ?_
            refine v_get (C := RX1) (T := TX1) (N := 19) (ci := 1) (v := .int (v4 13 7)) 13 7 hX dX6_write_96 mw_131 rfl inlX1 rfl (lt_b rfl) (lt_b rfl) rfl rfl ?_
            refine v_iconst 1 hX dX6_write_99 (by decide) ?_
            refine v_isub hX dX6_write_100 ?_
            obtain rfl := Option.some.inj hf
            exact v_iret (r := (v4 13 7) - 1) hX dX6_write_101 rfl
          · have hf := opt_f c hf
            refine v_ldc (-1000003) hX dX6_write_43 mw_371 ?_
            obtain rfl := Option.some.inj hf
            exact v_iret (r := (-1000003)) hX dX6_write_45 rfl
        · have hf := opt_f c hf
          refine v_ldc (-1000001) hX dX6_write_28 mw_323 ?_
          obtain rfl := Option.some.inj hf
          exact v_iret (r := (-1000001)) hX dX6_write_30 rfl
set_option maxHeartbeats 4000000 in
set_option maxRecDepth 100000 in
theorem c_X6_hand {l : Launch} {D : va_G} {cs : ClassId × ClassId × ClassId} {ad : Nat → Nat} {ts : Nat × Nat × Nat} (fuel : Nat) (σ : Mem)  (x1 : Int32) (x2 : Int32) {z : Int32} (hf : f_X6_hand fuel σ x1 x2 = some z) : CtI l (xW D cs ad ts) 2 yX6_hand cX6_hand 3 (some .int) [.ref (ad 0), .int x1, .int x2] σ z σ := by
  refine ct_I RX6 [(0, .ref (ad 0)), (1, .int x1), (2, .int x2)] (by decide +kernel) rfl rfl (Nat.le_of_ble_eq_true rfl) ?_
  intro P M hl0 hX
  unfold f_X6_hand at hf
  refine v_aload_n 0 0 hX dX6_hand_0 rfl rfl ?_
  refine v_iload_n 1 1 hX dX6_hand_1 rfl rfl ?_
  obtain ⟨v1, hc, hf⟩ := opt_b hf
  refine v_callVi (rest := []) (As := [.int x1]) (C := RX6) (T := TX6) (N := 10) (ci := 6) 0 hX dX6_hand_2 (c_X6_isHand σ x1 hc) rfl rfl (lt_b rfl) rfl rfl rfl mw_484 mw_15 mw_57 mw_482 mw_485 gAll ds_X6_isHand rfl ⟨Nat.le_of_ble_eq_true rfl, Nat.le_of_ble_eq_true rfl⟩ (Nat.le_of_ble_eq_true rfl) ?_
  refine v_if_ne 11 hX dX6_hand_5 (by decide) (fun c => ?_) (fun c => ?_)
  · have hf := opt_f c hf
    refine v_iload_n 2 2 hX dX6_hand_11 rfl rfl ?_
    by_cases cs2 : x2 = 0
    · have hf := opt_t cs2 hf
      refine v_tableIn 28 40 hX dX6_hand_12 (by rw [cs2]; decide) (by rw [cs2]; decide) (by rw [cs2]; decide) (by decide) ?_
      refine v_aload_n 0 0 hX dX6_hand_40 rfl rfl ?_
      refine v_get (C := RX6) (T := TX6) (N := 10) (ci := 6) (v := .ref (ad 13)) 0 1 hX dX6_hand_41 mw_283 rfl inlX6 rfl (lt_b rfl) (lt_b rfl) rfl rfl ?_
      refine v_get (C := RX1) (T := TX1) (N := 19) (ci := 1) (v := .ref (ad 15)) 13 10 hX dX6_hand_44 mw_144 rfl inlX1 rfl (lt_b rfl) (lt_b rfl) rfl rfl ?_
      refine v_iload_n 1 1 hX dX6_hand_47 rfl rfl ?_
      obtain ⟨hi3, hf⟩ := gd_some hf
      refine v_ald (v := σ 15 x1.toNatClampNeg) 15 hX dX6_hand_48 (lt_b rfl) ((fun _ => rfl) _) hi3 rfl ?_
      obtain rfl := Option.some.inj hf
      exact v_iret (r := σ 15 x1.toNatClampNeg) hX dX6_hand_49 rfl
    have hf := opt_f cs2 hf
    by_cases cs4 : x2 = 1
    · have hf := opt_t cs4 hf
      refine v_tableIn 38 50 hX dX6_hand_12 (by rw [cs4]; decide) (by rw [cs4]; decide) (by rw [cs4]; decide) (by decide) ?_
      refine v_aload_n 0 0 hX dX6_hand_50 rfl rfl ?_
      refine v_get (C := RX6) (T := TX6) (N := 10) (ci := 6) (v := .ref (ad 13)) 0 1 hX dX6_hand_51 mw_283 rfl inlX6 rfl (lt_b rfl) (lt_b rfl) rfl rfl ?_
      refine v_iload_n 1 1 hX dX6_hand_54 rfl rfl ?_
      refine v_aload_n 0 0 hX dX6_hand_55 rfl rfl ?_
      refine v_get (C := RX6) (T := TX6) (N := 10) (ci := 6) (v := .ref (ad 13)) 0 1 hX dX6_hand_56 mw_283 rfl inlX6 rfl (lt_b rfl) (lt_b rfl) rfl rfl ?_
      refine v_get (C := RX1) (T := TX1) (N := 19) (ci := 1) (v := .int (σ 13 1)) 13 1 hX dX6_hand_59 mw_110 rfl inlX1 rfl (lt_b rfl) (lt_b rfl) rfl rfl ?_
      obtain ⟨v5, hc, hf⟩ := opt_b hf
      refine v_callVi (rest := []) (As := [.int x1, .int (σ 13 1)]) (C := RX1) (T := TX1) (N := 19) (ci := 1) 13 hX dX6_hand_62 (c_X1_limitOf σ x1 (σ 13 1) hc) rfl rfl (lt_b rfl) rfl rfl rfl mw_516 mw_517 mw_59 mw_557 mw_518 gAll ds_X1_limitOf rfl ⟨Nat.le_of_ble_eq_true rfl, Nat.le_of_ble_eq_true rfl⟩ (Nat.le_of_ble_eq_true rfl) ?_
      obtain rfl := Option.some.inj hf
      exact v_iret (r := v5) hX dX6_hand_65 rfl
    have hf := opt_f cs4 hf
    by_cases cs6 : x2 = 2
    · have hf := opt_t cs6 hf
      refine v_tableIn 54 66 hX dX6_hand_12 (by rw [cs6]; decide) (by rw [cs6]; decide) (by rw [cs6]; decide) (by decide) ?_
      refine v_aload_n 0 0 hX dX6_hand_66 rfl rfl ?_
      refine v_get (C := RX6) (T := TX6) (N := 10) (ci := 6) (v := .ref (ad 13)) 0 1 hX dX6_hand_67 mw_283 rfl inlX6 rfl (lt_b rfl) (lt_b rfl) rfl rfl ?_
      refine v_iload_n 1 1 hX dX6_hand_70 rfl rfl ?_
      obtain ⟨v7, hc, hf⟩ := opt_b hf
      refine v_callVi (rest := []) (As := [.int x1]) (C := RX1) (T := TX1) (N := 19) (ci := 1) 13 hX dX6_hand_71 (c_X1_copiesBy fuel σ x1 hc) rfl rfl (lt_b rfl) rfl rfl rfl mw_559 mw_560 mw_59 mw_558 mw_561 gAll ds_X1_copiesBy rfl ⟨Nat.le_of_ble_eq_true rfl, Nat.le_of_ble_eq_true rfl⟩ (Nat.le_of_ble_eq_true rfl) ?_
      obtain rfl := Option.some.inj hf
      exact v_iret (r := v7) hX dX6_hand_74 rfl
    have hf := opt_f cs6 hf
    refine v_tableOut 75 hX dX6_hand_12 (by have h0 := lv_neT cs2 (a := 0) (by decide); have h1 := lv_neT cs4 (a := 1) (by decide); have h2 := lv_neT cs6 (a := 2) (by decide); omega) (by decide) ?_
    refine v_ldc (-1000001) hX dX6_hand_75 mw_323 ?_
    obtain rfl := Option.some.inj hf
    exact v_iret (r := (-1000001)) hX dX6_hand_77 rfl
  · have hf := opt_t c hf
    refine v_ldc (-1000001) hX dX6_hand_8 mw_323 ?_
    obtain rfl := Option.some.inj hf
    exact v_iret (r := (-1000001)) hX dX6_hand_10 rfl
set_option maxHeartbeats 4000000 in
set_option maxRecDepth 100000 in
theorem c_X6_place {l : Launch} {D : va_G} {cs : ClassId × ClassId × ClassId} {ad : Nat → Nat} {ts : Nat × Nat × Nat} (fuel : Nat) (σ : Mem)  (x1 : Int32) (x2 : Int32) {z : Int32} (hf : f_X6_place fuel σ x1 x2 = some z) : CtI l (xW D cs ad ts) 2 yX6_place cX6_place 3 (some .int) [.ref (ad 0), .int x1, .int x2] σ z σ := by
  refine ct_I RX6 [(0, .ref (ad 0)), (1, .int x1), (2, .int x2)] (by decide +kernel) rfl rfl (Nat.le_of_ble_eq_true rfl) ?_
  intro P M hl0 hX
  unfold f_X6_place at hf
  refine v_aload_n 0 0 hX dX6_place_0 rfl rfl ?_
  refine v_get (C := RX6) (T := TX6) (N := 10) (ci := 6) (v := .ref (ad 13)) 0 1 hX dX6_place_1 mw_283 rfl inlX6 rfl (lt_b rfl) (lt_b rfl) rfl rfl ?_
  refine v_get (C := RX1) (T := TX1) (N := 19) (ci := 1) (v := .int (σ 13 0)) 13 0 hX dX6_place_4 mw_106 rfl inlX1 rfl (lt_b rfl) (lt_b rfl) rfl rfl ?_
  refine v_if_ne 13 hX dX6_place_7 (by decide) (fun c => ?_) (fun c => ?_)
  · have hf := opt_f c hf
    refine v_iload_n 1 1 hX dX6_place_13 rfl rfl ?_
    refine v_bipush 6 hX dX6_place_14 (by decide) ?_
    obtain ⟨v1, hc, hf⟩ := opt_b hf
    refine v_callSi (rest := []) (As := [.int x1, .int 6]) hX dX6_place_16 (c_X6_isBelow σ x1 6 hc) rfl rfl mw_321 mw_57 mw_320 mw_322 gAll ds_X6_isBelow rfl ⟨Nat.le_of_ble_eq_true rfl, Nat.le_of_ble_eq_true rfl⟩ (Nat.le_of_ble_eq_true rfl) ?_
    refine v_if_eq 30 hX dX6_place_19 (by decide) (fun c => ?_) (fun c => ?_)
    · have hf := opt_t c hf
      refine v_ldc (-1000001) hX dX6_place_30 mw_323 ?_
      obtain rfl := Option.some.inj hf
      exact v_iret (r := (-1000001)) hX dX6_place_32 rfl
    · have hf := opt_f c hf
      refine v_iload_n 2 2 hX dX6_place_22 rfl rfl ?_
      refine v_iconst 2 hX dX6_place_23 (by decide) ?_
      obtain ⟨v2, hc, hf⟩ := opt_b hf
      refine v_callSi (rest := []) (As := [.int x2, .int 2]) hX dX6_place_24 (c_X6_isBelow σ x2 2 hc) rfl rfl mw_321 mw_57 mw_320 mw_322 gAll ds_X6_isBelow rfl ⟨Nat.le_of_ble_eq_true rfl, Nat.le_of_ble_eq_true rfl⟩ (Nat.le_of_ble_eq_true rfl) ?_
      refine v_if_ne 33 hX dX6_place_27 (by decide) (fun c => ?_) (fun c => ?_)
      · have hf := opt_f c hf
        refine v_iload_n 2 2 hX dX6_place_33 rfl rfl ?_
        refine v_if_ne 48 hX dX6_place_34 (by decide) (fun c => ?_) (fun c => ?_)
        · have hf := opt_f c hf
          refine v_aload_n 0 0 hX dX6_place_48 rfl rfl ?_
          refine v_get (C := RX6) (T := TX6) (N := 10) (ci := 6) (v := .ref (ad 13)) 0 1 hX dX6_place_49 mw_283 rfl inlX6 rfl (lt_b rfl) (lt_b rfl) rfl rfl ?_
          refine v_aload_n 0 0 hX dX6_place_52 rfl rfl ?_
          refine v_get (C := RX6) (T := TX6) (N := 10) (ci := 6) (v := .ref (ad 13)) 0 1 hX dX6_place_53 mw_283 rfl inlX6 rfl (lt_b rfl) (lt_b rfl) rfl rfl ?_
          refine v_get (C := RX1) (T := TX1) (N := 19) (ci := 1) (v := .int (σ 13 5)) 13 5 hX dX6_place_56 mw_124 rfl inlX1 rfl (lt_b rfl) (lt_b rfl) rfl rfl ?_
          obtain ⟨v3, hc, hf⟩ := opt_b hf
          refine v_callVi (rest := []) (As := [.int (σ 13 5)]) (C := RX1) (T := TX1) (N := 19) (ci := 1) 13 hX dX6_place_59 (c_X1_blackBy fuel σ (σ 13 5) hc) rfl rfl (lt_b rfl) rfl rfl rfl mw_520 mw_521 mw_59 mw_519 mw_522 gAll ds_X1_blackBy rfl ⟨Nat.le_of_ble_eq_true rfl, Nat.le_of_ble_eq_true rfl⟩ (Nat.le_of_ble_eq_true rfl) ?_
          refine v_iload_n 1 1 hX dX6_place_62 rfl rfl ?_
          obtain ⟨v4, hc, hf⟩ := opt_b hf
          refine v_callSi (rest := []) (As := [.int v3, .int x1]) hX dX6_place_63 (c_X6_bitOf σ v3 x1 hc) rfl rfl mw_509 mw_57 mw_523 mw_510 gAll ds_X6_bitOf rfl ⟨Nat.le_of_ble_eq_true rfl, Nat.le_of_ble_eq_true rfl⟩ (Nat.le_of_ble_eq_true rfl) ?_
          obtain rfl := Option.some.inj hf
          exact v_iret (r := v4) hX dX6_place_66 rfl
        · have hf := opt_t c hf
          refine v_aload_n 0 0 hX dX6_place_37 rfl rfl ?_
          refine v_get (C := RX6) (T := TX6) (N := 10) (ci := 6) (v := .ref (ad 13)) 0 1 hX dX6_place_38 mw_283 rfl inlX6 rfl (lt_b rfl) (lt_b rfl) rfl rfl ?_
          refine v_iload_n 1 1 hX dX6_place_41 rfl rfl ?_
          obtain ⟨v5, hc, hf⟩ := opt_b hf
          refine v_callVi (rest := []) (As := [.int x1]) (C := RX1) (T := TX1) (N := 19) (ci := 1) 13 hX dX6_place_42 (c_X1_copiesAt fuel σ x1 hc) rfl rfl (lt_b rfl) rfl rfl rfl mw_576 mw_577 mw_59 mw_575 mw_578 gAll ds_X1_copiesAt rfl ⟨Nat.le_of_ble_eq_true rfl, Nat.le_of_ble_eq_true rfl⟩ (Nat.le_of_ble_eq_true rfl) ?_
          refine v_goto 66 hX dX6_place_45 (by decide) ?_
          obtain rfl := Option.some.inj hf
          exact v_iret (r := v5) hX dX6_place_66 rfl
      · have hf := opt_t c hf
        refine v_ldc (-1000001) hX dX6_place_30 mw_323 ?_
        obtain rfl := Option.some.inj hf
        exact v_iret (r := (-1000001)) hX dX6_place_32 rfl
  · have hf := opt_t c hf
    refine v_ldc (-1000002) hX dX6_place_10 mw_473 ?_
    obtain rfl := Option.some.inj hf
    exact v_iret (r := (-1000002)) hX dX6_place_12 rfl
set_option maxHeartbeats 4000000 in
set_option maxRecDepth 100000 in
theorem c_X6_safe {l : Launch} {D : va_G} {cs : ClassId × ClassId × ClassId} {ad : Nat → Nat} {ts : Nat × Nat × Nat} (σ : Mem)  (x1 : Int32) {z : Int32} (hf : f_X6_safe σ x1 = some z) : CtI l (xW D cs ad ts) 2 yX6_safe cX6_safe 2 (some .int) [.ref (ad 0), .int x1] σ z σ := by
  refine ct_I RX6 [(0, .ref (ad 0)), (1, .int x1)] (by decide +kernel) rfl rfl (Nat.le_of_ble_eq_true rfl) ?_
  intro P M hl0 hX
  unfold f_X6_safe at hf
  refine v_aload_n 0 0 hX dX6_safe_0 rfl rfl ?_
  refine v_iload_n 1 1 hX dX6_safe_1 rfl rfl ?_
  obtain ⟨v1, hc, hf⟩ := opt_b hf
  refine v_callVi (rest := []) (As := [.int x1]) (C := RX6) (T := TX6) (N := 10) (ci := 6) 0 hX dX6_safe_2 (c_X6_isCopy σ x1 hc) rfl rfl (lt_b rfl) rfl rfl rfl mw_498 mw_16 mw_57 mw_496 mw_499 gAll ds_X6_isCopy rfl ⟨Nat.le_of_ble_eq_true rfl, Nat.le_of_ble_eq_true rfl⟩ (Nat.le_of_ble_eq_true rfl) ?_
  refine v_if_eq 23 hX dX6_safe_5 (by decide) (fun c => ?_) (fun c => ?_)
  · have hf := opt_t c hf
    refine v_ldc (-1000001) hX dX6_safe_23 mw_323 ?_
    obtain rfl := Option.some.inj hf
    exact v_iret (r := (-1000001)) hX dX6_safe_25 rfl
  · have hf := opt_f c hf
    refine v_aload_n 0 0 hX dX6_safe_8 rfl rfl ?_
    refine v_get (C := RX6) (T := TX6) (N := 10) (ci := 6) (v := .ref (ad 62)) 0 6 hX dX6_safe_9 mw_288 rfl inlX6 rfl (lt_b rfl) (lt_b rfl) rfl rfl ?_
    refine v_aload_n 0 0 hX dX6_safe_12 rfl rfl ?_
    refine v_get (C := RX6) (T := TX6) (N := 10) (ci := 6) (v := .ref (ad 13)) 0 1 hX dX6_safe_13 mw_283 rfl inlX6 rfl (lt_b rfl) (lt_b rfl) rfl rfl ?_
    refine v_iload_n 1 1 hX dX6_safe_16 rfl rfl ?_
    obtain ⟨v2, hc, hf⟩ := opt_b hf
    refine v_callVi (rest := []) (As := [.ref (ad 13), .int x1]) (C := RX3) (T := TX3) (N := 3) (ci := 3) 62 hX dX6_safe_17 (c_X3_safeFrom σ x1 hc) rfl rfl (lt_b rfl) rfl rfl rfl mw_648 mw_649 mw_62 mw_647 mw_650 gAll ds_X3_safeFrom rfl ⟨Nat.le_of_ble_eq_true rfl, Nat.le_of_ble_eq_true rfl⟩ (Nat.le_of_ble_eq_true rfl) ?_
    refine v_goto 25 hX dX6_safe_20 (by decide) ?_
    obtain rfl := Option.some.inj hf
    exact v_iret (r := v2) hX dX6_safe_25 rfl
set_option maxHeartbeats 4000000 in
set_option maxRecDepth 100000 in
theorem c_X6_image {l : Launch} {D : va_G} {cs : ClassId × ClassId × ClassId} {ad : Nat → Nat} {ts : Nat × Nat × Nat} (σ : Mem)   (x1 : Int32) {z : Int32 × Mem} (hf : f_X6_image σ x1 = some z) : CtI l (xW D cs ad ts) 2 yX6_image cX6_image 2 (some .int) [.ref (ad 0), .int x1] σ z.1 z.2 := by
  refine ct_I RX6 [(0, .ref (ad 0)), (1, .int x1)] (by decide +kernel) rfl rfl (Nat.le_of_ble_eq_true rfl) ?_
  intro P M hl0 hX
  unfold f_X6_image at hf
  refine v_iload_n 1 1 hX dX6_image_0 rfl rfl ?_
  refine v_iconst 2 hX dX6_image_1 (by decide) ?_
  obtain ⟨v1, hc, hf⟩ := opt_b hf
  refine v_callSi (rest := []) (As := [.int x1, .int 2]) hX dX6_image_2 (c_X6_isBelow σ x1 2 hc) rfl rfl mw_321 mw_57 mw_320 mw_322 gAll ds_X6_isBelow rfl ⟨Nat.le_of_ble_eq_true rfl, Nat.le_of_ble_eq_true rfl⟩ (Nat.le_of_ble_eq_true rfl) ?_
  refine v_if_ne 11 hX dX6_image_5 (by decide) (fun c => ?_) (fun c => ?_)
  · have hf := opt_f c hf
    refine v_aload_n 0 0 hX dX6_image_11 rfl rfl ?_
    refine v_get (C := RX6) (T := TX6) (N := 10) (ci := 6) (v := .ref (ad 13)) 0 1 hX dX6_image_12 mw_283 rfl inlX6 rfl (lt_b rfl) (lt_b rfl) rfl rfl ?_
    refine v_get (C := RX1) (T := TX1) (N := 19) (ci := 1) (v := .int (σ 13 0)) 13 0 hX dX6_image_15 mw_106 rfl inlX1 rfl (lt_b rfl) (lt_b rfl) rfl rfl ?_
    refine v_if_ne 24 hX dX6_image_18 (by decide) (fun c => ?_) (fun c => ?_)
    · have hf := opt_f c hf
      refine v_aload_n 0 0 hX dX6_image_24 rfl rfl ?_
      refine v_iload_n 1 1 hX dX6_image_25 rfl rfl ?_
      by_cases c : x1 = 0
      · have hf := opt_t c hf
        refine v_callVr (rest := []) (As := [.int x1]) (C := RX6) (T := TX6) (N := 10) (ci := 6) 0 hX dX6_image_26 (c_imageOf_24 σ x1 c) rfl rfl (lt_b rfl) rfl rfl rfl mw_760 mw_23 mw_57 mw_758 mw_761 gAll ds_X6_imageOf rfl ⟨Nat.le_of_ble_eq_true rfl, Nat.le_of_ble_eq_true rfl⟩ (Nat.le_of_ble_eq_true rfl) ?_
        refine v_aload_n 0 0 hX dX6_image_29 rfl rfl ?_
        refine v_get (C := RX6) (T := TX6) (N := 10) (ci := 6) (v := .ref (ad 13)) 0 1 hX dX6_image_30 mw_283 rfl inlX6 rfl (lt_b rfl) (lt_b rfl) rfl rfl ?_
        obtain ⟨v2, hc, hf⟩ := opt_b hf
        refine v_callVv (rest := []) (As := [.ref (ad 13)]) (C := RX1) (T := TX1) (N := 19) (ci := 1) 24 hX dX6_image_33 (c_X1_become_24_13 σ hc) rfl rfl (lt_b rfl) rfl rfl rfl mw_457 mw_458 mw_59 mw_456 mw_459 gAll ds_X1_become rfl ⟨Nat.le_of_ble_eq_true rfl, Nat.le_of_ble_eq_true rfl⟩ (Nat.le_of_ble_eq_true rfl) ?_
        refine v_iconst 1 hX dX6_image_36 (by decide) ?_
        obtain rfl := Option.some.inj hf
        exact v_iret (r := 1) hX dX6_image_37 rfl
      · have hf := opt_f c hf
        refine v_callVr (rest := []) (As := [.int x1]) (C := RX6) (T := TX6) (N := 10) (ci := 6) 0 hX dX6_image_26 (c_imageOf_35 σ x1 c) rfl rfl (lt_b rfl) rfl rfl rfl mw_760 mw_23 mw_57 mw_758 mw_761 gAll ds_X6_imageOf rfl ⟨Nat.le_of_ble_eq_true rfl, Nat.le_of_ble_eq_true rfl⟩ (Nat.le_of_ble_eq_true rfl) ?_
        refine v_aload_n 0 0 hX dX6_image_29 rfl rfl ?_
        refine v_get (C := RX6) (T := TX6) (N := 10) (ci := 6) (v := .ref (ad 13)) 0 1 hX dX6_image_30 mw_283 rfl inlX6 rfl (lt_b rfl) (lt_b rfl) rfl rfl ?_
        obtain ⟨v3, hc, hf⟩ := opt_b hf
        refine v_callVv (rest := []) (As := [.ref (ad 13)]) (C := RX1) (T := TX1) (N := 19) (ci := 1) 35 hX dX6_image_33 (c_X1_become_35_13 σ hc) rfl rfl (lt_b rfl) rfl rfl rfl mw_457 mw_458 mw_59 mw_456 mw_459 gAll ds_X1_become rfl ⟨Nat.le_of_ble_eq_true rfl, Nat.le_of_ble_eq_true rfl⟩ (Nat.le_of_ble_eq_true rfl) ?_
        refine v_iconst 1 hX dX6_image_36 (by decide) ?_
        obtain rfl := Option.some.inj hf
        exact v_iret (r := 1) hX dX6_image_37 rfl
    · have hf := opt_t c hf
      refine v_ldc (-1000002) hX dX6_image_21 mw_473 ?_
      obtain rfl := Option.some.inj hf
      exact v_iret (r := (-1000002)) hX dX6_image_23 rfl
  · have hf := opt_t c hf
    refine v_ldc (-1000001) hX dX6_image_8 mw_323 ?_
    obtain rfl := Option.some.inj hf
    exact v_iret (r := (-1000001)) hX dX6_image_10 rfl
set_option maxHeartbeats 4000000 in
set_option maxRecDepth 100000 in
theorem c_X6_restore {l : Launch} {D : va_G} {cs : ClassId × ClassId × ClassId} {ad : Nat → Nat} {ts : Nat × Nat × Nat} (σ : Mem)   (x1 : Int32) {z : Int32 × Mem} (hf : f_X6_restore σ x1 = some z) : CtI l (xW D cs ad ts) 2 yX6_restore cX6_restore 2 (some .int) [.ref (ad 0), .int x1] σ z.1 z.2 := by
  refine ct_I RX6 [(0, .ref (ad 0)), (1, .int x1)] (by decide +kernel) rfl rfl (Nat.le_of_ble_eq_true rfl) ?_
  intro P M hl0 hX
  unfold f_X6_restore at hf
  refine v_iload_n 1 1 hX dX6_restore_0 rfl rfl ?_
  refine v_iconst 2 hX dX6_restore_1 (by decide) ?_
  obtain ⟨v1, hc, hf⟩ := opt_b hf
  refine v_callSi (rest := []) (As := [.int x1, .int 2]) hX dX6_restore_2 (c_X6_isBelow σ x1 2 hc) rfl rfl mw_321 mw_57 mw_320 mw_322 gAll ds_X6_isBelow rfl ⟨Nat.le_of_ble_eq_true rfl, Nat.le_of_ble_eq_true rfl⟩ (Nat.le_of_ble_eq_true rfl) ?_
  refine v_if_ne 11 hX dX6_restore_5 (by decide) (fun c => ?_) (fun c => ?_)
  · have hf := opt_f c hf
    refine v_aload_n 0 0 hX dX6_restore_11 rfl rfl ?_
    refine v_iload_n 1 1 hX dX6_restore_12 rfl rfl ?_
    by_cases c : x1 = 0
    · have hf := opt_t c hf
      refine v_callVr (rest := []) (As := [.int x1]) (C := RX6) (T := TX6) (N := 10) (ci := 6) 0 hX dX6_restore_13 (c_imageOf_24 σ x1 c) rfl rfl (lt_b rfl) rfl rfl rfl mw_760 mw_23 mw_57 mw_758 mw_761 gAll ds_X6_imageOf rfl ⟨Nat.le_of_ble_eq_true rfl, Nat.le_of_ble_eq_true rfl⟩ (Nat.le_of_ble_eq_true rfl) ?_
      refine v_get (C := RX1) (T := TX1) (N := 19) (ci := 1) (v := .int (σ 24 0)) 24 0 hX dX6_restore_16 mw_106 rfl inlX1 rfl (lt_b rfl) (lt_b rfl) rfl rfl ?_
      refine v_if_ne 25 hX dX6_restore_19 (by decide) (fun c => ?_) (fun c => ?_)
      · have hf := opt_f c hf
        refine v_aload_n 0 0 hX dX6_restore_25 rfl rfl ?_
        refine v_get (C := RX6) (T := TX6) (N := 10) (ci := 6) (v := .ref (ad 13)) 0 1 hX dX6_restore_26 mw_283 rfl inlX6 rfl (lt_b rfl) (lt_b rfl) rfl rfl ?_
        refine v_aload_n 0 0 hX dX6_restore_29 rfl rfl ?_
        refine v_iload_n 1 1 hX dX6_restore_30 rfl rfl ?_
        by_cases c : x1 = 0
        · have hf := opt_t c hf
          refine v_callVr (rest := [.ref (ad 13)]) (As := [.int x1]) (C := RX6) (T := TX6) (N := 10) (ci := 6) 0 hX dX6_restore_31 (c_imageOf_24 σ x1 c) rfl rfl (lt_b rfl) rfl rfl rfl mw_760 mw_23 mw_57 mw_758 mw_761 gAll ds_X6_imageOf rfl ⟨Nat.le_of_ble_eq_true rfl, Nat.le_of_ble_eq_true rfl⟩ (Nat.le_of_ble_eq_true rfl) ?_
          obtain ⟨v2, hc, hf⟩ := opt_b hf
          refine v_callVv (rest := []) (As := [.ref (ad 24)]) (C := RX1) (T := TX1) (N := 19) (ci := 1) 13 hX dX6_restore_34 (c_X1_become_13_24 σ hc) rfl rfl (lt_b rfl) rfl rfl rfl mw_457 mw_458 mw_59 mw_456 mw_459 gAll ds_X1_become rfl ⟨Nat.le_of_ble_eq_true rfl, Nat.le_of_ble_eq_true rfl⟩ (Nat.le_of_ble_eq_true rfl) ?_
          refine v_aload_n 0 0 hX dX6_restore_37 rfl rfl ?_
          refine v_get (C := RX6) (T := TX6) (N := 10) (ci := 6) (v := .ref (ad 59)) 0 5 hX dX6_restore_38 mw_287 rfl inlX6 rfl (lt_b rfl) (lt_b rfl) rfl rfl ?_
          obtain ⟨v3, hc, hf⟩ := opt_b hf
          refine v_callVv (rest := []) (As := []) (C := RX0) (T := TX0) (N := 3) (ci := 0) 59 hX dX6_restore_41 (c_X0_forget v2 hc) rfl rfl (lt_b rfl) rfl rfl rfl mw_462 mw_463 mw_61 mw_461 mw_464 gAll ds_X0_forget rfl ⟨Nat.le_of_ble_eq_true rfl, Nat.le_of_ble_eq_true rfl⟩ (Nat.le_of_ble_eq_true rfl) ?_
          refine v_iconst 1 hX dX6_restore_44 (by decide) ?_
          obtain rfl := Option.some.inj hf
          exact v_iret (r := 1) hX dX6_restore_45 rfl
        · have hf := opt_f c hf
          refine v_callVr (rest := [.ref (ad 13)]) (As := [.int x1]) (C := RX6) (T := TX6) (N := 10) (ci := 6) 0 hX dX6_restore_31 (c_imageOf_35 σ x1 c) rfl rfl (lt_b rfl) rfl rfl rfl mw_760 mw_23 mw_57 mw_758 mw_761 gAll ds_X6_imageOf rfl ⟨Nat.le_of_ble_eq_true rfl, Nat.le_of_ble_eq_true rfl⟩ (Nat.le_of_ble_eq_true rfl) ?_
          obtain ⟨v4, hc, hf⟩ := opt_b hf
          refine v_callVv (rest := []) (As := [.ref (ad 35)]) (C := RX1) (T := TX1) (N := 19) (ci := 1) 13 hX dX6_restore_34 (c_X1_become_13_35 σ hc) rfl rfl (lt_b rfl) rfl rfl rfl mw_457 mw_458 mw_59 mw_456 mw_459 gAll ds_X1_become rfl ⟨Nat.le_of_ble_eq_true rfl, Nat.le_of_ble_eq_true rfl⟩ (Nat.le_of_ble_eq_true rfl) ?_
          refine v_aload_n 0 0 hX dX6_restore_37 rfl rfl ?_
          refine v_get (C := RX6) (T := TX6) (N := 10) (ci := 6) (v := .ref (ad 59)) 0 5 hX dX6_restore_38 mw_287 rfl inlX6 rfl (lt_b rfl) (lt_b rfl) rfl rfl ?_
          obtain ⟨v5, hc, hf⟩ := opt_b hf
          refine v_callVv (rest := []) (As := []) (C := RX0) (T := TX0) (N := 3) (ci := 0) 59 hX dX6_restore_41 (c_X0_forget v4 hc) rfl rfl (lt_b rfl) rfl rfl rfl mw_462 mw_463 mw_61 mw_461 mw_464 gAll ds_X0_forget rfl ⟨Nat.le_of_ble_eq_true rfl, Nat.le_of_ble_eq_true rfl⟩ (Nat.le_of_ble_eq_true rfl) ?_
          refine v_iconst 1 hX dX6_restore_44 (by decide) ?_
          obtain rfl := Option.some.inj hf
          exact v_iret (r := 1) hX dX6_restore_45 rfl
      · have hf := opt_t c hf
        refine v_ldc (-1000002) hX dX6_restore_22 mw_473 ?_
        obtain rfl := Option.some.inj hf
        exact v_iret (r := (-1000002)) hX dX6_restore_24 rfl
    · have hf := opt_f c hf
      refine v_callVr (rest := []) (As := [.int x1]) (C := RX6) (T := TX6) (N := 10) (ci := 6) 0 hX dX6_restore_13 (c_imageOf_35 σ x1 c) rfl rfl (lt_b rfl) rfl rfl rfl mw_760 mw_23 mw_57 mw_758 mw_761 gAll ds_X6_imageOf rfl ⟨Nat.le_of_ble_eq_true rfl, Nat.le_of_ble_eq_true rfl⟩ (Nat.le_of_ble_eq_true rfl) ?_
      refine v_get (C := RX1) (T := TX1) (N := 19) (ci := 1) (v := .int (σ 35 0)) 35 0 hX dX6_restore_16 mw_106 rfl inlX1 rfl (lt_b rfl) (lt_b rfl) rfl rfl ?_
      refine v_if_ne 25 hX dX6_restore_19 (by decide) (fun c => ?_) (fun c => ?_)
      · have hf := opt_f c hf
        refine v_aload_n 0 0 hX dX6_restore_25 rfl rfl ?_
        refine v_get (C := RX6) (T := TX6) (N := 10) (ci := 6) (v := .ref (ad 13)) 0 1 hX dX6_restore_26 mw_283 rfl inlX6 rfl (lt_b rfl) (lt_b rfl) rfl rfl ?_
        refine v_aload_n 0 0 hX dX6_restore_29 rfl rfl ?_
        refine v_iload_n 1 1 hX dX6_restore_30 rfl rfl ?_
        by_cases c : x1 = 0
        · have hf := opt_t c hf
          refine v_callVr (rest := [.ref (ad 13)]) (As := [.int x1]) (C := RX6) (T := TX6) (N := 10) (ci := 6) 0 hX dX6_restore_31 (c_imageOf_24 σ x1 c) rfl rfl (lt_b rfl) rfl rfl rfl mw_760 mw_23 mw_57 mw_758 mw_761 gAll ds_X6_imageOf rfl ⟨Nat.le_of_ble_eq_true rfl, Nat.le_of_ble_eq_true rfl⟩ (Nat.le_of_ble_eq_true rfl) ?_
          obtain ⟨v6, hc, hf⟩ := opt_b hf
          refine v_callVv (rest := []) (As := [.ref (ad 24)]) (C := RX1) (T := TX1) (N := 19) (ci := 1) 13 hX dX6_restore_34 (c_X1_become_13_24 σ hc) rfl rfl (lt_b rfl) rfl rfl rfl mw_457 mw_458 mw_59 mw_456 mw_459 gAll ds_X1_become rfl ⟨Nat.le_of_ble_eq_true rfl, Nat.le_of_ble_eq_true rfl⟩ (Nat.le_of_ble_eq_true rfl) ?_
          refine v_aload_n 0 0 hX dX6_restore_37 rfl rfl ?_
          refine v_get (C := RX6) (T := TX6) (N := 10) (ci := 6) (v := .ref (ad 59)) 0 5 hX dX6_restore_38 mw_287 rfl inlX6 rfl (lt_b rfl) (lt_b rfl) rfl rfl ?_
          obtain ⟨v7, hc, hf⟩ := opt_b hf
          refine v_callVv (rest := []) (As := []) (C := RX0) (T := TX0) (N := 3) (ci := 0) 59 hX dX6_restore_41 (c_X0_forget v6 hc) rfl rfl (lt_b rfl) rfl rfl rfl mw_462 mw_463 mw_61 mw_461 mw_464 gAll ds_X0_forget rfl ⟨Nat.le_of_ble_eq_true rfl, Nat.le_of_ble_eq_true rfl⟩ (Nat.le_of_ble_eq_true rfl) ?_
          refine v_iconst 1 hX dX6_restore_44 (by decide) ?_
          obtain rfl := Option.some.inj hf
          exact v_iret (r := 1) hX dX6_restore_45 rfl
        · have hf := opt_f c hf
          refine v_callVr (rest := [.ref (ad 13)]) (As := [.int x1]) (C := RX6) (T := TX6) (N := 10) (ci := 6) 0 hX dX6_restore_31 (c_imageOf_35 σ x1 c) rfl rfl (lt_b rfl) rfl rfl rfl mw_760 mw_23 mw_57 mw_758 mw_761 gAll ds_X6_imageOf rfl ⟨Nat.le_of_ble_eq_true rfl, Nat.le_of_ble_eq_true rfl⟩ (Nat.le_of_ble_eq_true rfl) ?_
          obtain ⟨v8, hc, hf⟩ := opt_b hf
          refine v_callVv (rest := []) (As := [.ref (ad 35)]) (C := RX1) (T := TX1) (N := 19) (ci := 1) 13 hX dX6_restore_34 (c_X1_become_13_35 σ hc) rfl rfl (lt_b rfl) rfl rfl rfl mw_457 mw_458 mw_59 mw_456 mw_459 gAll ds_X1_become rfl ⟨Nat.le_of_ble_eq_true rfl, Nat.le_of_ble_eq_true rfl⟩ (Nat.le_of_ble_eq_true rfl) ?_
          refine v_aload_n 0 0 hX dX6_restore_37 rfl rfl ?_
          refine v_get (C := RX6) (T := TX6) (N := 10) (ci := 6) (v := .ref (ad 59)) 0 5 hX dX6_restore_38 mw_287 rfl inlX6 rfl (lt_b rfl) (lt_b rfl) rfl rfl ?_
          obtain ⟨v9, hc, hf⟩ := opt_b hf
          refine v_callVv (rest := []) (As := []) (C := RX0) (T := TX0) (N := 3) (ci := 0) 59 hX dX6_restore_41 (c_X0_forget v8 hc) rfl rfl (lt_b rfl) rfl rfl rfl mw_462 mw_463 mw_61 mw_461 mw_464 gAll ds_X0_forget rfl ⟨Nat.le_of_ble_eq_true rfl, Nat.le_of_ble_eq_true rfl⟩ (Nat.le_of_ble_eq_true rfl) ?_
          refine v_iconst 1 hX dX6_restore_44 (by decide) ?_
          obtain rfl := Option.some.inj hf
          exact v_iret (r := 1) hX dX6_restore_45 rfl
      · have hf := opt_t c hf
        refine v_ldc (-1000002) hX dX6_restore_22 mw_473 ?_
        obtain rfl := Option.some.inj hf
        exact v_iret (r := (-1000002)) hX dX6_restore_24 rfl
  · have hf := opt_t c hf
    refine v_ldc (-1000001) hX dX6_restore_8 mw_323 ?_
    obtain rfl := Option.some.inj hf
    exact v_iret (r := (-1000001)) hX dX6_restore_10 rfl
set_option maxHeartbeats 4000000 in
set_option maxRecDepth 100000 in
theorem c_X6_kind {l : Launch} {D : va_G} {cs : ClassId × ClassId × ClassId} {ad : Nat → Nat} {ts : Nat × Nat × Nat} (σ : Mem)  (x1 : Int32) {z : Int32} (hf : f_X6_kind σ x1 = some z) : CtI l (xW D cs ad ts) 2 yX6_kind cX6_kind 2 (some .int) [.ref (ad 0), .int x1] σ z σ := by
  refine ct_I RX6 [(0, .ref (ad 0)), (1, .int x1)] (by decide +kernel) rfl rfl (Nat.le_of_ble_eq_true rfl) ?_
  intro P M hl0 hX
  unfold f_X6_kind at hf
  refine v_aload_n 0 0 hX dX6_kind_0 rfl rfl ?_
  refine v_iload_n 1 1 hX dX6_kind_1 rfl rfl ?_
  obtain ⟨v1, hc, hf⟩ := opt_b hf
  refine v_callVi (rest := []) (As := [.int x1]) (C := RX6) (T := TX6) (N := 10) (ci := 6) 0 hX dX6_kind_2 (c_X6_isHand σ x1 hc) rfl rfl (lt_b rfl) rfl rfl rfl mw_484 mw_15 mw_57 mw_482 mw_485 gAll ds_X6_isHand rfl ⟨Nat.le_of_ble_eq_true rfl, Nat.le_of_ble_eq_true rfl⟩ (Nat.le_of_ble_eq_true rfl) ?_
  refine v_if_eq 20 hX dX6_kind_5 (by decide) (fun c => ?_) (fun c => ?_)
  · have hf := opt_t c hf
    refine v_ldc (-1000001) hX dX6_kind_20 mw_323 ?_
    obtain rfl := Option.some.inj hf
    exact v_iret (r := (-1000001)) hX dX6_kind_22 rfl
  · have hf := opt_f c hf
    refine v_aload_n 0 0 hX dX6_kind_8 rfl rfl ?_
    refine v_get (C := RX6) (T := TX6) (N := 10) (ci := 6) (v := .ref (ad 13)) 0 1 hX dX6_kind_9 mw_283 rfl inlX6 rfl (lt_b rfl) (lt_b rfl) rfl rfl ?_
    refine v_get (C := RX1) (T := TX1) (N := 19) (ci := 1) (v := .ref (ad 14)) 13 9 hX dX6_kind_12 mw_140 rfl inlX1 rfl (lt_b rfl) (lt_b rfl) rfl rfl ?_
    refine v_iload_n 1 1 hX dX6_kind_15 rfl rfl ?_
    obtain ⟨hi2, hf⟩ := gd_some hf
    refine v_ald (v := σ 14 x1.toNatClampNeg) 14 hX dX6_kind_16 (lt_b rfl) ((fun _ => rfl) _) hi2 rfl ?_
    refine v_goto 22 hX dX6_kind_17 (by decide) ?_
    obtain rfl := Option.some.inj hf
    exact v_iret (r := σ 14 x1.toNatClampNeg) hX dX6_kind_22 rfl
set_option maxHeartbeats 4000000 in
set_option maxRecDepth 100000 in
theorem c_X6_as {l : Launch} {D : va_G} {cs : ClassId × ClassId × ClassId} {ad : Nat → Nat} {ts : Nat × Nat × Nat} (σ : Mem) (fuel : Nat)  (x1 : Int32) (x2 : Int32) {z : Int32 × Mem} (hf : f_X6_as fuel σ x1 x2 = some z) : CtI l (xW D cs ad ts) 2 yX6_as cX6_as 3 (some .int) [.ref (ad 0), .int x1, .int x2] σ z.1 z.2 := by
  refine ct_I RX6 [(0, .ref (ad 0)), (1, .int x1), (2, .int x2)] (by decide +kernel) rfl rfl (Nat.le_of_ble_eq_true rfl) ?_
  intro P M hl0 hX
  unfold f_X6_as at hf
  refine v_aload_n 0 0 hX dX6_as_0 rfl rfl ?_
  refine v_iload_n 1 1 hX dX6_as_1 rfl rfl ?_
  obtain ⟨v1, hc, hf⟩ := opt_b hf
  refine v_callVi (rest := []) (As := [.int x1]) (C := RX6) (T := TX6) (N := 10) (ci := 6) 0 hX dX6_as_2 (c_X6_isHand σ x1 hc) rfl rfl (lt_b rfl) rfl rfl rfl mw_484 mw_15 mw_57 mw_482 mw_485 gAll ds_X6_isHand rfl ⟨Nat.le_of_ble_eq_true rfl, Nat.le_of_ble_eq_true rfl⟩ (Nat.le_of_ble_eq_true rfl) ?_
  refine v_if_eq 17 hX dX6_as_5 (by decide) (fun c => ?_) (fun c => ?_)
  · have hf := opt_t c hf
    refine v_ldc (-1000001) hX dX6_as_17 mw_323 ?_
    obtain rfl := Option.some.inj hf
    exact v_iret (r := (-1000001)) hX dX6_as_19 rfl
  · have hf := opt_f c hf
    refine v_iload_n 2 2 hX dX6_as_8 rfl rfl ?_
    refine v_bipush 6 hX dX6_as_9 (by decide) ?_
    obtain ⟨v2, hc, hf⟩ := opt_b hf
    refine v_callSi (rest := []) (As := [.int x2, .int 6]) hX dX6_as_11 (c_X6_isBelow σ x2 6 hc) rfl rfl mw_321 mw_57 mw_320 mw_322 gAll ds_X6_isBelow rfl ⟨Nat.le_of_ble_eq_true rfl, Nat.le_of_ble_eq_true rfl⟩ (Nat.le_of_ble_eq_true rfl) ?_
    refine v_if_ne 20 hX dX6_as_14 (by decide) (fun c => ?_) (fun c => ?_)
    · have hf := opt_f c hf
      refine v_aload_n 0 0 hX dX6_as_20 rfl rfl ?_
      refine v_get (C := RX6) (T := TX6) (N := 10) (ci := 6) (v := .ref (ad 13)) 0 1 hX dX6_as_21 mw_283 rfl inlX6 rfl (lt_b rfl) (lt_b rfl) rfl rfl ?_
      refine v_get (C := RX1) (T := TX1) (N := 19) (ci := 1) (v := .ref (ad 14)) 13 9 hX dX6_as_24 mw_140 rfl inlX1 rfl (lt_b rfl) (lt_b rfl) rfl rfl ?_
      refine v_iload_n 1 1 hX dX6_as_27 rfl rfl ?_
      obtain ⟨hi3, hf⟩ := gd_some hf
      refine v_ald (v := σ 14 x1.toNatClampNeg) 14 hX dX6_as_28 (lt_b rfl) ((fun _ => rfl) _) hi3 rfl ?_
      refine v_iload_n 2 2 hX dX6_as_29 rfl rfl ?_
      obtain ⟨v4, hc, hf⟩ := opt_b hf
      refine v_callSi (rest := []) (As := [.int (σ 14 x1.toNatClampNeg), .int x2]) hX dX6_as_30 (c_X2_isKindOf fuel σ (σ 14 x1.toNatClampNeg) x2 hc) rfl rfl mw_775 mw_63 mw_774 mw_776 gAll ds_X2_isKindOf rfl ⟨Nat.le_of_ble_eq_true rfl, Nat.le_of_ble_eq_true rfl⟩ (Nat.le_of_ble_eq_true rfl) ?_
      refine v_if_ne 42 hX dX6_as_33 (by decide) (fun c => ?_) (fun c => ?_)
      · have hf := opt_f c hf
        refine v_aload_n 0 0 hX dX6_as_42 rfl rfl ?_
        refine v_iload_n 1 1 hX dX6_as_43 rfl rfl ?_
        obtain ⟨v5, hc, hf⟩ := opt_b hf
        refine v_callVi (rest := []) (As := [.int x1]) (C := RX6) (T := TX6) (N := 10) (ci := 6) 0 hX dX6_as_44 (c_X6_unfound σ x1 hc) rfl rfl (lt_b rfl) rfl rfl rfl mw_338 mw_1 mw_57 mw_336 mw_339 gAll ds_X6_unfound rfl ⟨Nat.le_of_ble_eq_true rfl, Nat.le_of_ble_eq_true rfl⟩ (Nat.le_of_ble_eq_true rfl) ?_
        obtain rfl := Option.some.inj hf
        exact v_iret (r := v5.1) hX dX6_as_47 rfl
      · have hf := opt_t c hf
        refine v_aload_n 0 0 hX dX6_as_36 rfl rfl ?_
        refine v_iconst 3 hX dX6_as_37 (by decide) ?_
        obtain ⟨v6, hc, hf⟩ := opt_b hf
        refine v_callVi (rest := []) (As := [.int 3]) (C := RX6) (T := TX6) (N := 10) (ci := 6) 0 hX dX6_as_38 (c_X6_found σ 3 hc) rfl rfl (lt_b rfl) rfl rfl rfl mw_326 mw_0 mw_57 mw_324 mw_327 gAll ds_X6_found rfl ⟨Nat.le_of_ble_eq_true rfl, Nat.le_of_ble_eq_true rfl⟩ (Nat.le_of_ble_eq_true rfl) ?_
        obtain rfl := Option.some.inj hf
        exact v_iret (r := v6.1) hX dX6_as_41 rfl
    · have hf := opt_t c hf
      refine v_ldc (-1000001) hX dX6_as_17 mw_323 ?_
      obtain rfl := Option.some.inj hf
      exact v_iret (r := (-1000001)) hX dX6_as_19 rfl
set_option maxHeartbeats 4000000 in
set_option maxRecDepth 100000 in
theorem c_X6_count {l : Launch} {D : va_G} {cs : ClassId × ClassId × ClassId} {ad : Nat → Nat} {ts : Nat × Nat × Nat} (fuel : Nat) (σ : Mem)  (x1 : Int32) {z : Int32} (hf : f_X6_count fuel σ x1 = some z) : CtI l (xW D cs ad ts) 2 yX6_count cX6_count 2 (some .int) [.ref (ad 0), .int x1] σ z σ := by
  refine ct_I RX6 [(0, .ref (ad 0)), (1, .int x1)] (by decide +kernel) rfl rfl (Nat.le_of_ble_eq_true rfl) ?_
  intro P M hl0 hX
  unfold f_X6_count at hf
  refine v_iload_n 1 1 hX dX6_count_0 rfl rfl ?_
  by_cases cs1 : x1 = 0
  · have hf := opt_t cs1 hf
    refine v_tableIn 51 52 hX dX6_count_1 (by rw [cs1]; decide) (by rw [cs1]; decide) (by rw [cs1]; decide) (by decide) ?_
    refine v_aload_n 0 0 hX dX6_count_52 rfl rfl ?_
    refine v_get (C := RX6) (T := TX6) (N := 10) (ci := 6) (v := .ref (ad 1)) 0 0 hX dX6_count_53 mw_282 rfl inlX6 rfl (lt_b rfl) (lt_b rfl) rfl rfl ?_
    obtain ⟨v2, hc, hf⟩ := opt_b hf
    refine v_callVi (rest := []) (As := []) (C := RX5) (T := TX5) (N := 3) (ci := 5) 1 hX dX6_count_56 (c_X5_present fuel σ hc) rfl rfl (lt_b rfl) rfl rfl rfl mw_821 mw_822 mw_58 mw_820 mw_823 gAll ds_X5_present rfl ⟨Nat.le_of_ble_eq_true rfl, Nat.le_of_ble_eq_true rfl⟩ (Nat.le_of_ble_eq_true rfl) ?_
    obtain rfl := Option.some.inj hf
    exact v_iret (r := v2) hX dX6_count_59 rfl
  have hf := opt_f cs1 hf
  by_cases cs3 : x1 = 1
  · have hf := opt_t cs3 hf
    refine v_tableIn 59 60 hX dX6_count_1 (by rw [cs3]; decide) (by rw [cs3]; decide) (by rw [cs3]; decide) (by decide) ?_
    refine v_aload_n 0 0 hX dX6_count_60 rfl rfl ?_
    refine v_get (C := RX6) (T := TX6) (N := 10) (ci := 6) (v := .ref (ad 13)) 0 1 hX dX6_count_61 mw_283 rfl inlX6 rfl (lt_b rfl) (lt_b rfl) rfl rfl ?_
    refine v_get (C := RX1) (T := TX1) (N := 19) (ci := 1) (v := .int (σ 13 6)) 13 6 hX dX6_count_64 mw_127 rfl inlX1 rfl (lt_b rfl) (lt_b rfl) rfl rfl ?_
    obtain rfl := Option.some.inj hf
    exact v_iret (r := σ 13 6) hX dX6_count_67 rfl
  have hf := opt_f cs3 hf
  by_cases cs4 : x1 = 2
  · have hf := opt_t cs4 hf
    refine v_tableIn 67 68 hX dX6_count_1 (by rw [cs4]; decide) (by rw [cs4]; decide) (by rw [cs4]; decide) (by decide) ?_
    refine v_aload_n 0 0 hX dX6_count_68 rfl rfl ?_
    refine v_get (C := RX6) (T := TX6) (N := 10) (ci := 6) (v := .ref (ad 13)) 0 1 hX dX6_count_69 mw_283 rfl inlX6 rfl (lt_b rfl) (lt_b rfl) rfl rfl ?_
    refine v_get (C := RX1) (T := TX1) (N := 19) (ci := 1) (v := .int (σ 13 7)) 13 7 hX dX6_count_72 mw_131 rfl inlX1 rfl (lt_b rfl) (lt_b rfl) rfl rfl ?_
    obtain rfl := Option.some.inj hf
    exact v_iret (r := σ 13 7) hX dX6_count_75 rfl
  have hf := opt_f cs4 hf
  by_cases cs5 : x1 = 3
  · have hf := opt_t cs5 hf
    refine v_tableIn 75 76 hX dX6_count_1 (by rw [cs5]; decide) (by rw [cs5]; decide) (by rw [cs5]; decide) (by decide) ?_
    refine v_aload_n 0 0 hX dX6_count_76 rfl rfl ?_
    refine v_get (C := RX6) (T := TX6) (N := 10) (ci := 6) (v := .ref (ad 13)) 0 1 hX dX6_count_77 mw_283 rfl inlX6 rfl (lt_b rfl) (lt_b rfl) rfl rfl ?_
    refine v_get (C := RX1) (T := TX1) (N := 19) (ci := 1) (v := .int (σ 13 8)) 13 8 hX dX6_count_80 mw_137 rfl inlX1 rfl (lt_b rfl) (lt_b rfl) rfl rfl ?_
    obtain rfl := Option.some.inj hf
    exact v_iret (r := σ 13 8) hX dX6_count_83 rfl
  have hf := opt_f cs5 hf
  by_cases cs6 : x1 = 4
  · have hf := opt_t cs6 hf
    refine v_tableIn 83 84 hX dX6_count_1 (by rw [cs6]; decide) (by rw [cs6]; decide) (by rw [cs6]; decide) (by decide) ?_
    refine v_aload_n 0 0 hX dX6_count_84 rfl rfl ?_
    refine v_get (C := RX6) (T := TX6) (N := 10) (ci := 6) (v := .ref (ad 13)) 0 1 hX dX6_count_85 mw_283 rfl inlX6 rfl (lt_b rfl) (lt_b rfl) rfl rfl ?_
    refine v_get (C := RX1) (T := TX1) (N := 19) (ci := 1) (v := .int (σ 13 3)) 13 3 hX dX6_count_88 mw_117 rfl inlX1 rfl (lt_b rfl) (lt_b rfl) rfl rfl ?_
    obtain rfl := Option.some.inj hf
    exact v_iret (r := σ 13 3) hX dX6_count_91 rfl
  have hf := opt_f cs6 hf
  by_cases cs7 : x1 = 5
  · have hf := opt_t cs7 hf
    refine v_tableIn 91 92 hX dX6_count_1 (by rw [cs7]; decide) (by rw [cs7]; decide) (by rw [cs7]; decide) (by decide) ?_
    refine v_aload_n 0 0 hX dX6_count_92 rfl rfl ?_
    refine v_get (C := RX6) (T := TX6) (N := 10) (ci := 6) (v := .ref (ad 13)) 0 1 hX dX6_count_93 mw_283 rfl inlX6 rfl (lt_b rfl) (lt_b rfl) rfl rfl ?_
    refine v_get (C := RX1) (T := TX1) (N := 19) (ci := 1) (v := .int (σ 13 4)) 13 4 hX dX6_count_96 mw_120 rfl inlX1 rfl (lt_b rfl) (lt_b rfl) rfl rfl ?_
    obtain rfl := Option.some.inj hf
    exact v_iret (r := σ 13 4) hX dX6_count_99 rfl
  have hf := opt_f cs7 hf
  by_cases cs8 : x1 = 6
  · have hf := opt_t cs8 hf
    refine v_tableIn 99 100 hX dX6_count_1 (by rw [cs8]; decide) (by rw [cs8]; decide) (by rw [cs8]; decide) (by decide) ?_
    refine v_aload_n 0 0 hX dX6_count_100 rfl rfl ?_
    refine v_get (C := RX6) (T := TX6) (N := 10) (ci := 6) (v := .ref (ad 13)) 0 1 hX dX6_count_101 mw_283 rfl inlX6 rfl (lt_b rfl) (lt_b rfl) rfl rfl ?_
    refine v_get (C := RX1) (T := TX1) (N := 19) (ci := 1) (v := .int (σ 13 5)) 13 5 hX dX6_count_104 mw_124 rfl inlX1 rfl (lt_b rfl) (lt_b rfl) rfl rfl ?_
    obtain ⟨v9, hc, hf⟩ := opt_b hf
    refine v_callSi (rest := []) (As := [.int (σ 13 5)]) hX dX6_count_107 (c_J6_bitCount_0f7a4 σ (σ 13 5) hc) rfl rfl mw_670 mw_68 mw_825 mw_671 gAll ds_J6_bitCount_0f7a4 rfl ⟨Nat.le_of_ble_eq_true rfl, Nat.le_of_ble_eq_true rfl⟩ (Nat.le_of_ble_eq_true rfl) ?_
    obtain rfl := Option.some.inj hf
    exact v_iret (r := v9) hX dX6_count_110 rfl
  have hf := opt_f cs8 hf
  by_cases cs10 : x1 = 7
  · have hf := opt_t cs10 hf
    refine v_tableIn 110 111 hX dX6_count_1 (by rw [cs10]; decide) (by rw [cs10]; decide) (by rw [cs10]; decide) (by decide) ?_
    refine v_aload_n 0 0 hX dX6_count_111 rfl rfl ?_
    refine v_get (C := RX6) (T := TX6) (N := 10) (ci := 6) (v := .ref (ad 59)) 0 5 hX dX6_count_112 mw_287 rfl inlX6 rfl (lt_b rfl) (lt_b rfl) rfl rfl ?_
    refine v_get (C := RX0) (T := TX0) (N := 3) (ci := 0) (v := .int (σ 59 2)) 59 2 hX dX6_count_115 mw_243 rfl inlX0 rfl (lt_b rfl) (lt_b rfl) rfl rfl ?_
    obtain rfl := Option.some.inj hf
    exact v_iret (r := σ 59 2) hX dX6_count_118 rfl
  have hf := opt_f cs10 hf
  by_cases cs11 : x1 = 8
  · have hf := opt_t cs11 hf
    refine v_tableIn 118 119 hX dX6_count_1 (by rw [cs11]; decide) (by rw [cs11]; decide) (by rw [cs11]; decide) (by decide) ?_
    refine v_aload_n 0 0 hX dX6_count_119 rfl rfl ?_
    refine v_get (C := RX6) (T := TX6) (N := 10) (ci := 6) (v := .ref (ad 46)) 0 4 hX dX6_count_120 mw_286 rfl inlX6 rfl (lt_b rfl) (lt_b rfl) rfl rfl ?_
    refine v_get (C := RX4) (T := TX4) (N := 5) (ci := 4) (v := .int (σ 46 2)) 46 2 hX dX6_count_123 mw_218 rfl inlX4 rfl (lt_b rfl) (lt_b rfl) rfl rfl ?_
    obtain rfl := Option.some.inj hf
    exact v_iret (r := σ 46 2) hX dX6_count_126 rfl
  have hf := opt_f cs11 hf
  refine v_tableOut 127 hX dX6_count_1 (by have h0 := lv_neT cs1 (a := 0) (by decide); have h1 := lv_neT cs3 (a := 1) (by decide); have h2 := lv_neT cs4 (a := 2) (by decide); have h3 := lv_neT cs5 (a := 3) (by decide); have h4 := lv_neT cs6 (a := 4) (by decide); have h5 := lv_neT cs7 (a := 5) (by decide); have h6 := lv_neT cs8 (a := 6) (by decide); have h7 := lv_neT cs10 (a := 7) (by decide); have h8 := lv_neT cs11 (a := 8) (by decide); omega) (by decide) ?_
  refine v_ldc (-1000001) hX dX6_count_127 mw_323 ?_
  obtain rfl := Option.some.inj hf
  exact v_iret (r := (-1000001)) hX dX6_count_129 rfl
