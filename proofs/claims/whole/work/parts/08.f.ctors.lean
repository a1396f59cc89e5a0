/-! constructors -/
theorem dfX0 : ∀ j, j < 3 → defaultValue (tyX0 j) = vp_V [.null, .null, .int 0] j := fun j hj => by
  rcases (show j = 0 ∨ j = 1 ∨ j = 2 by omega) with rfl | rfl | rfl <;> rfl
theorem dfX1 : ∀ j, j < 19 → defaultValue (tyX1 j) = vp_V [.int 0, .int 0, .int 0, .int 0, .int 0, .int 0, .int 0, .int 0, .int 0, .null, .null, .null, .null, .null, .null, .null, .null, .null, .null] j := fun j hj => by
  rcases (show j = 0 ∨ j = 1 ∨ j = 2 ∨ j = 3 ∨ j = 4 ∨ j = 5 ∨ j = 6 ∨ j = 7 ∨ j = 8 ∨ j = 9 ∨ j = 10 ∨ j = 11 ∨ j = 12 ∨ j = 13 ∨ j = 14 ∨ j = 15 ∨ j = 16 ∨ j = 17 ∨ j = 18 by omega) with rfl | rfl | rfl | rfl | rfl | rfl | rfl | rfl | rfl | rfl | rfl | rfl | rfl | rfl | rfl | rfl | rfl | rfl | rfl <;> rfl
theorem dfX2 : ∀ j, j < 2 → defaultValue (tyX2 j) = vp_V [.null, .int 0] j := fun j hj => by
  rcases (show j = 0 ∨ j = 1 by omega) with rfl | rfl <;> rfl
theorem dfX3 : ∀ j, j < 3 → defaultValue (tyX3 j) = vp_V [.null, .null, .null] j := fun j hj => by
  rcases (show j = 0 ∨ j = 1 ∨ j = 2 by omega) with rfl | rfl | rfl <;> rfl
theorem dfX4 : ∀ j, j < 5 → defaultValue (tyX4 j) = vp_V [.null, .null, .int 0, .int 0, .int 0] j := fun j hj => by
  rcases (show j = 0 ∨ j = 1 ∨ j = 2 ∨ j = 3 ∨ j = 4 by omega) with rfl | rfl | rfl | rfl | rfl <;> rfl
theorem dfX5 : ∀ j, j < 3 → defaultValue (tyX5 j) = vp_V [.null, .null, .null] j := fun j hj => by
  rcases (show j = 0 ∨ j = 1 ∨ j = 2 by omega) with rfl | rfl | rfl <;> rfl
theorem dfX6 : ∀ j, j < 10 → defaultValue (tyX6 j) = vp_V [.null, .null, .null, .null, .null, .null, .null, .null, .int 0, .int 0] j := fun j hj => by
  rcases (show j = 0 ∨ j = 1 ∨ j = 2 ∨ j = 3 ∨ j = 4 ∨ j = 5 ∨ j = 6 ∨ j = 7 ∨ j = 8 ∨ j = 9 by omega) with rfl | rfl | rfl | rfl | rfl | rfl | rfl | rfl | rfl | rfl <;> rfl
theorem dfX7 : ∀ j, j < 22 → defaultValue (tyX7 j) = vp_V [.null, .null, .null, .int 0, .null, .int 0, .int 0, .int 0, .null, .int 0, .null, .null, .null, .int 0, .null, .int 0, .int 0, .int 0, .int 0, .int 0, .null, .null] j := fun j hj => by
  rcases (show j = 0 ∨ j = 1 ∨ j = 2 ∨ j = 3 ∨ j = 4 ∨ j = 5 ∨ j = 6 ∨ j = 7 ∨ j = 8 ∨ j = 9 ∨ j = 10 ∨ j = 11 ∨ j = 12 ∨ j = 13 ∨ j = 14 ∨ j = 15 ∨ j = 16 ∨ j = 17 ∨ j = 18 ∨ j = 19 ∨ j = 20 ∨ j = 21 by omega) with rfl | rfl | rfl | rfl | rfl | rfl | rfl | rfl | rfl | rfl | rfl | rfl | rfl | rfl | rfl | rfl | rfl | rfl | rfl | rfl | rfl | rfl <;> rfl
def WX0 (cs : ClassId × ClassId × ClassId) (u : Nat → Nat) : va_W := [(u 0, .inr (0, [.ref (u 1), .ref (u 2), .int 0])), (u 1, .inl (cs.1, 24, .inl zr)), (u 2, .inl (cs.1, 24, .inl zr))]
theorem c_X0_init {l : Launch} {D : va_G} {cs : ClassId × ClassId × ClassId} : CtC l D cs 1 2 48 yX0_init cX0_init 1 0 [.null, .null, .int 0] (fun _ => True) (WX0 cs) := by
  refine ct_C RX0 (by decide) rfl rfl (Nat.le_of_ble_eq_true rfl) (fun P M A a hl hR hX hE hEx hEo => ?_)
  refine j_aload_n 0 0 hX dX0_init_0 rfl rfl ?_
  refine j_objInit hX dX0_init_1 cw_239 cw_75 cw_76 (by rw [hR]; exact ⟨Nat.le_of_ble_eq_true rfl, Nat.le_of_ble_eq_true rfl⟩) ?_
  refine j_aload_n 0 0 hX dX0_init_4 rfl rfl ?_
  refine j_bipush 24 hX dX0_init_5 (by decide) ?_
  refine j_newi hX dX0_init_7 cw_98 (by decide) rfl (Nat.le_of_ble_eq_true rfl) (by rw [hR]; exact Nat.le_of_ble_eq_true rfl) (by rw [hR]; exact Nat.le_of_ble_eq_true rfl) (fun q1 => ?_)
  refine j_putF (C := RX0) (T := TX0) (N := 3) (ci := 0) (ty := .array .int) tyX0 0 hX dX0_init_9 hE.2.2 mw_240 rfl inlX0 tyX0_ok nmX0 rfl (lt_b rfl) rfl rfl (tyX0_ok 0 (lt_b rfl)) rfl rfl (lt_b rfl) ?_
  refine j_aload_n 0 0 hX dX0_init_12 rfl rfl ?_
  refine j_bipush 24 hX dX0_init_13 (by decide) ?_
  refine j_newi hX dX0_init_15 cw_98 (by decide) rfl (Nat.le_of_ble_eq_true rfl) (by rw [hR]; exact Nat.le_of_ble_eq_true rfl) (by rw [hR]; exact Nat.le_of_ble_eq_true rfl) (fun q2 => ?_)
  refine j_putF (C := RX0) (T := TX0) (N := 3) (ci := 0) (ty := .array .int) tyX0 1 hX dX0_init_17 hE.2.2 mw_241 rfl inlX0 tyX0_ok nmX0 rfl (lt_b rfl) rfl rfl (tyX0_ok 1 (lt_b rfl)) rfl rfl (lt_b rfl) ?_
  exact j_vret (fun k => match k with | 0 => a | 1 => q1 | _ => q2) hX hE dX0_init_20 rfl rfl
def WX1 (cs : ClassId × ClassId × ClassId) (u : Nat → Nat) : va_W := [(u 0, .inr (1, [.int 0, .int 0, .int 0, .int 0, .int 0, .int 0, .int 0, .int 0, .int 0, .ref (u 1), .ref (u 2), .ref (u 3), .ref (u 4), .ref (u 5), .ref (u 6), .ref (u 7), .ref (u 8), .ref (u 9), .ref (u 10)])), (u 1, .inl (cs.1, 4, .inl zr)), (u 2, .inl (cs.1, 4, .inl zr)), (u 3, .inl (cs.1, 10, .inl zr)), (u 4, .inl (cs.1, 10, .inl zr)), (u 5, .inl (cs.1, 10, .inl zr)), (u 6, .inl (cs.1, 10, .inl zr)), (u 7, .inl (cs.1, 5, .inl zr)), (u 8, .inl (cs.1, 5, .inl zr)), (u 9, .inl (cs.1, 5, .inl zr)), (u 10, .inl (cs.1, 5, .inl zr))]
theorem c_X1_init {l : Launch} {D : va_G} {cs : ClassId × ClassId × ClassId} : CtC l D cs 1 10 68 yX1_init cX1_init 1 1 [.int 0, .int 0, .int 0, .int 0, .int 0, .int 0, .int 0, .int 0, .int 0, .null, .null, .null, .null, .null, .null, .null, .null, .null, .null] (fun _ => True) (WX1 cs) := by
  refine ct_C RX1 (by decide) rfl rfl (Nat.le_of_ble_eq_true rfl) (fun P M A a hl hR hX hE hEx hEo => ?_)
  refine j_aload_n 0 0 hX dX1_init_0 rfl rfl ?_
  refine j_objInit hX dX1_init_1 cw_104 cw_75 cw_76 (by rw [hR]; exact ⟨Nat.le_of_ble_eq_true rfl, Nat.le_of_ble_eq_true rfl⟩) ?_
  refine j_aload_n 0 0 hX dX1_init_4 rfl rfl ?_
  refine j_iconst 4 hX dX1_init_5 (by decide) ?_
  refine j_newi hX dX1_init_6 cw_98 (by decide) rfl (Nat.le_of_ble_eq_true rfl) (by rw [hR]; exact Nat.le_of_ble_eq_true rfl) (by rw [hR]; exact Nat.le_of_ble_eq_true rfl) (fun q1 => ?_)
  refine j_putF (C := RX1) (T := TX1) (N := 19) (ci := 1) (ty := .array .int) tyX1 9 hX dX1_init_8 hE.2.2 mw_138 rfl inlX1 tyX1_ok nmX1 rfl (lt_b rfl) rfl rfl (tyX1_ok 9 (lt_b rfl)) rfl rfl (lt_b rfl) ?_
  refine j_aload_n 0 0 hX dX1_init_11 rfl rfl ?_
  refine j_iconst 4 hX dX1_init_12 (by decide) ?_
  refine j_newi hX dX1_init_13 cw_98 (by decide) rfl (Nat.le_of_ble_eq_true rfl) (by rw [hR]; exact Nat.le_of_ble_eq_true rfl) (by rw [hR]; exact Nat.le_of_ble_eq_true rfl) (fun q2 => ?_)
  refine j_putF (C := RX1) (T := TX1) (N := 19) (ci := 1) (ty := .array .int) tyX1 10 hX dX1_init_15 hE.2.2 mw_141 rfl inlX1 tyX1_ok nmX1 rfl (lt_b rfl) rfl rfl (tyX1_ok 10 (lt_b rfl)) rfl rfl (lt_b rfl) ?_
  refine j_aload_n 0 0 hX dX1_init_18 rfl rfl ?_
  refine j_bipush 10 hX dX1_init_19 (by decide) ?_
  refine j_newi hX dX1_init_21 cw_98 (by decide) rfl (Nat.le_of_ble_eq_true rfl) (by rw [hR]; exact Nat.le_of_ble_eq_true rfl) (by rw [hR]; exact Nat.le_of_ble_eq_true rfl) (fun q3 => ?_)
  refine j_putF (C := RX1) (T := TX1) (N := 19) (ci := 1) (ty := .array .int) tyX1 11 hX dX1_init_23 hE.2.2 mw_146 rfl inlX1 tyX1_ok nmX1 rfl (lt_b rfl) rfl rfl (tyX1_ok 11 (lt_b rfl)) rfl rfl (lt_b rfl) ?_
  refine j_aload_n 0 0 hX dX1_init_26 rfl rfl ?_
  refine j_bipush 10 hX dX1_init_27 (by decide) ?_
  refine j_newi hX dX1_init_29 cw_98 (by decide) rfl (Nat.le_of_ble_eq_true rfl) (by rw [hR]; exact Nat.le_of_ble_eq_true rfl) (by rw [hR]; exact Nat.le_of_ble_eq_true rfl) (fun q4 => ?_)
  refine j_putF (C := RX1) (T := TX1) (N := 19) (ci := 1) (ty := .array .int) tyX1 12 hX dX1_init_31 hE.2.2 mw_148 rfl inlX1 tyX1_ok nmX1 rfl (lt_b rfl) rfl rfl (tyX1_ok 12 (lt_b rfl)) rfl rfl (lt_b rfl) ?_
  refine j_aload_n 0 0 hX dX1_init_34 rfl rfl ?_
  refine j_bipush 10 hX dX1_init_35 (by decide) ?_
  refine j_newi hX dX1_init_37 cw_98 (by decide) rfl (Nat.le_of_ble_eq_true rfl) (by rw [hR]; exact Nat.le_of_ble_eq_true rfl) (by rw [hR]; exact Nat.le_of_ble_eq_true rfl) (fun q5 => ?_)
  refine j_putF (C := RX1) (T := TX1) (N := 19) (ci := 1) (ty := .array .int) tyX1 13 hX dX1_init_39 hE.2.2 mw_152 rfl inlX1 tyX1_ok nmX1 rfl (lt_b rfl) rfl rfl (tyX1_ok 13 (lt_b rfl)) rfl rfl (lt_b rfl) ?_
  refine j_aload_n 0 0 hX dX1_init_42 rfl rfl ?_
  refine j_bipush 10 hX dX1_init_43 (by decide) ?_
  refine j_newi hX dX1_init_45 cw_98 (by decide) rfl (Nat.le_of_ble_eq_true rfl) (by rw [hR]; exact Nat.le_of_ble_eq_true rfl) (by rw [hR]; exact Nat.le_of_ble_eq_true rfl) (fun q6 => ?_)
  refine j_putF (C := RX1) (T := TX1) (N := 19) (ci := 1) (ty := .array .int) tyX1 14 hX dX1_init_47 hE.2.2 mw_155 rfl inlX1 tyX1_ok nmX1 rfl (lt_b rfl) rfl rfl (tyX1_ok 14 (lt_b rfl)) rfl rfl (lt_b rfl) ?_
  refine j_aload_n 0 0 hX dX1_init_50 rfl rfl ?_
  refine j_iconst 5 hX dX1_init_51 (by decide) ?_
  refine j_newi hX dX1_init_52 cw_98 (by decide) rfl (Nat.le_of_ble_eq_true rfl) (by rw [hR]; exact Nat.le_of_ble_eq_true rfl) (by rw [hR]; exact Nat.le_of_ble_eq_true rfl) (fun q7 => ?_)
  refine j_putF (C := RX1) (T := TX1) (N := 19) (ci := 1) (ty := .array .int) tyX1 15 hX dX1_init_54 hE.2.2 mw_158 rfl inlX1 tyX1_ok nmX1 rfl (lt_b rfl) rfl rfl (tyX1_ok 15 (lt_b rfl)) rfl rfl (lt_b rfl) ?_
  refine j_aload_n 0 0 hX dX1_init_57 rfl rfl ?_
  refine j_iconst 5 hX dX1_init_58 (by decide) ?_
  refine j_newi hX dX1_init_59 cw_98 (by decide) rfl (Nat.le_of_ble_eq_true rfl) (by rw [hR]; exact Nat.le_of_ble_eq_true rfl) (by rw [hR]; exact Nat.le_of_ble_eq_true rfl) (fun q8 => ?_)
  refine j_putF (C := RX1) (T := TX1) (N := 19) (ci := 1) (ty := .array .int) tyX1 16 hX dX1_init_61 hE.2.2 mw_160 rfl inlX1 tyX1_ok nmX1 rfl (lt_b rfl) rfl rfl (tyX1_ok 16 (lt_b rfl)) rfl rfl (lt_b rfl) ?_
  refine j_aload_n 0 0 hX dX1_init_64 rfl rfl ?_
  refine j_iconst 5 hX dX1_init_65 (by decide) ?_
  refine j_newi hX dX1_init_66 cw_98 (by decide) rfl (Nat.le_of_ble_eq_true rfl) (by rw [hR]; exact Nat.le_of_ble_eq_true rfl) (by rw [hR]; exact Nat.le_of_ble_eq_true rfl) (fun q9 => ?_)
  refine j_putF (C := RX1) (T := TX1) (N := 19) (ci := 1) (ty := .array .int) tyX1 17 hX dX1_init_68 hE.2.2 mw_162 rfl inlX1 tyX1_ok nmX1 rfl (lt_b rfl) rfl rfl (tyX1_ok 17 (lt_b rfl)) rfl rfl (lt_b rfl) ?_
  refine j_aload_n 0 0 hX dX1_init_71 rfl rfl ?_
  refine j_iconst 5 hX dX1_init_72 (by decide) ?_
  refine j_newi hX dX1_init_73 cw_98 (by decide) rfl (Nat.le_of_ble_eq_true rfl) (by rw [hR]; exact Nat.le_of_ble_eq_true rfl) (by rw [hR]; exact Nat.le_of_ble_eq_true rfl) (fun q10 => ?_)
  refine j_putF (C := RX1) (T := TX1) (N := 19) (ci := 1) (ty := .array .int) tyX1 18 hX dX1_init_75 hE.2.2 mw_164 rfl inlX1 tyX1_ok nmX1 rfl (lt_b rfl) rfl rfl (tyX1_ok 18 (lt_b rfl)) rfl rfl (lt_b rfl) ?_
  exact j_vret (fun k => match k with | 0 => a | 1 => q1 | 2 => q2 | 3 => q3 | 4 => q4 | 5 => q5 | 6 => q6 | 7 => q7 | 8 => q8 | 9 => q9 | _ => q10) hX hE dX1_init_78 rfl rfl
def WX2 (cs : ClassId × ClassId × ClassId) (u : Nat → Nat) : va_W := [(u 0, .inr (2, [.ref (u 1), .int 0])), (u 1, .inl (cs.1, 16, .inl zr))]
theorem c_X2_init {l : Launch} {D : va_G} {cs : ClassId × ClassId × ClassId} : CtC l D cs 1 1 16 yX2_init cX2_init 1 2 [.null, .int 0] (fun _ => True) (WX2 cs) := by
  refine ct_C RX2 (by decide) rfl rfl (Nat.le_of_ble_eq_true rfl) (fun P M A a hl hR hX hE hEx hEo => ?_)
  refine j_aload_n 0 0 hX dX2_init_0 rfl rfl ?_
  refine j_objInit hX dX2_init_1 cw_272 cw_75 cw_76 (by rw [hR]; exact ⟨Nat.le_of_ble_eq_true rfl, Nat.le_of_ble_eq_true rfl⟩) ?_
  refine j_aload_n 0 0 hX dX2_init_4 rfl rfl ?_
  refine j_bipush 16 hX dX2_init_5 (by decide) ?_
  refine j_newi hX dX2_init_7 cw_98 (by decide) rfl (Nat.le_of_ble_eq_true rfl) (by rw [hR]; exact Nat.le_of_ble_eq_true rfl) (by rw [hR]; exact Nat.le_of_ble_eq_true rfl) (fun q1 => ?_)
  refine j_putF (C := RX2) (T := TX2) (N := 2) (ci := 2) (ty := .array .int) tyX2 0 hX dX2_init_9 hE.2.2 mw_273 rfl inlX2 tyX2_ok nmX2 rfl (lt_b rfl) rfl rfl (tyX2_ok 0 (lt_b rfl)) rfl rfl (lt_b rfl) ?_
  exact j_vret (fun k => match k with | 0 => a | _ => q1) hX hE dX2_init_12 rfl rfl
def WX3 (cs : ClassId × ClassId × ClassId) (u : Nat → Nat) : va_W := [(u 0, .inr (3, [.ref (u 1), .ref (u 2), .ref (u 3)])), (u 1, .inl (cs.1, 16, .inl zr)), (u 2, .inl (cs.1, 91, .inl zr)), (u 3, .inl (cs.1, 91, .inl zr))]
theorem c_X3_init {l : Launch} {D : va_G} {cs : ClassId × ClassId × ClassId} : CtC l D cs 1 3 198 yX3_init cX3_init 1 3 [.null, .null, .null] (fun _ => True) (WX3 cs) := by
  refine ct_C RX3 (by decide) rfl rfl (Nat.le_of_ble_eq_true rfl) (fun P M A a hl hR hX hE hEx hEo => ?_)
  refine j_aload_n 0 0 hX dX3_init_0 rfl rfl ?_
  refine j_objInit hX dX3_init_1 cw_256 cw_75 cw_76 (by rw [hR]; exact ⟨Nat.le_of_ble_eq_true rfl, Nat.le_of_ble_eq_true rfl⟩) ?_
  refine j_aload_n 0 0 hX dX3_init_4 rfl rfl ?_
  refine j_bipush 16 hX dX3_init_5 (by decide) ?_
  refine j_newi hX dX3_init_7 cw_98 (by decide) rfl (Nat.le_of_ble_eq_true rfl) (by rw [hR]; exact Nat.le_of_ble_eq_true rfl) (by rw [hR]; exact Nat.le_of_ble_eq_true rfl) (fun q1 => ?_)
  refine j_putF (C := RX3) (T := TX3) (N := 3) (ci := 3) (ty := .array .int) tyX3 0 hX dX3_init_9 hE.2.2 mw_257 rfl inlX3 tyX3_ok nmX3 rfl (lt_b rfl) rfl rfl (tyX3_ok 0 (lt_b rfl)) rfl rfl (lt_b rfl) ?_
  refine j_aload_n 0 0 hX dX3_init_12 rfl rfl ?_
  refine j_bipush 91 hX dX3_init_13 (by decide) ?_
  refine j_newi hX dX3_init_15 cw_98 (by decide) rfl (Nat.le_of_ble_eq_true rfl) (by rw [hR]; exact Nat.le_of_ble_eq_true rfl) (by rw [hR]; exact Nat.le_of_ble_eq_true rfl) (fun q2 => ?_)
  refine j_putF (C := RX3) (T := TX3) (N := 3) (ci := 3) (ty := .array .int) tyX3 1 hX dX3_init_17 hE.2.2 mw_258 rfl inlX3 tyX3_ok nmX3 rfl (lt_b rfl) rfl rfl (tyX3_ok 1 (lt_b rfl)) rfl rfl (lt_b rfl) ?_
  refine j_aload_n 0 0 hX dX3_init_20 rfl rfl ?_
  refine j_bipush 91 hX dX3_init_21 (by decide) ?_
  refine j_newi hX dX3_init_23 cw_98 (by decide) rfl (Nat.le_of_ble_eq_true rfl) (by rw [hR]; exact Nat.le_of_ble_eq_true rfl) (by rw [hR]; exact Nat.le_of_ble_eq_true rfl) (fun q3 => ?_)
  refine j_putF (C := RX3) (T := TX3) (N := 3) (ci := 3) (ty := .array .int) tyX3 2 hX dX3_init_25 hE.2.2 mw_259 rfl inlX3 tyX3_ok nmX3 rfl (lt_b rfl) rfl rfl (tyX3_ok 2 (lt_b rfl)) rfl rfl (lt_b rfl) ?_
  exact j_vret (fun k => match k with | 0 => a | 1 => q1 | 2 => q2 | _ => q3) hX hE dX3_init_28 rfl rfl
def WX4 (cs : ClassId × ClassId × ClassId) (u : Nat → Nat) : va_W := (u 0, .inr (4, [.ref (u 1), .ref (u 2), .int 0, .int 0, .int 0])) :: (u 1, .inl (cs.1, 140, .inl zr)) :: WX1 cs (fun k => u (2 + k))
def exRd (U : State) : Prop := va_Nw (.methodLinkNest RX4 17 yX1_init "InkTaken") U
theorem exRd_ok : ExOk exRd := ⟨fun U g mk a h => va_Nw.same rfl rfl h, fun s U h hW => va_Nw.warmM hW h⟩
theorem tru_ok : ExOk (fun _ => True) := ⟨fun _ _ _ _ _ => trivial, fun _ _ _ _ => trivial⟩
theorem c_X4_init {l : Launch} {D : va_G} {cs : ClassId × ClassId × ClassId} : CtC l D cs 2 12 227 yX4_init cX4_init 1 4 [.null, .null, .int 0, .int 0, .int 0] exRd (WX4 cs) := by
  refine ct_C RX4 (by decide) rfl rfl (Nat.le_of_ble_eq_true rfl) (fun P M A a hl hR hX hE hEx hEo => ?_)
  refine j_aload_n 0 0 hX dX4_init_0 rfl rfl ?_
  refine j_objInit hX dX4_init_1 cw_211 cw_75 cw_76 (by rw [hR]; exact ⟨Nat.le_of_ble_eq_true rfl, Nat.le_of_ble_eq_true rfl⟩) ?_
  refine j_aload_n 0 0 hX dX4_init_4 rfl rfl ?_
  refine j_sipush 140 hX dX4_init_5 (by decide) ?_
  refine j_newi hX dX4_init_8 cw_98 (by decide) rfl (Nat.le_of_ble_eq_true rfl) (by rw [hR]; exact Nat.le_of_ble_eq_true rfl) (by rw [hR]; exact Nat.le_of_ble_eq_true rfl) (fun q1 => ?_)
  refine j_putF (C := RX4) (T := TX4) (N := 5) (ci := 4) (ty := .array .int) tyX4 0 hX dX4_init_10 hE.2.2 mw_214 rfl inlX4 tyX4_ok nmX4 rfl (lt_b rfl) rfl rfl (tyX4_ok 0 (lt_b rfl)) rfl rfl (lt_b rfl) ?_
  refine j_aload_n 0 0 hX dX4_init_13 rfl rfl ?_
  refine j_new (C := RX1) (T := TX1) (N := 19) (ci := 1) (fs := [.int 0, .int 0, .int 0, .int 0, .int 0, .int 0, .int 0, .int 0, .int 0, .null, .null, .null, .null, .null, .null, .null, .null, .null, .null]) tyX1 hX dX4_init_14 cw_212 cw_100 mw_59 inlX1 tyX1_ok rfl dfX1 (by rw [hR]; exact Nat.le_of_ble_eq_true rfl) (by rw [hR]; exact Nat.le_of_ble_eq_true rfl) (fun n1 => ?_)
  refine j_dup hX dX4_init_17 rfl ?_
  refine j_callN (X := _) hX dX4_init_18 (c_X1_init (l := P.2.1)) hEx mw_59 cw_102 cw_103 rfl (by decide) (by rw [hR]; exact ⟨Nat.le_of_ble_eq_true rfl, Nat.le_of_ble_eq_true rfl⟩) (Nat.le_of_ble_eq_true rfl) (by rw [hR]; exact Nat.le_of_ble_eq_true rfl) (by rw [hR]; exact Nat.le_of_ble_eq_true rfl) trivial tru_ok (fun u1 hu1 => ?_)
  subst hu1
  refine j_putF (C := RX4) (T := TX4) (N := 5) (ci := 4) (ty := .object "InkTaken$Archive") tyX4 1 hX dX4_init_21 hE.2.2 mw_215 rfl inlX4 tyX4_ok nmX4 rfl (lt_b rfl) rfl rfl (tyX4_ok 1 (lt_b rfl)) rfl rfl (lt_b rfl) ?_
  exact j_vret (fun k => match k with | 0 => a | 1 => q1 | k + 2 => u1 k) hX hE dX4_init_24 rfl rfl
def neg8 (i : Nat) : Nat → Int32 := fun j => if j < i then -1 else 0
theorem neg8_0 : neg8 0 = zr := funext fun j => if_neg (Nat.not_lt_zero j)
theorem neg8_s {i : Nat} (hi : i < 8) : upd (neg8 i) (nI i).toNatClampNeg (-1) = neg8 (i + 1) := funext fun j => by
  rw [cl_n (by omega)]
  unfold upd neg8
  by_cases e : j = i
  · rw [if_pos e, if_pos (by omega)]
  · rw [if_neg e]
    by_cases h : j < i
    · rw [if_pos h, if_pos (by omega)]
    · rw [if_neg h, if_neg (by omega)]
def rowE (cs : ClassId × ClassId × ClassId) (g : Nat → Option Nat) (i : Nat) : va_E := if i = 0 then .inl (cs.2.1, 8, .inr (.inr (.inr (.inr g)))) else .inl (cs.1, 40, .inl zr)
def WXg (cs : ClassId × ClassId × ClassId) (u : Nat → Nat) (g : Nat → Option Nat) : va_W := (u 0, .inr (5, [.ref (u 1), .ref (u 2), .ref (u 3)])) :: (u 1, .inl (cs.1, 8, .inl (neg8 8))) :: (u 2, .inl (cs.1, 8, .inl zr)) :: (List.range 9).map (fun i => (u (3 + i), rowE cs g i))
def WX5 (cs : ClassId × ClassId × ClassId) (u : Nat → Nat) : va_W := WXg cs u (fun i => if i < 8 then some (u (4 + i)) else none)
theorem lpRows {P : PT} {M : MT} {D : va_G} {cs : ClassId × ClassId × ClassId} {A : Nat → Prop} {Q : State → Prop} {a : Nat} {q1 q2 q3 : Nat} {Y : va_W} {n z : Nat} (hX : COk P M D cs A 2 cX5_init RX5) (kend : ∀ lv, CJ P M D A 2 Q 53 lv [] ((a, .inr (5, [.ref q1, .ref q2, .ref q3])) :: (q1, .inl (cs.1, 8, .inl (neg8 8))) :: Y) n z) : ∀ k i, i + k = 8 → CJ P M D A 2 Q 34 [(1, .int (nI i)), (0, .ref a)] [] ((a, .inr (5, [.ref q1, .ref q2, .ref q3])) :: (q1, .inl (cs.1, 8, .inl (neg8 i))) :: Y) n z := by
  intro k
  induction k with
  | zero =>
    intro i hi
    obtain rfl : i = 8 := by omega
    refine j_iload_n 0 1 hX dX5_init_34 rfl rfl ?_
    refine j_bipush 8 hX dX5_init_35 (by decide) ?_
    exact j_icmp_ge 53 hX dX5_init_37 rfl (fun _ => kend _) (fun h => absurd (by decide) h)
  | succ k ih =>
    intro i hi
    refine j_iload_n 0 1 hX dX5_init_34 rfl rfl ?_
    refine j_bipush 8 hX dX5_init_35 (by decide) ?_
    refine j_icmp_ge 53 hX dX5_init_37 rfl (fun h => absurd h (by rw [show (8 : Int32) = nI 8 from rfl, le_n (by omega) (by omega)]; omega)) (fun _ => ?_)
    refine j_aload_n 1 0 hX dX5_init_40 rfl rfl ?_
    refine j_get (C := RX5) (T := TX5) (N := 3) (ci := 5) 0 0 hX dX5_init_41 mw_85 rfl inlX5 rfl (lt_b rfl) rfl rfl ?_
    refine j_iload_n 0 1 hX dX5_init_44 rfl rfl ?_
    refine j_iconst (-1) hX dX5_init_45 (by decide) ?_
    refine j_iast 1 hX dX5_init_46 rfl (inB_nI (by omega) (by omega)) ?_
    rw [neg8_s (by omega)]
    refine j_iinc 0 (nI (i + 1)) [(1, .int (nI (i + 1))), (0, .ref a)] hX dX5_init_47 rfl (by show nI i + nI 1 = _; rw [nI_add]) (lt_b rfl) rfl ?_
    refine j_goto 34 hX dX5_init_50 rfl ?_
    exact ih (i + 1) (by omega)
theorem rows_eq {cs : ClassId × ClassId × ClassId} {a q1 q2 h0 : Nat} : WX5 cs (fun k => if k = 0 then a else if k = 1 then q1 else if k = 2 then q2 else h0 + (k - 3)) = (a, .inr (5, [.ref q1, .ref q2, .ref h0])) :: (q1, .inl (cs.1, 8, .inl (neg8 8))) :: ((q2, .inl (cs.1, 8, .inl zr)) :: (List.range 9).map (fun i => (h0 + i, mnE cs h0 i))) := by
  unfold WX5 WXg
  refine congrArg (fun l : va_W => (a, .inr (5, [.ref q1, .ref q2, .ref h0])) :: (q1, .inl (cs.1, 8, .inl (neg8 8))) :: (q2, .inl (cs.1, 8, .inl zr)) :: l) ?_
  refine List.map_congr_left fun i hi => ?_
  have hi := List.mem_range.mp hi
  refine Prod.ext ?_ ?_
  · show (if 3 + i = 0 then a else if 3 + i = 1 then q1 else if 3 + i = 2 then q2 else h0 + (3 + i - 3)) = h0 + i
    rw [if_neg (by omega), if_neg (by omega), if_neg (by omega)]
    omega
  · show rowE cs _ i = mnE cs h0 i
    unfold rowE mnE
    by_cases e : i = 0
    · rw [if_pos e, if_pos e]
      congr 7
      funext j
      show (if j < 8 then some (if 4 + j = 0 then a else if 4 + j = 1 then q1 else if 4 + j = 2 then q2 else h0 + (4 + j - 3)) else none) = _
      rw [if_neg (show ¬ 4 + j = 0 by omega), if_neg (show ¬ 4 + j = 1 by omega), if_neg (show ¬ 4 + j = 2 by omega), show h0 + (4 + j - 3) = h0 + 1 + j by omega]
    · rw [if_neg e, if_neg e]
theorem ao2_ok : ExOk AO2 := ⟨fun U g mk a h => AO2.moved (u := U) (U := U.calling g mk a) (Vm.Alike.refl U.vm) h, fun s U h hW => AO2.moved hW.alike h⟩
theorem c_X5_init {l : Launch} {D : va_G} {cs : ClassId × ClassId × ClassId} : CtC l D cs 1 11 344 yX5_init cX5_init 2 5 [.null, .null, .null] AO2 (WX5 cs) := by
  refine ct_C RX5 (by decide) rfl rfl (Nat.le_of_ble_eq_true rfl) (fun P M A a hl hR hX hE hEx hEo => ?_)
  refine j_aload_n 0 0 hX dX5_init_0 rfl rfl ?_
  refine j_objInit hX dX5_init_1 cw_82 cw_75 cw_76 (by rw [hR]; exact ⟨Nat.le_of_ble_eq_true rfl, Nat.le_of_ble_eq_true rfl⟩) ?_
  refine j_aload_n 0 0 hX dX5_init_4 rfl rfl ?_
  refine j_bipush 8 hX dX5_init_5 (by decide) ?_
  refine j_newi hX dX5_init_7 cw_98 (by decide) rfl (Nat.le_of_ble_eq_true rfl) (by rw [hR]; exact Nat.le_of_ble_eq_true rfl) (by rw [hR]; exact Nat.le_of_ble_eq_true rfl) (fun q1 => ?_)
  refine j_putF (C := RX5) (T := TX5) (N := 3) (ci := 5) (ty := .array .int) tyX5 0 hX dX5_init_9 hE.2.2 mw_85 rfl inlX5 tyX5_ok nmX5 rfl (lt_b rfl) rfl rfl (tyX5_ok 0 (lt_b rfl)) rfl rfl (lt_b rfl) ?_
  refine j_aload_n 0 0 hX dX5_init_12 rfl rfl ?_
  refine j_bipush 8 hX dX5_init_13 (by decide) ?_
  refine j_newi hX dX5_init_15 cw_98 (by decide) rfl (Nat.le_of_ble_eq_true rfl) (by rw [hR]; exact Nat.le_of_ble_eq_true rfl) (by rw [hR]; exact Nat.le_of_ble_eq_true rfl) (fun q2 => ?_)
  refine j_putF (C := RX5) (T := TX5) (N := 3) (ci := 5) (ty := .array .int) tyX5 1 hX dX5_init_17 hE.2.2 mw_87 rfl inlX5 tyX5_ok nmX5 rfl (lt_b rfl) rfl rfl (tyX5_ok 1 (lt_b rfl)) rfl rfl (lt_b rfl) ?_
  refine j_aload_n 0 0 hX dX5_init_20 rfl rfl ?_
  refine j_bipush 8 hX dX5_init_21 (by decide) ?_
  refine j_bipush 40 hX dX5_init_23 (by decide) ?_
  refine j_mna (hw := trivial) hX dX5_init_25 cw_83 hEx cw_98 (by rw [hR]; exact Nat.le_of_ble_eq_true rfl) (by rw [hR]; exact Nat.le_of_ble_eq_true rfl) (fun h0 => ?_)
  refine j_putF (C := RX5) (T := TX5) (N := 3) (ci := 5) (ty := .array (.array .int)) tyX5 2 hX dX5_init_29 hE.2.2 mw_89 rfl inlX5 tyX5_ok nmX5 rfl (lt_b rfl) rfl rfl (tyX5_ok 2 (lt_b rfl)) rfl rfl (lt_b rfl) ?_
  refine j_iconst 0 hX dX5_init_32 (by decide) ?_
  refine j_istore_n 1 [(1, .int 0), (0, .ref a)] hX dX5_init_33 rfl (lt_b rfl) rfl ?_
  have lp := lpRows (q1 := q1) (q2 := q2) (q3 := h0) (Y := (q2, .inl (cs.1, 8, .inl zr)) :: (List.range 9).map (fun i => (h0 + i, mnE cs h0 i))) (a := a) (Q := QC P M D A (WX5 cs) a 11 344) (n := 11) (z := 344) hX (fun lv => j_vret (fun k => if k = 0 then a else if k = 1 then q1 else if k = 2 then q2 else h0 + (k - 3)) hX hE dX5_init_53 rfl rows_eq) 8 0 rfl
  rw [neg8_0] at lp
  exact lp
def σ00 : Mem := fun q => if q = 2 then neg8 8 else zr
theorem lpSizes {P : PT} {M : MT} {D : va_G} {cs : ClassId × ClassId × ClassId} {A : Nat → Prop} {Q : State → Prop} {a : Nat} {q1 q2 q3 q4 q5 q6 q7 q8 q9 q10 q11 : Nat} {n z : Nat} (hX : COk P M D cs A 2 cX7_init RX7) (kend : ∀ lv, CJ P M D A 2 Q 116 lv [] ((a, .inr (7, [.ref q1, .ref q2, .ref q3, .int 0, .ref q4, .int 0, .int 0, .int 0, .ref q5, .int 0, .ref q6, .ref q7, .ref q8, .int 0, .ref q9, .int 0, .int 0, .int 0, .int 0, .int 0, .ref q10, .ref q11])) :: (q1, .inl (cs.1, 8, .inl (zr))) :: (q2, .inl (cs.1, 8, .inl (neg8 8))) :: (q3, .inl (cs.1, 320, .inl (zr))) :: (q4, .inl (cs.1, 140, .inl (zr))) :: (q5, .inl (cs.1, 85, .inl (zr))) :: (q6, .inl (cs.1, 2040, .inl (zr))) :: (q7, .inl (cs.1, 170, .inl (zr))) :: (q8, .inl (cs.2.2, 2, .inl (zr))) :: (q9, .inl (cs.1, 16, .inl (zr))) :: (q10, .inl (cs.1, 85, .inl (zr))) :: (q11, .inl (cs.1, 85, .inl (zr))) :: []) n z) : ∀ k i, i + k = 8 → CJ P M D A 2 Q 97 [(1, .int (nI i)), (0, .ref a)] [] ((a, .inr (7, [.ref q1, .ref q2, .ref q3, .int 0, .ref q4, .int 0, .int 0, .int 0, .ref q5, .int 0, .ref q6, .ref q7, .ref q8, .int 0, .ref q9, .int 0, .int 0, .int 0, .int 0, .int 0, .ref q10, .ref q11])) :: (q1, .inl (cs.1, 8, .inl (zr))) :: (q2, .inl (cs.1, 8, .inl (neg8 i))) :: (q3, .inl (cs.1, 320, .inl (zr))) :: (q4, .inl (cs.1, 140, .inl (zr))) :: (q5, .inl (cs.1, 85, .inl (zr))) :: (q6, .inl (cs.1, 2040, .inl (zr))) :: (q7, .inl (cs.1, 170, .inl (zr))) :: (q8, .inl (cs.2.2, 2, .inl (zr))) :: (q9, .inl (cs.1, 16, .inl (zr))) :: (q10, .inl (cs.1, 85, .inl (zr))) :: (q11, .inl (cs.1, 85, .inl (zr))) :: []) n z := by
  intro k
  induction k with
  | zero =>
    intro i hi
    obtain rfl : i = 8 := by omega
    refine j_iload_n 0 1 hX dX7_init_97 rfl rfl ?_
    refine j_bipush 8 hX dX7_init_98 (by decide) ?_
    exact j_icmp_ge 116 hX dX7_init_100 rfl (fun _ => kend _) (fun h => absurd (by decide) h)
  | succ k ih =>
    intro i hi
    refine j_iload_n 0 1 hX dX7_init_97 rfl rfl ?_
    refine j_bipush 8 hX dX7_init_98 (by decide) ?_
    refine j_icmp_ge 116 hX dX7_init_100 rfl (fun h => absurd h (by rw [show (8 : Int32) = nI 8 from rfl, le_n (by omega) (by omega)]; omega)) (fun _ => ?_)
    refine j_aload_n 1 0 hX dX7_init_103 rfl rfl ?_
    refine j_get (C := RX7) (T := TX7) (N := 22) (ci := 7) 0 1 hX dX7_init_104 mw_837 rfl inlX7 rfl (lt_b rfl) rfl rfl ?_
    refine j_iload_n 0 1 hX dX7_init_107 rfl rfl ?_
    refine j_iconst (-1) hX dX7_init_108 (by decide) ?_
    refine j_iast 2 hX dX7_init_109 rfl (inB_nI (by omega) (by omega)) ?_
    rw [neg8_s (by omega)]
    refine j_iinc 0 (nI (i + 1)) [(1, .int (nI (i + 1))), (0, .ref a)] hX dX7_init_110 rfl (by show nI i + nI 1 = _; rw [nI_add]) (lt_b rfl) rfl ?_
    refine j_goto 97 hX dX7_init_113 rfl ?_
    exact ih (i + 1) (by omega)
theorem c_X7_init {l : Launch} {D : va_G} {cs : ClassId × ClassId × ClassId} : CtC l D cs 1 11 2959 yX7_init cX7_init 2 7 [.null, .null, .null, .int 0, .null, .int 0, .int 0, .int 0, .null, .int 0, .null, .null, .null, .int 0, .null, .int 0, .int 0, .int 0, .int 0, .int 0, .null, .null] (fun _ => True) (fun u => wPic (mW D cs u) σ00) := by
  refine ct_C RX7 (by decide) rfl rfl (Nat.le_of_ble_eq_true rfl) (fun P M A a hl hR hX hE hEx hEo => ?_)
  refine j_aload_n 0 0 hX dX7_init_0 rfl rfl ?_
  refine j_objInit hX dX7_init_1 cw_835 cw_75 cw_76 (by rw [hR]; exact ⟨Nat.le_of_ble_eq_true rfl, Nat.le_of_ble_eq_true rfl⟩) ?_
  refine j_aload_n 0 0 hX dX7_init_4 rfl rfl ?_
  refine j_bipush 8 hX dX7_init_5 (by decide) ?_
  refine j_newi hX dX7_init_7 cw_98 (by decide) rfl (Nat.le_of_ble_eq_true rfl) (by rw [hR]; exact Nat.le_of_ble_eq_true rfl) (by rw [hR]; exact Nat.le_of_ble_eq_true rfl) (fun q1 => ?_)
  refine j_putF (C := RX7) (T := TX7) (N := 22) (ci := 7) (ty := .array .int) tyX7 0 hX dX7_init_9 hE.2.2 mw_836 rfl inlX7 tyX7_ok nmX7 rfl (lt_b rfl) rfl rfl (tyX7_ok 0 (lt_b rfl)) rfl rfl (lt_b rfl) ?_
  refine j_aload_n 0 0 hX dX7_init_12 rfl rfl ?_
  refine j_bipush 8 hX dX7_init_13 (by decide) ?_
  refine j_newi hX dX7_init_15 cw_98 (by decide) rfl (Nat.le_of_ble_eq_true rfl) (by rw [hR]; exact Nat.le_of_ble_eq_true rfl) (by rw [hR]; exact Nat.le_of_ble_eq_true rfl) (fun q2 => ?_)
  refine j_putF (C := RX7) (T := TX7) (N := 22) (ci := 7) (ty := .array .int) tyX7 1 hX dX7_init_17 hE.2.2 mw_837 rfl inlX7 tyX7_ok nmX7 rfl (lt_b rfl) rfl rfl (tyX7_ok 1 (lt_b rfl)) rfl rfl (lt_b rfl) ?_
  refine j_aload_n 0 0 hX dX7_init_20 rfl rfl ?_
  refine j_sipush 320 hX dX7_init_21 (by decide) ?_
  refine j_newi hX dX7_init_24 cw_98 (by decide) rfl (Nat.le_of_ble_eq_true rfl) (by rw [hR]; exact Nat.le_of_ble_eq_true rfl) (by rw [hR]; exact Nat.le_of_ble_eq_true rfl) (fun q3 => ?_)
  refine j_putF (C := RX7) (T := TX7) (N := 22) (ci := 7) (ty := .array .int) tyX7 2 hX dX7_init_26 hE.2.2 mw_838 rfl inlX7 tyX7_ok nmX7 rfl (lt_b rfl) rfl rfl (tyX7_ok 2 (lt_b rfl)) rfl rfl (lt_b rfl) ?_
  refine j_aload_n 0 0 hX dX7_init_29 rfl rfl ?_
  refine j_sipush 140 hX dX7_init_30 (by decide) ?_
  refine j_newi hX dX7_init_33 cw_98 (by decide) rfl (Nat.le_of_ble_eq_true rfl) (by rw [hR]; exact Nat.le_of_ble_eq_true rfl) (by rw [hR]; exact Nat.le_of_ble_eq_true rfl) (fun q4 => ?_)
  refine j_putF (C := RX7) (T := TX7) (N := 22) (ci := 7) (ty := .array .int) tyX7 4 hX dX7_init_35 hE.2.2 mw_840 rfl inlX7 tyX7_ok nmX7 rfl (lt_b rfl) rfl rfl (tyX7_ok 4 (lt_b rfl)) rfl rfl (lt_b rfl) ?_
  refine j_aload_n 0 0 hX dX7_init_38 rfl rfl ?_
  refine j_bipush 85 hX dX7_init_39 (by decide) ?_
  refine j_newi hX dX7_init_41 cw_98 (by decide) rfl (Nat.le_of_ble_eq_true rfl) (by rw [hR]; exact Nat.le_of_ble_eq_true rfl) (by rw [hR]; exact Nat.le_of_ble_eq_true rfl) (fun q5 => ?_)
  refine j_putF (C := RX7) (T := TX7) (N := 22) (ci := 7) (ty := .array .int) tyX7 8 hX dX7_init_43 hE.2.2 mw_844 rfl inlX7 tyX7_ok nmX7 rfl (lt_b rfl) rfl rfl (tyX7_ok 8 (lt_b rfl)) rfl rfl (lt_b rfl) ?_
  refine j_aload_n 0 0 hX dX7_init_46 rfl rfl ?_
  refine j_sipush 2040 hX dX7_init_47 (by decide) ?_
  refine j_newi hX dX7_init_50 cw_98 (by decide) rfl (Nat.le_of_ble_eq_true rfl) (by rw [hR]; exact Nat.le_of_ble_eq_true rfl) (by rw [hR]; exact Nat.le_of_ble_eq_true rfl) (fun q6 => ?_)
  refine j_putF (C := RX7) (T := TX7) (N := 22) (ci := 7) (ty := .array .int) tyX7 10 hX dX7_init_52 hE.2.2 mw_846 rfl inlX7 tyX7_ok nmX7 rfl (lt_b rfl) rfl rfl (tyX7_ok 10 (lt_b rfl)) rfl rfl (lt_b rfl) ?_
  refine j_aload_n 0 0 hX dX7_init_55 rfl rfl ?_
  refine j_sipush 170 hX dX7_init_56 (by decide) ?_
  refine j_newi hX dX7_init_59 cw_98 (by decide) rfl (Nat.le_of_ble_eq_true rfl) (by rw [hR]; exact Nat.le_of_ble_eq_true rfl) (by rw [hR]; exact Nat.le_of_ble_eq_true rfl) (fun q7 => ?_)
  refine j_putF (C := RX7) (T := TX7) (N := 22) (ci := 7) (ty := .array .int) tyX7 11 hX dX7_init_61 hE.2.2 mw_847 rfl inlX7 tyX7_ok nmX7 rfl (lt_b rfl) rfl rfl (tyX7_ok 11 (lt_b rfl)) rfl rfl (lt_b rfl) ?_
  refine j_aload_n 0 0 hX dX7_init_64 rfl rfl ?_
  refine j_iconst 2 hX dX7_init_65 (by decide) ?_
  refine j_newz hX dX7_init_66 cw_903 (by decide) rfl (Nat.le_of_ble_eq_true rfl) (by rw [hR]; exact Nat.le_of_ble_eq_true rfl) (by rw [hR]; exact Nat.le_of_ble_eq_true rfl) (fun q8 => ?_)
  refine j_putF (C := RX7) (T := TX7) (N := 22) (ci := 7) (ty := .array .boolean) tyX7 12 hX dX7_init_68 hE.2.2 mw_848 rfl inlX7 tyX7_ok nmX7 rfl (lt_b rfl) rfl rfl (tyX7_ok 12 (lt_b rfl)) rfl rfl (lt_b rfl) ?_
  refine j_aload_n 0 0 hX dX7_init_71 rfl rfl ?_
  refine j_bipush 16 hX dX7_init_72 (by decide) ?_
  refine j_newi hX dX7_init_74 cw_98 (by decide) rfl (Nat.le_of_ble_eq_true rfl) (by rw [hR]; exact Nat.le_of_ble_eq_true rfl) (by rw [hR]; exact Nat.le_of_ble_eq_true rfl) (fun q9 => ?_)
  refine j_putF (C := RX7) (T := TX7) (N := 22) (ci := 7) (ty := .array .int) tyX7 14 hX dX7_init_76 hE.2.2 mw_850 rfl inlX7 tyX7_ok nmX7 rfl (lt_b rfl) rfl rfl (tyX7_ok 14 (lt_b rfl)) rfl rfl (lt_b rfl) ?_
  refine j_aload_n 0 0 hX dX7_init_79 rfl rfl ?_
  refine j_bipush 85 hX dX7_init_80 (by decide) ?_
  refine j_newi hX dX7_init_82 cw_98 (by decide) rfl (Nat.le_of_ble_eq_true rfl) (by rw [hR]; exact Nat.le_of_ble_eq_true rfl) (by rw [hR]; exact Nat.le_of_ble_eq_true rfl) (fun q10 => ?_)
  refine j_putF (C := RX7) (T := TX7) (N := 22) (ci := 7) (ty := .array .int) tyX7 20 hX dX7_init_84 hE.2.2 mw_856 rfl inlX7 tyX7_ok nmX7 rfl (lt_b rfl) rfl rfl (tyX7_ok 20 (lt_b rfl)) rfl rfl (lt_b rfl) ?_
  refine j_aload_n 0 0 hX dX7_init_87 rfl rfl ?_
  refine j_bipush 85 hX dX7_init_88 (by decide) ?_
  refine j_newi hX dX7_init_90 cw_98 (by decide) rfl (Nat.le_of_ble_eq_true rfl) (by rw [hR]; exact Nat.le_of_ble_eq_true rfl) (by rw [hR]; exact Nat.le_of_ble_eq_true rfl) (fun q11 => ?_)
  refine j_putF (C := RX7) (T := TX7) (N := 22) (ci := 7) (ty := .array .int) tyX7 21 hX dX7_init_92 hE.2.2 mw_857 rfl inlX7 tyX7_ok nmX7 rfl (lt_b rfl) rfl rfl (tyX7_ok 21 (lt_b rfl)) rfl rfl (lt_b rfl) ?_
  refine j_iconst 0 hX dX7_init_95 (by decide) ?_
  refine j_istore_n 1 [(1, .int 0), (0, .ref a)] hX dX7_init_96 rfl (lt_b rfl) rfl ?_
  have lp := lpSizes (q1 := q1) (q2 := q2) (q3 := q3) (q4 := q4) (q5 := q5) (q6 := q6) (q7 := q7) (q8 := q8) (q9 := q9) (q10 := q10) (q11 := q11) (a := a) (Q := QC P M D A (fun u => wPic (mW D cs u) σ00) a 11 2959) (n := 11) (z := 2959) hX (fun lv => j_vret (fun k => match k with | 0 => a | 1 => q1 | 2 => q2 | 3 => q3 | 4 => q4 | 5 => q5 | 6 => q6 | 7 => q7 | 8 => q8 | 9 => q9 | 10 => q10 | _ => q11) hX hE dX7_init_116 rfl rfl) 8 0 rfl
  rw [neg8_0] at lp
  exact lp
def exIk (U : State) : Prop := AO2 U ∧ exRd U ∧ va_Nw (.methodLinkNest RX6 18 yX1_init "InkTaken") U ∧ va_Nw (.methodLinkNest RX6 31 yX4_init "InkTaken") U ∧ va_Nw (.methodLinkNest RX6 38 yX0_init "InkTaken") U ∧ va_Nw (.methodLinkNest RX6 45 yX3_init "InkTaken") U ∧ va_Nw (.methodLinkNest RX6 52 yX2_init "InkTaken") U
theorem exIk_ok : ExOk exIk := ⟨fun U g mk a h => ⟨ao2_ok.1 U g mk a h.1, exRd_ok.1 U g mk a h.2.1, va_Nw.same rfl rfl h.2.2.1, va_Nw.same rfl rfl h.2.2.2.1, va_Nw.same rfl rfl h.2.2.2.2.1, va_Nw.same rfl rfl h.2.2.2.2.2.1, va_Nw.same rfl rfl h.2.2.2.2.2.2⟩, fun s U h hW => ⟨ao2_ok.2 s U h.1 hW, exRd_ok.2 s U h.2.1 hW, va_Nw.warmM hW h.2.2.1, va_Nw.warmM hW h.2.2.2.1, va_Nw.warmM hW h.2.2.2.2.1, va_Nw.warmM hW h.2.2.2.2.2.1, va_Nw.warmM hW h.2.2.2.2.2.2⟩⟩
theorem ink_eq {D : va_G} {cs : ClassId × ClassId × ClassId} {a : Nat} {u1 u2 u3 u4 u5 u6 u7 u8 : Nat → Nat} : wPic (xW D cs (fun k => if k = 0 then a else if k < 13 then u1 (k - 1) else if k < 24 then u2 (k - 13) else if k < 35 then u3 (k - 24) else if k < 46 then u4 (k - 35) else if k < 59 then u5 (k - 46) else if k < 62 then u6 (k - 59) else if k < 66 then u7 (k - 62) else u8 (k - 66)) (0, 0, 0)) σ00 = (a, .inr (6, [.ref (u1 0), .ref (u2 0), .ref (u3 0), .ref (u4 0), .ref (u5 0), .ref (u6 0), .ref (u7 0), .ref (u8 0), .int 0, .int 0])) :: (((((((([] ++ WX5 cs u1) ++ WX1 cs u2) ++ WX1 cs u3) ++ WX1 cs u4) ++ WX4 cs u5) ++ WX0 cs u6) ++ WX3 cs u7) ++ WX2 cs u8) := by
  have hO : (fun i => if i < 8 then some ((fun k => if k = 0 then a else if k < 13 then u1 (k - 1) else if k < 24 then u2 (k - 13) else if k < 35 then u3 (k - 24) else if k < 46 then u4 (k - 35) else if k < 59 then u5 (k - 46) else if k < 62 then u6 (k - 59) else if k < 66 then u7 (k - 62) else u8 (k - 66)) (5 + i)) else none) = (fun i => if i < 8 then some (u1 (4 + i)) else none) := funext fun i => by
    by_cases h : i < 8
    · rw [if_pos h, if_pos h]
      show some (if 5 + i = 0 then a else if 5 + i < 13 then u1 (5 + i - 1) else _) = _
      rw [if_neg (by omega), if_pos (by omega), show 5 + i - 1 = 4 + i by omega]
    · rw [if_neg h, if_neg h]
  have e1 : wPic (xW D cs (fun k => if k = 0 then a else if k < 13 then u1 (k - 1) else if k < 24 then u2 (k - 13) else if k < 35 then u3 (k - 24) else if k < 46 then u4 (k - 35) else if k < 59 then u5 (k - 46) else if k < 62 then u6 (k - 59) else if k < 66 then u7 (k - 62) else u8 (k - 66)) (0, 0, 0)) σ00 = (a, .inr (6, [.ref (u1 0), .ref (u2 0), .ref (u3 0), .ref (u4 0), .ref (u5 0), .ref (u6 0), .ref (u7 0), .ref (u8 0), .int 0, .int 0])) :: (((((((([] ++ WXg cs u1 (fun i => if i < 8 then some ((fun k => if k = 0 then a else if k < 13 then u1 (k - 1) else if k < 24 then u2 (k - 13) else if k < 35 then u3 (k - 24) else if k < 46 then u4 (k - 35) else if k < 59 then u5 (k - 46) else if k < 62 then u6 (k - 59) else if k < 66 then u7 (k - 62) else u8 (k - 66)) (5 + i)) else none)) ++ WX1 cs u2) ++ WX1 cs u3) ++ WX1 cs u4) ++ WX4 cs u5) ++ WX0 cs u6) ++ WX3 cs u7) ++ WX2 cs u8) := rfl
  rw [e1, hO]
  rfl
theorem c_X6_init {l : Launch} {D : va_G} {cs : ClassId × ClassId × ClassId} : CtC l D cs 3 67 1110 yX6_init cX6_init 1 6 [.null, .null, .null, .null, .null, .null, .null, .null, .int 0, .int 0] exIk (fun u => wPic (xW D cs u (0, 0, 0)) σ00) := by
  refine ct_C RX6 (by decide) rfl rfl (Nat.le_of_ble_eq_true rfl) (fun P M A a hl hR hX hE hEx hEo => ?_)
  refine j_aload_n 0 0 hX dX6_init_0 rfl rfl ?_
  refine j_objInit hX dX6_init_1 cw_74 cw_75 cw_76 (by rw [hR]; exact ⟨Nat.le_of_ble_eq_true rfl, Nat.le_of_ble_eq_true rfl⟩) ?_
  refine j_aload_n 0 0 hX dX6_init_4 rfl rfl ?_
  refine j_new (C := RX5) (T := TX5) (N := 3) (ci := 5) (fs := [.null, .null, .null]) tyX5 hX dX6_init_5 cw_77 cw_78 mw_58 inlX5 tyX5_ok rfl dfX5 (by rw [hR]; exact Nat.le_of_ble_eq_true rfl) (by rw [hR]; exact Nat.le_of_ble_eq_true rfl) (fun n1 => ?_)
  refine j_dup hX dX6_init_8 rfl ?_
  refine j_callI (X := _) hX dX6_init_9 (c_X5_init (l := P.2.1)) cw_79 mw_58 cw_80 cw_81 rfl (by decide) (by rw [hR]; exact ⟨Nat.le_of_ble_eq_true rfl, Nat.le_of_ble_eq_true rfl⟩) (Nat.le_of_ble_eq_true rfl) (by rw [hR]; exact Nat.le_of_ble_eq_true rfl) (by rw [hR]; exact Nat.le_of_ble_eq_true rfl) hEx.1 ao2_ok (fun u1 hu1 => ?_)
  subst hu1
  refine j_putF (C := RX6) (T := TX6) (N := 10) (ci := 6) (ty := .object "InkTaken$Rows") tyX6 0 hX dX6_init_12 hE.2.2 mw_282 rfl inlX6 tyX6_ok nmX6 rfl (lt_b rfl) rfl rfl (tyX6_ok 0 (lt_b rfl)) rfl rfl (lt_b rfl) ?_
  refine j_aload_n 0 0 hX dX6_init_15 rfl rfl ?_
  refine j_new (C := RX1) (T := TX1) (N := 19) (ci := 1) (fs := [.int 0, .int 0, .int 0, .int 0, .int 0, .int 0, .int 0, .int 0, .int 0, .null, .null, .null, .null, .null, .null, .null, .null, .null, .null]) tyX1 hX dX6_init_16 cw_99 cw_100 mw_59 inlX1 tyX1_ok rfl dfX1 (by rw [hR]; exact Nat.le_of_ble_eq_true rfl) (by rw [hR]; exact Nat.le_of_ble_eq_true rfl) (fun n2 => ?_)
  refine j_dup hX dX6_init_19 rfl ?_
  refine j_callN (X := _) hX dX6_init_20 (c_X1_init (l := P.2.1)) hEx.2.2.1 mw_59 cw_102 cw_103 rfl (by decide) (by rw [hR]; exact ⟨Nat.le_of_ble_eq_true rfl, Nat.le_of_ble_eq_true rfl⟩) (Nat.le_of_ble_eq_true rfl) (by rw [hR]; exact Nat.le_of_ble_eq_true rfl) (by rw [hR]; exact Nat.le_of_ble_eq_true rfl) trivial tru_ok (fun u2 hu2 => ?_)
  subst hu2
  refine j_putF (C := RX6) (T := TX6) (N := 10) (ci := 6) (ty := .object "InkTaken$Archive") tyX6 1 hX dX6_init_23 hE.2.2 mw_283 rfl inlX6 tyX6_ok nmX6 rfl (lt_b rfl) rfl rfl (tyX6_ok 1 (lt_b rfl)) rfl rfl (lt_b rfl) ?_
  refine j_aload_n 0 0 hX dX6_init_26 rfl rfl ?_
  refine j_new (C := RX1) (T := TX1) (N := 19) (ci := 1) (fs := [.int 0, .int 0, .int 0, .int 0, .int 0, .int 0, .int 0, .int 0, .int 0, .null, .null, .null, .null, .null, .null, .null, .null, .null, .null]) tyX1 hX dX6_init_27 cw_99 cw_100 mw_59 inlX1 tyX1_ok rfl dfX1 (by rw [hR]; exact Nat.le_of_ble_eq_true rfl) (by rw [hR]; exact Nat.le_of_ble_eq_true rfl) (fun n3 => ?_)
  refine j_dup hX dX6_init_30 rfl ?_
  refine j_callN (X := _) hX dX6_init_31 (c_X1_init (l := P.2.1)) hEx.2.2.1 mw_59 cw_102 cw_103 rfl (by decide) (by rw [hR]; exact ⟨Nat.le_of_ble_eq_true rfl, Nat.le_of_ble_eq_true rfl⟩) (Nat.le_of_ble_eq_true rfl) (by rw [hR]; exact Nat.le_of_ble_eq_true rfl) (by rw [hR]; exact Nat.le_of_ble_eq_true rfl) trivial tru_ok (fun u3 hu3 => ?_)
  subst hu3
  refine j_putF (C := RX6) (T := TX6) (N := 10) (ci := 6) (ty := .object "InkTaken$Archive") tyX6 2 hX dX6_init_34 hE.2.2 mw_284 rfl inlX6 tyX6_ok nmX6 rfl (lt_b rfl) rfl rfl (tyX6_ok 2 (lt_b rfl)) rfl rfl (lt_b rfl) ?_
  refine j_aload_n 0 0 hX dX6_init_37 rfl rfl ?_
  refine j_new (C := RX1) (T := TX1) (N := 19) (ci := 1) (fs := [.int 0, .int 0, .int 0, .int 0, .int 0, .int 0, .int 0, .int 0, .int 0, .null, .null, .null, .null, .null, .null, .null, .null, .null, .null]) tyX1 hX dX6_init_38 cw_99 cw_100 mw_59 inlX1 tyX1_ok rfl dfX1 (by rw [hR]; exact Nat.le_of_ble_eq_true rfl) (by rw [hR]; exact Nat.le_of_ble_eq_true rfl) (fun n4 => ?_)
  refine j_dup hX dX6_init_41 rfl ?_
  refine j_callN (X := _) hX dX6_init_42 (c_X1_init (l := P.2.1)) hEx.2.2.1 mw_59 cw_102 cw_103 rfl (by decide) (by rw [hR]; exact ⟨Nat.le_of_ble_eq_true rfl, Nat.le_of_ble_eq_true rfl⟩) (Nat.le_of_ble_eq_true rfl) (by rw [hR]; exact Nat.le_of_ble_eq_true rfl) (by rw [hR]; exact Nat.le_of_ble_eq_true rfl) trivial tru_ok (fun u4 hu4 => ?_)
  subst hu4
  refine j_putF (C := RX6) (T := TX6) (N := 10) (ci := 6) (ty := .object "InkTaken$Archive") tyX6 3 hX dX6_init_45 hE.2.2 mw_285 rfl inlX6 tyX6_ok nmX6 rfl (lt_b rfl) rfl rfl (tyX6_ok 3 (lt_b rfl)) rfl rfl (lt_b rfl) ?_
  refine j_aload_n 0 0 hX dX6_init_48 rfl rfl ?_
  refine j_new (C := RX4) (T := TX4) (N := 5) (ci := 4) (fs := [.null, .null, .int 0, .int 0, .int 0]) tyX4 hX dX6_init_49 cw_206 cw_207 mw_60 inlX4 tyX4_ok rfl dfX4 (by rw [hR]; exact Nat.le_of_ble_eq_true rfl) (by rw [hR]; exact Nat.le_of_ble_eq_true rfl) (fun n5 => ?_)
  refine j_dup hX dX6_init_52 rfl ?_
  refine j_callN (X := _) hX dX6_init_53 (c_X4_init (l := P.2.1)) hEx.2.2.2.1 mw_60 cw_209 cw_210 rfl (by decide) (by rw [hR]; exact ⟨Nat.le_of_ble_eq_true rfl, Nat.le_of_ble_eq_true rfl⟩) (Nat.le_of_ble_eq_true rfl) (by rw [hR]; exact Nat.le_of_ble_eq_true rfl) (by rw [hR]; exact Nat.le_of_ble_eq_true rfl) hEx.2.1 exRd_ok (fun u5 hu5 => ?_)
  subst hu5
  refine j_putF (C := RX6) (T := TX6) (N := 10) (ci := 6) (ty := .object "InkTaken$Reader") tyX6 4 hX dX6_init_56 hE.2.2 mw_286 rfl inlX6 tyX6_ok nmX6 rfl (lt_b rfl) rfl rfl (tyX6_ok 4 (lt_b rfl)) rfl rfl (lt_b rfl) ?_
  refine j_aload_n 0 0 hX dX6_init_59 rfl rfl ?_
  refine j_new (C := RX0) (T := TX0) (N := 3) (ci := 0) (fs := [.null, .null, .int 0]) tyX0 hX dX6_init_60 cw_234 cw_235 mw_61 inlX0 tyX0_ok rfl dfX0 (by rw [hR]; exact Nat.le_of_ble_eq_true rfl) (by rw [hR]; exact Nat.le_of_ble_eq_true rfl) (fun n6 => ?_)
  refine j_dup hX dX6_init_63 rfl ?_
  refine j_callN (X := _) hX dX6_init_64 (c_X0_init (l := P.2.1)) hEx.2.2.2.2.1 mw_61 cw_237 cw_238 rfl (by decide) (by rw [hR]; exact ⟨Nat.le_of_ble_eq_true rfl, Nat.le_of_ble_eq_true rfl⟩) (Nat.le_of_ble_eq_true rfl) (by rw [hR]; exact Nat.le_of_ble_eq_true rfl) (by rw [hR]; exact Nat.le_of_ble_eq_true rfl) trivial tru_ok (fun u6 hu6 => ?_)
  subst hu6
  refine j_putF (C := RX6) (T := TX6) (N := 10) (ci := 6) (ty := .object "InkTaken$Acts") tyX6 5 hX dX6_init_67 hE.2.2 mw_287 rfl inlX6 tyX6_ok nmX6 rfl (lt_b rfl) rfl rfl (tyX6_ok 5 (lt_b rfl)) rfl rfl (lt_b rfl) ?_
  refine j_aload_n 0 0 hX dX6_init_70 rfl rfl ?_
  refine j_new (C := RX3) (T := TX3) (N := 3) (ci := 3) (fs := [.null, .null, .null]) tyX3 hX dX6_init_71 cw_251 cw_252 mw_62 inlX3 tyX3_ok rfl dfX3 (by rw [hR]; exact Nat.le_of_ble_eq_true rfl) (by rw [hR]; exact Nat.le_of_ble_eq_true rfl) (fun n7 => ?_)
  refine j_dup hX dX6_init_74 rfl ?_
  refine j_callN (X := _) hX dX6_init_75 (c_X3_init (l := P.2.1)) hEx.2.2.2.2.2.1 mw_62 cw_254 cw_255 rfl (by decide) (by rw [hR]; exact ⟨Nat.le_of_ble_eq_true rfl, Nat.le_of_ble_eq_true rfl⟩) (Nat.le_of_ble_eq_true rfl) (by rw [hR]; exact Nat.le_of_ble_eq_true rfl) (by rw [hR]; exact Nat.le_of_ble_eq_true rfl) trivial tru_ok (fun u7 hu7 => ?_)
  subst hu7
  refine j_putF (C := RX6) (T := TX6) (N := 10) (ci := 6) (ty := .object "InkTaken$Foretold") tyX6 6 hX dX6_init_78 hE.2.2 mw_288 rfl inlX6 tyX6_ok nmX6 rfl (lt_b rfl) rfl rfl (tyX6_ok 6 (lt_b rfl)) rfl rfl (lt_b rfl) ?_
  refine j_aload_n 0 0 hX dX6_init_81 rfl rfl ?_
  refine j_new (C := RX2) (T := TX2) (N := 2) (ci := 2) (fs := [.null, .int 0]) tyX2 hX dX6_init_82 cw_267 cw_268 mw_63 inlX2 tyX2_ok rfl dfX2 (by rw [hR]; exact Nat.le_of_ble_eq_true rfl) (by rw [hR]; exact Nat.le_of_ble_eq_true rfl) (fun n8 => ?_)
  refine j_dup hX dX6_init_85 rfl ?_
  refine j_callN (X := _) hX dX6_init_86 (c_X2_init (l := P.2.1)) hEx.2.2.2.2.2.2 mw_63 cw_270 cw_271 rfl (by decide) (by rw [hR]; exact ⟨Nat.le_of_ble_eq_true rfl, Nat.le_of_ble_eq_true rfl⟩) (Nat.le_of_ble_eq_true rfl) (by rw [hR]; exact Nat.le_of_ble_eq_true rfl) (by rw [hR]; exact Nat.le_of_ble_eq_true rfl) trivial tru_ok (fun u8 hu8 => ?_)
  subst hu8
  refine j_putF (C := RX6) (T := TX6) (N := 10) (ci := 6) (ty := .object "InkTaken$Asks") tyX6 7 hX dX6_init_89 hE.2.2 mw_289 rfl inlX6 tyX6_ok nmX6 rfl (lt_b rfl) rfl rfl (tyX6_ok 7 (lt_b rfl)) rfl rfl (lt_b rfl) ?_
  exact j_vret (fun k => if k = 0 then a else if k < 13 then u1 (k - 1) else if k < 24 then u2 (k - 13) else if k < 35 then u3 (k - 24) else if k < 46 then u4 (k - 35) else if k < 59 then u5 (k - 46) else if k < 62 then u6 (k - 59) else if k < 66 then u7 (k - 62) else u8 (k - 66)) hX hE dX6_init_92 rfl ink_eq
