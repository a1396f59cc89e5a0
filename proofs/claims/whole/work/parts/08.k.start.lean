/-! what holds at the law's start -/
theorem tb_235 : Cond.instantiable RX0 3 ∈ lw_tbl := List.mem_of_getElem? (i := 235) (by decide +kernel)
theorem tb_100 : Cond.instantiable RX1 19 ∈ lw_tbl := List.mem_of_getElem? (i := 100) (by decide +kernel)
theorem tb_268 : Cond.instantiable RX2 2 ∈ lw_tbl := List.mem_of_getElem? (i := 268) (by decide +kernel)
theorem tb_252 : Cond.instantiable RX3 3 ∈ lw_tbl := List.mem_of_getElem? (i := 252) (by decide +kernel)
theorem tb_207 : Cond.instantiable RX4 5 ∈ lw_tbl := List.mem_of_getElem? (i := 207) (by decide +kernel)
theorem tb_78 : Cond.instantiable RX5 3 ∈ lw_tbl := List.mem_of_getElem? (i := 78) (by decide +kernel)
theorem tb_70 : Cond.instantiable RX6 10 ∈ lw_tbl := List.mem_of_getElem? (i := 70) (by decide +kernel)
theorem tb_831 : Cond.instantiable RX7 22 ∈ lw_tbl := List.mem_of_getElem? (i := 831) (by decide +kernel)
theorem tb_98 : Cond.arrayClass .int ∈ lw_tbl := List.mem_of_getElem? (i := 98) (by decide +kernel)
theorem tb_903 : Cond.arrayClass .boolean ∈ lw_tbl := List.mem_of_getElem? (i := 903) (by decide +kernel)
theorem tb_84 : Cond.arrayOver (.array .int) ∈ lw_tbl := List.mem_of_getElem? (i := 84) (by decide +kernel)
theorem tb_508 : Cond.methodLinkNest RX1 81 yX6_bitOf "InkTaken" ∈ lw_tbl := List.mem_of_getElem? (i := 508) (by decide +kernel)
theorem tb_605 : Cond.methodLinkNest RX3 45 yX6_bitOf "InkTaken" ∈ lw_tbl := List.mem_of_getElem? (i := 605) (by decide +kernel)
theorem tb_213 : Cond.methodLinkNest RX4 17 yX1_init "InkTaken" ∈ lw_tbl := List.mem_of_getElem? (i := 213) (by decide +kernel)
theorem tb_101 : Cond.methodLinkNest RX6 18 yX1_init "InkTaken" ∈ lw_tbl := List.mem_of_getElem? (i := 101) (by decide +kernel)
theorem tb_208 : Cond.methodLinkNest RX6 31 yX4_init "InkTaken" ∈ lw_tbl := List.mem_of_getElem? (i := 208) (by decide +kernel)
theorem tb_236 : Cond.methodLinkNest RX6 38 yX0_init "InkTaken" ∈ lw_tbl := List.mem_of_getElem? (i := 236) (by decide +kernel)
theorem tb_253 : Cond.methodLinkNest RX6 45 yX3_init "InkTaken" ∈ lw_tbl := List.mem_of_getElem? (i := 253) (by decide +kernel)
theorem tb_269 : Cond.methodLinkNest RX6 52 yX2_init "InkTaken" ∈ lw_tbl := List.mem_of_getElem? (i := 269) (by decide +kernel)
theorem tb_778 : Cond.laysStatic "InkTaken$Asks" "ABOVE" "[I" ∈ lw_tbl := List.mem_of_getElem? (i := 778) (by decide +kernel)
theorem tb_792 : Cond.laysStatic "InkTaken$Asks" "SIZE_BODIES" "[I" ∈ lw_tbl := List.mem_of_getElem? (i := 792) (by decide +kernel)
theorem tb_794 : Cond.laysStatic "InkTaken$Asks" "MARK_BODIES" "[I" ∈ lw_tbl := List.mem_of_getElem? (i := 794) (by decide +kernel)
theorem tb_63 : Cond.initialized RX2 ∈ lw_tbl := List.mem_of_getElem? (i := 63) (by decide +kernel)
theorem law_known {args : Array Value} {s : State} (hts : ∀ w ∈ lw_tbl, w.before args s = true) : ∃ (D : va_G) (cs : ClassId × ClassId × ClassId), va_K D vwCl (wTc cs) s := by
  obtain ⟨c0, i0, k0⟩ := u_known hts (fun w h => wAll_in (inlX0 w h)) (hts _ tb_235)
  obtain ⟨c1, i1, k1⟩ := u_known hts (fun w h => wAll_in (inlX1 w h)) (hts _ tb_100)
  obtain ⟨c2, i2, k2⟩ := u_known hts (fun w h => wAll_in (inlX2 w h)) (hts _ tb_268)
  obtain ⟨c3, i3, k3⟩ := u_known hts (fun w h => wAll_in (inlX3 w h)) (hts _ tb_252)
  obtain ⟨c4, i4, k4⟩ := u_known hts (fun w h => wAll_in (inlX4 w h)) (hts _ tb_207)
  obtain ⟨c5, i5, k5⟩ := u_known hts (fun w h => wAll_in (inlX5 w h)) (hts _ tb_78)
  obtain ⟨c6, i6, k6⟩ := u_known hts (fun w h => wAll_in (inlX6 w h)) (hts _ tb_70)
  obtain ⟨c7, i7, k7⟩ := u_known hts (fun w h => wAll_in (inlX7 w h)) (hts _ tb_831)
  obtain ⟨a1, b1, d1, e1, f1, g1⟩ := Cond.arrayClass_spec (hts _ tb_98)
  obtain ⟨a2, b2, d2, e2, f2, g2⟩ := Cond.arrayClass_spec (hts _ tb_903)
  obtain ⟨a3, b3, d3, e3, f3, g3, h3⟩ := ao_spec (hts _ tb_84)
  refine ⟨(fun q => match q with | 0 => c0 | 1 => c1 | 2 => c2 | 3 => c3 | 4 => c4 | 5 => c5 | 6 => c6 | _ => c7, fun q => match q with | 0 => i0 | 1 => i1 | 2 => i2 | 3 => i3 | 4 => i4 | 5 => i5 | 6 => i6 | _ => i7), (a1, b3, a2), fun c q hq => ?_, fun j q hq => ?_⟩
  · have hc : c < 8 := (List.getElem?_eq_some_iff.mp hq).1
    rcases (show c = 0 ∨ c = 1 ∨ c = 2 ∨ c = 3 ∨ c = 4 ∨ c = 5 ∨ c = 6 ∨ c = 7 by omega) with rfl | rfl | rfl | rfl | rfl | rfl | rfl | rfl <;> cases hq
    · exact k0
    · exact k1
    · exact k2
    · exact k3
    · exact k4
    · exact k5
    · exact k6
    · exact k7
  · have hc : j < 3 := (List.getElem?_eq_some_iff.mp hq).1
    rcases (show j = 0 ∨ j = 1 ∨ j = 2 by omega) with rfl | rfl | rfl <;> cases hq
    · exact ⟨fun n z => ⟨fun k h => (by cases h), b1, f1, d1, g1⟩, e1⟩
    · exact ⟨fun n z => ⟨fun k h => (by cases h), d3, f3, a3, g3⟩, h3⟩
    · exact ⟨fun n z => ⟨fun k h => (by cases h), b2, f2, d2, g2⟩, e2⟩
theorem law_nests {args : Array Value} {s : State} (hts : ∀ w ∈ lw_tbl, w.before args s = true) : exIk s := ⟨AO2.of (hts _ tb_84), va_Nw.of rfl (hts _ tb_213), va_Nw.of rfl (hts _ tb_101), va_Nw.of rfl (hts _ tb_208), va_Nw.of rfl (hts _ tb_236), va_Nw.of rfl (hts _ tb_253), va_Nw.of rfl (hts _ tb_269)⟩
theorem fl_tbA_a : Cond.arrayOf (Term.static "InkTaken$Asks" "ABOVE" "[I") .int ∈ flatC (Jvm.Cond.and given_1 narrow_1) := List.mem_of_getElem? (i := 5) (by decide +kernel)
theorem fl_tbA_l : Cond.eq (Term.length (Term.static "InkTaken$Asks" "ABOVE" "[I")) (Term.int 6) ∈ flatC (Jvm.Cond.and given_1 narrow_1) := List.mem_of_getElem? (i := 6) (by decide +kernel)
theorem fl_tbA_0 : Cond.eq (Term.elem (Term.static "InkTaken$Asks" "ABOVE" "[I") (Term.int 0)) (Term.int (tbA 0)) ∈ flatC (Jvm.Cond.and given_1 narrow_1) := List.mem_of_getElem? (i := 7) (by decide +kernel)
theorem fl_tbA_1 : Cond.eq (Term.elem (Term.static "InkTaken$Asks" "ABOVE" "[I") (Term.int 1)) (Term.int (tbA 1)) ∈ flatC (Jvm.Cond.and given_1 narrow_1) := List.mem_of_getElem? (i := 8) (by decide +kernel)
theorem fl_tbA_2 : Cond.eq (Term.elem (Term.static "InkTaken$Asks" "ABOVE" "[I") (Term.int 2)) (Term.int (tbA 2)) ∈ flatC (Jvm.Cond.and given_1 narrow_1) := List.mem_of_getElem? (i := 9) (by decide +kernel)
theorem fl_tbA_3 : Cond.eq (Term.elem (Term.static "InkTaken$Asks" "ABOVE" "[I") (Term.int 3)) (Term.int (tbA 3)) ∈ flatC (Jvm.Cond.and given_1 narrow_1) := List.mem_of_getElem? (i := 10) (by decide +kernel)
theorem fl_tbA_4 : Cond.eq (Term.elem (Term.static "InkTaken$Asks" "ABOVE" "[I") (Term.int 4)) (Term.int (tbA 4)) ∈ flatC (Jvm.Cond.and given_1 narrow_1) := List.mem_of_getElem? (i := 11) (by decide +kernel)
theorem fl_tbA_5 : Cond.eq (Term.elem (Term.static "InkTaken$Asks" "ABOVE" "[I") (Term.int 5)) (Term.int (tbA 5)) ∈ flatC (Jvm.Cond.and given_1 narrow_1) := List.mem_of_getElem? (i := 12) (by decide +kernel)
theorem fl_tbS_a : Cond.arrayOf (Term.static "InkTaken$Asks" "SIZE_BODIES" "[I") .int ∈ flatC (Jvm.Cond.and given_1 narrow_1) := List.mem_of_getElem? (i := 14) (by decide +kernel)
theorem fl_tbS_l : Cond.eq (Term.length (Term.static "InkTaken$Asks" "SIZE_BODIES" "[I")) (Term.int 6) ∈ flatC (Jvm.Cond.and given_1 narrow_1) := List.mem_of_getElem? (i := 15) (by decide +kernel)
theorem fl_tbS_0 : Cond.eq (Term.elem (Term.static "InkTaken$Asks" "SIZE_BODIES" "[I") (Term.int 0)) (Term.int (tbS 0)) ∈ flatC (Jvm.Cond.and given_1 narrow_1) := List.mem_of_getElem? (i := 16) (by decide +kernel)
theorem fl_tbS_1 : Cond.eq (Term.elem (Term.static "InkTaken$Asks" "SIZE_BODIES" "[I") (Term.int 1)) (Term.int (tbS 1)) ∈ flatC (Jvm.Cond.and given_1 narrow_1) := List.mem_of_getElem? (i := 17) (by decide +kernel)
theorem fl_tbS_2 : Cond.eq (Term.elem (Term.static "InkTaken$Asks" "SIZE_BODIES" "[I") (Term.int 2)) (Term.int (tbS 2)) ∈ flatC (Jvm.Cond.and given_1 narrow_1) := List.mem_of_getElem? (i := 18) (by decide +kernel)
theorem fl_tbS_3 : Cond.eq (Term.elem (Term.static "InkTaken$Asks" "SIZE_BODIES" "[I") (Term.int 3)) (Term.int (tbS 3)) ∈ flatC (Jvm.Cond.and given_1 narrow_1) := List.mem_of_getElem? (i := 19) (by decide +kernel)
theorem fl_tbS_4 : Cond.eq (Term.elem (Term.static "InkTaken$Asks" "SIZE_BODIES" "[I") (Term.int 4)) (Term.int (tbS 4)) ∈ flatC (Jvm.Cond.and given_1 narrow_1) := List.mem_of_getElem? (i := 20) (by decide +kernel)
theorem fl_tbS_5 : Cond.eq (Term.elem (Term.static "InkTaken$Asks" "SIZE_BODIES" "[I") (Term.int 5)) (Term.int (tbS 5)) ∈ flatC (Jvm.Cond.and given_1 narrow_1) := List.mem_of_getElem? (i := 21) (by decide +kernel)
theorem fl_tbM_a : Cond.arrayOf (Term.static "InkTaken$Asks" "MARK_BODIES" "[I") .int ∈ flatC (Jvm.Cond.and given_1 narrow_1) := List.mem_of_getElem? (i := 23) (by decide +kernel)
theorem fl_tbM_l : Cond.eq (Term.length (Term.static "InkTaken$Asks" "MARK_BODIES" "[I")) (Term.int 6) ∈ flatC (Jvm.Cond.and given_1 narrow_1) := List.mem_of_getElem? (i := 24) (by decide +kernel)
theorem fl_tbM_0 : Cond.eq (Term.elem (Term.static "InkTaken$Asks" "MARK_BODIES" "[I") (Term.int 0)) (Term.int (tbM 0)) ∈ flatC (Jvm.Cond.and given_1 narrow_1) := List.mem_of_getElem? (i := 25) (by decide +kernel)
theorem fl_tbM_1 : Cond.eq (Term.elem (Term.static "InkTaken$Asks" "MARK_BODIES" "[I") (Term.int 1)) (Term.int (tbM 1)) ∈ flatC (Jvm.Cond.and given_1 narrow_1) := List.mem_of_getElem? (i := 26) (by decide +kernel)
theorem fl_tbM_2 : Cond.eq (Term.elem (Term.static "InkTaken$Asks" "MARK_BODIES" "[I") (Term.int 2)) (Term.int (tbM 2)) ∈ flatC (Jvm.Cond.and given_1 narrow_1) := List.mem_of_getElem? (i := 27) (by decide +kernel)
theorem fl_tbM_3 : Cond.eq (Term.elem (Term.static "InkTaken$Asks" "MARK_BODIES" "[I") (Term.int 3)) (Term.int (tbM 3)) ∈ flatC (Jvm.Cond.and given_1 narrow_1) := List.mem_of_getElem? (i := 28) (by decide +kernel)
theorem fl_tbM_4 : Cond.eq (Term.elem (Term.static "InkTaken$Asks" "MARK_BODIES" "[I") (Term.int 4)) (Term.int (tbM 4)) ∈ flatC (Jvm.Cond.and given_1 narrow_1) := List.mem_of_getElem? (i := 29) (by decide +kernel)
theorem fl_tbM_5 : Cond.eq (Term.elem (Term.static "InkTaken$Asks" "MARK_BODIES" "[I") (Term.int 5)) (Term.int (tbM 5)) ∈ flatC (Jvm.Cond.and given_1 narrow_1) := List.mem_of_getElem? (i := 30) (by decide +kernel)
theorem law_tabs {args : Array Value} {s : State} (hts : ∀ w ∈ lw_tbl, w.before args s = true) (hg : (Jvm.Cond.and given_1 narrow_1).before args s = true) : ∃ ts : Nat × Nat × Nat, exL s ts := by
  have hf := flat_of_before _ hg
  have hA : ∀ a : Nat, a < s.heap.size → ¬ Afr s a := fun a h => Nat.not_le.mpr h
  obtain ⟨ttbA, xtbA, ytbA⟩ := va_Tof (tm := (Term.static "InkTaken$Asks" "ABOVE" "[I")) (ty := .int) (N := 6) (f := fun j => .int (tbA j)) (A := Afr s) (by decide) (hf _ fl_tbA_a) (va_eqt (hf _ fl_tbA_l)) (fun j hj => by
    rcases (show j = 0 ∨ j = 1 ∨ j = 2 ∨ j = 3 ∨ j = 4 ∨ j = 5 by omega) with rfl | rfl | rfl | rfl | rfl | rfl
    · exact va_eqt (hf _ fl_tbA_0)
    · exact va_eqt (hf _ fl_tbA_1)
    · exact va_eqt (hf _ fl_tbA_2)
    · exact va_eqt (hf _ fl_tbA_3)
    · exact va_eqt (hf _ fl_tbA_4)
    · exact va_eqt (hf _ fl_tbA_5)) hA
  obtain ⟨ttbS, xtbS, ytbS⟩ := va_Tof (tm := (Term.static "InkTaken$Asks" "SIZE_BODIES" "[I")) (ty := .int) (N := 6) (f := fun j => .int (tbS j)) (A := Afr s) (by decide) (hf _ fl_tbS_a) (va_eqt (hf _ fl_tbS_l)) (fun j hj => by
    rcases (show j = 0 ∨ j = 1 ∨ j = 2 ∨ j = 3 ∨ j = 4 ∨ j = 5 by omega) with rfl | rfl | rfl | rfl | rfl | rfl
    · exact va_eqt (hf _ fl_tbS_0)
    · exact va_eqt (hf _ fl_tbS_1)
    · exact va_eqt (hf _ fl_tbS_2)
    · exact va_eqt (hf _ fl_tbS_3)
    · exact va_eqt (hf _ fl_tbS_4)
    · exact va_eqt (hf _ fl_tbS_5)) hA
  obtain ⟨ttbM, xtbM, ytbM⟩ := va_Tof (tm := (Term.static "InkTaken$Asks" "MARK_BODIES" "[I")) (ty := .int) (N := 6) (f := fun j => .int (tbM j)) (A := Afr s) (by decide) (hf _ fl_tbM_a) (va_eqt (hf _ fl_tbM_l)) (fun j hj => by
    rcases (show j = 0 ∨ j = 1 ∨ j = 2 ∨ j = 3 ∨ j = 4 ∨ j = 5 by omega) with rfl | rfl | rfl | rfl | rfl | rfl
    · exact va_eqt (hf _ fl_tbM_0)
    · exact va_eqt (hf _ fl_tbM_1)
    · exact va_eqt (hf _ fl_tbM_2)
    · exact va_eqt (hf _ fl_tbM_3)
    · exact va_eqt (hf _ fl_tbM_4)
    · exact va_eqt (hf _ fl_tbM_5)) hA
  refine ⟨(ttbA, ttbS, ttbM), va_Nw.of rfl (hts _ tb_508), va_Nw.of rfl (hts _ tb_605), ⟨va_Zref (hts _ tb_778) (hts _ tb_63) xtbA hA, ytbA⟩, ⟨va_Zref (hts _ tb_792) (hts _ tb_63) xtbS hA, ytbS⟩, ⟨va_Zref (hts _ tb_794) (hts _ tb_63) xtbM hA, ytbM⟩⟩
