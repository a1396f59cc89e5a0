theorem v_aret {P : PT} {M : MT} {w : WD} {nL : Nat} {pc : Nat} {lv : List (Nat × Value)} {σ : Mem} {cc : ByteArray} {own C : String} {d a : Nat} (hX : VOk P M w nL cc own (some (.object C)) d) (hd : decode cc pc = .ok (.areturn, 1)) : V P M w nL (QR P M w σ a) pc lv [.ref a] σ := fun H locs ls hl hP hS => by
  obtain ⟨hx, hb, hml, hown, hts, hr, hlo, hK, hI, hE, hEo, hR⟩ := hX
  exact W.aret (v := .ref a) hx hb hr (Or.inl ⟨C, rfl⟩) (Or.inr ⟨a, rfl⟩) (fun t ht hW => ⟨⟨σ, a, rfl, rfl, by show va_P _ _ _ t.heap; rw [ht]; exact hP, rfl⟩, hS.F ht⟩) hS.2.2 hd hlo
theorem ct_R {l : Launch} {w : WD} {d : Nat} {y : MethodName} {cc : ByteArray} {nL : Nat} {ret : Option FieldType} {av : List Value} {σ : Mem} {a : Nat} (own : String) (lv : List (Nat × Value)) (hy : plainName y.cls = true) (hown : y.cls = own) (hlv : lv_args 0 av = lv) (hln : (lg_sl av).length ≤ nL)
    (h : ∀ (P : PT) (M : MT), P.2.1 = l → VOk P M w nL cc own ret d → V P M w nL (QR P M w σ a) 0 lv [] σ) : CtR l w d y cc nL ret av σ a := by
  subst hown
  refine Met.ofW (cc := cc) (maxL := nL) (ret := ret) hy rfl ?_
  intro p e s m args below meth c s₁ B hml hv
  obtain ⟨rfl, hP, hK, hI, hE, hEo⟩ := hv
  have hts := atoms_spec (ws := .code y cc nL ret :: wAll) B.pre
  have hown : s.vm.findClass y.cls = some m.cls := findClass_of_methodNamed B.named
  have hX : VOk (p, l, e, rmL d, s) (m, av.toArray, below, meth, c) w nL cc y.cls ret d := ⟨B.exec, B.bytes, hml, hown, fun c9 h9 => hts c9 (List.mem_cons_of_mem _ h9), B.returns, B.notSynchronized, hK, hI, hE, hEo, Nat.le_refl _, Nat.le_refl _⟩
  have hl := lv_entry av (n := nL) hln
  rw [hlv] at hl
  rw [lg_entry_eq]
  exact h _ _ rfl hX s.heap [] _ hl hP va_S.rf
theorem c_imageOf_24 {l : Launch} {D : va_G} {cs : ClassId × ClassId × ClassId} {ad : Nat → Nat} {ts : Nat × Nat × Nat} (σ : Mem) (x1 : Int32) (hz : x1 = 0) : CtR l (xW D cs ad ts) 0 yX6_imageOf cX6_imageOf 2 (some (.object "InkTaken$Archive")) [.ref (ad 0), .int x1] σ (ad 24) := by
  refine ct_R RX6 [(0, .ref (ad 0)), (1, .int x1)] (by decide +kernel) rfl rfl (Nat.le_of_ble_eq_true rfl) ?_
  intro P M hl0 hX
  refine v_iload_n 1 1 hX dX6_imageOf_0 rfl rfl ?_
  refine v_if_ne 11 hX dX6_imageOf_1 (by decide) (fun c => ?_) (fun c => ?_)
  · exact absurd hz c
  · refine v_aload_n 0 0 hX dX6_imageOf_4 rfl rfl ?_
    refine v_get (C := RX6) (T := TX6) (N := 10) (ci := 6) (v := .ref (ad 24)) 0 2 hX dX6_imageOf_5 mw_284 rfl inlX6 rfl (lt_b rfl) (lt_b rfl) rfl rfl ?_
    refine v_goto 15 hX dX6_imageOf_8 (by decide) ?_
    exact v_aret hX dX6_imageOf_15
theorem c_imageOf_35 {l : Launch} {D : va_G} {cs : ClassId × ClassId × ClassId} {ad : Nat → Nat} {ts : Nat × Nat × Nat} (σ : Mem) (x1 : Int32) (hz : ¬ x1 = 0) : CtR l (xW D cs ad ts) 0 yX6_imageOf cX6_imageOf 2 (some (.object "InkTaken$Archive")) [.ref (ad 0), .int x1] σ (ad 35) := by
  refine ct_R RX6 [(0, .ref (ad 0)), (1, .int x1)] (by decide +kernel) rfl rfl (Nat.le_of_ble_eq_true rfl) ?_
  intro P M hl0 hX
  refine v_iload_n 1 1 hX dX6_imageOf_0 rfl rfl ?_
  refine v_if_ne 11 hX dX6_imageOf_1 (by decide) (fun c => ?_) (fun c => ?_)
  · refine v_aload_n 0 0 hX dX6_imageOf_11 rfl rfl ?_
    refine v_get (C := RX6) (T := TX6) (N := 10) (ci := 6) (v := .ref (ad 35)) 0 3 hX dX6_imageOf_12 mw_285 rfl inlX6 rfl (lt_b rfl) (lt_b rfl) rfl rfl ?_
    exact v_aret hX dX6_imageOf_15
  · exact absurd c hz

set_option maxHeartbeats 4000000 in
set_option maxRecDepth 100000 in
theorem c_X6_bitOf {l : Launch} {D : va_G} {cs : ClassId × ClassId × ClassId} {ad : Nat → Nat} {ts : Nat × Nat × Nat} (σ : Mem)   (x0 : Int32) (x1 : Int32) {z : Int32} (hf : f_X6_bitOf x0 x1 = some z) : CtI l (xW D cs ad ts) 0 yX6_bitOf cX6_bitOf 2 (some .int) [.int x0, .int x1] σ z σ := by
  refine ct_I RX6 [(0, .int x0), (1, .int x1)] (by decide +kernel) rfl rfl (Nat.le_of_ble_eq_true rfl) ?_
  intro P M hl0 hX
  unfold f_X6_bitOf at hf
  refine v_iload_n 0 0 hX dX6_bitOf_0 rfl rfl ?_
  refine v_iload_n 1 1 hX dX6_bitOf_1 rfl rfl ?_
  refine v_ishr hX dX6_bitOf_2 ?_
  refine v_iconst 1 hX dX6_bitOf_3 (by decide) ?_
  refine v_iand hX dX6_bitOf_4 ?_
  obtain rfl := Option.some.inj hf
  exact v_iret (r := (x0 >>> (x1 &&& 31)) &&& 1) hX dX6_bitOf_5 rfl
set_option maxHeartbeats 4000000 in
set_option maxRecDepth 100000 in
theorem c_X6_isBelow {l : Launch} {D : va_G} {cs : ClassId × ClassId × ClassId} {ad : Nat → Nat} {ts : Nat × Nat × Nat} (σ : Mem)   (x0 : Int32) (x1 : Int32) {z : Int32} (hf : f_X6_isBelow x0 x1 = some z) : CtI l (xW D cs ad ts) 0 yX6_isBelow cX6_isBelow 2 (some .boolean) [.int x0, .int x1] σ z σ := by
  refine ct_I RX6 [(0, .int x0), (1, .int x1)] (by decide +kernel) rfl rfl (Nat.le_of_ble_eq_true rfl) ?_
  intro P M hl0 hX
  unfold f_X6_isBelow at hf
  refine v_iload_n 0 0 hX dX6_isBelow_0 rfl rfl ?_
  refine v_if_lt 13 hX dX6_isBelow_1 (by decide) (fun c => ?_) (fun c => ?_)
  · have hf := opt_t c hf
    refine v_iconst 0 hX dX6_isBelow_13 (by decide) ?_
    obtain rfl := Option.some.inj hf
    exact v_iret (r := 0) hX dX6_isBelow_14 rfl
  · have hf := opt_f c hf
    refine v_iload_n 0 0 hX dX6_isBelow_4 rfl rfl ?_
    refine v_iload_n 1 1 hX dX6_isBelow_5 rfl rfl ?_
    refine v_icmp_ge 13 hX dX6_isBelow_6 (by decide) (fun c => ?_) (fun c => ?_)
    · have hf := opt_t c hf
      refine v_iconst 0 hX dX6_isBelow_13 (by decide) ?_
      obtain rfl := Option.some.inj hf
      exact v_iret (r := 0) hX dX6_isBelow_14 rfl
    · have hf := opt_f c hf
      refine v_iconst 1 hX dX6_isBelow_9 (by decide) ?_
      refine v_goto 14 hX dX6_isBelow_10 (by decide) ?_
      obtain rfl := Option.some.inj hf
      exact v_iret (r := 1) hX dX6_isBelow_14 rfl
set_option maxHeartbeats 4000000 in
set_option maxRecDepth 100000 in
theorem c_J6_bitCount_0f7a4 {l : Launch} {D : va_G} {cs : ClassId × ClassId × ClassId} {ad : Nat → Nat} {ts : Nat × Nat × Nat} (σ : Mem)   (x0 : Int32) {z : Int32} (hf : f_J6_bitCount_0f7a4 x0 = some z) : CtI l (xW D cs ad ts) 0 yJ6_bitCount_0f7a4 cJ6_bitCount_0f7a4 1 (some .int) [.int x0] σ z σ := by
  refine ct_I RJ6 [(0, .int x0)] (by decide +kernel) rfl rfl (Nat.le_of_ble_eq_true rfl) ?_
  intro P M hl0 hX
  unfold f_J6_bitCount_0f7a4 at hf
  refine v_iload_n 0 0 hX dJ6_bitCount_0f7a4_0 rfl rfl ?_
  refine v_iload_n 0 0 hX dJ6_bitCount_0f7a4_1 rfl rfl ?_
  refine v_iconst 1 hX dJ6_bitCount_0f7a4_2 (by decide) ?_
  refine v_iushr hX dJ6_bitCount_0f7a4_3 ?_
  refine v_ldcw 1431655765 hX dJ6_bitCount_0f7a4_4 mw_672 ?_
  refine v_iand hX dJ6_bitCount_0f7a4_7 ?_
  refine v_isub hX dJ6_bitCount_0f7a4_8 ?_
  refine v_istore_n 0 [(0, .int (x0 - (((x0.toUInt32 >>> ((1 : Int32).toUInt32 &&& Int32.toUInt32 31)).toInt32) &&& 1431655765)))] hX dJ6_bitCount_0f7a4_9 rfl (lt_b rfl) rfl ?_
  refine v_iload_n 0 0 hX dJ6_bitCount_0f7a4_10 rfl rfl ?_
  refine v_ldcw 858993459 hX dJ6_bitCount_0f7a4_11 mw_673 ?_
  refine v_iand hX dJ6_bitCount_0f7a4_14 ?_
  refine v_iload_n 0 0 hX dJ6_bitCount_0f7a4_15 rfl rfl ?_
  refine v_iconst 2 hX dJ6_bitCount_0f7a4_16 (by decide) ?_
  refine v_iushr hX dJ6_bitCount_0f7a4_17 ?_
  refine v_ldcw 858993459 hX dJ6_bitCount_0f7a4_18 mw_673 ?_
  refine v_iand hX dJ6_bitCount_0f7a4_21 ?_
  refine v_iadd hX dJ6_bitCount_0f7a4_22 ?_
  refine v_istore_n 0 [(0, .int (((x0 - (((x0.toUInt32 >>> ((1 : Int32).toUInt32 &&& Int32.toUInt32 31)).toInt32) &&& 1431655765)) &&& 858993459) + ((((x0 - (((x0.toUInt32 >>> ((1 : Int32).toUInt32 &&& Int32.toUInt32 31)).toInt32) &&& 1431655765)).toUInt32 >>> ((2 : Int32).toUInt32 &&& Int32.toUInt32 31)).toInt32) &&& 858993459)))] hX dJ6_bitCount_0f7a4_23 rfl (lt_b rfl) rfl ?_
  refine v_iload_n 0 0 hX dJ6_bitCount_0f7a4_24 rfl rfl ?_
  refine v_iload_n 0 0 hX dJ6_bitCount_0f7a4_25 rfl rfl ?_
  refine v_iconst 4 hX dJ6_bitCount_0f7a4_26 (by decide) ?_
  refine v_iushr hX dJ6_bitCount_0f7a4_27 ?_
  refine v_iadd hX dJ6_bitCount_0f7a4_28 ?_
  refine v_ldcw 252645135 hX dJ6_bitCount_0f7a4_29 mw_674 ?_
  refine v_iand hX dJ6_bitCount_0f7a4_32 ?_
  refine v_istore_n 0 [(0, .int (((((x0 - (((x0.toUInt32 >>> ((1 : Int32).toUInt32 &&& Int32.toUInt32 31)).toInt32) &&& 1431655765)) &&& 858993459) + ((((x0 - (((x0.toUInt32 >>> ((1 : Int32).toUInt32 &&& Int32.toUInt32 31)).toInt32) &&& 1431655765)).toUInt32 >>> ((2 : Int32).toUInt32 &&& Int32.toUInt32 31)).toInt32) &&& 858993459)) + (((((x0 - (((x0.toUInt32 >>> ((1 : Int32).toUInt32 &&& Int32.toUInt32 31)).toInt32) &&& 1431655765)) &&& 858993459) + ((((x0 - (((x0.toUInt32 >>> ((1 : Int32).toUInt32 &&& Int32.toUInt32 31)).toInt32) &&& 1431655765)).toUInt32 >>> ((2 : Int32).toUInt32 &&& Int32.toUInt32 31)).toInt32) &&& 858993459)).toUInt32 >>> ((4 : Int32).toUInt32 &&& Int32.toUInt32 31)).toInt32)) &&& 252645135))] hX dJ6_bitCount_0f7a4_33 rfl (lt_b rfl) rfl ?_
  refine v_iload_n 0 0 hX dJ6_bitCount_0f7a4_34 rfl rfl ?_
  refine v_iload_n 0 0 hX dJ6_bitCount_0f7a4_35 rfl rfl ?_
  refine v_bipush 8 hX dJ6_bitCount_0f7a4_36 (by decide) ?_
  refine v_iushr hX dJ6_bitCount_0f7a4_38 ?_
  refine v_iadd hX dJ6_bitCount_0f7a4_39 ?_
  refine v_istore_n 0 [(0, .int ((((((x0 - (((x0.toUInt32 >>> ((1 : Int32).toUInt32 &&& Int32.toUInt32 31)).toInt32) &&& 1431655765)) &&& 858993459) + ((((x0 - (((x0.toUInt32 >>> ((1 : Int32).toUInt32 &&& Int32.toUInt32 31)).toInt32) &&& 1431655765)).toUInt32 >>> ((2 : Int32).toUInt32 &&& Int32.toUInt32 31)).toInt32) &&& 858993459)) + (((((x0 - (((x0.toUInt32 >>> ((1 : Int32).toUInt32 &&& Int32.toUInt32 31)).toInt32) &&& 1431655765)) &&& 858993459) + ((((x0 - (((x0.toUInt32 >>> ((1 : Int32).toUInt32 &&& Int32.toUInt32 31)).toInt32) &&& 1431655765)).toUInt32 >>> ((2 : Int32).toUInt32 &&& Int32.toUInt32 31)).toInt32) &&& 858993459)).toUInt32 >>> ((4 : Int32).toUInt32 &&& Int32.toUInt32 31)).toInt32)) &&& 252645135) + (((((((x0 - (((x0.toUInt32 >>> ((1 : Int32).toUInt32 &&& Int32.toUInt32 31)).toInt32) &&& 1431655765)) &&& 858993459) + ((((x0 - (((x0.toUInt32 >>> ((1 : Int32).toUInt32 &&& Int32.toUInt32 31)).toInt32) &&& 1431655765)).toUInt32 >>> ((2 : Int32).toUInt32 &&& Int32.toUInt32 31)).toInt32) &&& 858993459)) + (((((x0 - (((x0.toUInt32 >>> ((1 : Int32).toUInt32 &&& Int32.toUInt32 31)).toInt32) &&& 1431655765)) &&& 858993459) + ((((x0 - (((x0.toUInt32 >>> ((1 : Int32).toUInt32 &&& Int32.toUInt32 31)).toInt32) &&& 1431655765)).toUInt32 >>> ((2 : Int32).toUInt32 &&& Int32.toUInt32 31)).toInt32) &&& 858993459)).toUInt32 >>> ((4 : Int32).toUInt32 &&& Int32.toUInt32 31)).toInt32)) &&& 252645135).toUInt32 >>> ((8 : Int32).toUInt32 &&& Int32.toUInt32 31)).toInt32)))] hX dJ6_bitCount_0f7a4_40 rfl (lt_b rfl) rfl ?_
  refine v_iload_n 0 0 hX dJ6_bitCount_0f7a4_41 rfl rfl ?_
  refine v_iload_n 0 0 hX dJ6_bitCount_0f7a4_42 rfl rfl ?_
  refine v_bipush 16 hX dJ6_bitCount_0f7a4_43 (by decide) ?_
  refine v_iushr hX dJ6_bitCount_0f7a4_45 ?_
  refine v_iadd hX dJ6_bitCount_0f7a4_46 ?_
  refine v_istore_n 0 [(0, .int (((((((x0 - (((x0.toUInt32 >>> ((1 : Int32).toUInt32 &&& Int32.toUInt32 31)).toInt32) &&& 1431655765)) &&& 858993459) + ((((x0 - (((x0.toUInt32 >>> ((1 : Int32).toUInt32 &&& Int32.toUInt32 31)).toInt32) &&& 1431655765)).toUInt32 >>> ((2 : Int32).toUInt32 &&& Int32.toUInt32 31)).toInt32) &&& 858993459)) + (((((x0 - (((x0.toUInt32 >>> ((1 : Int32).toUInt32 &&& Int32.toUInt32 31)).toInt32) &&& 1431655765)) &&& 858993459) + ((((x0 - (((x0.toUInt32 >>> ((1 : Int32).toUInt32 &&& Int32.toUInt32 31)).toInt32) &&& 1431655765)).toUInt32 >>> ((2 : Int32).toUInt32 &&& Int32.toUInt32 31)).toInt32) &&& 858993459)).toUInt32 >>> ((4 : Int32).toUInt32 &&& Int32.toUInt32 31)).toInt32)) &&& 252645135) + (((((((x0 - (((x0.toUInt32 >>> ((1 : Int32).toUInt32 &&& Int32.toUInt32 31)).toInt32) &&& 1431655765)) &&& 858993459) + ((((x0 - (((x0.toUInt32 >>> ((1 : Int32).toUInt32 &&& Int32.toUInt32 31)).toInt32) &&& 1431655765)).toUInt32 >>> ((2 : Int32).toUInt32 &&& Int32.toUInt32 31)).toInt32) &&& 858993459)) + (((((x0 - (((x0.toUInt32 >>> ((1 : Int32).toUInt32 &&& Int32.toUInt32 31)).toInt32) &&& 1431655765)) &&& 858993459) + ((((x0 - (((x0.toUInt32 >>> ((1 : Int32).toUInt32 &&& Int32.toUInt32 31)).toInt32) &&& 1431655765)).toUInt32 >>> ((2 : Int32).toUInt32 &&& Int32.toUInt32 31)).toInt32) &&& 858993459)).toUInt32 >>> ((4 : Int32).toUInt32 &&& Int32.toUInt32 31)).toInt32)) &&& 252645135).toUInt32 >>> ((8 : Int32).toUInt32 &&& Int32.toUInt32 31)).toInt32)) + ((((((((x0 - (((x0.toUInt32 >>> ((1 : Int32).toUInt32 &&& Int32.toUInt32 31)).toInt32) &&& 1431655765)) &&& 858993459) + ((((x0 - (((x0.toUInt32 >>> ((1 : Int32).toUInt32 &&& Int32.toUInt32 31)).toInt32) &&& 1431655765)).toUInt32 >>> ((2 : Int32).toUInt32 &&& Int32.toUInt32 31)).toInt32) &&& 858993459)) + (((((x0 - (((x0.toUInt32 >>> ((1 : Int32).toUInt32 &&& Int32.toUInt32 31)).toInt32) &&& 1431655765)) &&& 858993459) + ((((x0 - (((x0.toUInt32 >>> ((1 : Int32).toUInt32 &&& Int32.toUInt32 31)).toInt32) &&& 1431655765)).toUInt32 >>> ((2 : Int32).toUInt32 &&& Int32.toUInt32 31)).toInt32) &&& 858993459)).toUInt32 >>> ((4 : Int32).toUInt32 &&& Int32.toUInt32 31)).toInt32)) &&& 252645135) + (((((((x0 - (((x0.toUInt32 >>> ((1 : Int32).toUInt32 &&& Int32.toUInt32 31)).toInt32) &&& 1431655765)) &&& 858993459) + ((((x0 - (((x0.toUInt32 >>> ((1 : Int32).toUInt32 &&& Int32.toUInt32 31)).toInt32) &&& 1431655765)).toUInt32 >>> ((2 : Int32).toUInt32 &&& Int32.toUInt32 31)).toInt32) &&& 858993459)) + (((((x0 - (((x0.toUInt32 >>> ((1 : Int32).toUInt32 &&& Int32.toUInt32 31)).toInt32) &&& 1431655765)) &&& 858993459) + ((((x0 - (((x0.toUInt32 >>> ((1 : Int32).toUInt32 &&& Int32.toUInt32 31)).toInt32) &&& 1431655765)).toUInt32 >>> ((2 : Int32).toUInt32 &&& Int32.toUInt32 31)).toInt32) &&& 858993459)).toUInt32 >>> ((4 : Int32).toUInt32 &&& Int32.toUInt32 31)).toInt32)) &&& 252645135).toUInt32 >>> ((8 : Int32).toUInt32 &&& Int32.toUInt32 31)).toInt32)).toUInt32 >>> ((16 : Int32).toUInt32 &&& Int32.toUInt32 31)).toInt32)))] hX dJ6_bitCount_0f7a4_47 rfl (lt_b rfl) rfl ?_
  refine v_iload_n 0 0 hX dJ6_bitCount_0f7a4_48 rfl rfl ?_
  refine v_bipush 63 hX dJ6_bitCount_0f7a4_49 (by decide) ?_
  refine v_iand hX dJ6_bitCount_0f7a4_51 ?_
  obtain rfl := Option.some.inj hf
  exact v_iret (r := (((((((x0 - (((x0.toUInt32 >>> ((1 : Int32).toUInt32 &&& Int32.toUInt32 31)).toInt32) &&& 1431655765)) &&& 858993459) + ((((x0 - (((x0.toUInt32 >>> ((1 : Int32).toUInt32 &&& Int32.toUInt32 31)).toInt32) &&& 1431655765)).toUInt32 >>> ((2 : Int32).toUInt32 &&& Int32.toUInt32 31)).toInt32) &&& 858993459)) + (((((x0 - (((x0.toUInt32 >>> ((1 : Int32).toUInt32 &&& Int32.toUInt32 31)).toInt32) &&& 1431655765)) &&& 858993459) + ((((x0 - (((x0.toUInt32 >>> ((1 : Int32).toUInt32 &&& Int32.toUInt32 31)).toInt32) &&& 1431655765)).toUInt32 >>> ((2 : Int32).toUInt32 &&& Int32.toUInt32 31)).toInt32) &&& 858993459)).toUInt32 >>> ((4 : Int32).toUInt32 &&& Int32.toUInt32 31)).toInt32)) &&& 252645135) + (((((((x0 - (((x0.toUInt32 >>> ((1 : Int32).toUInt32 &&& Int32.toUInt32 31)).toInt32) &&& 1431655765)) &&& 858993459) + ((((x0 - (((x0.toUInt32 >>> ((1 : Int32).toUInt32 &&& Int32.toUInt32 31)).toInt32) &&& 1431655765)).toUInt32 >>> ((2 : Int32).toUInt32 &&& Int32.toUInt32 31)).toInt32) &&& 858993459)) + (((((x0 - (((x0.toUInt32 >>> ((1 : Int32).toUInt32 &&& Int32.toUInt32 31)).toInt32) &&& 1431655765)) &&& 858993459) + ((((x0 - (((x0.toUInt32 >>> ((1 : Int32).toUInt32 &&& Int32.toUInt32 31)).toInt32) &&& 1431655765)).toUInt32 >>> ((2 : Int32).toUInt32 &&& Int32.toUInt32 31)).toInt32) &&& 858993459)).toUInt32 >>> ((4 : Int32).toUInt32 &&& Int32.toUInt32 31)).toInt32)) &&& 252645135).toUInt32 >>> ((8 : Int32).toUInt32 &&& Int32.toUInt32 31)).toInt32)) + ((((((((x0 - (((x0.toUInt32 >>> ((1 : Int32).toUInt32 &&& Int32.toUInt32 31)).toInt32) &&& 1431655765)) &&& 858993459) + ((((x0 - (((x0.toUInt32 >>> ((1 : Int32).toUInt32 &&& Int32.toUInt32 31)).toInt32) &&& 1431655765)).toUInt32 >>> ((2 : Int32).toUInt32 &&& Int32.toUInt32 31)).toInt32) &&& 858993459)) + (((((x0 - (((x0.toUInt32 >>> ((1 : Int32).toUInt32 &&& Int32.toUInt32 31)).toInt32) &&& 1431655765)) &&& 858993459) + ((((x0 - (((x0.toUInt32 >>> ((1 : Int32).toUInt32 &&& Int32.toUInt32 31)).toInt32) &&& 1431655765)).toUInt32 >>> ((2 : Int32).toUInt32 &&& Int32.toUInt32 31)).toInt32) &&& 858993459)).toUInt32 >>> ((4 : Int32).toUInt32 &&& Int32.toUInt32 31)).toInt32)) &&& 252645135) + (((((((x0 - (((x0.toUInt32 >>> ((1 : Int32).toUInt32 &&& Int32.toUInt32 31)).toInt32) &&& 1431655765)) &&& 858993459) + ((((x0 - (((x0.toUInt32 >>> ((1 : Int32).toUInt32 &&& Int32.toUInt32 31)).toInt32) &&& 1431655765)).toUInt32 >>> ((2 : Int32).toUInt32 &&& Int32.toUInt32 31)).toInt32) &&& 858993459)) + (((((x0 - (((x0.toUInt32 >>> ((1 : Int32).toUInt32 &&& Int32.toUInt32 31)).toInt32) &&& 1431655765)) &&& 858993459) + ((((x0 - (((x0.toUInt32 >>> ((1 : Int32).toUInt32 &&& Int32.toUInt32 31)).toInt32) &&& 1431655765)).toUInt32 >>> ((2 : Int32).toUInt32 &&& Int32.toUInt32 31)).toInt32) &&& 858993459)).toUInt32 >>> ((4 : Int32).toUInt32 &&& Int32.toUInt32 31)).toInt32)) &&& 252645135).toUInt32 >>> ((8 : Int32).toUInt32 &&& Int32.toUInt32 31)).toInt32)).toUInt32 >>> ((16 : Int32).toUInt32 &&& Int32.toUInt32 31)).toInt32)) &&& 63) hX dJ6_bitCount_0f7a4_52 rfl
set_option maxHeartbeats 4000000 in
set_option maxRecDepth 100000 in
theorem c_X1_limitOf {l : Launch} {D : va_G} {cs : ClassId × ClassId × ClassId} {ad : Nat → Nat} {ts : Nat × Nat × Nat} (σ : Mem)  (x1 : Int32) (x2 : Int32) {z : Int32} (hf : f_X1_limitOf σ x1 x2 = some z) : CtI l (xW D cs ad ts) 0 yX1_limitOf cX1_limitOf 3 (some .int) [.ref (ad 13), .int x1, .int x2] σ z σ := by
  refine ct_I RX1 [(0, .ref (ad 13)), (1, .int x1), (2, .int x2)] (by decide +kernel) rfl rfl (Nat.le_of_ble_eq_true rfl) ?_
  intro P M hl0 hX
  unfold f_X1_limitOf at hf
  refine v_aload_n 0 0 hX dX1_limitOf_0 rfl rfl ?_
  refine v_get (C := RX1) (T := TX1) (N := 19) (ci := 1) (v := .ref (ad 14)) 13 9 hX dX1_limitOf_1 mw_138 rfl inlX1 rfl (lt_b rfl) (lt_b rfl) rfl rfl ?_
  refine v_iload_n 1 1 hX dX1_limitOf_4 rfl rfl ?_
  obtain ⟨hi1, hf⟩ := gd_some hf
  refine v_ald (v := σ 14 x1.toNatClampNeg) 14 hX dX1_limitOf_5 (lt_b rfl) ((fun _ => rfl) _) hi1 rfl ?_
  by_cases cs2 : σ 14 x1.toNatClampNeg = 2
  · have hf := opt_t cs2 hf
    refine v_tableIn 30 36 hX dX1_limitOf_6 (by rw [cs2]; decide) (by rw [cs2]; decide) (by rw [cs2]; decide) (by decide) ?_
    refine v_iload_n 2 2 hX dX1_limitOf_36 rfl rfl ?_
    refine v_iconst 2 hX dX1_limitOf_37 (by decide) ?_
    refine v_idiv hX dX1_limitOf_38 (by decide) ?_
    obtain rfl := Option.some.inj hf
    exact v_iret (r := x2 / 2) hX dX1_limitOf_39 rfl
  have hf := opt_f cs2 hf
  by_cases cs3 : σ 14 x1.toNatClampNeg = 3
  · have hf := opt_t cs3 hf
    refine v_tableIn 40 46 hX dX1_limitOf_6 (by rw [cs3]; decide) (by rw [cs3]; decide) (by rw [cs3]; decide) (by decide) ?_
    refine v_iload_n 2 2 hX dX1_limitOf_46 rfl rfl ?_
    obtain rfl := Option.some.inj hf
    exact v_iret (r := x2) hX dX1_limitOf_47 rfl
  have hf := opt_f cs3 hf
  by_cases cs4 : σ 14 x1.toNatClampNeg = 4
  · have hf := opt_t cs4 hf
    refine v_tableIn 34 40 hX dX1_limitOf_6 (by rw [cs4]; decide) (by rw [cs4]; decide) (by rw [cs4]; decide) (by decide) ?_
    refine v_iload_n 2 2 hX dX1_limitOf_40 rfl rfl ?_
    refine v_iconst 2 hX dX1_limitOf_41 (by decide) ?_
    refine v_imul hX dX1_limitOf_42 ?_
    obtain rfl := Option.some.inj hf
    exact v_iret (r := x2 * 2) hX dX1_limitOf_43 rfl
  have hf := opt_f cs4 hf
  by_cases cs5 : σ 14 x1.toNatClampNeg = 5
  · have hf := opt_t cs5 hf
    refine v_tableIn 38 44 hX dX1_limitOf_6 (by rw [cs5]; decide) (by rw [cs5]; decide) (by rw [cs5]; decide) (by decide) ?_
    refine v_iconst (-1) hX dX1_limitOf_44 (by decide) ?_
    obtain rfl := Option.some.inj hf
    exact v_iret (r := (-1)) hX dX1_limitOf_45 rfl
  have hf := opt_f cs5 hf
  refine v_tableOut 46 hX dX1_limitOf_6 (by have h0 := lv_neT cs2 (a := 2) (by decide); have h1 := lv_neT cs3 (a := 3) (by decide); have h2 := lv_neT cs4 (a := 4) (by decide); have h3 := lv_neT cs5 (a := 5) (by decide); omega) (by decide) ?_
  refine v_iload_n 2 2 hX dX1_limitOf_46 rfl rfl ?_
  obtain rfl := Option.some.inj hf
  exact v_iret (r := x2) hX dX1_limitOf_47 rfl
set_option maxHeartbeats 4000000 in
set_option maxRecDepth 100000 in
theorem c_X1_isDrunk {l : Launch} {D : va_G} {cs : ClassId × ClassId × ClassId} {ad : Nat → Nat} {ts : Nat × Nat × Nat} (σ : Mem)  (x1 : Int32) {z : Int32} (hf : f_X1_isDrunk σ x1 = some z) : CtI l (xW D cs ad ts) 0 yX1_isDrunk cX1_isDrunk 2 (some .boolean) [.ref (ad 13), .int x1] σ z σ := by
  refine ct_I RX1 [(0, .ref (ad 13)), (1, .int x1)] (by decide +kernel) rfl rfl (Nat.le_of_ble_eq_true rfl) ?_
  intro P M hl0 hX
  unfold f_X1_isDrunk at hf
  refine v_aload_n 0 0 hX dX1_isDrunk_0 rfl rfl ?_
  refine v_get (C := RX1) (T := TX1) (N := 19) (ci := 1) (v := .ref (ad 14)) 13 9 hX dX1_isDrunk_1 mw_138 rfl inlX1 rfl (lt_b rfl) (lt_b rfl) rfl rfl ?_
  refine v_iload_n 1 1 hX dX1_isDrunk_4 rfl rfl ?_
  obtain ⟨hi1, hf⟩ := gd_some hf
  refine v_ald (v := σ 14 x1.toNatClampNeg) 14 hX dX1_isDrunk_5 (lt_b rfl) ((fun _ => rfl) _) hi1 rfl ?_
  refine v_iconst 3 hX dX1_isDrunk_6 (by decide) ?_
  refine v_icmp_ne 14 hX dX1_isDrunk_7 (by decide) (fun c => ?_) (fun c => ?_)
  · have hf := opt_f c hf
    refine v_iconst 0 hX dX1_isDrunk_14 (by decide) ?_
    obtain rfl := Option.some.inj hf
    exact v_iret (r := 0) hX dX1_isDrunk_15 rfl
  · have hf := opt_t c hf
    refine v_iconst 1 hX dX1_isDrunk_10 (by decide) ?_
    refine v_goto 15 hX dX1_isDrunk_11 (by decide) ?_
    obtain rfl := Option.some.inj hf
    exact v_iret (r := 1) hX dX1_isDrunk_15 rfl
set_option maxHeartbeats 4000000 in
set_option maxRecDepth 100000 in
theorem s_X1_copiesBy_4 {P : PT} {M : MT} {D : va_G} {cs : ClassId × ClassId × ClassId} {ad : Nat → Nat} {ts : Nat × Nat × Nat} (hX : VOk P M (xW D cs ad ts) 4 cX1_copiesBy RX1 (some .int) 0) (fuel : Nat) (σ : Mem)   (z : Int32)  : ∀ (n : Nat) (x1 : Int32) (x2 : Int32) (x3 : Int32), f_X1_copiesBy_4 fuel σ n x1 x2 x3 = some z → V P M (xW D cs ad ts) 4 (QI P M (xW D cs ad ts) z σ) 4 [(0, .ref (ad 13)), (1, .int x1), (2, .int x2), (3, .int x3)] [] σ := by
  intro n
  induction n with
  | zero =>
    intro x1 x2 x3 hf
    cases hf
  | succ n hk4 =>
    intro x1 x2 x3 hf
    rw [f_X1_copiesBy_4] at hf
    refine v_iload_n 3 3 hX dX1_copiesBy_4 rfl rfl ?_
    refine v_aload_n 0 0 hX dX1_copiesBy_5 rfl rfl ?_
    refine v_get (C := RX1) (T := TX1) (N := 19) (ci := 1) (v := .int (σ 13 7)) 13 7 hX dX1_copiesBy_6 mw_129 rfl inlX1 rfl (lt_b rfl) (lt_b rfl) rfl rfl ?_
    refine v_icmp_ge 34 hX dX1_copiesBy_9 (by decide) (fun c => ?_) (fun c => ?_)
    · have hf := opt_t c hf
      refine v_iload_n 2 2 hX dX1_copiesBy_34 rfl rfl ?_
      obtain rfl := Option.some.inj hf
      exact v_iret (r := x2) hX dX1_copiesBy_35 rfl
    · have hf := opt_f c hf
      refine v_aload_n 0 0 hX dX1_copiesBy_12 rfl rfl ?_
      refine v_get (C := RX1) (T := TX1) (N := 19) (ci := 1) (v := .ref (ad 17)) 13 12 hX dX1_copiesBy_13 mw_148 rfl inlX1 rfl (lt_b rfl) (lt_b rfl) rfl rfl ?_
      refine v_iload_n 3 3 hX dX1_copiesBy_16 rfl rfl ?_
      obtain ⟨hi1, hf⟩ := gd_some hf
      refine v_ald (v := σ 17 x3.toNatClampNeg) 17 hX dX1_copiesBy_17 (lt_b rfl) ((fun _ => rfl) _) hi1 rfl ?_
      refine v_iload_n 1 1 hX dX1_copiesBy_18 rfl rfl ?_
      refine v_icmp_ne 28 hX dX1_copiesBy_19 (by decide) (fun c => ?_) (fun c => ?_)
      · have hf := opt_f c hf
        refine v_iinc 3 (x3 + 1) [(3, .int (x3 + 1)), (0, .ref (ad 13)), (1, .int x1), (2, .int x2)] hX dX1_copiesBy_28 rfl rfl (lt_b rfl) rfl ?_
        refine v_goto 4 hX dX1_copiesBy_31 (by decide) ?_
        exact v_sub [1, 2, 3, 0] rfl (hk4 x1 x2 (x3 + 1) hf)
      · have hf := opt_t c hf
        refine v_iload_n 2 2 hX dX1_copiesBy_22 rfl rfl ?_
        refine v_iconst 1 hX dX1_copiesBy_23 (by decide) ?_
        refine v_iload_n 3 3 hX dX1_copiesBy_24 rfl rfl ?_
        refine v_ishl hX dX1_copiesBy_25 ?_
        refine v_ior hX dX1_copiesBy_26 ?_
        refine v_istore_n 2 [(2, .int (x2 ||| (1 <<< (x3 &&& 31)))), (0, .ref (ad 13)), (1, .int x1), (3, .int x3)] hX dX1_copiesBy_27 rfl (lt_b rfl) rfl ?_
        refine v_iinc 3 (x3 + 1) [(3, .int (x3 + 1)), (2, .int (x2 ||| (1 <<< (x3 &&& 31)))), (0, .ref (ad 13)), (1, .int x1)] hX dX1_copiesBy_28 rfl rfl (lt_b rfl) rfl ?_
        refine v_goto 4 hX dX1_copiesBy_31 (by decide) ?_
        exact v_sub [2, 3, 1, 0] rfl (hk4 x1 (x2 ||| (1 <<< (x3 &&& 31))) (x3 + 1) hf)
set_option maxHeartbeats 4000000 in
set_option maxRecDepth 100000 in
theorem c_X1_copiesBy {l : Launch} {D : va_G} {cs : ClassId × ClassId × ClassId} {ad : Nat → Nat} {ts : Nat × Nat × Nat} (fuel : Nat) (σ : Mem)  (x1 : Int32) {z : Int32} (hf : f_X1_copiesBy fuel σ x1 = some z) : CtI l (xW D cs ad ts) 0 yX1_copiesBy cX1_copiesBy 4 (some .int) [.ref (ad 13), .int x1] σ z σ := by
  refine ct_I RX1 [(0, .ref (ad 13)), (1, .int x1)] (by decide +kernel) rfl rfl (Nat.le_of_ble_eq_true rfl) ?_
  intro P M hl0 hX
  unfold f_X1_copiesBy at hf
  refine v_iconst 0 hX dX1_copiesBy_0 (by decide) ?_
  refine v_istore_n 2 [(2, .int 0), (0, .ref (ad 13)), (1, .int x1)] hX dX1_copiesBy_1 rfl (lt_b rfl) rfl ?_
  refine v_iconst 0 hX dX1_copiesBy_2 (by decide) ?_
  refine v_istore_n 3 [(3, .int 0), (2, .int 0), (0, .ref (ad 13)), (1, .int x1)] hX dX1_copiesBy_3 rfl (lt_b rfl) rfl ?_
  exact v_sub [2, 3, 1, 0] rfl (s_X1_copiesBy_4 hX fuel σ z  fuel x1 0 0 hf)
set_option maxHeartbeats 4000000 in
set_option maxRecDepth 100000 in
theorem s_X1_copiesAt_4 {P : PT} {M : MT} {D : va_G} {cs : ClassId × ClassId × ClassId} {ad : Nat → Nat} {ts : Nat × Nat × Nat} (hX : VOk P M (xW D cs ad ts) 4 cX1_copiesAt RX1 (some .int) 0) (fuel : Nat) (σ : Mem)   (z : Int32)  : ∀ (n : Nat) (x1 : Int32) (x2 : Int32) (x3 : Int32), f_X1_copiesAt_4 fuel σ n x1 x2 x3 = some z → V P M (xW D cs ad ts) 4 (QI P M (xW D cs ad ts) z σ) 4 [(0, .ref (ad 13)), (1, .int x1), (2, .int x2), (3, .int x3)] [] σ := by
  intro n
  induction n with
  | zero =>
    intro x1 x2 x3 hf
    cases hf
  | succ n hk4 =>
    intro x1 x2 x3 hf
    rw [f_X1_copiesAt_4] at hf
    refine v_iload_n 3 3 hX dX1_copiesAt_4 rfl rfl ?_
    refine v_aload_n 0 0 hX dX1_copiesAt_5 rfl rfl ?_
    refine v_get (C := RX1) (T := TX1) (N := 19) (ci := 1) (v := .int (σ 13 7)) 13 7 hX dX1_copiesAt_6 mw_129 rfl inlX1 rfl (lt_b rfl) (lt_b rfl) rfl rfl ?_
    refine v_icmp_ge 34 hX dX1_copiesAt_9 (by decide) (fun c => ?_) (fun c => ?_)
    · have hf := opt_t c hf
      refine v_iload_n 2 2 hX dX1_copiesAt_34 rfl rfl ?_
      obtain rfl := Option.some.inj hf
      exact v_iret (r := x2) hX dX1_copiesAt_35 rfl
    · have hf := opt_f c hf
      refine v_aload_n 0 0 hX dX1_copiesAt_12 rfl rfl ?_
      refine v_get (C := RX1) (T := TX1) (N := 19) (ci := 1) (v := .ref (ad 16)) 13 11 hX dX1_copiesAt_13 mw_146 rfl inlX1 rfl (lt_b rfl) (lt_b rfl) rfl rfl ?_
      refine v_iload_n 3 3 hX dX1_copiesAt_16 rfl rfl ?_
      obtain ⟨hi1, hf⟩ := gd_some hf
      refine v_ald (v := σ 16 x3.toNatClampNeg) 16 hX dX1_copiesAt_17 (lt_b rfl) ((fun _ => rfl) _) hi1 rfl ?_
      refine v_iload_n 1 1 hX dX1_copiesAt_18 rfl rfl ?_
      refine v_icmp_ne 28 hX dX1_copiesAt_19 (by decide) (fun c => ?_) (fun c => ?_)
      · have hf := opt_f c hf
        refine v_iinc 3 (x3 + 1) [(3, .int (x3 + 1)), (0, .ref (ad 13)), (1, .int x1), (2, .int x2)] hX dX1_copiesAt_28 rfl rfl (lt_b rfl) rfl ?_
        refine v_goto 4 hX dX1_copiesAt_31 (by decide) ?_
        exact v_sub [1, 2, 3, 0] rfl (hk4 x1 x2 (x3 + 1) hf)
      · have hf := opt_t c hf
        refine v_iload_n 2 2 hX dX1_copiesAt_22 rfl rfl ?_
        refine v_iconst 1 hX dX1_copiesAt_23 (by decide) ?_
        refine v_iload_n 3 3 hX dX1_copiesAt_24 rfl rfl ?_
        refine v_ishl hX dX1_copiesAt_25 ?_
        refine v_ior hX dX1_copiesAt_26 ?_
        refine v_istore_n 2 [(2, .int (x2 ||| (1 <<< (x3 &&& 31)))), (0, .ref (ad 13)), (1, .int x1), (3, .int x3)] hX dX1_copiesAt_27 rfl (lt_b rfl) rfl ?_
        refine v_iinc 3 (x3 + 1) [(3, .int (x3 + 1)), (2, .int (x2 ||| (1 <<< (x3 &&& 31)))), (0, .ref (ad 13)), (1, .int x1)] hX dX1_copiesAt_28 rfl rfl (lt_b rfl) rfl ?_
        refine v_goto 4 hX dX1_copiesAt_31 (by decide) ?_
        exact v_sub [2, 3, 1, 0] rfl (hk4 x1 (x2 ||| (1 <<< (x3 &&& 31))) (x3 + 1) hf)
set_option maxHeartbeats 4000000 in
set_option maxRecDepth 100000 in
theorem c_X1_copiesAt {l : Launch} {D : va_G} {cs : ClassId × ClassId × ClassId} {ad : Nat → Nat} {ts : Nat × Nat × Nat} (fuel : Nat) (σ : Mem)  (x1 : Int32) {z : Int32} (hf : f_X1_copiesAt fuel σ x1 = some z) : CtI l (xW D cs ad ts) 0 yX1_copiesAt cX1_copiesAt 4 (some .int) [.ref (ad 13), .int x1] σ z σ := by
  refine ct_I RX1 [(0, .ref (ad 13)), (1, .int x1)] (by decide +kernel) rfl rfl (Nat.le_of_ble_eq_true rfl) ?_
  intro P M hl0 hX
  unfold f_X1_copiesAt at hf
  refine v_iconst 0 hX dX1_copiesAt_0 (by decide) ?_
  refine v_istore_n 2 [(2, .int 0), (0, .ref (ad 13)), (1, .int x1)] hX dX1_copiesAt_1 rfl (lt_b rfl) rfl ?_
  refine v_iconst 0 hX dX1_copiesAt_2 (by decide) ?_
  refine v_istore_n 3 [(3, .int 0), (2, .int 0), (0, .ref (ad 13)), (1, .int x1)] hX dX1_copiesAt_3 rfl (lt_b rfl) rfl ?_
  exact v_sub [2, 3, 1, 0] rfl (s_X1_copiesAt_4 hX fuel σ z  fuel x1 0 0 hf)
set_option maxHeartbeats 4000000 in
set_option maxRecDepth 100000 in
theorem c_X1_begin {l : Launch} {D : va_G} {cs : ClassId × ClassId × ClassId} {ad : Nat → Nat} {ts : Nat × Nat × Nat} (σ : Mem)    {z : Mem} (hf : f_X1_begin σ = some z) : CtV l (xW D cs ad ts) 0 yX1_begin cX1_begin 1 [.ref (ad 48)] σ z := by
  refine ct_V RX1 [(0, .ref (ad 48))] (by decide +kernel) rfl rfl (Nat.le_of_ble_eq_true rfl) ?_
  intro P M hl0 hX
  unfold f_X1_begin at hf
  refine v_aload_n 0 0 hX dX1_begin_0 rfl rfl ?_
  refine v_iconst 1 hX dX1_begin_1 (by decide) ?_
  refine v_put (C := RX1) (T := TX1) (N := 19) (ci := 1) (ty := .boolean) tyX1 48 0 hX dX1_begin_2 mw_105 rfl inlX1 tyX1_ok nmX1 rfl (lt_b rfl) (lt_b rfl) rfl (tyX1_ok 0 (lt_b rfl)) rfl rfl rfl (lt_b rfl) rfl ?_
  refine v_aload_n 0 0 hX dX1_begin_5 rfl rfl ?_
  refine v_iconst 0 hX dX1_begin_6 (by decide) ?_
  refine v_put (C := RX1) (T := TX1) (N := 19) (ci := 1) (ty := .int) tyX1 48 3 hX dX1_begin_7 mw_114 rfl inlX1 tyX1_ok nmX1 rfl (lt_b rfl) (lt_b rfl) rfl (tyX1_ok 3 (lt_b rfl)) rfl rfl rfl (lt_b rfl) rfl ?_
  refine v_aload_n 0 0 hX dX1_begin_10 rfl rfl ?_
  refine v_iconst 0 hX dX1_begin_11 (by decide) ?_
  refine v_put (C := RX1) (T := TX1) (N := 19) (ci := 1) (ty := .int) tyX1 48 4 hX dX1_begin_12 mw_118 rfl inlX1 tyX1_ok nmX1 rfl (lt_b rfl) (lt_b rfl) rfl (tyX1_ok 4 (lt_b rfl)) rfl rfl rfl (lt_b rfl) rfl ?_
  refine v_aload_n 0 0 hX dX1_begin_15 rfl rfl ?_
  refine v_iconst 0 hX dX1_begin_16 (by decide) ?_
  refine v_put (C := RX1) (T := TX1) (N := 19) (ci := 1) (ty := .int) tyX1 48 5 hX dX1_begin_17 mw_122 rfl inlX1 tyX1_ok nmX1 rfl (lt_b rfl) (lt_b rfl) rfl (tyX1_ok 5 (lt_b rfl)) rfl rfl rfl (lt_b rfl) rfl ?_
  refine v_aload_n 0 0 hX dX1_begin_20 rfl rfl ?_
  refine v_iconst 0 hX dX1_begin_21 (by decide) ?_
  refine v_put (C := RX1) (T := TX1) (N := 19) (ci := 1) (ty := .int) tyX1 48 6 hX dX1_begin_22 mw_125 rfl inlX1 tyX1_ok nmX1 rfl (lt_b rfl) (lt_b rfl) rfl (tyX1_ok 6 (lt_b rfl)) rfl rfl rfl (lt_b rfl) rfl ?_
  refine v_aload_n 0 0 hX dX1_begin_25 rfl rfl ?_
  refine v_iconst 0 hX dX1_begin_26 (by decide) ?_
  refine v_put (C := RX1) (T := TX1) (N := 19) (ci := 1) (ty := .int) tyX1 48 7 hX dX1_begin_27 mw_129 rfl inlX1 tyX1_ok nmX1 rfl (lt_b rfl) (lt_b rfl) rfl (tyX1_ok 7 (lt_b rfl)) rfl rfl rfl (lt_b rfl) rfl ?_
  refine v_aload_n 0 0 hX dX1_begin_30 rfl rfl ?_
  refine v_iconst 0 hX dX1_begin_31 (by decide) ?_
  refine v_put (C := RX1) (T := TX1) (N := 19) (ci := 1) (ty := .int) tyX1 48 8 hX dX1_begin_32 mw_134 rfl inlX1 tyX1_ok nmX1 rfl (lt_b rfl) (lt_b rfl) rfl (tyX1_ok 8 (lt_b rfl)) rfl rfl rfl (lt_b rfl) rfl ?_
  obtain rfl := Option.some.inj hf
  exact v_vret hX dX1_begin_35
set_option maxHeartbeats 4000000 in
set_option maxRecDepth 100000 in
theorem c_X1_addHand {l : Launch} {D : va_G} {cs : ClassId × ClassId × ClassId} {ad : Nat → Nat} {ts : Nat × Nat × Nat} (σ : Mem)   (x1 : Int32) (x2 : Int32) {z : Mem} (hf : f_X1_addHand σ x1 x2 = some z) : CtV l (xW D cs ad ts) 0 yX1_addHand cX1_addHand 3 [.ref (ad 48), .int x1, .int x2] σ z := by
  refine ct_V RX1 [(0, .ref (ad 48)), (1, .int x1), (2, .int x2)] (by decide +kernel) rfl rfl (Nat.le_of_ble_eq_true rfl) ?_
  intro P M hl0 hX
  unfold f_X1_addHand at hf
  refine v_aload_n 0 0 hX dX1_addHand_0 rfl rfl ?_
  refine v_get (C := RX1) (T := TX1) (N := 19) (ci := 1) (v := .int (σ 48 6)) 48 6 hX dX1_addHand_1 mw_125 rfl inlX1 rfl (lt_b rfl) (lt_b rfl) rfl rfl ?_
  refine v_iconst 4 hX dX1_addHand_4 (by decide) ?_
  refine v_icmp_lt 9 hX dX1_addHand_5 (by decide) (fun c => ?_) (fun c => ?_)
  · have hf := opt_t c hf
    refine v_aload_n 0 0 hX dX1_addHand_9 rfl rfl ?_
    refine v_get (C := RX1) (T := TX1) (N := 19) (ci := 1) (v := .ref (ad 49)) 48 9 hX dX1_addHand_10 mw_138 rfl inlX1 rfl (lt_b rfl) (lt_b rfl) rfl rfl ?_
    refine v_aload_n 0 0 hX dX1_addHand_13 rfl rfl ?_
    refine v_get (C := RX1) (T := TX1) (N := 19) (ci := 1) (v := .int (σ 48 6)) 48 6 hX dX1_addHand_14 mw_125 rfl inlX1 rfl (lt_b rfl) (lt_b rfl) rfl rfl ?_
    refine v_iload_n 1 1 hX dX1_addHand_17 rfl rfl ?_
    obtain ⟨hi1, hf⟩ := gd_some hf
    refine v_ast 49 hX dX1_addHand_18 (lt_b rfl) (fun _ => rfl) hi1 ?_
    refine v_aload_n 0 0 hX dX1_addHand_19 rfl rfl ?_
    refine v_get (C := RX1) (T := TX1) (N := 19) (ci := 1) (v := .ref (ad 50)) 48 10 hX dX1_addHand_20 mw_141 rfl inlX1 rfl (lt_b rfl) (lt_b rfl) rfl rfl ?_
    refine v_aload_n 0 0 hX dX1_addHand_23 rfl rfl ?_
    refine v_get (C := RX1) (T := TX1) (N := 19) (ci := 1) (v := .int (σ 48 6)) 48 6 hX dX1_addHand_24 mw_125 rfl inlX1 rfl (lt_b rfl) (lt_b rfl) rfl rfl ?_
    refine v_iload_n 2 2 hX dX1_addHand_27 rfl rfl ?_
    obtain ⟨hi2, hf⟩ := gd_some hf
    refine v_ast 50 hX dX1_addHand_28 (lt_b rfl) (fun _ => rfl) hi2 ?_
    refine v_aload_n 0 0 hX dX1_addHand_29 rfl rfl ?_
    refine v_dup hX dX1_addHand_30 rfl ?_
    refine v_get (C := RX1) (T := TX1) (N := 19) (ci := 1) (v := .int (σ 48 6)) 48 6 hX dX1_addHand_31 mw_125 rfl inlX1 rfl (lt_b rfl) (lt_b rfl) rfl rfl ?_
    refine v_iconst 1 hX dX1_addHand_34 (by decide) ?_
    refine v_iadd hX dX1_addHand_35 ?_
    refine v_put (C := RX1) (T := TX1) (N := 19) (ci := 1) (ty := .int) tyX1 48 6 hX dX1_addHand_36 mw_125 rfl inlX1 tyX1_ok nmX1 rfl (lt_b rfl) (lt_b rfl) rfl (tyX1_ok 6 (lt_b rfl)) rfl rfl rfl (lt_b rfl) rfl ?_
    obtain rfl := Option.some.inj hf
    exact v_vret hX dX1_addHand_39
  · have hf := opt_f c hf
    obtain rfl := Option.some.inj hf
    exact v_vret hX dX1_addHand_8
set_option maxHeartbeats 4000000 in
set_option maxRecDepth 100000 in
theorem c_X1_addDeed {l : Launch} {D : va_G} {cs : ClassId × ClassId × ClassId} {ad : Nat → Nat} {ts : Nat × Nat × Nat} (σ : Mem)   (x1 : Int32) (x2 : Int32) (x3 : Int32) (x4 : Int32) {z : Mem} (hf : f_X1_addDeed σ x1 x2 x3 x4 = some z) : CtV l (xW D cs ad ts) 0 yX1_addDeed cX1_addDeed 5 [.ref (ad 48), .int x1, .int x2, .int x3, .int x4] σ z := by
  refine ct_V RX1 [(0, .ref (ad 48)), (1, .int x1), (2, .int x2), (3, .int x3), (4, .int x4)] (by decide +kernel) rfl rfl (Nat.le_of_ble_eq_true rfl) ?_
  intro P M hl0 hX
  unfold f_X1_addDeed at hf
  refine v_aload_n 0 0 hX dX1_addDeed_0 rfl rfl ?_
  refine v_get (C := RX1) (T := TX1) (N := 19) (ci := 1) (v := .int (σ 48 8)) 48 8 hX dX1_addDeed_1 mw_134 rfl inlX1 rfl (lt_b rfl) (lt_b rfl) rfl rfl ?_
  refine v_iconst 5 hX dX1_addDeed_4 (by decide) ?_
  refine v_icmp_lt 9 hX dX1_addDeed_5 (by decide) (fun c => ?_) (fun c => ?_)
  · have hf := opt_t c hf
    refine v_aload_n 0 0 hX dX1_addDeed_9 rfl rfl ?_
    refine v_get (C := RX1) (T := TX1) (N := 19) (ci := 1) (v := .ref (ad 56)) 48 16 hX dX1_addDeed_10 mw_160 rfl inlX1 rfl (lt_b rfl) (lt_b rfl) rfl rfl ?_
    refine v_aload_n 0 0 hX dX1_addDeed_13 rfl rfl ?_
    refine v_get (C := RX1) (T := TX1) (N := 19) (ci := 1) (v := .int (σ 48 8)) 48 8 hX dX1_addDeed_14 mw_134 rfl inlX1 rfl (lt_b rfl) (lt_b rfl) rfl rfl ?_
    refine v_iload_n 1 1 hX dX1_addDeed_17 rfl rfl ?_
    obtain ⟨hi1, hf⟩ := gd_some hf
    refine v_ast 56 hX dX1_addDeed_18 (lt_b rfl) (fun _ => rfl) hi1 ?_
    refine v_aload_n 0 0 hX dX1_addDeed_19 rfl rfl ?_
    refine v_get (C := RX1) (T := TX1) (N := 19) (ci := 1) (v := .ref (ad 55)) 48 15 hX dX1_addDeed_20 mw_158 rfl inlX1 rfl (lt_b rfl) (lt_b rfl) rfl rfl ?_
    refine v_aload_n 0 0 hX dX1_addDeed_23 rfl rfl ?_
    refine v_get (C := RX1) (T := TX1) (N := 19) (ci := 1) (v := .int (σ 48 8)) 48 8 hX dX1_addDeed_24 mw_134 rfl inlX1 rfl (lt_b rfl) (lt_b rfl) rfl rfl ?_
    refine v_iload_n 2 2 hX dX1_addDeed_27 rfl rfl ?_
    obtain ⟨hi2, hf⟩ := gd_some hf
    refine v_ast 55 hX dX1_addDeed_28 (lt_b rfl) (fun _ => rfl) hi2 ?_
    refine v_aload_n 0 0 hX dX1_addDeed_29 rfl rfl ?_
    refine v_get (C := RX1) (T := TX1) (N := 19) (ci := 1) (v := .ref (ad 57)) 48 17 hX dX1_addDeed_30 mw_162 rfl inlX1 rfl (lt_b rfl) (lt_b rfl) rfl rfl ?_
    refine v_aload_n 0 0 hX dX1_addDeed_33 rfl rfl ?_
    refine v_get (C := RX1) (T := TX1) (N := 19) (ci := 1) (v := .int (σ 48 8)) 48 8 hX dX1_addDeed_34 mw_134 rfl inlX1 rfl (lt_b rfl) (lt_b rfl) rfl rfl ?_
    refine v_iload_n 3 3 hX dX1_addDeed_37 rfl rfl ?_
    obtain ⟨hi3, hf⟩ := gd_some hf
    refine v_ast 57 hX dX1_addDeed_38 (lt_b rfl) (fun _ => rfl) hi3 ?_
    refine v_aload_n 0 0 hX dX1_addDeed_39 rfl rfl ?_
    refine v_get (C := RX1) (T := TX1) (N := 19) (ci := 1) (v := .ref (ad 58)) 48 18 hX dX1_addDeed_40 mw_164 rfl inlX1 rfl (lt_b rfl) (lt_b rfl) rfl rfl ?_
    refine v_aload_n 0 0 hX dX1_addDeed_43 rfl rfl ?_
    refine v_get (C := RX1) (T := TX1) (N := 19) (ci := 1) (v := .int (σ 48 8)) 48 8 hX dX1_addDeed_44 mw_134 rfl inlX1 rfl (lt_b rfl) (lt_b rfl) rfl rfl ?_
    refine v_iload 4 hX dX1_addDeed_47 rfl ?_
    obtain ⟨hi4, hf⟩ := gd_some hf
    refine v_ast 58 hX dX1_addDeed_49 (lt_b rfl) (fun _ => rfl) hi4 ?_
    refine v_aload_n 0 0 hX dX1_addDeed_50 rfl rfl ?_
    refine v_dup hX dX1_addDeed_51 rfl ?_
    refine v_get (C := RX1) (T := TX1) (N := 19) (ci := 1) (v := .int (σ 48 8)) 48 8 hX dX1_addDeed_52 mw_134 rfl inlX1 rfl (lt_b rfl) (lt_b rfl) rfl rfl ?_
    refine v_iconst 1 hX dX1_addDeed_55 (by decide) ?_
    refine v_iadd hX dX1_addDeed_56 ?_
    refine v_put (C := RX1) (T := TX1) (N := 19) (ci := 1) (ty := .int) tyX1 48 8 hX dX1_addDeed_57 mw_134 rfl inlX1 tyX1_ok nmX1 rfl (lt_b rfl) (lt_b rfl) rfl (tyX1_ok 8 (lt_b rfl)) rfl rfl rfl (lt_b rfl) rfl ?_
    obtain rfl := Option.some.inj hf
    exact v_vret hX dX1_addDeed_60
  · have hf := opt_f c hf
    obtain rfl := Option.some.inj hf
    exact v_vret hX dX1_addDeed_8
set_option maxHeartbeats 4000000 in
set_option maxRecDepth 100000 in
theorem c_X1_addCopy {l : Launch} {D : va_G} {cs : ClassId × ClassId × ClassId} {ad : Nat → Nat} {ts : Nat × Nat × Nat} (σ : Mem)   (x1 : Int32) (x2 : Int32) (x3 : Int32) {z : Mem} (hf : f_X1_addCopy σ x1 x2 x3 = some z) : CtV l (xW D cs ad ts) 0 yX1_addCopy cX1_addCopy 4 [.ref (ad 13), .int x1, .int x2, .int x3] σ z := by
  refine ct_V RX1 [(0, .ref (ad 13)), (1, .int x1), (2, .int x2), (3, .int x3)] (by decide +kernel) rfl rfl (Nat.le_of_ble_eq_true rfl) ?_
  intro P M hl0 hX
  unfold f_X1_addCopy at hf
  refine v_aload_n 0 0 hX dX1_addCopy_0 rfl rfl ?_
  refine v_get (C := RX1) (T := TX1) (N := 19) (ci := 1) (v := .int (σ 13 7)) 13 7 hX dX1_addCopy_1 mw_129 rfl inlX1 rfl (lt_b rfl) (lt_b rfl) rfl rfl ?_
  refine v_bipush 10 hX dX1_addCopy_4 (by decide) ?_
  refine v_icmp_lt 10 hX dX1_addCopy_6 (by decide) (fun c => ?_) (fun c => ?_)
  · have hf := opt_t c hf
    refine v_aload_n 0 0 hX dX1_addCopy_10 rfl rfl ?_
    refine v_get (C := RX1) (T := TX1) (N := 19) (ci := 1) (v := .ref (ad 16)) 13 11 hX dX1_addCopy_11 mw_146 rfl inlX1 rfl (lt_b rfl) (lt_b rfl) rfl rfl ?_
    refine v_aload_n 0 0 hX dX1_addCopy_14 rfl rfl ?_
    refine v_get (C := RX1) (T := TX1) (N := 19) (ci := 1) (v := .int (σ 13 7)) 13 7 hX dX1_addCopy_15 mw_129 rfl inlX1 rfl (lt_b rfl) (lt_b rfl) rfl rfl ?_
    refine v_iload_n 1 1 hX dX1_addCopy_18 rfl rfl ?_
    obtain ⟨hi1, hf⟩ := gd_some hf
    refine v_ast 16 hX dX1_addCopy_19 (lt_b rfl) (fun _ => rfl) hi1 ?_
    refine v_aload_n 0 0 hX dX1_addCopy_20 rfl rfl ?_
    refine v_get (C := RX1) (T := TX1) (N := 19) (ci := 1) (v := .ref (ad 17)) 13 12 hX dX1_addCopy_21 mw_148 rfl inlX1 rfl (lt_b rfl) (lt_b rfl) rfl rfl ?_
    refine v_aload_n 0 0 hX dX1_addCopy_24 rfl rfl ?_
    refine v_get (C := RX1) (T := TX1) (N := 19) (ci := 1) (v := .int (σ 13 7)) 13 7 hX dX1_addCopy_25 mw_129 rfl inlX1 rfl (lt_b rfl) (lt_b rfl) rfl rfl ?_
    refine v_iload_n 2 2 hX dX1_addCopy_28 rfl rfl ?_
    obtain ⟨hi2, hf⟩ := gd_some hf
    refine v_ast 17 hX dX1_addCopy_29 (lt_b rfl) (fun _ => rfl) hi2 ?_
    refine v_aload_n 0 0 hX dX1_addCopy_30 rfl rfl ?_
    refine v_get (C := RX1) (T := TX1) (N := 19) (ci := 1) (v := .ref (ad 18)) 13 13 hX dX1_addCopy_31 mw_152 rfl inlX1 rfl (lt_b rfl) (lt_b rfl) rfl rfl ?_
    refine v_aload_n 0 0 hX dX1_addCopy_34 rfl rfl ?_
    refine v_get (C := RX1) (T := TX1) (N := 19) (ci := 1) (v := .int (σ 13 7)) 13 7 hX dX1_addCopy_35 mw_129 rfl inlX1 rfl (lt_b rfl) (lt_b rfl) rfl rfl ?_
    refine v_iload_n 3 3 hX dX1_addCopy_38 rfl rfl ?_
    obtain ⟨hi3, hf⟩ := gd_some hf
    refine v_ast 18 hX dX1_addCopy_39 (lt_b rfl) (fun _ => rfl) hi3 ?_
    refine v_aload_n 0 0 hX dX1_addCopy_40 rfl rfl ?_
    refine v_get (C := RX1) (T := TX1) (N := 19) (ci := 1) (v := .ref (ad 19)) 13 14 hX dX1_addCopy_41 mw_155 rfl inlX1 rfl (lt_b rfl) (lt_b rfl) rfl rfl ?_
    refine v_aload_n 0 0 hX dX1_addCopy_44 rfl rfl ?_
    refine v_get (C := RX1) (T := TX1) (N := 19) (ci := 1) (v := .int (σ 13 7)) 13 7 hX dX1_addCopy_45 mw_129 rfl inlX1 rfl (lt_b rfl) (lt_b rfl) rfl rfl ?_
    refine v_aload_n 0 0 hX dX1_addCopy_48 rfl rfl ?_
    refine v_get (C := RX1) (T := TX1) (N := 19) (ci := 1) (v := .int (σ 13 3)) 13 3 hX dX1_addCopy_49 mw_114 rfl inlX1 rfl (lt_b rfl) (lt_b rfl) rfl rfl ?_
    obtain ⟨hi4, hf⟩ := gd_some hf
    refine v_ast 19 hX dX1_addCopy_52 (lt_b rfl) (fun _ => rfl) hi4 ?_
    refine v_aload_n 0 0 hX dX1_addCopy_53 rfl rfl ?_
    refine v_dup hX dX1_addCopy_54 rfl ?_
    refine v_get (C := RX1) (T := TX1) (N := 19) (ci := 1) (v := .int (σ 13 7)) 13 7 hX dX1_addCopy_55 mw_129 rfl inlX1 rfl (lt_b rfl) (lt_b rfl) rfl rfl ?_
    refine v_iconst 1 hX dX1_addCopy_58 (by decide) ?_
    refine v_iadd hX dX1_addCopy_59 ?_
    refine v_put (C := RX1) (T := TX1) (N := 19) (ci := 1) (ty := .int) tyX1 13 7 hX dX1_addCopy_60 mw_129 rfl inlX1 tyX1_ok nmX1 rfl (lt_b rfl) (lt_b rfl) rfl (tyX1_ok 7 (lt_b rfl)) rfl rfl rfl (lt_b rfl) rfl ?_
    obtain rfl := Option.some.inj hf
    exact v_vret hX dX1_addCopy_63
  · have hf := opt_f c hf
    obtain rfl := Option.some.inj hf
    exact v_vret hX dX1_addCopy_9
set_option maxHeartbeats 4000000 in
set_option maxRecDepth 100000 in
theorem c_X1_addCopyD {l : Launch} {D : va_G} {cs : ClassId × ClassId × ClassId} {ad : Nat → Nat} {ts : Nat × Nat × Nat} (σ : Mem)   (x1 : Int32) (x2 : Int32) (x3 : Int32) {z : Mem} (hf : f_X1_addCopyD σ x1 x2 x3 = some z) : CtV l (xW D cs ad ts) 0 yX1_addCopy cX1_addCopy 4 [.ref (ad 48), .int x1, .int x2, .int x3] σ z := by
  refine ct_V RX1 [(0, .ref (ad 48)), (1, .int x1), (2, .int x2), (3, .int x3)] (by decide +kernel) rfl rfl (Nat.le_of_ble_eq_true rfl) ?_
  intro P M hl0 hX
  unfold f_X1_addCopyD at hf
  refine v_aload_n 0 0 hX dX1_addCopy_0 rfl rfl ?_
  refine v_get (C := RX1) (T := TX1) (N := 19) (ci := 1) (v := .int (σ 48 7)) 48 7 hX dX1_addCopy_1 mw_129 rfl inlX1 rfl (lt_b rfl) (lt_b rfl) rfl rfl ?_
  refine v_bipush 10 hX dX1_addCopy_4 (by decide) ?_
  refine v_icmp_lt 10 hX dX1_addCopy_6 (by decide) (fun c => ?_) (fun c => ?_)
  · have hf := opt_t c hf
    refine v_aload_n 0 0 hX dX1_addCopy_10 rfl rfl ?_
    refine v_get (C := RX1) (T := TX1) (N := 19) (ci := 1) (v := .ref (ad 51)) 48 11 hX dX1_addCopy_11 mw_146 rfl inlX1 rfl (lt_b rfl) (lt_b rfl) rfl rfl ?_
    refine v_aload_n 0 0 hX dX1_addCopy_14 rfl rfl ?_
    refine v_get (C := RX1) (T := TX1) (N := 19) (ci := 1) (v := .int (σ 48 7)) 48 7 hX dX1_addCopy_15 mw_129 rfl inlX1 rfl (lt_b rfl) (lt_b rfl) rfl rfl ?_
    refine v_iload_n 1 1 hX dX1_addCopy_18 rfl rfl ?_
    obtain ⟨hi1, hf⟩ := gd_some hf
    refine v_ast 51 hX dX1_addCopy_19 (lt_b rfl) (fun _ => rfl) hi1 ?_
    refine v_aload_n 0 0 hX dX1_addCopy_20 rfl rfl ?_
    refine v_get (C := RX1) (T := TX1) (N := 19) (ci := 1) (v := .ref (ad 52)) 48 12 hX dX1_addCopy_21 mw_148 rfl inlX1 rfl (lt_b rfl) (lt_b rfl) rfl rfl ?_
    refine v_aload_n 0 0 hX dX1_addCopy_24 rfl rfl ?_
    refine v_get (C := RX1) (T := TX1) (N := 19) (ci := 1) (v := .int (σ 48 7)) 48 7 hX dX1_addCopy_25 mw_129 rfl inlX1 rfl (lt_b rfl) (lt_b rfl) rfl rfl ?_
    refine v_iload_n 2 2 hX dX1_addCopy_28 rfl rfl ?_
    obtain ⟨hi2, hf⟩ := gd_some hf
    refine v_ast 52 hX dX1_addCopy_29 (lt_b rfl) (fun _ => rfl) hi2 ?_
    refine v_aload_n 0 0 hX dX1_addCopy_30 rfl rfl ?_
    refine v_get (C := RX1) (T := TX1) (N := 19) (ci := 1) (v := .ref (ad 53)) 48 13 hX dX1_addCopy_31 mw_152 rfl inlX1 rfl (lt_b rfl) (lt_b rfl) rfl rfl ?_
    refine v_aload_n 0 0 hX dX1_addCopy_34 rfl rfl ?_
    refine v_get (C := RX1) (T := TX1) (N := 19) (ci := 1) (v := .int (σ 48 7)) 48 7 hX dX1_addCopy_35 mw_129 rfl inlX1 rfl (lt_b rfl) (lt_b rfl) rfl rfl ?_
    refine v_iload_n 3 3 hX dX1_addCopy_38 rfl rfl ?_
    obtain ⟨hi3, hf⟩ := gd_some hf
    refine v_ast 53 hX dX1_addCopy_39 (lt_b rfl) (fun _ => rfl) hi3 ?_
    refine v_aload_n 0 0 hX dX1_addCopy_40 rfl rfl ?_
    refine v_get (C := RX1) (T := TX1) (N := 19) (ci := 1) (v := .ref (ad 54)) 48 14 hX dX1_addCopy_41 mw_155 rfl inlX1 rfl (lt_b rfl) (lt_b rfl) rfl rfl ?_
    refine v_aload_n 0 0 hX dX1_addCopy_44 rfl rfl ?_
    refine v_get (C := RX1) (T := TX1) (N := 19) (ci := 1) (v := .int (σ 48 7)) 48 7 hX dX1_addCopy_45 mw_129 rfl inlX1 rfl (lt_b rfl) (lt_b rfl) rfl rfl ?_
    refine v_aload_n 0 0 hX dX1_addCopy_48 rfl rfl ?_
    refine v_get (C := RX1) (T := TX1) (N := 19) (ci := 1) (v := .int (σ 48 3)) 48 3 hX dX1_addCopy_49 mw_114 rfl inlX1 rfl (lt_b rfl) (lt_b rfl) rfl rfl ?_
    obtain ⟨hi4, hf⟩ := gd_some hf
    refine v_ast 54 hX dX1_addCopy_52 (lt_b rfl) (fun _ => rfl) hi4 ?_
    refine v_aload_n 0 0 hX dX1_addCopy_53 rfl rfl ?_
    refine v_dup hX dX1_addCopy_54 rfl ?_
    refine v_get (C := RX1) (T := TX1) (N := 19) (ci := 1) (v := .int (σ 48 7)) 48 7 hX dX1_addCopy_55 mw_129 rfl inlX1 rfl (lt_b rfl) (lt_b rfl) rfl rfl ?_
    refine v_iconst 1 hX dX1_addCopy_58 (by decide) ?_
    refine v_iadd hX dX1_addCopy_59 ?_
    refine v_put (C := RX1) (T := TX1) (N := 19) (ci := 1) (ty := .int) tyX1 48 7 hX dX1_addCopy_60 mw_129 rfl inlX1 tyX1_ok nmX1 rfl (lt_b rfl) (lt_b rfl) rfl (tyX1_ok 7 (lt_b rfl)) rfl rfl rfl (lt_b rfl) rfl ?_
    obtain rfl := Option.some.inj hf
    exact v_vret hX dX1_addCopy_63
  · have hf := opt_f c hf
    obtain rfl := Option.some.inj hf
    exact v_vret hX dX1_addCopy_9
set_option maxHeartbeats 4000000 in
set_option maxRecDepth 100000 in
theorem c_X0_forget {l : Launch} {D : va_G} {cs : ClassId × ClassId × ClassId} {ad : Nat → Nat} {ts : Nat × Nat × Nat} (σ : Mem)    {z : Mem} (hf : f_X0_forget σ = some z) : CtV l (xW D cs ad ts) 0 yX0_forget cX0_forget 1 [.ref (ad 59)] σ z := by
  refine ct_V RX0 [(0, .ref (ad 59))] (by decide +kernel) rfl rfl (Nat.le_of_ble_eq_true rfl) ?_
  intro P M hl0 hX
  unfold f_X0_forget at hf
  refine v_aload_n 0 0 hX dX0_forget_0 rfl rfl ?_
  refine v_iconst 0 hX dX0_forget_1 (by decide) ?_
  refine v_put (C := RX0) (T := TX0) (N := 3) (ci := 0) (ty := .int) tyX0 59 2 hX dX0_forget_2 mw_242 rfl inlX0 tyX0_ok nmX0 rfl (lt_b rfl) (lt_b rfl) rfl (tyX0_ok 2 (lt_b rfl)) rfl rfl rfl (lt_b rfl) rfl ?_
  obtain rfl := Option.some.inj hf
  exact v_vret hX dX0_forget_5
set_option maxHeartbeats 4000000 in
set_option maxRecDepth 100000 in
theorem s_X0_undoLatest_54 {P : PT} {M : MT} {D : va_G} {cs : ClassId × ClassId × ClassId} {ad : Nat → Nat} {ts : Nat × Nat × Nat} (hX : VOk P M (xW D cs ad ts) 2 cX0_undoLatest RX0 none 0)    (z : Mem)  (σ : Mem) (hf : f_X0_undoLatest_54  σ = some z) : V P M (xW D cs ad ts) 2 (QV P M (xW D cs ad ts) z) 54 [(0, .ref (ad 59)), (1, .ref (ad 13))] [] σ := by
  unfold f_X0_undoLatest_54 at hf
  refine v_aload_n 0 0 hX dX0_undoLatest_54 rfl rfl ?_
  refine v_get (C := RX0) (T := TX0) (N := 3) (ci := 0) (v := .ref (ad 60)) 59 0 hX dX0_undoLatest_55 mw_240 rfl inlX0 rfl (lt_b rfl) (lt_b rfl) rfl rfl ?_
  refine v_aload_n 0 0 hX dX0_undoLatest_58 rfl rfl ?_
  refine v_get (C := RX0) (T := TX0) (N := 3) (ci := 0) (v := .int (σ 59 2)) 59 2 hX dX0_undoLatest_59 mw_242 rfl inlX0 rfl (lt_b rfl) (lt_b rfl) rfl rfl ?_
  obtain ⟨hi3, hf⟩ := gd_some hf
  refine v_ald (v := σ 60 ((σ 59 2).toNatClampNeg)) 60 hX dX0_undoLatest_62 (lt_b rfl) ((fun _ => rfl) _) hi3 rfl ?_
  refine v_if_ne 106 hX dX0_undoLatest_63 (by decide) (fun c => ?_) (fun c => ?_)
  · have hf := opt_f c hf
    obtain rfl := Option.some.inj hf
    exact v_vret hX dX0_undoLatest_106
  · have hf := opt_t c hf
    refine v_aload_n 1 1 hX dX0_undoLatest_66 rfl rfl ?_
    refine v_get (C := RX1) (T := TX1) (N := 19) (ci := 1) (v := .int (σ 13 7)) 13 7 hX dX0_undoLatest_67 mw_130 rfl inlX1 rfl (lt_b rfl) (lt_b rfl) rfl rfl ?_
    refine v_if_le 106 hX dX0_undoLatest_70 (by decide) (fun c => ?_) (fun c => ?_)
    · have hf := opt_t c hf
      obtain rfl := Option.some.inj hf
      exact v_vret hX dX0_undoLatest_106
    · have hf := opt_f c hf
      refine v_aload_n 1 1 hX dX0_undoLatest_73 rfl rfl ?_
      refine v_dup hX dX0_undoLatest_74 rfl ?_
      refine v_get (C := RX1) (T := TX1) (N := 19) (ci := 1) (v := .int (σ 13 7)) 13 7 hX dX0_undoLatest_75 mw_130 rfl inlX1 rfl (lt_b rfl) (lt_b rfl) rfl rfl ?_
      refine v_iconst 1 hX dX0_undoLatest_78 (by decide) ?_
      refine v_isub hX dX0_undoLatest_79 ?_
      refine v_put (C := RX1) (T := TX1) (N := 19) (ci := 1) (ty := .int) tyX1 13 7 hX dX0_undoLatest_80 mw_130 rfl inlX1 tyX1_ok nmX1 rfl (lt_b rfl) (lt_b rfl) rfl (tyX1_ok 7 (lt_b rfl)) rfl rfl rfl (lt_b rfl) rfl ?_
      refine v_aload_n 1 1 hX dX0_undoLatest_83 rfl rfl ?_
      refine v_dup hX dX0_undoLatest_84 rfl ?_
      refine v_get (C := RX1) (T := TX1) (N := 19) (ci := 1) (v := .int (σ 13 4)) 13 4 hX dX0_undoLatest_85 mw_119 rfl inlX1 rfl (lt_b rfl) (lt_b rfl) rfl rfl ?_
      refine v_aload_n 1 1 hX dX0_undoLatest_88 rfl rfl ?_
      refine v_get (C := RX1) (T := TX1) (N := 19) (ci := 1) (v := .ref (ad 15)) 13 10 hX dX0_undoLatest_89 mw_142 rfl inlX1 rfl (lt_b rfl) (lt_b rfl) rfl rfl ?_
      refine v_aload_n 1 1 hX dX0_undoLatest_92 rfl rfl ?_
      refine v_get (C := RX1) (T := TX1) (N := 19) (ci := 1) (v := .ref (ad 17)) 13 12 hX dX0_undoLatest_93 mw_149 rfl inlX1 rfl (lt_b rfl) (lt_b rfl) rfl rfl ?_
      refine v_aload_n 1 1 hX dX0_undoLatest_96 rfl rfl ?_
      refine v_get (C := RX1) (T := TX1) (N := 19) (ci := 1) (v := .int ((σ 13 7) - 1)) 13 7 hX dX0_undoLatest_97 mw_130 rfl inlX1 rfl (lt_b rfl) (lt_b rfl) rfl rfl ?_
      obtain ⟨hi4, hf⟩ := gd_some hf
      refine v_ald (v := σ 17 (((σ 13 7) - 1).toNatClampNeg)) 17 hX dX0_undoLatest_100 (lt_b rfl) ((fun _ => rfl) _) hi4 rfl ?_
      obtain ⟨hi5, hf⟩ := gd_some hf
      refine v_ald (v := σ 15 ((σ 17 (((σ 13 7) - 1).toNatClampNeg)).toNatClampNeg)) 15 hX dX0_undoLatest_101 (lt_b rfl) ((fun _ => rfl) _) hi5 rfl ?_
      refine v_isub hX dX0_undoLatest_102 ?_
      refine v_put (C := RX1) (T := TX1) (N := 19) (ci := 1) (ty := .int) tyX1 13 4 hX dX0_undoLatest_103 mw_119 rfl inlX1 tyX1_ok nmX1 rfl (lt_b rfl) (lt_b rfl) rfl (tyX1_ok 4 (lt_b rfl)) rfl rfl rfl (lt_b rfl) rfl ?_
      obtain rfl := Option.some.inj hf
      exact v_vret hX dX0_undoLatest_106
set_option maxHeartbeats 4000000 in
set_option maxRecDepth 100000 in
theorem c_X0_undoLatest {l : Launch} {D : va_G} {cs : ClassId × ClassId × ClassId} {ad : Nat → Nat} {ts : Nat × Nat × Nat} (σ : Mem)    {z : Mem} (hf : f_X0_undoLatest σ = some z) : CtV l (xW D cs ad ts) 0 yX0_undoLatest cX0_undoLatest 2 [.ref (ad 59), .ref (ad 13)] σ z := by
  refine ct_V RX0 [(0, .ref (ad 59)), (1, .ref (ad 13))] (by decide +kernel) rfl rfl (Nat.le_of_ble_eq_true rfl) ?_
  intro P M hl0 hX
  unfold f_X0_undoLatest at hf
  refine v_aload_n 0 0 hX dX0_undoLatest_0 rfl rfl ?_
  refine v_get (C := RX0) (T := TX0) (N := 3) (ci := 0) (v := .int (σ 59 2)) 59 2 hX dX0_undoLatest_1 mw_242 rfl inlX0 rfl (lt_b rfl) (lt_b rfl) rfl rfl ?_
  refine v_if_gt 8 hX dX0_undoLatest_4 (by decide) (fun c => ?_) (fun c => ?_)
  · have hf := opt_t c hf
    refine v_aload_n 0 0 hX dX0_undoLatest_8 rfl rfl ?_
    refine v_dup hX dX0_undoLatest_9 rfl ?_
    refine v_get (C := RX0) (T := TX0) (N := 3) (ci := 0) (v := .int (σ 59 2)) 59 2 hX dX0_undoLatest_10 mw_242 rfl inlX0 rfl (lt_b rfl) (lt_b rfl) rfl rfl ?_
    refine v_iconst 1 hX dX0_undoLatest_13 (by decide) ?_
    refine v_isub hX dX0_undoLatest_14 ?_
    refine v_put (C := RX0) (T := TX0) (N := 3) (ci := 0) (ty := .int) tyX0 59 2 hX dX0_undoLatest_15 mw_242 rfl inlX0 tyX0_ok nmX0 rfl (lt_b rfl) (lt_b rfl) rfl (tyX0_ok 2 (lt_b rfl)) rfl rfl rfl (lt_b rfl) rfl ?_
    refine v_aload_n 1 1 hX dX0_undoLatest_18 rfl rfl ?_
    refine v_aload_n 0 0 hX dX0_undoLatest_19 rfl rfl ?_
    refine v_get (C := RX0) (T := TX0) (N := 3) (ci := 0) (v := .ref (ad 61)) 59 1 hX dX0_undoLatest_20 mw_241 rfl inlX0 rfl (lt_b rfl) (lt_b rfl) rfl rfl ?_
    refine v_aload_n 0 0 hX dX0_undoLatest_23 rfl rfl ?_
    refine v_get (C := RX0) (T := TX0) (N := 3) (ci := 0) (v := .int ((σ 59 2) - 1)) 59 2 hX dX0_undoLatest_24 mw_242 rfl inlX0 rfl (lt_b rfl) (lt_b rfl) rfl rfl ?_
    obtain ⟨hi1, hf⟩ := gd_some hf
    refine v_ald (v := σ 61 (((σ 59 2) - 1).toNatClampNeg)) 61 hX dX0_undoLatest_27 (lt_b rfl) ((fun _ => rfl) _) hi1 rfl ?_
    refine v_put (C := RX1) (T := TX1) (N := 19) (ci := 1) (ty := .int) tyX1 13 5 hX dX0_undoLatest_28 mw_123 rfl inlX1 tyX1_ok nmX1 rfl (lt_b rfl) (lt_b rfl) rfl (tyX1_ok 5 (lt_b rfl)) rfl rfl rfl (lt_b rfl) rfl ?_
    refine v_aload_n 0 0 hX dX0_undoLatest_31 rfl rfl ?_
    refine v_get (C := RX0) (T := TX0) (N := 3) (ci := 0) (v := .ref (ad 60)) 59 0 hX dX0_undoLatest_32 mw_240 rfl inlX0 rfl (lt_b rfl) (lt_b rfl) rfl rfl ?_
    refine v_aload_n 0 0 hX dX0_undoLatest_35 rfl rfl ?_
    refine v_get (C := RX0) (T := TX0) (N := 3) (ci := 0) (v := .int ((σ 59 2) - 1)) 59 2 hX dX0_undoLatest_36 mw_242 rfl inlX0 rfl (lt_b rfl) (lt_b rfl) rfl rfl ?_
    obtain ⟨hi2, hf⟩ := gd_some hf
    refine v_ald (v := σ 60 (((σ 59 2) - 1).toNatClampNeg)) 60 hX dX0_undoLatest_39 (lt_b rfl) ((fun _ => rfl) _) hi2 rfl ?_
    refine v_iconst 2 hX dX0_undoLatest_40 (by decide) ?_
    refine v_icmp_ne 54 hX dX0_undoLatest_41 (by decide) (fun c => ?_) (fun c => ?_)
    · have hf := opt_f c hf
      exact (s_X0_undoLatest_54 hX  z  (mst (mst σ 59 2 ((σ 59 2) - 1)) 13 5 (σ 61 (((σ 59 2) - 1).toNatClampNeg))) hf)
    · have hf := opt_t c hf
      refine v_aload_n 1 1 hX dX0_undoLatest_44 rfl rfl ?_
      refine v_dup hX dX0_undoLatest_45 rfl ?_
      refine v_get (C := RX1) (T := TX1) (N := 19) (ci := 1) (v := .int (σ 13 3)) 13 3 hX dX0_undoLatest_46 mw_115 rfl inlX1 rfl (lt_b rfl) (lt_b rfl) rfl rfl ?_
      refine v_iconst 1 hX dX0_undoLatest_49 (by decide) ?_
      refine v_isub hX dX0_undoLatest_50 ?_
      refine v_put (C := RX1) (T := TX1) (N := 19) (ci := 1) (ty := .int) tyX1 13 3 hX dX0_undoLatest_51 mw_115 rfl inlX1 tyX1_ok nmX1 rfl (lt_b rfl) (lt_b rfl) rfl (tyX1_ok 3 (lt_b rfl)) rfl rfl rfl (lt_b rfl) rfl ?_
      exact (s_X0_undoLatest_54 hX  z  (mst (mst (mst σ 59 2 ((σ 59 2) - 1)) 13 5 (σ 61 (((σ 59 2) - 1).toNatClampNeg))) 13 3 ((σ 13 3) - 1)) hf)
  · have hf := opt_f c hf
    obtain rfl := Option.some.inj hf
    exact v_vret hX dX0_undoLatest_7
set_option maxHeartbeats 4000000 in
set_option maxRecDepth 100000 in
theorem s_J7_fill_r_5 {P : PT} {M : MT} {D : va_G} {cs : ClassId × ClassId × ClassId} {ad : Nat → Nat} {ts : Nat × Nat × Nat} (hX : VOk P M (xW D cs ad ts) 4 cJ7_fill_53178 RJ7 none 0) (fuel : Nat) (kr : Nat)  (hkr : kr < 8) (z : Mem)  : ∀ (n : Nat) (σ : Mem) (x1 : Int32) (x2 : Int32) (x3 : Int32), f_J7_fill_r_5 fuel kr n σ x1 x2 x3 = some z → V P M (xW D cs ad ts) 4 (QV P M (xW D cs ad ts) z) 5 [(0, .ref (ad (5 + kr))), (1, .int x1), (2, .int x2), (3, .int x3)] [] σ := by
  intro n
  induction n with
  | zero =>
    intro σ x1 x2 x3 hf
    cases hf
  | succ n hk5 =>
    intro σ x1 x2 x3 hf
    rw [f_J7_fill_r_5] at hf
    refine v_iload_n 2 2 hX dJ7_fill_53178_5 rfl rfl ?_
    refine v_iload_n 3 3 hX dJ7_fill_53178_6 rfl rfl ?_
    refine v_icmp_ge 20 hX dJ7_fill_53178_7 (by decide) (fun c => ?_) (fun c => ?_)
    · have hf := opt_t c hf
      obtain rfl := Option.some.inj hf
      exact v_vret hX dJ7_fill_53178_20
    · have hf := opt_f c hf
      refine v_aload_n 0 0 hX dJ7_fill_53178_10 rfl rfl ?_
      refine v_iload_n 2 2 hX dJ7_fill_53178_11 rfl rfl ?_
      refine v_iload_n 1 1 hX dJ7_fill_53178_12 rfl rfl ?_
      obtain ⟨hi1, hf⟩ := gd_some hf
      refine v_ast (5 + kr) hX dJ7_fill_53178_13 (xr_lt hkr) (xr_cell hkr) hi1 ?_
      refine v_iinc 2 (x2 + 1) [(2, .int (x2 + 1)), (0, .ref (ad (5 + kr))), (1, .int x1), (3, .int x3)] hX dJ7_fill_53178_14 rfl rfl (lt_b rfl) rfl ?_
      refine v_goto 5 hX dJ7_fill_53178_17 (by decide) ?_
      exact v_sub [1, 2, 0, 3] rfl (hk5 (mst σ (5 + kr) x2.toNatClampNeg x1) x1 (x2 + 1) x3 hf)
set_option maxHeartbeats 4000000 in
set_option maxRecDepth 100000 in
theorem c_J7_fill_r {l : Launch} {D : va_G} {cs : ClassId × ClassId × ClassId} {ad : Nat → Nat} {ts : Nat × Nat × Nat} (σ : Mem) (fuel : Nat) (kr : Nat) (hkr : kr < 8) (x1 : Int32) {z : Mem} (hf : f_J7_fill_r fuel kr σ x1 = some z) : CtV l (xW D cs ad ts) 0 yJ7_fill_53178 cJ7_fill_53178 4 [.ref (ad (5 + kr)), .int x1] σ z := by
  refine ct_V RJ7 [(0, .ref (ad (5 + kr))), (1, .int x1)] (by decide +kernel) rfl rfl (Nat.le_of_ble_eq_true rfl) ?_
  intro P M hl0 hX
  unfold f_J7_fill_r at hf
  refine v_iconst 0 hX dJ7_fill_53178_0 (by decide) ?_
  refine v_istore_n 2 [(2, .int 0), (0, .ref (ad (5 + kr))), (1, .int x1)] hX dJ7_fill_53178_1 rfl (lt_b rfl) rfl ?_
  refine v_aload_n 1 0 hX dJ7_fill_53178_2 rfl rfl ?_
  refine v_alen (v := 40) (5 + kr) 40 hX dJ7_fill_53178_3 (xr_lt hkr) ((xr_cell hkr) _) (by decide) ?_
  refine v_istore_n 3 [(3, .int 40), (2, .int 0), (0, .ref (ad (5 + kr))), (1, .int x1)] hX dJ7_fill_53178_4 rfl (lt_b rfl) rfl ?_
  exact v_sub [2, 3, 1, 0] rfl (s_J7_fill_r_5 hX fuel kr hkr z  fuel σ x1 0 40 hf)
set_option maxHeartbeats 4000000 in
set_option maxRecDepth 100000 in
theorem s_J7_fill_64_5 {P : PT} {M : MT} {D : va_G} {cs : ClassId × ClassId × ClassId} {ad : Nat → Nat} {ts : Nat × Nat × Nat} (hX : VOk P M (xW D cs ad ts) 4 cJ7_fill_53178 RJ7 none 0) (fuel : Nat)   (z : Mem)  : ∀ (n : Nat) (σ : Mem) (x1 : Int32) (x2 : Int32) (x3 : Int32), f_J7_fill_64_5 fuel n σ x1 x2 x3 = some z → V P M (xW D cs ad ts) 4 (QV P M (xW D cs ad ts) z) 5 [(0, .ref (ad 64)), (1, .int x1), (2, .int x2), (3, .int x3)] [] σ := by
  intro n
  induction n with
  | zero =>
    intro σ x1 x2 x3 hf
    cases hf
  | succ n hk5 =>
    intro σ x1 x2 x3 hf
    rw [f_J7_fill_64_5] at hf
    refine v_iload_n 2 2 hX dJ7_fill_53178_5 rfl rfl ?_
    refine v_iload_n 3 3 hX dJ7_fill_53178_6 rfl rfl ?_
    refine v_icmp_ge 20 hX dJ7_fill_53178_7 (by decide) (fun c => ?_) (fun c => ?_)
    · have hf := opt_t c hf
      obtain rfl := Option.some.inj hf
      exact v_vret hX dJ7_fill_53178_20
    · have hf := opt_f c hf
      refine v_aload_n 0 0 hX dJ7_fill_53178_10 rfl rfl ?_
      refine v_iload_n 2 2 hX dJ7_fill_53178_11 rfl rfl ?_
      refine v_iload_n 1 1 hX dJ7_fill_53178_12 rfl rfl ?_
      obtain ⟨hi1, hf⟩ := gd_some hf
      refine v_ast 64 hX dJ7_fill_53178_13 (lt_b rfl) (fun _ => rfl) hi1 ?_
      refine v_iinc 2 (x2 + 1) [(2, .int (x2 + 1)), (0, .ref (ad 64)), (1, .int x1), (3, .int x3)] hX dJ7_fill_53178_14 rfl rfl (lt_b rfl) rfl ?_
      refine v_goto 5 hX dJ7_fill_53178_17 (by decide) ?_
      exact v_sub [1, 2, 0, 3] rfl (hk5 (mst σ 64 x2.toNatClampNeg x1) x1 (x2 + 1) x3 hf)
set_option maxHeartbeats 4000000 in
set_option maxRecDepth 100000 in
theorem c_J7_fill_64 {l : Launch} {D : va_G} {cs : ClassId × ClassId × ClassId} {ad : Nat → Nat} {ts : Nat × Nat × Nat} (σ : Mem) (fuel : Nat)  (x1 : Int32) {z : Mem} (hf : f_J7_fill_64 fuel σ x1 = some z) : CtV l (xW D cs ad ts) 0 yJ7_fill_53178 cJ7_fill_53178 4 [.ref (ad 64), .int x1] σ z := by
  refine ct_V RJ7 [(0, .ref (ad 64)), (1, .int x1)] (by decide +kernel) rfl rfl (Nat.le_of_ble_eq_true rfl) ?_
  intro P M hl0 hX
  unfold f_J7_fill_64 at hf
  refine v_iconst 0 hX dJ7_fill_53178_0 (by decide) ?_
  refine v_istore_n 2 [(2, .int 0), (0, .ref (ad 64)), (1, .int x1)] hX dJ7_fill_53178_1 rfl (lt_b rfl) rfl ?_
  refine v_aload_n 1 0 hX dJ7_fill_53178_2 rfl rfl ?_
  refine v_alen (v := 91) 64 91 hX dJ7_fill_53178_3 (lt_b rfl) ((fun _ => rfl) _) (by decide) ?_
  refine v_istore_n 3 [(3, .int 91), (2, .int 0), (0, .ref (ad 64)), (1, .int x1)] hX dJ7_fill_53178_4 rfl (lt_b rfl) rfl ?_
  exact v_sub [2, 3, 1, 0] rfl (s_J7_fill_64_5 hX fuel z  fuel σ x1 0 91 hf)
set_option maxHeartbeats 4000000 in
set_option maxRecDepth 100000 in
theorem s_J7_fill_65_5 {P : PT} {M : MT} {D : va_G} {cs : ClassId × ClassId × ClassId} {ad : Nat → Nat} {ts : Nat × Nat × Nat} (hX : VOk P M (xW D cs ad ts) 4 cJ7_fill_53178 RJ7 none 0) (fuel : Nat)   (z : Mem)  : ∀ (n : Nat) (σ : Mem) (x1 : Int32) (x2 : Int32) (x3 : Int32), f_J7_fill_65_5 fuel n σ x1 x2 x3 = some z → V P M (xW D cs ad ts) 4 (QV P M (xW D cs ad ts) z) 5 [(0, .ref (ad 65)), (1, .int x1), (2, .int x2), (3, .int x3)] [] σ := by
  intro n
  induction n with
  | zero =>
    intro σ x1 x2 x3 hf
    cases hf
  | succ n hk5 =>
    intro σ x1 x2 x3 hf
    rw [f_J7_fill_65_5] at hf
    refine v_iload_n 2 2 hX dJ7_fill_53178_5 rfl rfl ?_
    refine v_iload_n 3 3 hX dJ7_fill_53178_6 rfl rfl ?_
    refine v_icmp_ge 20 hX dJ7_fill_53178_7 (by decide) (fun c => ?_) (fun c => ?_)
    · have hf := opt_t c hf
      obtain rfl := Option.some.inj hf
      exact v_vret hX dJ7_fill_53178_20
    · have hf := opt_f c hf
      refine v_aload_n 0 0 hX dJ7_fill_53178_10 rfl rfl ?_
      refine v_iload_n 2 2 hX dJ7_fill_53178_11 rfl rfl ?_
      refine v_iload_n 1 1 hX dJ7_fill_53178_12 rfl rfl ?_
      obtain ⟨hi1, hf⟩ := gd_some hf
      refine v_ast 65 hX dJ7_fill_53178_13 (lt_b rfl) (fun _ => rfl) hi1 ?_
      refine v_iinc 2 (x2 + 1) [(2, .int (x2 + 1)), (0, .ref (ad 65)), (1, .int x1), (3, .int x3)] hX dJ7_fill_53178_14 rfl rfl (lt_b rfl) rfl ?_
      refine v_goto 5 hX dJ7_fill_53178_17 (by decide) ?_
      exact v_sub [1, 2, 0, 3] rfl (hk5 (mst σ 65 x2.toNatClampNeg x1) x1 (x2 + 1) x3 hf)
set_option maxHeartbeats 4000000 in
set_option maxRecDepth 100000 in
theorem c_J7_fill_65 {l : Launch} {D : va_G} {cs : ClassId × ClassId × ClassId} {ad : Nat → Nat} {ts : Nat × Nat × Nat} (σ : Mem) (fuel : Nat)  (x1 : Int32) {z : Mem} (hf : f_J7_fill_65 fuel σ x1 = some z) : CtV l (xW D cs ad ts) 0 yJ7_fill_53178 cJ7_fill_53178 4 [.ref (ad 65), .int x1] σ z := by
  refine ct_V RJ7 [(0, .ref (ad 65)), (1, .int x1)] (by decide +kernel) rfl rfl (Nat.le_of_ble_eq_true rfl) ?_
  intro P M hl0 hX
  unfold f_J7_fill_65 at hf
  refine v_iconst 0 hX dJ7_fill_53178_0 (by decide) ?_
  refine v_istore_n 2 [(2, .int 0), (0, .ref (ad 65)), (1, .int x1)] hX dJ7_fill_53178_1 rfl (lt_b rfl) rfl ?_
  refine v_aload_n 1 0 hX dJ7_fill_53178_2 rfl rfl ?_
  refine v_alen (v := 91) 65 91 hX dJ7_fill_53178_3 (lt_b rfl) ((fun _ => rfl) _) (by decide) ?_
  refine v_istore_n 3 [(3, .int 91), (2, .int 0), (0, .ref (ad 65)), (1, .int x1)] hX dJ7_fill_53178_4 rfl (lt_b rfl) rfl ?_
  exact v_sub [2, 3, 1, 0] rfl (s_J7_fill_65_5 hX fuel z  fuel σ x1 0 91 hf)
set_option maxHeartbeats 4000000 in
set_option maxRecDepth 100000 in
theorem c_X5_isMissing {l : Launch} {D : va_G} {cs : ClassId × ClassId × ClassId} {ad : Nat → Nat} {ts : Nat × Nat × Nat} (σ : Mem)  (x1 : Int32) {z : Int32} (hf : f_X5_isMissing σ x1 = some z) : CtI l (xW D cs ad ts) 0 yX5_isMissing cX5_isMissing 2 (some .boolean) [.ref (ad 1), .int x1] σ z σ := by
  refine ct_I RX5 [(0, .ref (ad 1)), (1, .int x1)] (by decide +kernel) rfl rfl (Nat.le_of_ble_eq_true rfl) ?_
  intro P M hl0 hX
  unfold f_X5_isMissing at hf
  refine v_aload_n 0 0 hX dX5_isMissing_0 rfl rfl ?_
  refine v_get (C := RX5) (T := TX5) (N := 3) (ci := 5) (v := .ref (ad 2)) 1 0 hX dX5_isMissing_1 mw_85 rfl inlX5 rfl (lt_b rfl) (lt_b rfl) rfl rfl ?_
  refine v_iload_n 1 1 hX dX5_isMissing_4 rfl rfl ?_
  obtain ⟨hi1, hf⟩ := gd_some hf
  refine v_ald (v := σ 2 x1.toNatClampNeg) 2 hX dX5_isMissing_5 (lt_b rfl) ((fun _ => rfl) _) hi1 rfl ?_
  refine v_iconst (-1) hX dX5_isMissing_6 (by decide) ?_
  refine v_icmp_ne 14 hX dX5_isMissing_7 (by decide) (fun c => ?_) (fun c => ?_)
  · have hf := opt_f c hf
    refine v_iconst 0 hX dX5_isMissing_14 (by decide) ?_
    obtain rfl := Option.some.inj hf
    exact v_iret (r := 0) hX dX5_isMissing_15 rfl
  · have hf := opt_t c hf
    refine v_iconst 1 hX dX5_isMissing_10 (by decide) ?_
    refine v_goto 15 hX dX5_isMissing_11 (by decide) ?_
    obtain rfl := Option.some.inj hf
    exact v_iret (r := 1) hX dX5_isMissing_15 rfl
set_option maxHeartbeats 4000000 in
set_option maxRecDepth 100000 in
theorem c_X5_hasPlaces {l : Launch} {D : va_G} {cs : ClassId × ClassId × ClassId} {ad : Nat → Nat} {ts : Nat × Nat × Nat} (σ : Mem)  (x1 : Int32) (x2 : Int32) (x3 : Int32) {z : Int32} (hf : f_X5_hasPlaces σ x1 x2 x3 = some z) : CtI l (xW D cs ad ts) 0 yX5_hasPlaces cX5_hasPlaces 4 (some .boolean) [.ref (ad 1), .int x1, .int x2, .int x3] σ z σ := by
  refine ct_I RX5 [(0, .ref (ad 1)), (1, .int x1), (2, .int x2), (3, .int x3)] (by decide +kernel) rfl rfl (Nat.le_of_ble_eq_true rfl) ?_
  intro P M hl0 hX
  unfold f_X5_hasPlaces at hf
  refine v_iload_n 2 2 hX dX5_hasPlaces_0 rfl rfl ?_
  refine v_if_lt 24 hX dX5_hasPlaces_1 (by decide) (fun c => ?_) (fun c => ?_)
  · have hf := opt_t c hf
    refine v_iconst 0 hX dX5_hasPlaces_24 (by decide) ?_
    obtain rfl := Option.some.inj hf
    exact v_iret (r := 0) hX dX5_hasPlaces_25 rfl
  · have hf := opt_f c hf
    refine v_iload_n 3 3 hX dX5_hasPlaces_4 rfl rfl ?_
    refine v_if_lt 24 hX dX5_hasPlaces_5 (by decide) (fun c => ?_) (fun c => ?_)
    · have hf := opt_t c hf
      refine v_iconst 0 hX dX5_hasPlaces_24 (by decide) ?_
      obtain rfl := Option.some.inj hf
      exact v_iret (r := 0) hX dX5_hasPlaces_25 rfl
    · have hf := opt_f c hf
      refine v_iload_n 2 2 hX dX5_hasPlaces_8 rfl rfl ?_
      refine v_aload_n 0 0 hX dX5_hasPlaces_9 rfl rfl ?_
      refine v_get (C := RX5) (T := TX5) (N := 3) (ci := 5) (v := .ref (ad 3)) 1 1 hX dX5_hasPlaces_10 mw_87 rfl inlX5 rfl (lt_b rfl) (lt_b rfl) rfl rfl ?_
      refine v_iload_n 1 1 hX dX5_hasPlaces_13 rfl rfl ?_
      obtain ⟨hi1, hf⟩ := gd_some hf
      refine v_ald (v := σ 3 x1.toNatClampNeg) 3 hX dX5_hasPlaces_14 (lt_b rfl) ((fun _ => rfl) _) hi1 rfl ?_
      refine v_iload_n 3 3 hX dX5_hasPlaces_15 rfl rfl ?_
      refine v_isub hX dX5_hasPlaces_16 ?_
      refine v_icmp_gt 24 hX dX5_hasPlaces_17 (by decide) (fun c => ?_) (fun c => ?_)
      · have hf := opt_t c hf
        refine v_iconst 0 hX dX5_hasPlaces_24 (by decide) ?_
        obtain rfl := Option.some.inj hf
        exact v_iret (r := 0) hX dX5_hasPlaces_25 rfl
      · have hf := opt_f c hf
        refine v_iconst 1 hX dX5_hasPlaces_20 (by decide) ?_
        refine v_goto 25 hX dX5_hasPlaces_21 (by decide) ?_
        obtain rfl := Option.some.inj hf
        exact v_iret (r := 1) hX dX5_hasPlaces_25 rfl
set_option maxHeartbeats 4000000 in
set_option maxRecDepth 100000 in
theorem c_X5_put {l : Launch} {D : va_G} {cs : ClassId × ClassId × ClassId} {ad : Nat → Nat} {ts : Nat × Nat × Nat} (σ : Mem)   (x1 : Int32) (x2 : Int32) (x3 : Int32) {z : Int32 × Mem} (hf : f_X5_put σ x1 x2 x3 = some z) : CtI l (xW D cs ad ts) 0 yX5_put cX5_put 4 (some .int) [.ref (ad 1), .int x1, .int x2, .int x3] σ z.1 z.2 := by
  refine ct_I RX5 [(0, .ref (ad 1)), (1, .int x1), (2, .int x2), (3, .int x3)] (by decide +kernel) rfl rfl (Nat.le_of_ble_eq_true rfl) ?_
  intro P M hl0 hX
  unfold f_X5_put at hf
  refine v_aload_n 0 0 hX dX5_put_0 rfl rfl ?_
  refine v_get (C := RX5) (T := TX5) (N := 3) (ci := 5) (v := .ref (ad 2)) 1 0 hX dX5_put_1 mw_85 rfl inlX5 rfl (lt_b rfl) (lt_b rfl) rfl rfl ?_
  refine v_iload_n 1 1 hX dX5_put_4 rfl rfl ?_
  obtain ⟨hi1, hf⟩ := gd_some hf
  refine v_ald (v := σ 2 x1.toNatClampNeg) 2 hX dX5_put_5 (lt_b rfl) ((fun _ => rfl) _) hi1 rfl ?_
  by_cases cs2 : σ 2 x1.toNatClampNeg = 0
  · have hf := opt_t cs2 hf
    refine v_lookup 26 32 hX dX5_put_6 (by decide) (by rw [cs2]; decide) (by decide) ?_
    refine v_aload_n 0 0 hX dX5_put_32 rfl rfl ?_
    refine v_get (C := RX5) (T := TX5) (N := 3) (ci := 5) (v := .ref (ad 4)) 1 2 hX dX5_put_33 mw_89 rfl inlX5 rfl (lt_b rfl) (lt_b rfl) rfl rfl ?_
    refine v_iload_n 1 1 hX dX5_put_36 rfl rfl ?_
    obtain ⟨hi3, hf⟩ := gd_some hf
    refine v_aald hX dX5_put_37 hi3 ?_
    refine v_iload_n 2 2 hX dX5_put_38 rfl rfl ?_
    refine v_iload_n 3 3 hX dX5_put_39 rfl rfl ?_
    refine v_i2b hX dX5_put_40 ?_
    obtain ⟨hi4, hf⟩ := gd_some hf
    refine v_ast (5 + x1.toNatClampNeg) hX dX5_put_41 (xr_lt (inB_lt hi3)) (xr_cell (inB_lt hi3)) hi4 ?_
    refine v_goto 67 hX dX5_put_42 (by decide) ?_
    refine v_aload_n 0 0 hX dX5_put_67 rfl rfl ?_
    refine v_get (C := RX5) (T := TX5) (N := 3) (ci := 5) (v := .ref (ad 4)) 1 2 hX dX5_put_68 mw_89 rfl inlX5 rfl (lt_b rfl) (lt_b rfl) rfl rfl ?_
    refine v_iload_n 1 1 hX dX5_put_71 rfl rfl ?_
    obtain ⟨hi5, hf⟩ := gd_some hf
    refine v_aald hX dX5_put_72 hi5 ?_
    refine v_iload_n 2 2 hX dX5_put_73 rfl rfl ?_
    obtain ⟨hi6, hf⟩ := gd_some hf
    obtain ⟨s7, hs, hf⟩ := opt_b hf
    refine v_mem (Option.some.inj hs) ?_
    refine v_ald (v := s7 (5 + x1.toNatClampNeg) x2.toNatClampNeg) (5 + x1.toNatClampNeg) hX dX5_put_74 (xr_lt (inB_lt hi5)) ((xr_cell (inB_lt hi5)) _) hi6 rfl ?_
    obtain rfl := Option.some.inj hf
    exact v_iret (r := s7 (5 + x1.toNatClampNeg) x2.toNatClampNeg) hX dX5_put_75 rfl
  have hf := opt_f cs2 hf
  by_cases cs8 : σ 2 x1.toNatClampNeg = 1
  · have hf := opt_t cs8 hf
    refine v_lookup 39 45 hX dX5_put_6 (by decide) (by rw [cs8]; decide) (by decide) ?_
    refine v_aload_n 0 0 hX dX5_put_45 rfl rfl ?_
    refine v_get (C := RX5) (T := TX5) (N := 3) (ci := 5) (v := .ref (ad 4)) 1 2 hX dX5_put_46 mw_89 rfl inlX5 rfl (lt_b rfl) (lt_b rfl) rfl rfl ?_
    refine v_iload_n 1 1 hX dX5_put_49 rfl rfl ?_
    obtain ⟨hi9, hf⟩ := gd_some hf
    refine v_aald hX dX5_put_50 hi9 ?_
    refine v_iload_n 2 2 hX dX5_put_51 rfl rfl ?_
    refine v_iload_n 3 3 hX dX5_put_52 rfl rfl ?_
    refine v_i2s hX dX5_put_53 ?_
    obtain ⟨hi10, hf⟩ := gd_some hf
    refine v_ast (5 + x1.toNatClampNeg) hX dX5_put_54 (xr_lt (inB_lt hi9)) (xr_cell (inB_lt hi9)) hi10 ?_
    refine v_goto 67 hX dX5_put_55 (by decide) ?_
    refine v_aload_n 0 0 hX dX5_put_67 rfl rfl ?_
    refine v_get (C := RX5) (T := TX5) (N := 3) (ci := 5) (v := .ref (ad 4)) 1 2 hX dX5_put_68 mw_89 rfl inlX5 rfl (lt_b rfl) (lt_b rfl) rfl rfl ?_
    refine v_iload_n 1 1 hX dX5_put_71 rfl rfl ?_
    obtain ⟨hi11, hf⟩ := gd_some hf
    refine v_aald hX dX5_put_72 hi11 ?_
    refine v_iload_n 2 2 hX dX5_put_73 rfl rfl ?_
    obtain ⟨hi12, hf⟩ := gd_some hf
    obtain ⟨s13, hs, hf⟩ := opt_b hf
    refine v_mem (Option.some.inj hs) ?_
    refine v_ald (v := s13 (5 + x1.toNatClampNeg) x2.toNatClampNeg) (5 + x1.toNatClampNeg) hX dX5_put_74 (xr_lt (inB_lt hi11)) ((xr_cell (inB_lt hi11)) _) hi12 rfl ?_
    obtain rfl := Option.some.inj hf
    exact v_iret (r := s13 (5 + x1.toNatClampNeg) x2.toNatClampNeg) hX dX5_put_75 rfl
  have hf := opt_f cs8 hf
  refine v_lookup 52 58 hX dX5_put_6 (by decide) ((lv_osw cs2 (by decide)).trans ((lv_osw cs8 (by decide)).trans (rfl))) (by decide) ?_
  refine v_aload_n 0 0 hX dX5_put_58 rfl rfl ?_
  refine v_get (C := RX5) (T := TX5) (N := 3) (ci := 5) (v := .ref (ad 4)) 1 2 hX dX5_put_59 mw_89 rfl inlX5 rfl (lt_b rfl) (lt_b rfl) rfl rfl ?_
  refine v_iload_n 1 1 hX dX5_put_62 rfl rfl ?_
  obtain ⟨hi14, hf⟩ := gd_some hf
  refine v_aald hX dX5_put_63 hi14 ?_
  refine v_iload_n 2 2 hX dX5_put_64 rfl rfl ?_
  refine v_iload_n 3 3 hX dX5_put_65 rfl rfl ?_
  obtain ⟨hi15, hf⟩ := gd_some hf
  refine v_ast (5 + x1.toNatClampNeg) hX dX5_put_66 (xr_lt (inB_lt hi14)) (xr_cell (inB_lt hi14)) hi15 ?_
  refine v_aload_n 0 0 hX dX5_put_67 rfl rfl ?_
  refine v_get (C := RX5) (T := TX5) (N := 3) (ci := 5) (v := .ref (ad 4)) 1 2 hX dX5_put_68 mw_89 rfl inlX5 rfl (lt_b rfl) (lt_b rfl) rfl rfl ?_
  refine v_iload_n 1 1 hX dX5_put_71 rfl rfl ?_
  obtain ⟨hi16, hf⟩ := gd_some hf
  refine v_aald hX dX5_put_72 hi16 ?_
  refine v_iload_n 2 2 hX dX5_put_73 rfl rfl ?_
  obtain ⟨hi17, hf⟩ := gd_some hf
  obtain ⟨s18, hs, hf⟩ := opt_b hf
  refine v_mem (Option.some.inj hs) ?_
  refine v_ald (v := s18 (5 + x1.toNatClampNeg) x2.toNatClampNeg) (5 + x1.toNatClampNeg) hX dX5_put_74 (xr_lt (inB_lt hi16)) ((xr_cell (inB_lt hi16)) _) hi17 rfl ?_
  obtain rfl := Option.some.inj hf
  exact v_iret (r := s18 (5 + x1.toNatClampNeg) x2.toNatClampNeg) hX dX5_put_75 rfl
set_option maxHeartbeats 4000000 in
set_option maxRecDepth 100000 in
theorem c_X4_append {l : Launch} {D : va_G} {cs : ClassId × ClassId × ClassId} {ad : Nat → Nat} {ts : Nat × Nat × Nat} (σ : Mem)   (x1 : Int32) {z : Int32 × Mem} (hf : f_X4_append σ x1 = some z) : CtI l (xW D cs ad ts) 0 yX4_append cX4_append 2 (some .int) [.ref (ad 46), .int x1] σ z.1 z.2 := by
  refine ct_I RX4 [(0, .ref (ad 46)), (1, .int x1)] (by decide +kernel) rfl rfl (Nat.le_of_ble_eq_true rfl) ?_
  intro P M hl0 hX
  unfold f_X4_append at hf
  refine v_aload_n 0 0 hX dX4_append_0 rfl rfl ?_
  refine v_get (C := RX4) (T := TX4) (N := 5) (ci := 4) (v := .int (σ 46 2)) 46 2 hX dX4_append_1 mw_217 rfl inlX4 rfl (lt_b rfl) (lt_b rfl) rfl rfl ?_
  refine v_sipush 140 hX dX4_append_4 (by decide) ?_
  refine v_icmp_ge 30 hX dX4_append_7 (by decide) (fun c => ?_) (fun c => ?_)
  · have hf := opt_t c hf
    refine v_aload_n 0 0 hX dX4_append_30 rfl rfl ?_
    refine v_get (C := RX4) (T := TX4) (N := 5) (ci := 4) (v := .int (σ 46 2)) 46 2 hX dX4_append_31 mw_217 rfl inlX4 rfl (lt_b rfl) (lt_b rfl) rfl rfl ?_
    obtain rfl := Option.some.inj hf
    exact v_iret (r := σ 46 2) hX dX4_append_34 rfl
  · have hf := opt_f c hf
    refine v_aload_n 0 0 hX dX4_append_10 rfl rfl ?_
    refine v_get (C := RX4) (T := TX4) (N := 5) (ci := 4) (v := .ref (ad 47)) 46 0 hX dX4_append_11 mw_214 rfl inlX4 rfl (lt_b rfl) (lt_b rfl) rfl rfl ?_
    refine v_aload_n 0 0 hX dX4_append_14 rfl rfl ?_
    refine v_get (C := RX4) (T := TX4) (N := 5) (ci := 4) (v := .int (σ 46 2)) 46 2 hX dX4_append_15 mw_217 rfl inlX4 rfl (lt_b rfl) (lt_b rfl) rfl rfl ?_
    refine v_iload_n 1 1 hX dX4_append_18 rfl rfl ?_
    obtain ⟨hi1, hf⟩ := gd_some hf
    refine v_ast 47 hX dX4_append_19 (lt_b rfl) (fun _ => rfl) hi1 ?_
    refine v_aload_n 0 0 hX dX4_append_20 rfl rfl ?_
    refine v_dup hX dX4_append_21 rfl ?_
    refine v_get (C := RX4) (T := TX4) (N := 5) (ci := 4) (v := .int (σ 46 2)) 46 2 hX dX4_append_22 mw_217 rfl inlX4 rfl (lt_b rfl) (lt_b rfl) rfl rfl ?_
    refine v_iconst 1 hX dX4_append_25 (by decide) ?_
    refine v_iadd hX dX4_append_26 ?_
    refine v_put (C := RX4) (T := TX4) (N := 5) (ci := 4) (ty := .int) tyX4 46 2 hX dX4_append_27 mw_217 rfl inlX4 tyX4_ok nmX4 rfl (lt_b rfl) (lt_b rfl) rfl (tyX4_ok 2 (lt_b rfl)) rfl rfl rfl (lt_b rfl) rfl ?_
    refine v_aload_n 0 0 hX dX4_append_30 rfl rfl ?_
    refine v_get (C := RX4) (T := TX4) (N := 5) (ci := 4) (v := .int ((σ 46 2) + 1)) 46 2 hX dX4_append_31 mw_217 rfl inlX4 rfl (lt_b rfl) (lt_b rfl) rfl rfl ?_
    obtain rfl := Option.some.inj hf
    exact v_iret (r := (σ 46 2) + 1) hX dX4_append_34 rfl
set_option maxHeartbeats 4000000 in
set_option maxRecDepth 100000 in
theorem c_X4_fail {l : Launch} {D : va_G} {cs : ClassId × ClassId × ClassId} {ad : Nat → Nat} {ts : Nat × Nat × Nat} (σ : Mem)   (x1 : Int32) {z : Int32 × Mem} (hf : f_X4_fail σ x1 = some z) : CtI l (xW D cs ad ts) 0 yX4_fail cX4_fail 2 (some .boolean) [.ref (ad 46), .int x1] σ z.1 z.2 := by
  refine ct_I RX4 [(0, .ref (ad 46)), (1, .int x1)] (by decide +kernel) rfl rfl (Nat.le_of_ble_eq_true rfl) ?_
  intro P M hl0 hX
  unfold f_X4_fail at hf
  refine v_aload_n 0 0 hX dX4_fail_0 rfl rfl ?_
  refine v_iload_n 1 1 hX dX4_fail_1 rfl rfl ?_
  refine v_put (C := RX4) (T := TX4) (N := 5) (ci := 4) (ty := .int) tyX4 46 4 hX dX4_fail_2 mw_221 rfl inlX4 tyX4_ok nmX4 rfl (lt_b rfl) (lt_b rfl) rfl (tyX4_ok 4 (lt_b rfl)) rfl rfl rfl (lt_b rfl) rfl ?_
  refine v_iconst 0 hX dX4_fail_5 (by decide) ?_
  obtain rfl := Option.some.inj hf
  exact v_iret (r := 0) hX dX4_fail_6 rfl
set_option maxHeartbeats 4000000 in
set_option maxRecDepth 100000 in
theorem c_X4_next {l : Launch} {D : va_G} {cs : ClassId × ClassId × ClassId} {ad : Nat → Nat} {ts : Nat × Nat × Nat} (σ : Mem)   {z : Int32} (hf : f_X4_next σ = some z) : CtI l (xW D cs ad ts) 0 yX4_next cX4_next 1 (some .int) [.ref (ad 46)] σ z σ := by
  refine ct_I RX4 [(0, .ref (ad 46))] (by decide +kernel) rfl rfl (Nat.le_of_ble_eq_true rfl) ?_
  intro P M hl0 hX
  unfold f_X4_next at hf
  refine v_aload_n 0 0 hX dX4_next_0 rfl rfl ?_
  refine v_get (C := RX4) (T := TX4) (N := 5) (ci := 4) (v := .int (σ 46 3)) 46 3 hX dX4_next_1 mw_219 rfl inlX4 rfl (lt_b rfl) (lt_b rfl) rfl rfl ?_
  refine v_aload_n 0 0 hX dX4_next_4 rfl rfl ?_
  refine v_get (C := RX4) (T := TX4) (N := 5) (ci := 4) (v := .int (σ 46 2)) 46 2 hX dX4_next_5 mw_217 rfl inlX4 rfl (lt_b rfl) (lt_b rfl) rfl rfl ?_
  refine v_icmp_ge 23 hX dX4_next_8 (by decide) (fun c => ?_) (fun c => ?_)
  · have hf := opt_t c hf
    refine v_iconst (-1) hX dX4_next_23 (by decide) ?_
    obtain rfl := Option.some.inj hf
    exact v_iret (r := (-1)) hX dX4_next_24 rfl
  · have hf := opt_f c hf
    refine v_aload_n 0 0 hX dX4_next_11 rfl rfl ?_
    refine v_get (C := RX4) (T := TX4) (N := 5) (ci := 4) (v := .ref (ad 47)) 46 0 hX dX4_next_12 mw_214 rfl inlX4 rfl (lt_b rfl) (lt_b rfl) rfl rfl ?_
    refine v_aload_n 0 0 hX dX4_next_15 rfl rfl ?_
    refine v_get (C := RX4) (T := TX4) (N := 5) (ci := 4) (v := .int (σ 46 3)) 46 3 hX dX4_next_16 mw_219 rfl inlX4 rfl (lt_b rfl) (lt_b rfl) rfl rfl ?_
    obtain ⟨hi1, hf⟩ := gd_some hf
    refine v_ald (v := σ 47 ((σ 46 3).toNatClampNeg)) 47 hX dX4_next_19 (lt_b rfl) ((fun _ => rfl) _) hi1 rfl ?_
    refine v_goto 24 hX dX4_next_20 (by decide) ?_
    obtain rfl := Option.some.inj hf
    exact v_iret (r := σ 47 ((σ 46 3).toNatClampNeg)) hX dX4_next_24 rfl
set_option maxHeartbeats 4000000 in
set_option maxRecDepth 100000 in
theorem c_X4_isFigure {l : Launch} {D : va_G} {cs : ClassId × ClassId × ClassId} {ad : Nat → Nat} {ts : Nat × Nat × Nat} (σ : Mem)  (x1 : Int32) {z : Int32} (hf : f_X4_isFigure σ x1 = some z) : CtI l (xW D cs ad ts) 0 yX4_isFigure cX4_isFigure 2 (some .boolean) [.ref (ad 46), .int x1] σ z σ := by
  refine ct_I RX4 [(0, .ref (ad 46)), (1, .int x1)] (by decide +kernel) rfl rfl (Nat.le_of_ble_eq_true rfl) ?_
  intro P M hl0 hX
  unfold f_X4_isFigure at hf
  refine v_iload_n 1 1 hX dX4_isFigure_0 rfl rfl ?_
  refine v_aload_n 0 0 hX dX4_isFigure_1 rfl rfl ?_
  refine v_get (C := RX4) (T := TX4) (N := 5) (ci := 4) (v := .int (σ 46 2)) 46 2 hX dX4_isFigure_2 mw_217 rfl inlX4 rfl (lt_b rfl) (lt_b rfl) rfl rfl ?_
  refine v_icmp_ge 34 hX dX4_isFigure_5 (by decide) (fun c => ?_) (fun c => ?_)
  · have hf := opt_t c hf
    refine v_iconst 0 hX dX4_isFigure_34 (by decide) ?_
    obtain rfl := Option.some.inj hf
    exact v_iret (r := 0) hX dX4_isFigure_35 rfl
  · have hf := opt_f c hf
    refine v_aload_n 0 0 hX dX4_isFigure_8 rfl rfl ?_
    refine v_get (C := RX4) (T := TX4) (N := 5) (ci := 4) (v := .ref (ad 47)) 46 0 hX dX4_isFigure_9 mw_214 rfl inlX4 rfl (lt_b rfl) (lt_b rfl) rfl rfl ?_
    refine v_iload_n 1 1 hX dX4_isFigure_12 rfl rfl ?_
    obtain ⟨hi1, hf⟩ := gd_some hf
    refine v_ald (v := σ 47 x1.toNatClampNeg) 47 hX dX4_isFigure_13 (lt_b rfl) ((fun _ => rfl) _) hi1 rfl ?_
    refine v_bipush 48 hX dX4_isFigure_14 (by decide) ?_
    refine v_icmp_lt 34 hX dX4_isFigure_16 (by decide) (fun c => ?_) (fun c => ?_)
    · have hf := opt_t c hf
      refine v_iconst 0 hX dX4_isFigure_34 (by decide) ?_
      obtain rfl := Option.some.inj hf
      exact v_iret (r := 0) hX dX4_isFigure_35 rfl
    · have hf := opt_f c hf
      refine v_aload_n 0 0 hX dX4_isFigure_19 rfl rfl ?_
      refine v_get (C := RX4) (T := TX4) (N := 5) (ci := 4) (v := .ref (ad 47)) 46 0 hX dX4_isFigure_20 mw_214 rfl inlX4 rfl (lt_b rfl) (lt_b rfl) rfl rfl ?_
      refine v_iload_n 1 1 hX dX4_isFigure_23 rfl rfl ?_
      obtain ⟨hi2, hf⟩ := gd_some hf
      refine v_ald (v := σ 47 x1.toNatClampNeg) 47 hX dX4_isFigure_24 (lt_b rfl) ((fun _ => rfl) _) hi2 rfl ?_
      refine v_bipush 57 hX dX4_isFigure_25 (by decide) ?_
      refine v_icmp_gt 34 hX dX4_isFigure_27 (by decide) (fun c => ?_) (fun c => ?_)
      · have hf := opt_t c hf
        refine v_iconst 0 hX dX4_isFigure_34 (by decide) ?_
        obtain rfl := Option.some.inj hf
        exact v_iret (r := 0) hX dX4_isFigure_35 rfl
      · have hf := opt_f c hf
        refine v_iconst 1 hX dX4_isFigure_30 (by decide) ?_
        refine v_goto 35 hX dX4_isFigure_31 (by decide) ?_
        obtain rfl := Option.some.inj hf
        exact v_iret (r := 1) hX dX4_isFigure_35 rfl
set_option maxHeartbeats 4000000 in
set_option maxRecDepth 100000 in
theorem c_X4_kindOfSort {l : Launch} {D : va_G} {cs : ClassId × ClassId × ClassId} {ad : Nat → Nat} {ts : Nat × Nat × Nat} (σ : Mem)   (x0 : Int32) {z : Int32} (hf : f_X4_kindOfSort x0 = some z) : CtI l (xW D cs ad ts) 0 yX4_kindOfSort cX4_kindOfSort 1 (some .int) [.int x0] σ z σ := by
  refine ct_I RX4 [(0, .int x0)] (by decide +kernel) rfl rfl (Nat.le_of_ble_eq_true rfl) ?_
  intro P M hl0 hX
  unfold f_X4_kindOfSort at hf
  refine v_iload_n 0 0 hX dX4_kindOfSort_0 rfl rfl ?_
  by_cases cs1 : x0 = 104
  · have hf := opt_t cs1 hf
    refine v_tableIn 69 70 hX dX4_kindOfSort_1 (by rw [cs1]; decide) (by rw [cs1]; decide) (by rw [cs1]; decide) (by decide) ?_
    refine v_iconst 4 hX dX4_kindOfSort_70 (by decide) ?_
    obtain rfl := Option.some.inj hf
    exact v_iret (r := 4) hX dX4_kindOfSort_71 rfl
  have hf := opt_f cs1 hf
  by_cases cs2 : x0 = 105
  · have hf := opt_t cs2 hf
    refine v_tableIn 73 74 hX dX4_kindOfSort_1 (by rw [cs2]; decide) (by rw [cs2]; decide) (by rw [cs2]; decide) (by decide) ?_
    refine v_iconst 0 hX dX4_kindOfSort_74 (by decide) ?_
    obtain rfl := Option.some.inj hf
    exact v_iret (r := 0) hX dX4_kindOfSort_75 rfl
  have hf := opt_f cs2 hf
  by_cases cs3 : x0 = 106
  · have hf := opt_t cs3 hf
    refine v_tableIn 73 74 hX dX4_kindOfSort_1 (by rw [cs3]; decide) (by rw [cs3]; decide) (by rw [cs3]; decide) (by decide) ?_
    refine v_iconst 0 hX dX4_kindOfSort_74 (by decide) ?_
    obtain rfl := Option.some.inj hf
    exact v_iret (r := 0) hX dX4_kindOfSort_75 rfl
  have hf := opt_f cs3 hf
  by_cases cs4 : x0 = 107
  · have hf := opt_t cs4 hf
    refine v_tableIn 73 74 hX dX4_kindOfSort_1 (by rw [cs4]; decide) (by rw [cs4]; decide) (by rw [cs4]; decide) (by decide) ?_
    refine v_iconst 0 hX dX4_kindOfSort_74 (by decide) ?_
    obtain rfl := Option.some.inj hf
    exact v_iret (r := 0) hX dX4_kindOfSort_75 rfl
  have hf := opt_f cs4 hf
  by_cases cs5 : x0 = 108
  · have hf := opt_t cs5 hf
    refine v_tableIn 71 72 hX dX4_kindOfSort_1 (by rw [cs5]; decide) (by rw [cs5]; decide) (by rw [cs5]; decide) (by decide) ?_
    refine v_iconst 5 hX dX4_kindOfSort_72 (by decide) ?_
    obtain rfl := Option.some.inj hf
    exact v_iret (r := 5) hX dX4_kindOfSort_73 rfl
  have hf := opt_f cs5 hf
  by_cases cs6 : x0 = 109
  · have hf := opt_t cs6 hf
    refine v_tableIn 73 74 hX dX4_kindOfSort_1 (by rw [cs6]; decide) (by rw [cs6]; decide) (by rw [cs6]; decide) (by decide) ?_
    refine v_iconst 0 hX dX4_kindOfSort_74 (by decide) ?_
    obtain rfl := Option.some.inj hf
    exact v_iret (r := 0) hX dX4_kindOfSort_75 rfl
  have hf := opt_f cs6 hf
  by_cases cs7 : x0 = 110
  · have hf := opt_t cs7 hf
    refine v_tableIn 73 74 hX dX4_kindOfSort_1 (by rw [cs7]; decide) (by rw [cs7]; decide) (by rw [cs7]; decide) (by decide) ?_
    refine v_iconst 0 hX dX4_kindOfSort_74 (by decide) ?_
    obtain rfl := Option.some.inj hf
    exact v_iret (r := 0) hX dX4_kindOfSort_75 rfl
  have hf := opt_f cs7 hf
  by_cases cs8 : x0 = 111
  · have hf := opt_t cs8 hf
    refine v_tableIn 73 74 hX dX4_kindOfSort_1 (by rw [cs8]; decide) (by rw [cs8]; decide) (by rw [cs8]; decide) (by decide) ?_
    refine v_iconst 0 hX dX4_kindOfSort_74 (by decide) ?_
    obtain rfl := Option.some.inj hf
    exact v_iret (r := 0) hX dX4_kindOfSort_75 rfl
  have hf := opt_f cs8 hf
  by_cases cs9 : x0 = 112
  · have hf := opt_t cs9 hf
    refine v_tableIn 65 66 hX dX4_kindOfSort_1 (by rw [cs9]; decide) (by rw [cs9]; decide) (by rw [cs9]; decide) (by decide) ?_
    refine v_iconst 2 hX dX4_kindOfSort_66 (by decide) ?_
    obtain rfl := Option.some.inj hf
    exact v_iret (r := 2) hX dX4_kindOfSort_67 rfl
  have hf := opt_f cs9 hf
  by_cases cs10 : x0 = 113
  · have hf := opt_t cs10 hf
    refine v_tableIn 73 74 hX dX4_kindOfSort_1 (by rw [cs10]; decide) (by rw [cs10]; decide) (by rw [cs10]; decide) (by decide) ?_
    refine v_iconst 0 hX dX4_kindOfSort_74 (by decide) ?_
    obtain rfl := Option.some.inj hf
    exact v_iret (r := 0) hX dX4_kindOfSort_75 rfl
  have hf := opt_f cs10 hf
  by_cases cs11 : x0 = 114
  · have hf := opt_t cs11 hf
    refine v_tableIn 67 68 hX dX4_kindOfSort_1 (by rw [cs11]; decide) (by rw [cs11]; decide) (by rw [cs11]; decide) (by decide) ?_
    refine v_iconst 3 hX dX4_kindOfSort_68 (by decide) ?_
    obtain rfl := Option.some.inj hf
    exact v_iret (r := 3) hX dX4_kindOfSort_69 rfl
  have hf := opt_f cs11 hf
  by_cases cs12 : x0 = 115
  · have hf := opt_t cs12 hf
    refine v_tableIn 63 64 hX dX4_kindOfSort_1 (by rw [cs12]; decide) (by rw [cs12]; decide) (by rw [cs12]; decide) (by decide) ?_
    refine v_iconst 1 hX dX4_kindOfSort_64 (by decide) ?_
    obtain rfl := Option.some.inj hf
    exact v_iret (r := 1) hX dX4_kindOfSort_65 rfl
  have hf := opt_f cs12 hf
  refine v_tableOut 74 hX dX4_kindOfSort_1 (by have h0 := lv_neT cs1 (a := 104) (by decide); have h1 := lv_neT cs2 (a := 105) (by decide); have h2 := lv_neT cs3 (a := 106) (by decide); have h3 := lv_neT cs4 (a := 107) (by decide); have h4 := lv_neT cs5 (a := 108) (by decide); have h5 := lv_neT cs6 (a := 109) (by decide); have h6 := lv_neT cs7 (a := 110) (by decide); have h7 := lv_neT cs8 (a := 111) (by decide); have h8 := lv_neT cs9 (a := 112) (by decide); have h9 := lv_neT cs10 (a := 113) (by decide); have h10 := lv_neT cs11 (a := 114) (by decide); have h11 := lv_neT cs12 (a := 115) (by decide); omega) (by decide) ?_
  refine v_iconst 0 hX dX4_kindOfSort_74 (by decide) ?_
  obtain rfl := Option.some.inj hf
  exact v_iret (r := 0) hX dX4_kindOfSort_75 rfl
set_option maxHeartbeats 4000000 in
set_option maxRecDepth 100000 in
theorem c_X3_handInOrder {l : Launch} {D : va_G} {cs : ClassId × ClassId × ClassId} {ad : Nat → Nat} {ts : Nat × Nat × Nat} (σ : Mem)  (x2 : Int32) (x3 : Int32) {z : Int32} (hf : f_X3_handInOrder σ x2 x3 = some z) : CtI l (xW D cs ad ts) 0 yX3_handInOrder cX3_handInOrder 4 (some .int) [.ref (ad 62), .ref (ad 13), .int x2, .int x3] σ z σ := by
  refine ct_I RX3 [(0, .ref (ad 62)), (1, .ref (ad 13)), (2, .int x2), (3, .int x3)] (by decide +kernel) rfl rfl (Nat.le_of_ble_eq_true rfl) ?_
  intro P M hl0 hX
  unfold f_X3_handInOrder at hf
  refine v_iload_n 2 2 hX dX3_handInOrder_0 rfl rfl ?_
  refine v_iconst 2 hX dX3_handInOrder_1 (by decide) ?_
  refine v_aload_n 1 1 hX dX3_handInOrder_2 rfl rfl ?_
  refine v_get (C := RX1) (T := TX1) (N := 19) (ci := 1) (v := .int (σ 13 6)) 13 6 hX dX3_handInOrder_3 mw_126 rfl inlX1 rfl (lt_b rfl) (lt_b rfl) rfl rfl ?_
  refine v_iconst 1 hX dX3_handInOrder_6 (by decide) ?_
  refine v_isub hX dX3_handInOrder_7 ?_
  refine v_iload_n 3 3 hX dX3_handInOrder_8 rfl rfl ?_
  refine v_isub hX dX3_handInOrder_9 ?_
  refine v_imul hX dX3_handInOrder_10 ?_
  refine v_ishr hX dX3_handInOrder_11 ?_
  refine v_iconst 3 hX dX3_handInOrder_12 (by decide) ?_
  refine v_iand hX dX3_handInOrder_13 ?_
  obtain rfl := Option.some.inj hf
  exact v_iret (r := (x2 >>> ((2 * (((σ 13 6) - 1) - x3)) &&& 31)) &&& 3) hX dX3_handInOrder_14 rfl
