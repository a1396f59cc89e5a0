def xCell (cs : ClassId × ClassId × ClassId) (ad : Nat → Nat) (q : Nat) (f : Nat → Int32) : va_E := match q with
  | 0 => .inr (6, [.ref (ad 1), .ref (ad 13), .ref (ad 24), .ref (ad 35), .ref (ad 46), .ref (ad 59), .ref (ad 62), .ref (ad 66), .int (f 8), .int (f 9)])
  | 1 => .inr (5, [.ref (ad 2), .ref (ad 3), .ref (ad 4)])
  | 2 => .inl (cs.1, 8, .inl f)
  | 3 => .inl (cs.1, 8, .inl f)
  | 4 => .inl (cs.2.1, 8, .inr (.inr (.inr (.inr (fun i => if i < 8 then some (ad (5 + i)) else none)))))
  | 5 => .inl (cs.1, 40, .inl f)
  | 6 => .inl (cs.1, 40, .inl f)
  | 7 => .inl (cs.1, 40, .inl f)
  | 8 => .inl (cs.1, 40, .inl f)
  | 9 => .inl (cs.1, 40, .inl f)
  | 10 => .inl (cs.1, 40, .inl f)
  | 11 => .inl (cs.1, 40, .inl f)
  | 12 => .inl (cs.1, 40, .inl f)
  | 13 => .inr (1, [.int (f 0), .int (f 1), .int (f 2), .int (f 3), .int (f 4), .int (f 5), .int (f 6), .int (f 7), .int (f 8), .ref (ad 14), .ref (ad 15), .ref (ad 16), .ref (ad 17), .ref (ad 18), .ref (ad 19), .ref (ad 20), .ref (ad 21), .ref (ad 22), .ref (ad 23)])
  | 14 => .inl (cs.1, 4, .inl f)
  | 15 => .inl (cs.1, 4, .inl f)
  | 16 => .inl (cs.1, 10, .inl f)
  | 17 => .inl (cs.1, 10, .inl f)
  | 18 => .inl (cs.1, 10, .inl f)
  | 19 => .inl (cs.1, 10, .inl f)
  | 20 => .inl (cs.1, 5, .inl f)
  | 21 => .inl (cs.1, 5, .inl f)
  | 22 => .inl (cs.1, 5, .inl f)
  | 23 => .inl (cs.1, 5, .inl f)
  | 24 => .inr (1, [.int (f 0), .int (f 1), .int (f 2), .int (f 3), .int (f 4), .int (f 5), .int (f 6), .int (f 7), .int (f 8), .ref (ad 25), .ref (ad 26), .ref (ad 27), .ref (ad 28), .ref (ad 29), .ref (ad 30), .ref (ad 31), .ref (ad 32), .ref (ad 33), .ref (ad 34)])
  | 25 => .inl (cs.1, 4, .inl f)
  | 26 => .inl (cs.1, 4, .inl f)
  | 27 => .inl (cs.1, 10, .inl f)
  | 28 => .inl (cs.1, 10, .inl f)
  | 29 => .inl (cs.1, 10, .inl f)
  | 30 => .inl (cs.1, 10, .inl f)
  | 31 => .inl (cs.1, 5, .inl f)
  | 32 => .inl (cs.1, 5, .inl f)
  | 33 => .inl (cs.1, 5, .inl f)
  | 34 => .inl (cs.1, 5, .inl f)
  | 35 => .inr (1, [.int (f 0), .int (f 1), .int (f 2), .int (f 3), .int (f 4), .int (f 5), .int (f 6), .int (f 7), .int (f 8), .ref (ad 36), .ref (ad 37), .ref (ad 38), .ref (ad 39), .ref (ad 40), .ref (ad 41), .ref (ad 42), .ref (ad 43), .ref (ad 44), .ref (ad 45)])
  | 36 => .inl (cs.1, 4, .inl f)
  | 37 => .inl (cs.1, 4, .inl f)
  | 38 => .inl (cs.1, 10, .inl f)
  | 39 => .inl (cs.1, 10, .inl f)
  | 40 => .inl (cs.1, 10, .inl f)
  | 41 => .inl (cs.1, 10, .inl f)
  | 42 => .inl (cs.1, 5, .inl f)
  | 43 => .inl (cs.1, 5, .inl f)
  | 44 => .inl (cs.1, 5, .inl f)
  | 45 => .inl (cs.1, 5, .inl f)
  | 46 => .inr (4, [.ref (ad 47), .ref (ad 48), .int (f 2), .int (f 3), .int (f 4)])
  | 47 => .inl (cs.1, 140, .inl f)
  | 48 => .inr (1, [.int (f 0), .int (f 1), .int (f 2), .int (f 3), .int (f 4), .int (f 5), .int (f 6), .int (f 7), .int (f 8), .ref (ad 49), .ref (ad 50), .ref (ad 51), .ref (ad 52), .ref (ad 53), .ref (ad 54), .ref (ad 55), .ref (ad 56), .ref (ad 57), .ref (ad 58)])
  | 49 => .inl (cs.1, 4, .inl f)
  | 50 => .inl (cs.1, 4, .inl f)
  | 51 => .inl (cs.1, 10, .inl f)
  | 52 => .inl (cs.1, 10, .inl f)
  | 53 => .inl (cs.1, 10, .inl f)
  | 54 => .inl (cs.1, 10, .inl f)
  | 55 => .inl (cs.1, 5, .inl f)
  | 56 => .inl (cs.1, 5, .inl f)
  | 57 => .inl (cs.1, 5, .inl f)
  | 58 => .inl (cs.1, 5, .inl f)
  | 59 => .inr (0, [.ref (ad 60), .ref (ad 61), .int (f 2)])
  | 60 => .inl (cs.1, 24, .inl f)
  | 61 => .inl (cs.1, 24, .inl f)
  | 62 => .inr (3, [.ref (ad 63), .ref (ad 64), .ref (ad 65)])
  | 63 => .inl (cs.1, 16, .inl f)
  | 64 => .inl (cs.1, 91, .inl f)
  | 65 => .inl (cs.1, 91, .inl f)
  | 66 => .inr (2, [.ref (ad 67), .int (f 1)])
  | _ => .inl (cs.1, 16, .inl f)
def mCell (cs : ClassId × ClassId × ClassId) (ad : Nat → Nat) (q : Nat) (f : Nat → Int32) : va_E := match q with
  | 0 => .inr (7, [.ref (ad 1), .ref (ad 2), .ref (ad 3), .int (f 3), .ref (ad 4), .int (f 5), .int (f 6), .int (f 7), .ref (ad 5), .int (f 9), .ref (ad 6), .ref (ad 7), .ref (ad 8), .int (f 13), .ref (ad 9), .int (f 15), .int (f 16), .int (f 17), .int (f 18), .int (f 19), .ref (ad 10), .ref (ad 11)])
  | 1 => .inl (cs.1, 8, .inl f)
  | 2 => .inl (cs.1, 8, .inl f)
  | 3 => .inl (cs.1, 320, .inl f)
  | 4 => .inl (cs.1, 140, .inl f)
  | 5 => .inl (cs.1, 85, .inl f)
  | 6 => .inl (cs.1, 2040, .inl f)
  | 7 => .inl (cs.1, 170, .inl f)
  | 8 => .inl (cs.2.2, 2, .inl f)
  | 9 => .inl (cs.1, 16, .inl f)
  | 10 => .inl (cs.1, 85, .inl f)
  | _ => .inl (cs.1, 85, .inl f)
def tbA (j : Nat) : Int32 := match j with
  | 0 => -1
  | 1 => 0
  | 2 => 1
  | 3 => 1
  | 4 => 0
  | _ => 4
def tbS (j : Nat) : Int32 := match j with
  | 0 => 10
  | 1 => 11
  | 2 => 12
  | 3 => 0
  | 4 => 13
  | _ => 14
def tbM (j : Nat) : Int32 := match j with
  | 0 => 20
  | 1 => 21
  | 2 => 24
  | 3 => 22
  | 4 => 23
  | _ => 0
abbrev ts_tbA (ts : Nat × Nat × Nat) : Nat := ts.1
abbrev ts_tbS (ts : Nat × Nat × Nat) : Nat := ts.2.1
abbrev ts_tbM (ts : Nat × Nat × Nat) : Nat := ts.2.2
def exA (ad : Nat → Nat) : Nat → Prop := fun a => ∃ q, q < 68 ∧ a = ad q
/-- beside the class' cells: the nest's links, and the three tables -/
def exX (ad : Nat → Nat) (ts : Nat × Nat × Nat) (U : State) : Prop :=
  va_Nw (.methodLinkNest RX1 81 yX6_bitOf "InkTaken") U ∧ va_Nw (.methodLinkNest RX3 45 yX6_bitOf "InkTaken") U ∧
  (va_Z RX2 "ABOVE" "[I" (.ref ts.1) (exA ad) U U.heap ∧ va_T .int ts.1 6 (fun j => .int (tbA j)) (exA ad) U U.heap) ∧
  (va_Z RX2 "SIZE_BODIES" "[I" (.ref ts.2.1) (exA ad) U U.heap ∧ va_T .int ts.2.1 6 (fun j => .int (tbS j)) (exA ad) U U.heap) ∧
  (va_Z RX2 "MARK_BODIES" "[I" (.ref ts.2.2) (exA ad) U U.heap ∧ va_T .int ts.2.2 6 (fun j => .int (tbM j)) (exA ad) U U.heap)
abbrev xW (D : va_G) (cs : ClassId × ClassId × ClassId) (ad : Nat → Nat) (ts : Nat × Nat × Nat) : WD := (D, cs, 68, ad, xCell cs ad, exX ad ts)
abbrev mW (D : va_G) (cs : ClassId × ClassId × ClassId) (ad : Nat → Nat) : WD := (D, cs, 12, ad, mCell cs ad, fun _ => True)
theorem mW_ok (D : va_G) (cs : ClassId × ClassId × ClassId) (ad : Nat → Nat) : wExOk (mW D cs ad) := ⟨fun _ _ _ _ _ => trivial, fun _ _ _ _ _ _ _ _ => trivial⟩
theorem xW_ok (D : va_G) (cs : ClassId × ClassId × ClassId) (ad : Nat → Nat) (ts : Nat × Nat × Nat) : wExOk (xW D cs ad ts) := by
  refine ⟨fun U g mk a h => ?_, fun s U H locs h hS hU hW => ?_⟩
  · obtain ⟨h1, h2, ⟨h3, h4⟩, ⟨h5, h6⟩, ⟨h7, h8⟩⟩ := h
    have hv : U.vm.Alike (U.calling g mk a).vm := Vm.Alike.refl U.vm
    exact ⟨va_Nw.same rfl rfl h1, va_Nw.same rfl rfl h2, ⟨h3.moved hv, h4.moved hv⟩, ⟨h5.moved hv, h6.moved hv⟩, ⟨h7.moved hv, h8.moved hv⟩⟩
  · obtain ⟨h1, h2, ⟨h3, h4⟩, ⟨h5, h6⟩, ⟨h7, h8⟩⟩ := h
    have hk : ∀ a : Nat, a < s.heap.size → ¬ exA ad a → U.heap[a]? = s.heap[a]? := fun a h1 h2 => by rw [hU]; exact hS.2.1 a h1 h2
    have hv := hW.alike
    exact ⟨va_Nw.warmM hW h1, va_Nw.warmM hW h2, ⟨(h3.kept hk).moved hv, (h4.kept hk).moved hv⟩, ⟨(h5.kept hk).moved hv, (h6.kept hk).moved hv⟩, ⟨(h7.kept hk).moved hv, (h8.kept hk).moved hv⟩⟩
section XROWS
variable {P : PT} {M : MT} {D : va_G} {cs : ClassId × ClassId × ClassId} {ad : Nat → Nat} {ts : Nat × Nat × Nat} {nL : Nat} {Q : State → Prop} {pc : Nat} {lv : List (Nat × Value)} {st : List Value} {σ : Mem} {cc : ByteArray} {own : String} {ret : Option FieldType} {d : Nat}
theorem ex_RX1_81 (hX : VOk P M (xW D cs ad ts) nL cc own ret d) : va_Nw (.methodLinkNest RX1 81 yX6_bitOf "InkTaken") (p_s P) := by
  obtain ⟨hx, hb, hml, hown, hts, hr, hlo, hK, hI, hE, hEo, hR⟩ := hX
  exact hE.1
theorem ex_RX3_45 (hX : VOk P M (xW D cs ad ts) nL cc own ret d) : va_Nw (.methodLinkNest RX3 45 yX6_bitOf "InkTaken") (p_s P) := by
  obtain ⟨hx, hb, hml, hown, hts, hr, hlo, hK, hI, hE, hEo, hR⟩ := hX
  exact hE.2.1
theorem xr_lt {k : Nat} (h : k < 8) : 5 + k < 68 := by omega
theorem xr_cell {k : Nat} (h : k < 8) (f : Nat → Int32) : xCell cs ad (5 + k) f = .inl (cs.1, 40, .inl f) := by
  rcases (show k = 0 ∨ k = 1 ∨ k = 2 ∨ k = 3 ∨ k = 4 ∨ k = 5 ∨ k = 6 ∨ k = 7 by omega) with rfl | rfl | rfl | rfl | rfl | rfl | rfl | rfl <;> rfl
theorem v_aald {i : Int32} (hX : VOk P M (xW D cs ad ts) nL cc own ret d) (hd : decode cc pc = .ok (.aaload, 1)) (hin : inB i 8 = true) (k : V P M (xW D cs ad ts) nL Q (pc + 1) lv (.ref (ad (5 + i.toNatClampNeg)) :: st) σ) : V P M (xW D cs ad ts) nL Q pc lv (.int i :: .ref (ad 4) :: st) σ := v_aaldG (w := xW D cs ad ts) 4 5 8 hX hd (lt_b rfl) rfl hin k
theorem v_gets_tbA {index : Nat} (hX : VOk P M (xW D cs ad ts) nL cc own ret d) (hd : decode cc pc = .ok (.getstatic index, 3)) (hm : Cond.fieldLink own index "InkTaken$Asks" "ABOVE" "[I" ∈ wAll) (k : V P M (xW D cs ad ts) nL Q (pc + 3) lv (.ref (ts_tbA ts) :: st) σ) : V P M (xW D cs ad ts) nL Q pc lv st σ := fun H locs ls hl hP hS => by
  obtain ⟨hx, hb, hml, hown, hts, hr, hlo, hK, hI, hE, hEo, hR⟩ := hX
  exact va_gets (C := RX2) (A := exA ad) hx hb (hE.2.2.1).1 hS hown (hts _ hm) (fun x h => h) hd (k H locs ls hl hP hS)
theorem v_tab_tbA {i : Int32} (hX : VOk P M (xW D cs ad ts) nL cc own ret d) (hd : decode cc pc = .ok (.iaload, 1)) (hin : inB i 6 = true) (k : V P M (xW D cs ad ts) nL Q (pc + 1) lv (.int (tbA i.toNatClampNeg) :: st) σ) : V P M (xW D cs ad ts) nL Q pc lv (.int i :: .ref (ts_tbA ts) :: st) σ := fun H locs ls hl hP hS => by
  obtain ⟨hx, hb, hml, hown, hts, hr, hlo, hK, hI, hE, hEo, hR⟩ := hX
  exact va_ti (A := exA ad) hx hb (hE.2.2.1).2 hS (inB_in hin) rfl hd (k H locs ls hl hP hS)
theorem v_gets_tbS {index : Nat} (hX : VOk P M (xW D cs ad ts) nL cc own ret d) (hd : decode cc pc = .ok (.getstatic index, 3)) (hm : Cond.fieldLink own index "InkTaken$Asks" "SIZE_BODIES" "[I" ∈ wAll) (k : V P M (xW D cs ad ts) nL Q (pc + 3) lv (.ref (ts_tbS ts) :: st) σ) : V P M (xW D cs ad ts) nL Q pc lv st σ := fun H locs ls hl hP hS => by
  obtain ⟨hx, hb, hml, hown, hts, hr, hlo, hK, hI, hE, hEo, hR⟩ := hX
  exact va_gets (C := RX2) (A := exA ad) hx hb (hE.2.2.2.1).1 hS hown (hts _ hm) (fun x h => h) hd (k H locs ls hl hP hS)
theorem v_tab_tbS {i : Int32} (hX : VOk P M (xW D cs ad ts) nL cc own ret d) (hd : decode cc pc = .ok (.iaload, 1)) (hin : inB i 6 = true) (k : V P M (xW D cs ad ts) nL Q (pc + 1) lv (.int (tbS i.toNatClampNeg) :: st) σ) : V P M (xW D cs ad ts) nL Q pc lv (.int i :: .ref (ts_tbS ts) :: st) σ := fun H locs ls hl hP hS => by
  obtain ⟨hx, hb, hml, hown, hts, hr, hlo, hK, hI, hE, hEo, hR⟩ := hX
  exact va_ti (A := exA ad) hx hb (hE.2.2.2.1).2 hS (inB_in hin) rfl hd (k H locs ls hl hP hS)
theorem v_gets_tbM {index : Nat} (hX : VOk P M (xW D cs ad ts) nL cc own ret d) (hd : decode cc pc = .ok (.getstatic index, 3)) (hm : Cond.fieldLink own index "InkTaken$Asks" "MARK_BODIES" "[I" ∈ wAll) (k : V P M (xW D cs ad ts) nL Q (pc + 3) lv (.ref (ts_tbM ts) :: st) σ) : V P M (xW D cs ad ts) nL Q pc lv st σ := fun H locs ls hl hP hS => by
  obtain ⟨hx, hb, hml, hown, hts, hr, hlo, hK, hI, hE, hEo, hR⟩ := hX
  exact va_gets (C := RX2) (A := exA ad) hx hb (hE.2.2.2.2).1 hS hown (hts _ hm) (fun x h => h) hd (k H locs ls hl hP hS)
theorem v_tab_tbM {i : Int32} (hX : VOk P M (xW D cs ad ts) nL cc own ret d) (hd : decode cc pc = .ok (.iaload, 1)) (hin : inB i 6 = true) (k : V P M (xW D cs ad ts) nL Q (pc + 1) lv (.int (tbM i.toNatClampNeg) :: st) σ) : V P M (xW D cs ad ts) nL Q pc lv (.int i :: .ref (ts_tbM ts) :: st) σ := fun H locs ls hl hP hS => by
  obtain ⟨hx, hb, hml, hown, hts, hr, hlo, hK, hI, hE, hEo, hR⟩ := hX
  exact va_ti (A := exA ad) hx hb (hE.2.2.2.2).2 hS (inB_in hin) rfl hd (k H locs ls hl hP hS)
end XROWS
