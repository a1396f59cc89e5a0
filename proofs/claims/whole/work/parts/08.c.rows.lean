/-! constructors: the world grows -/
def AO2 (U : State) : Prop := (Cond.arrayOver (.array .int)).before #[] U = true
theorem AO2.use {A : Array Value} {U : State} (h : AO2 U) : (Cond.arrayOver (.array .int)).before A U = true := h
theorem AO2.of {A : Array Value} {U : State} (h : (Cond.arrayOver (.array .int)).before A U = true) : AO2 U := h
theorem AO2.moved {u U : State} (hvm : u.vm.Alike U.vm) (h : AO2 u) : AO2 U := by
  obtain ⟨comp0, c0, k0, g1, g2, g3, g4⟩ := ao_spec (A := #[]) h
  have f1 : U.vm.findClass (FieldType.array .int).toString = some comp0 := by rw [hvm.findClass]; exact g1
  have hb : U.vm.bare = u.vm.bare := by first | exact hvm.bare_eq | exact hvm.bare_eq.symm
  have hi : (U.vm.classes.findIdx? fun (x : Class) => match x.kind with | .array component _ => component == comp0 | _ => false) = (u.vm.classes.findIdx? fun (x : Class) => match x.kind with | .array component _ => component == comp0 | _ => false) :=
    ((va_idx_bare U.vm comp0).symm.trans (by rw [hb])).trans (va_idx_bare u.vm comp0)
  have h1 : ((u.vm.classes.findIdx? fun (x : Class) => match x.kind with | .array component _ => component == comp0 | _ => false).bind (fun c => (u.vm.classes[c]?).map fun (k : Class) => match k.kind with | .array _ ty => decide (ty = FieldType.array .int) && decide (u.vm.findClass ("[" ++ (FieldType.array .int).toString) = some c) | _ => false) == some true) = true := by
    have h0 := h
    unfold AO2 Cond.before Cond.holds at h0
    simp only [Cond.value] at h0
    rw [g1, Option.bind_some] at h0
    exact h0
  have h2 : ((U.vm.classes.findIdx? fun (x : Class) => match x.kind with | .array component _ => component == comp0 | _ => false).bind (fun c => (U.vm.classes[c]?).map fun (k : Class) => match k.kind with | .array _ ty => decide (ty = FieldType.array .int) && decide (U.vm.findClass ("[" ++ (FieldType.array .int).toString) = some c) | _ => false) == some true) = true := by
    cases hc : (u.vm.classes.findIdx? fun (x : Class) => match x.kind with | .array component _ => component == comp0 | _ => false) with
    | none => rw [hc] at h1; exact absurd (show ((none : Option Bool) == some true) = true from h1) (by decide)
    | some c =>
      rw [hc] at h1 hi
      rw [hi]
      rw [Option.bind_some] at h1 ⊢
      cases hk : u.vm.classes[c]? with
      | none => rw [hk] at h1; exact absurd (show ((none : Option Bool) == some true) = true from h1) (by decide)
      | some k =>
        obtain ⟨k', hk', he⟩ := hvm.2.2 _ _ hk
        have hkk : k'.kind = k.kind := by rw [he]
        rw [hk] at h1
        rw [hk', Option.map_some, hkk, hvm.findClass]
        exact h1
  unfold AO2 Cond.before Cond.holds
  simp only [Cond.value]
  rw [f1, Option.bind_some]
  exact h2

abbrev wTc (cs : ClassId × ClassId × ClassId) : List (ClassId × FieldType) := [(cs.1, .int), (cs.2.1, .array .int), (cs.2.2, .boolean)]
def CJ (P : PT) (M : MT) (D : va_G) (A : Nat → Prop) (nL : Nat) (Q : State → Prop) (pc : Nat) (lv : List (Nat × Value)) (st : List Value) (ws : va_W) (n z : Nat) : Prop :=
  ∀ (H : Heap) (locs : List Loc) (ls : Array Slot), lv_has ls nL lv → va_P D vwCl ws H → va_D A ws → va_S A (p_s P).heap H locs → W P.1 P.2.1 P.2.2.1 (p_R P) (p_s P) M.1 M.2.1 M.2.2.1 M.2.2.2.1 M.2.2.2.2 H locs n z Q (F0 M.1 pc ls st)
def COk (P : PT) (M : MT) (D : va_G) (cs : ClassId × ClassId × ClassId) (A : Nat → Prop) (nL : Nat) (cc : ByteArray) (own : String) : Prop :=
  P.1.tables.exec = Jvm.exec ∧ M.2.2.2.2.code = cc ∧ M.2.2.2.2.maxLocals = nL ∧ (p_s P).vm.findClass own = some M.1.cls ∧ (∀ c ∈ wAll, c.before M.2.1 (p_s P) = true) ∧ va_K D vwCl (wTc cs) (p_s P) ∧ (∀ q, (p_s P).heap.size ≤ q → A q)
abbrev zr : Nat → Int32 := fun _ => 0
section CROWS
variable {P : PT} {M : MT} {D : va_G} {cs : ClassId × ClassId × ClassId} {A : Nat → Prop} {nL : Nat} {Q : State → Prop} {pc : Nat} {lv : List (Nat × Value)} {st : List Value} {ws : va_W} {n z : Nat} {cc : ByteArray} {own : String}
theorem j_aload_n {f : Fin 4} (j i : Nat) {x : Nat} (hX : COk P M D cs A nL cc own) (hd : decode cc pc = .ok (.aload_n f, 1)) (hi : (f : Nat) = i) (hj : lv[j]? = some (i, .ref x)) (k : CJ P M D A nL Q (pc + 1) lv (.ref x :: st) ws n z) : CJ P M D A nL Q pc lv st ws n z := fun H locs ls hl hP hD hS => lv_aload_n hX.1 hX.2.1 hd hi (lv_at hl j hj) (k H locs ls hl hP hD hS)
theorem j_iload_n {f : Fin 4} (j i : Nat) {x : Int32} (hX : COk P M D cs A nL cc own) (hd : decode cc pc = .ok (.iload_n f, 1)) (hi : (f : Nat) = i) (hj : lv[j]? = some (i, .int x)) (k : CJ P M D A nL Q (pc + 1) lv (.int x :: st) ws n z) : CJ P M D A nL Q pc lv st ws n z := fun H locs ls hl hP hD hS => lv_iload_n hX.1 hX.2.1 hd hi (lv_at hl j hj) (k H locs ls hl hP hD hS)
theorem j_iconst {v0 : Int} (v : Int32) (hX : COk P M D cs A nL cc own) (hd : decode cc pc = .ok (.iconst v0, 1)) (hv : Int32.ofInt v0 = v) (k : CJ P M D A nL Q (pc + 1) lv (.int v :: st) ws n z) : CJ P M D A nL Q pc lv st ws n z := fun H locs ls hl hP hD hS => lv_iconst hX.1 hX.2.1 hd hv (k H locs ls hl hP hD hS)
theorem j_bipush {v0 : Int} (v : Int32) (hX : COk P M D cs A nL cc own) (hd : decode cc pc = .ok (.bipush v0, 2)) (hv : (Int8.ofInt v0).toInt32 = v) (k : CJ P M D A nL Q (pc + 2) lv (.int v :: st) ws n z) : CJ P M D A nL Q pc lv st ws n z := fun H locs ls hl hP hD hS => lv_bipush hX.1 hX.2.1 hd hv (k H locs ls hl hP hD hS)
theorem j_sipush {v0 : Int} (v : Int32) (hX : COk P M D cs A nL cc own) (hd : decode cc pc = .ok (.sipush v0, 3)) (hv : (Int16.ofInt v0).toInt32 = v) (k : CJ P M D A nL Q (pc + 3) lv (.int v :: st) ws n z) : CJ P M D A nL Q pc lv st ws n z := fun H locs ls hl hP hD hS => lv_sipush hX.1 hX.2.1 hd hv (k H locs ls hl hP hD hS)
theorem j_dup {a : Value} (hX : COk P M D cs A nL cc own) (hd : decode cc pc = .ok (.dup, 1)) (hc : a.category = 1) (k : CJ P M D A nL Q (pc + 1) lv (a :: a :: st) ws n z) : CJ P M D A nL Q pc lv (a :: st) ws n z := fun H locs ls hl hP hD hS => lv_dup hX.1 hX.2.1 hd hc (k H locs ls hl hP hD hS)
theorem j_iadd {x y : Int32} (hX : COk P M D cs A nL cc own) (hd : decode cc pc = .ok (.iadd, 1)) (k : CJ P M D A nL Q (pc + 1) lv (.int (x + y) :: st) ws n z) : CJ P M D A nL Q pc lv (.int y :: .int x :: st) ws n z := fun H locs ls hl hP hD hS => lv_iadd hX.1 hX.2.1 hd (k H locs ls hl hP hD hS)
theorem j_isub {x y : Int32} (hX : COk P M D cs A nL cc own) (hd : decode cc pc = .ok (.isub, 1)) (k : CJ P M D A nL Q (pc + 1) lv (.int (x - y) :: st) ws n z) : CJ P M D A nL Q pc lv (.int y :: .int x :: st) ws n z := fun H locs ls hl hP hD hS => lv_isub hX.1 hX.2.1 hd (k H locs ls hl hP hD hS)
theorem j_iand {x y : Int32} (hX : COk P M D cs A nL cc own) (hd : decode cc pc = .ok (.iand, 1)) (k : CJ P M D A nL Q (pc + 1) lv (.int (x &&& y) :: st) ws n z) : CJ P M D A nL Q pc lv (.int y :: .int x :: st) ws n z := fun H locs ls hl hP hD hS => lv_iand hX.1 hX.2.1 hd (k H locs ls hl hP hD hS)
theorem j_istore_n {f : Fin 4} (i : Nat) {x : Int32} (lv' : List (Nat × Value)) (hX : COk P M D cs A nL cc own) (hd : decode cc pc = .ok (.istore_n f, 1)) (hi : (f : Nat) = i) (hn : i < nL) (hv : (i, Value.int x) :: lv.filter (fun q => !(q.1 == i) && !(q.1 + 1 == i && q.2.category == 2)) = lv') (k : CJ P M D A nL Q (pc + 1) lv' st ws n z) : CJ P M D A nL Q pc lv (.int x :: st) ws n z := fun H locs ls hl hP hD hS => lv_istore_n hX.1 hX.2.1 hd hi hl hn hv (fun ls2 hl2 => k H locs ls2 hl2 hP hD hS)
theorem j_astore_n {f : Fin 4} (i : Nat) {x : Nat} (lv' : List (Nat × Value)) (hX : COk P M D cs A nL cc own) (hd : decode cc pc = .ok (.astore_n f, 1)) (hi : (f : Nat) = i) (hn : i < nL) (hv : (i, Value.ref x) :: lv.filter (fun q => !(q.1 == i) && !(q.1 + 1 == i && q.2.category == 2)) = lv') (k : CJ P M D A nL Q (pc + 1) lv' st ws n z) : CJ P M D A nL Q pc lv (.ref x :: st) ws n z := fun H locs ls hl hP hD hS => lv_astore_n hX.1 hX.2.1 hd hi hl hn hv (fun ls2 hl2 => k H locs ls2 hl2 hP hD hS)
theorem j_iinc {i : Nat} {v0 : Int} {x : Int32} (j : Nat) (v : Int32) (lv' : List (Nat × Value)) (hX : COk P M D cs A nL cc own) (hd : decode cc pc = .ok (.iinc i v0, 3)) (hj : lv[j]? = some (i, .int x)) (hv : x + Int32.ofInt v0 = v) (hn : i < nL) (hl' : (i, Value.int v) :: lv.filter (fun q => !(q.1 == i) && !(q.1 + 1 == i && q.2.category == 2)) = lv') (k : CJ P M D A nL Q (pc + 3) lv' st ws n z) : CJ P M D A nL Q pc lv st ws n z := fun H locs ls hl hP hD hS => lv_iinc hX.1 hX.2.1 hd hl hj hv hn hl' (fun ls2 hl2 => k H locs ls2 hl2 hP hD hS)
theorem j_goto {off : Int} (tgt : Nat) (hX : COk P M D cs A nL cc own) (hd : decode cc pc = .ok (.goto off, 3)) (ht : (pc : Int) + off = (tgt : Int)) (k : CJ P M D A nL Q tgt lv st ws n z) : CJ P M D A nL Q pc lv st ws n z := fun H locs ls hl hP hD hS => lv_goto hX.1 hX.2.1 hd ht (k H locs ls hl hP hD hS)
theorem j_icmp_ge {x y : Int32} {off : Int} (tgt : Nat) (hX : COk P M D cs A nL cc own) (hd : decode cc pc = .ok (.if_icmp .ge off, 3)) (ht : (pc : Int) + off = (tgt : Int)) (kt : y ≤ x → CJ P M D A nL Q tgt lv st ws n z) (kf : ¬ y ≤ x → CJ P M D A nL Q (pc + 3) lv st ws n z) : CJ P M D A nL Q pc lv (.int y :: .int x :: st) ws n z := fun H locs ls hl hP hD hS => lv_icmp_ge hX.1 hX.2.1 hd ht (fun h => kt h H locs ls hl hP hD hS) (fun h => kf h H locs ls hl hP hD hS)
theorem j_icmp_gt {x y : Int32} {off : Int} (tgt : Nat) (hX : COk P M D cs A nL cc own) (hd : decode cc pc = .ok (.if_icmp .gt off, 3)) (ht : (pc : Int) + off = (tgt : Int)) (kt : y < x → CJ P M D A nL Q tgt lv st ws n z) (kf : ¬ y < x → CJ P M D A nL Q (pc + 3) lv st ws n z) : CJ P M D A nL Q pc lv (.int y :: .int x :: st) ws n z := fun H locs ls hl hP hD hS => lv_icmp_gt hX.1 hX.2.1 hd ht (fun h => kt h H locs ls hl hP hD hS) (fun h => kf h H locs ls hl hP hD hS)
theorem j_icmp_eq {x y : Int32} {off : Int} (tgt : Nat) (hX : COk P M D cs A nL cc own) (hd : decode cc pc = .ok (.if_icmp .eq off, 3)) (ht : (pc : Int) + off = (tgt : Int)) (kt : x = y → CJ P M D A nL Q tgt lv st ws n z) (kf : ¬ x = y → CJ P M D A nL Q (pc + 3) lv st ws n z) : CJ P M D A nL Q pc lv (.int y :: .int x :: st) ws n z := fun H locs ls hl hP hD hS => lv_icmp_eq hX.1 hX.2.1 hd ht (fun h => kt h H locs ls hl hP hD hS) (fun h => kf h H locs ls hl hP hD hS)
theorem j_tableIn {dflt lo hi : Int} {offs : Array Int} {len : Nat} {x : Int32} (off : Int) (tgt : Nat) (hX : COk P M D cs A nL cc own) (hd : decode cc pc = .ok (.tableswitch dflt lo hi offs, len)) (h1 : ¬ x.toInt < lo) (h2 : ¬ hi < x.toInt) (ho : offs[(x.toInt - lo).toNat]? = some off) (ht : (pc : Int) + off = (tgt : Int)) (k : CJ P M D A nL Q tgt lv st ws n z) : CJ P M D A nL Q pc lv (.int x :: st) ws n z := fun H locs ls hl hP hD hS => lv_tableIn hX.1 hX.2.1 hd h1 h2 ho ht (k H locs ls hl hP hD hS)
theorem j_tableOut {dflt lo hi : Int} {offs : Array Int} {len : Nat} {x : Int32} (tgt : Nat) (hX : COk P M D cs A nL cc own) (hd : decode cc pc = .ok (.tableswitch dflt lo hi offs, len)) (h : x.toInt < lo ∨ hi < x.toInt) (ht : (pc : Int) + dflt = (tgt : Int)) (k : CJ P M D A nL Q tgt lv st ws n z) : CJ P M D A nL Q pc lv (.int x :: st) ws n z := fun H locs ls hl hP hD hS => lv_tableOut hX.1 hX.2.1 hd h ht (k H locs ls hl hP hD hS)
theorem j_objInit {idx : Nat} {a : Nat} (hX : COk P M D cs A nL cc own) (hd : decode cc pc = .ok (.invokespecial idx, 3)) (hm0 : Cond.methodLink own idx objectInit ∈ wAll) (hm1 : Cond.instanceMethod objectInit ∈ wAll) (hm2 : Cond.code objectInit ⟨#[0xb1]⟩ 1 none ∈ wAll) (hR : 1 ≤ (p_R P).frames ∧ 12 ≤ (p_R P).locals) (k : CJ P M D A nL Q (pc + 3) lv [] ws n z) : CJ P M D A nL Q pc lv [.ref a] ws n z := fun H locs ls hl hP hD hS =>
  W.objInit hX.1 hX.2.1 hX.2.2.2.1 (hX.2.2.2.2.1 _ hm0) (hX.2.2.2.2.1 _ hm1) (hX.2.2.2.2.1 _ hm2) (g := F0 M.1 pc ls [.ref a]) (a := a) (rest := []) rfl (by rw [hX.2.2.1]; exact hl.1) rfl hd hR.1 hR.2 (k H locs ls hl hP hD hS)
theorem j_new {C : String} {T : u_T} {N ci index : Nat} {fs : List Value} (ty : Nat → FieldType) (hX : COk P M D cs A nL cc own) (hd : decode cc pc = .ok (.new index, 3)) (hcl : Cond.classLink own index C ∈ wAll) (hinst : Cond.instantiable C N ∈ wAll) (hini : Cond.initialized C ∈ wAll) (hin : ∀ c ∈ u_ws C T N, c ∈ wAll) (hty : ∀ k, k < N → parseFieldDescriptor (T k).2.2.1 = some (ty k)) (hc : vwCl[ci]? = some (C, T, N)) (hfs : ∀ j, j < N → defaultValue (ty j) = vp_V fs j) (hn : n + 1 ≤ (p_R P).cells) (hz : z + N ≤ (p_R P).slots) (k : ∀ q, CJ P M D A nL Q (pc + 3) lv (.ref q :: st) (ws ++ [(q, .inr (ci, fs))]) (n + 1) (z + N)) : CJ P M D A nL Q pc lv st ws n z := fun H locs ls hl hP hD hS => by
  obtain ⟨hx, hb, hml, hown, hts, hK, hA⟩ := hX
  exact va_new (D := D) (cl := vwCl) (A := A) hx hb hts hin ty hty hown (hts _ hcl) (hts _ hinst) (hts _ hini) hK hP hD hS hA hc hfs hn hz hd (fun q H1 hP1 hD1 hS1 => k q H1 locs ls hl hP1 hD1 hS1)
theorem j_newi {x : Int32} {N : Nat} (hX : COk P M D cs A nL cc own) (hd : decode cc pc = .ok (.newarray .int, 2)) (hw : Cond.arrayClass .int ∈ wAll) (hx0 : ¬ x < 0) (hN : x.toNatClampNeg = N) (hby : N * 4 ≤ 536870912) (hn : n + 1 ≤ (p_R P).cells) (hz : z + N ≤ (p_R P).slots) (k : ∀ q, CJ P M D A nL Q (pc + 2) lv (.ref q :: st) (ws ++ [(q, .inl (cs.1, N, .inl zr))]) (n + 1) (z + N)) : CJ P M D A nL Q pc lv (.int x :: st) ws n z := fun H locs ls hl hP hD hS => by
  obtain ⟨hx, hb, hml, hown, hts, hK, hA⟩ := hX
  refine va_newa (D := D) (cl := vwCl) (A := A) (atype := .int) (ty := .int) (a0 := (N, .inl zr)) hx hb (hts _ hw) rfl hK hP hD hS hA (fun cA => rfl) hx0 hN hby hn hz hd (fun q cA H1 hK1 hP1 hD1 hS1 => ?_)
  have e : cA = cs.1 := by
    have h1 := (hK1.2 3 (cA, .int) rfl).2
    have h2 := (hK.2 0 (cs.1, .int) rfl).2
    exact Option.some.inj (h1.symm.trans h2)
  subst e
  exact k q H1 locs ls hl hP1 hD1 hS1
theorem j_newz {x : Int32} {N : Nat} (hX : COk P M D cs A nL cc own) (hd : decode cc pc = .ok (.newarray .boolean, 2)) (hw : Cond.arrayClass .boolean ∈ wAll) (hx0 : ¬ x < 0) (hN : x.toNatClampNeg = N) (hby : N * componentBytes .boolean ≤ 536870912) (hn : n + 1 ≤ (p_R P).cells) (hz : z + N ≤ (p_R P).slots) (k : ∀ q, CJ P M D A nL Q (pc + 2) lv (.ref q :: st) (ws ++ [(q, .inl (cs.2.2, N, .inl zr))]) (n + 1) (z + N)) : CJ P M D A nL Q pc lv (.int x :: st) ws n z := fun H locs ls hl hP hD hS => by
  obtain ⟨hx, hb, hml, hown, hts, hK, hA⟩ := hX
  refine va_newa (D := D) (cl := vwCl) (A := A) (atype := .boolean) (ty := .boolean) (a0 := (N, .inl zr)) hx hb (hts _ hw) rfl hK hP hD hS hA (fun cA => rfl) hx0 hN hby hn hz hd (fun q cA H1 hK1 hP1 hD1 hS1 => ?_)
  have e : cA = cs.2.2 := by
    have h1 := (hK1.2 3 (cA, .boolean) rfl).2
    have h2 := (hK.2 2 (cs.2.2, .boolean) rfl).2
    exact Option.some.inj (h1.symm.trans h2)
  subst e
  exact k q H1 locs ls hl hP1 hD1 hS1
theorem j_putF {C : String} {T : u_T} {N ci index : Nat} {ref : String} {fs : List Value} {v : Value} {ty : FieldType} {a : Nat} {X : va_W} (ty0 : Nat → FieldType) (k9 : Nat) (hX : COk P M D cs A nL cc own) (hd : decode cc pc = .ok (.putfield index, 3)) (hname : M.2.2.2.1.name = "<init>") (hm : Cond.fieldLink own index ref (T k9).2.1 (T k9).2.2.1 ∈ wAll) (href : (T k9).1 = ref) (hin : ∀ c ∈ u_ws C T N, c ∈ wAll) (hty : ∀ k, k < N → parseFieldDescriptor (T k).2.2.1 = some (ty0 k)) (hnm : ∀ a, a < N → ∀ b, b < N → a ≠ b → (T a).2.1 ≠ (T b).2.1) (hc : vwCl[ci]? = some (C, T, N)) (hk : k9 < N) (hfin : (T k9).2.2.2 = true) (hdecl : (T k9).1 = own) (hdsc : parseFieldDescriptor (T k9).2.2.1 = some ty) (hna : narrow ty v = v) (hfit : fits ty v = true) (hln : k9 < fs.length) (k : CJ P M D A nL Q (pc + 3) lv st ((a, .inr (ci, fs.set k9 v)) :: X) n z) : CJ P M D A nL Q pc lv (v :: .ref a :: st) ((a, .inr (ci, fs)) :: X) n z := fun H locs ls hl hP hD hS => by
  obtain ⟨hx, hb, hml, hown, hts, hK, hA⟩ := hX
  exact va_putF (D := D) (cl := vwCl) (A := A) (ci := ci) (v := v) (ty := ty) (C := C) (T := T) (N := N) hx hb hts hin ty0 hty hnm hown hK hP hD hS 0 rfl hc k9 hk (hts _ hm) (fun x9 h9 => by rw [← href]; exact h9) hfin hname hdecl hdsc hna hfit hln hd (fun H1 locs1 hP1 hD1 hS1 => k H1 locs1 ls hl hP1 hD1 hS1)
theorem j_get {C : String} {T : u_T} {N ci index : Nat} {ref : String} {fs : List Value} {v : Value} {a : Nat} (q k9 : Nat) (hX : COk P M D cs A nL cc own) (hd : decode cc pc = .ok (.getfield index, 3)) (hm : Cond.fieldLink own index ref (T k9).2.1 (T k9).2.2.1 ∈ wAll) (href : (T k9).1 = ref) (hin : ∀ c ∈ u_ws C T N, c ∈ wAll) (hc : vwCl[ci]? = some (C, T, N)) (hk : k9 < N) (hcell : ws[q]? = some (a, .inr (ci, fs))) (hv : fs[k9]? = some v) (k : CJ P M D A nL Q (pc + 3) lv (v :: st) ws n z) : CJ P M D A nL Q pc lv (.ref a :: st) ws n z := fun H locs ls hl hP hD hS => by
  obtain ⟨hx, hb, hml, hown, hts, hK, hA⟩ := hX
  exact va_get (D := D) (cl := vwCl) (ci := ci) (v := v) (C := C) (T := T) (N := N) hx hb hts hin hown hK hP q hcell hc k9 hk (hts _ hm) (fun x9 h9 => by rw [← href]; exact h9) hv hd (k H locs ls hl hP hD hS)
theorem j_iast {len : Nat} {i x : Int32} {a : Nat} {f : Nat → Int32} (q : Nat) (hX : COk P M D cs A nL cc own) (hd : decode cc pc = .ok (.iastore, 1)) (hcell : ws[q]? = some (a, .inl (cs.1, len, .inl f))) (hin : inB i len = true) (k : CJ P M D A nL Q (pc + 1) lv st (ws.set q (a, .inl (cs.1, len, .inl (upd f i.toNatClampNeg x)))) n z) : CJ P M D A nL Q pc lv (.int x :: .int i :: .ref a :: st) ws n z := fun H locs ls hl hP hD hS => by
  obtain ⟨hx, hb, hml, hown, hts, hK, hA⟩ := hX
  exact va_iast (D := D) (cl := vwCl) (A := A) hx hb hK hP hD hS q 0 hcell rfl (inB_in hin) hd (fun H1 locs1 hP1 hD1 hS1 => k H1 locs1 ls hl hP1 hD1 hS1)
end CROWS
