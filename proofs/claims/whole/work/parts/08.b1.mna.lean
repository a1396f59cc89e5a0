/-! rows of rows: multianewarray of eight rows of forty ints, over the model's own words -/
theorem ao_spec {A : Array Value} {U : State} (h : (Cond.arrayOver (.array .int)).before A U = true) :
    ∃ a b k, U.vm.findClass (FieldType.array .int).toString = some a ∧ U.vm.classes[b]? = some k ∧ k.kind = .array a (.array .int) ∧ U.vm.findClass ("[" ++ (FieldType.array .int).toString) = some b := by
  unfold Cond.before Cond.holds at h
  simp only [Cond.value, beq_iff_eq, Option.bind_eq_some_iff, Option.map_eq_some_iff] at h
  obtain ⟨a, ha, b, hb, k, hk, hh⟩ := h
  obtain ⟨hlt, hp, -⟩ := Array.findIdx?_eq_some_iff_getElem.mp hb
  have hbk : U.vm.classes[b] = k := by
    have h1 : U.vm.classes[b]? = some U.vm.classes[b] := Array.getElem?_eq_getElem hlt
    exact Option.some.inj (h1.symm.trans hk)
  rw [hbk] at hp
  refine ⟨a, b, k, ha, hk, ?_⟩
  split at hh
  next a1 t1 hkk =>
    simp only [hkk, beq_iff_eq] at hp
    simp only [Bool.and_eq_true, decide_eq_true_eq] at hh
    exact ⟨by rw [hkk, hp, hh.1], hh.2⟩
  next => cases hh

/-- the outer row when i of its rows are laid -/
def mnO (b : ClassId) (h0 i : Nat) : Cell := arrV b 8 (fun j => va_rf (if j < i then some (h0 + 1 + j) else none))
/-- an inner row -/
def mnI (a : ClassId) : Cell := vp_cell a (40, .inl (fun _ => 0))
/-- the state when i rows are laid, all at once -/
def mnS (b a : ClassId) (T : State) (i : Nat) : State := { T with heap := T.heap.push (mnO b T.heap.size i) ++ Array.replicate i (mnI a), slotsUsed := T.slotsUsed + 8 + 40 * i }
theorem mnO_size (b : ClassId) (h0 i : Nat) : (mnO b h0 i).slots.size = 8 := by simp [mnO, arrV]
theorem mnI_size (a : ClassId) : (mnI a).slots.size = 40 := by
  unfold mnI
  rw [vp_cell_i]
  simp [arrV]
theorem mnO_new (b : ClassId) (h0 : Nat) : ({ cls := b, slots := Array.replicate 8 .null } : Cell) = mnO b h0 0 := by
  show ({ cls := b, slots := Array.replicate 8 .null, vm := .none } : Cell) = _
  rw [arrV_new]
  exact congrArg (arrV b 8) (funext fun j => by simp [va_rf])
theorem mnI_new (a : ClassId) : ({ cls := a, slots := Array.replicate 40 (.int 0) } : Cell) = mnI a := by
  show ({ cls := a, slots := Array.replicate 40 (.int 0), vm := .none } : Cell) = _
  rw [arrV_new]
  rfl
theorem mnO_set (b : ClassId) (h0 i : Nat) : (mnO b h0 i).setSlot i (.ref (h0 + 1 + i)) = mnO b h0 (i + 1) := by
  unfold mnO
  rw [arrV_store]
  refine congrArg (arrV b 8) (funext fun j => ?_)
  unfold updV
  by_cases e : j = i
  · rw [if_pos e, if_pos (by omega), e]
    rfl
  · rw [if_neg e]
    dsimp only
    by_cases h : j < i
    · rw [if_pos h, if_pos (by omega)]
    · rw [if_neg h, if_neg (by omega)]
theorem mnS_size (b a : ClassId) (T : State) (i : Nat) : (mnS b a T i).heap.size = T.heap.size + 1 + i := by simp [mnS]
theorem mnS_outer (b a : ClassId) (T : State) (i : Nat) : (mnS b a T i).heap[T.heap.size]? = some (mnO b T.heap.size i) := by
  simp [mnS, Array.getElem?_append]
theorem mnS_old (b a : ClassId) (T : State) (i : Nat) {x : Nat} (h : x < T.heap.size) : (mnS b a T i).heap[x]? = T.heap[x]? := by
  show (T.heap.push (mnO b T.heap.size i) ++ Array.replicate i (mnI a))[x]? = _
  rw [Array.getElem?_append, if_pos (by rw [Array.size_push]; omega), Array.getElem?_push, if_neg (by omega)]
theorem mnS_inner (b a : ClassId) (T : State) (i : Nat) {j : Nat} (h : j < i) : (mnS b a T i).heap[T.heap.size + 1 + j]? = some (mnI a) := by
  have h1 : ¬ T.heap.size + 1 + j < T.heap.size + 1 := by omega
  have h2 : T.heap.size + 1 + j - (T.heap.size + 1) < i := by omega
  simp [mnS, Array.getElem?_append, h1, h2, h]
theorem mnS_zero (b a : ClassId) (T : State) : T.pushCell (mnO b T.heap.size 0) = mnS b a T 0 := by
  unfold mnS State.pushCell
  rw [mnO_size]
  simp
theorem mnS_succ (b a : ClassId) (T : State) (i : Nat) : ((mnS b a T i).pushCell (mnI a)).setCell T.heap.size (mnO b T.heap.size (i + 1)) = mnS b a T (i + 1) := by
  have hh : ((T.heap.push (mnO b T.heap.size i) ++ Array.replicate i (mnI a)).push (mnI a)).setIfInBounds T.heap.size (mnO b T.heap.size (i + 1)) = T.heap.push (mnO b T.heap.size (i + 1)) ++ Array.replicate (i + 1) (mnI a) := by
    apply Array.ext_getElem?
    intro x
    simp only [Array.getElem?_setIfInBounds, Array.getElem?_push, Array.getElem?_append, Array.getElem?_replicate, Array.size_push, Array.size_append, Array.size_replicate]
    rcases Nat.lt_trichotomy x T.heap.size with h | h | h
    · rw [if_neg (by omega), if_neg (by omega), if_pos (by omega), if_neg (by omega), if_pos (by omega), if_neg (by omega)]
    · subst h
      rw [if_pos rfl, if_pos (by omega), if_pos (by omega), if_pos rfl]
    · rw [if_neg (by omega), if_neg (show ¬ x < T.heap.size + 1 by omega), if_neg (show ¬ x < T.heap.size + 1 by omega)]
      by_cases h3 : x = T.heap.size + 1 + i
      · rw [if_pos h3, if_pos (by omega)]
      · rw [if_neg h3]
        by_cases h4 : x - (T.heap.size + 1) < i
        · rw [if_pos h4, if_pos (by omega)]
        · rw [if_neg h4, if_neg (by omega)]
  show ({ T with heap := ((T.heap.push (mnO b T.heap.size i) ++ Array.replicate i (mnI a)).push (mnI a)).setIfInBounds T.heap.size (mnO b T.heap.size (i + 1)), slotsUsed := T.slotsUsed + 8 + 40 * i + (mnI a).slots.size } : State) = { T with heap := T.heap.push (mnO b T.heap.size (i + 1)) ++ Array.replicate (i + 1) (mnI a), slotsUsed := T.slotsUsed + 8 + 40 * (i + 1) }
  rw [hh, mnI_size, show T.slotsUsed + 8 + 40 * i + 40 = T.slotsUsed + 8 + 40 * (i + 1) by omega]
theorem mnS_top (b a : ClassId) (T : State) (f : JFrame) (i : Nat) : mnS b a (T.setTop f) i = (mnS b a T i).setTop f := rfl

section MNA
variable {p : Program} {l : Launch} {e : Env} {R : Room} {s : State} {m : MethodId} {args : Array Value} {below : List Frame} {meth : Method} {c : Code} {T : State} {locs : List Loc} {cells slots : Nat}
theorem mn_stand (X : Stand p l e R s m args below meth c T locs cells slots) (b a : ClassId) : ∀ i, Stand p l e R s m args below meth c (mnS b a T i) locs (cells + (1 + i)) (slots + (8 + 40 * i))
  | 0 => by
    have h := X.pushed (mnO b T.heap.size 0)
    rw [mnO_size, mnS_zero b a T] at h
    exact h
  | i + 1 => by
    have h := (mn_stand X b a i).pushed (mnI a)
    have hc : ((mnS b a T i).pushCell (mnI a)).heap[T.heap.size]? = some (mnO b T.heap.size i) := by
      have hlt : T.heap.size < (mnS b a T i).heap.size := by rw [mnS_size]; omega
      rw [State.heap_pushCell_of_lt (h := hlt)]
      exact mnS_outer b a T i
    have h2 := h.stored hc i (.ref (T.heap.size + 1 + i))
    rw [mnO_set, mnS_succ, mnI_size] at h2
    have h3 := h2.dropFresh (fun x hx => by
      rw [List.mem_singleton.mp hx]
      exact X.heapGrown)
    rw [show cells + (1 + i) + 1 = cells + (1 + (i + 1)) by omega, show slots + (8 + 40 * i) + 40 = slots + (8 + 40 * (i + 1)) by omega] at h3
    exact h3
end MNA

section MNW
variable {E : CtlPost} {e : Env} {d : Bool} {acts : List Action} {S : State} {a b ca : ClassId} {ka kb : Class}
/-- one inner row -/
theorem mn_row (hka : S.vm.classes[a]? = some ka) (ha : ka.kind = .array ca .int) (hl : 40 ≤ e.platform.arrayLengthLimit) (hh : 160 ≤ e.platform.maxHeapBytes) (h1 : S.heap.size + 1 ≤ e.platform.maxCells) (h2 : S.slotsUsed + 40 ≤ e.platform.maxSlots)
    {Q : Addr → Pre} (hq : ∀ acts', Q S.heap.size d acts' (S.pushCell (mnI a))) : wp (Jvm.Op.multianewarray.make a [40]) Q E e d acts S := by
  rw [Jvm.Op.multianewarray.make]
  simp only [wp_bind', W.ite, show ¬ ((40 : Int32) < 0) by decide, if_false, wp_pure', W.theClass, hka, ha, Option.some.injEq, exists_eq_left']
  refine W.newArray_of hka ha (Nat.not_lt.mpr hl) (Nat.not_lt.mpr hh) (by omega) h2 rfl (fun acts' => ?_)
  have h := hq acts'
  rw [← mnI_new] at h
  exact h
/-- all of it -/
theorem mn_make (hkb : S.vm.classes[b]? = some kb) (hb : kb.kind = .array a (.array .int)) (hka : S.vm.classes[a]? = some ka) (ha : ka.kind = .array ca .int) (hl : 40 ≤ e.platform.arrayLengthLimit) (hh : 160 ≤ e.platform.maxHeapBytes)
    (h1 : S.heap.size + 9 ≤ e.platform.maxCells) (h2 : S.slotsUsed + 328 ≤ e.platform.maxSlots) {Q : Addr → Pre} (hq : ∀ d' acts', Q S.heap.size d' acts' (mnS b a S 8)) : wp (Jvm.Op.multianewarray.make b [8, 40]) Q E e d acts S := by
  rw [Jvm.Op.multianewarray.make]
  simp only [wp_bind', W.ite, show ¬ ((8 : Int32) < 0) by decide, if_false, wp_pure', W.theClass, hkb, hb, Option.some.injEq, exists_eq_left']
  refine W.newArray_of hkb hb (by show ¬ 8 > _; omega) (by show ¬ 32 > _; omega) (by omega) (by show S.slotsUsed + 8 ≤ _; omega) rfl (fun acts1 => ?_)
  have e0 : ({ cls := b, slots := Array.replicate (8 : Int32).toNatClampNeg .null } : Cell) = mnO b S.heap.size 0 := mnO_new b S.heap.size
  rw [e0, mnS_zero b a S]
  simp only [show ((8 : Int32) == 0) = false by decide, Bool.false_eq_true, if_false, wp_pure', wp_bind']
  rw [Std.Legacy.Range.forIn_eq_forIn_range']
  show wp (forIn (List.range' 0 8 1) PUnit.unit _) _ E e d acts1 _
  refine wp_forIn_inv (fun rest s' => rest.length ≤ 8 ∧ rest = List.range' (8 - rest.length) rest.length ∧ s' = mnS b a S (8 - rest.length)) _ _ ⟨by decide, rfl, rfl⟩ ?_ ?_
  · intro x rest s' d' acts' Q' hI hnext
    obtain ⟨g1, g2, rfl⟩ := hI
    rw [List.length_cons] at g1 g2
    rw [List.range'_succ] at g2
    obtain ⟨hx, hr⟩ := List.cons.inj g2
    rw [List.length_cons, ← hx]
    have e1 : x + 1 = 8 - rest.length := by omega
    simp only [wp_bind']
    refine mn_row (S := mnS b a S x) hka ha hl hh (by rw [mnS_size]; omega) (by show S.slotsUsed + 8 + 40 * x + 40 ≤ _; omega) (fun acts2 => ?_)
    simp only [wp_bind', W.writeLoc, wp_pure']
    have hlt : S.heap.size < (mnS b a S x).heap.size := by rw [mnS_size]; omega
    refine ⟨mnO b S.heap.size x, by rw [State.heap_pushCell_of_lt (h := hlt)]; exact mnS_outer b a S x, fun hv => (by cases hv), by rw [mnO_size]; omega, ?_, ?_⟩
    · show S.fitsSlot b .none x _ = true
      simp [State.fitsSlot, State.slotType?, hkb, hb]
      rfl
    · rw [mnS_size, mnO_set, mnS_succ]
      exact hnext _ _ _ ⟨by omega, by rw [← hx, e1] at hr; exact hr, by rw [e1]⟩
  · intro s' d' acts' hI
    obtain ⟨-, -, rfl⟩ := hI
    exact hq _ _
end MNW

section MNJ
variable {p : Program} {l : Launch} {e : Env} {R : Room} {s : State} {m : MethodId} {args : Array Value} {below : List Frame} {meth : Method} {c : Code} {T : State} {locs : List Loc} {cells slots : Nat}
/-- the instruction: where the method stands, and where it goes on -/
theorem mn_step (X : Stand p l e R s m args below meth c T locs cells slots) (hexec : p.tables.exec = Jvm.exec) {own : String} {index : Nat} {a b : ClassId} (hown : s.vm.findClass own = some m.cls)
    (hcl : (Cond.classLink own index ("[" ++ (FieldType.array .int).toString)).before args s = true) (hO : (Cond.arrayOver (.array .int)).before args s = true) (hA : (Cond.arrayClass .int).before args s = true) (fa : s.vm.findClass ("[" ++ FieldType.int.toString) = some a) (fb : s.vm.findClass ("[" ++ (FieldType.array .int).toString) = some b)
    {pc : Nat} {ls : Array Slot} {st : List Value} (hd : decode c.code pc = .ok (.multianewarray index 2, 4)) (hn : cells + 9 ≤ R.cells) (hz : slots + 328 ≤ R.slots) :
    ∃ vm₁ : Vm, Stand p l e R s m args below meth c (mnS b a (T.setVm vm₁) 8) locs (cells + 9) (slots + 328) ∧
      ∀ t, Steps p.tables e below ((mnS b a (T.setVm vm₁) 8).setTop (F0 m (pc + 4) ls (.ref T.heap.size :: st))) t → Steps p.tables e below (T.setTop (F0 m pc ls (.int 40 :: .int 8 :: st))) t := by
  obtain ⟨a1, b1, kb, o1, o2, o3, o4⟩ := ao_spec hO
  obtain ⟨a2, ka, ca, q1, q2, q3⟩ := Cond.arrayClass_spec hA
  have ea1 : a1 = a := Option.some.inj (o1.symm.trans fa)
  have ea2 : a2 = a := Option.some.inj (q1.symm.trans fa)
  have eb1 : b1 = b := Option.some.inj (o4.symm.trans fb)
  subst ea1 eb1
  rw [ea2] at q2
  obtain ⟨b2, r1, r2⟩ := Cond.classLink_spec hown hcl e.platform (by rw [X.admits.platform])
  have eb2 : b2 = b1 := Option.some.inj (r1.symm.trans fb)
  rw [eb2] at r2
  obtain ⟨v1, v2, v3⟩ := State.classEntry (e := e) X.warmed r2
  generalize T.vm.noted m.cls index (.cls b1) = vm₁ at v1 v2 v3
  obtain ⟨kb', w1, w2⟩ := v2.alike.2.2 _ _ o2
  obtain ⟨ka', w3, w4⟩ := v2.alike.2.2 _ _ q2
  have X1 := mn_stand (X.noted v2) b1 a1 8
  obtain ⟨z1, z2⟩ := X.roomAbove hn hz
  have L1 : 40 ≤ e.platform.arrayLengthLimit := by rw [Launch.admits_arrayLengthLimit X.admits]; decide
  have L2 : 160 ≤ e.platform.maxHeapBytes := by rw [Launch.admits_maxHeapBytes X.admits]; decide
  refine ⟨vm₁, X1, fun t ht => ?_⟩
  jvm_step X.here [hexec, hd]
  simp only [Jvm.Op.multianewarray.sem, wp_bind', W.resolveClassAt_links (State.method?_setTop (F0 m pc ls (.int 40 :: .int 8 :: st)) X.here.top) v1]
  rw [W.popN, if_neg (by decide)]
  refine ⟨F0 m pc ls (.int 40 :: .int 8 :: st), State.topJava?_setTop' (s := T.setVm vm₁) _ X.here.top, [.int 8, .int 40], st, rfl, rfl, ?_⟩
  simp only [List.mapM_cons, List.mapM_nil, wp_bind', wp_pure']
  refine mn_make (S := ((T.setTop (F0 m pc ls (.int 40 :: .int 8 :: st))).setVm vm₁).setTop (F0 m pc ls st)) (kb := kb') (ka := ka') (a := a1) (b := b1) (ca := ca) w1 (by rw [w2]; exact o3) w3 (by rw [w4]; exact q3) L1 L2 z1 z2 (fun d' acts' => ?_)
  have eS : ((T.setTop (F0 m pc ls (.int 40 :: .int 8 :: st))).setVm vm₁).setTop (F0 m pc ls st) = (T.setVm vm₁).setTop (F0 m pc ls st) := by
    show ((T.setVm vm₁).setTop _).setTop _ = _
    rw [State.setTop_setTop]
  show wp _ _ _ _ _ _ (mnS b1 a1 (((T.setTop (F0 m pc ls (.int 40 :: .int 8 :: st))).setVm vm₁).setTop (F0 m pc ls st)) 8)
  rw [eS, mnS_top]
  simp only [wp_bind', W.mark, W.pushRef, State.topJava?_setTop' _ X1.here.top, Option.some.injEq, exists_eq_left', State.setTop_setTop]
  intro acts
  simp [jvm, X1.here.top]
  exact ht
end MNJ
