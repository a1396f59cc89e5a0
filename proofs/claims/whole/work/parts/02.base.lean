/-! the world as a memory: cell q lies at ad q and holds cf q (σ q); V: from this picture the machine comes to Q -/
abbrev Mem : Type := Nat → Nat → Int32
def mrow (σ : Mem) (q : Nat) (f : Nat → Int32) : Mem := fun a => if a = q then f else σ a
def mst (σ : Mem) (q k : Nat) (v : Int32) : Mem := mrow σ q (upd (σ q) k v)
def mcpy (σ : Mem) (q0 q1 sp dp n : Nat) : Mem := mrow σ q1 (va_cpy (σ q0) (σ q1) sp dp n)
abbrev PT : Type := Program × Launch × Env × Room × State
abbrev MT : Type := MethodId × Array Value × List Frame × Method × Code
abbrev WD : Type := va_G × (ClassId × ClassId × ClassId) × Nat × (Nat → Nat) × (Nat → (Nat → Int32) → va_E) × (State → Prop)
abbrev w_D (w : WD) : va_G := w.1
abbrev w_cs (w : WD) : ClassId × ClassId × ClassId := w.2.1
abbrev w_n (w : WD) : Nat := w.2.2.1
abbrev w_ad (w : WD) : Nat → Nat := w.2.2.2.1
abbrev w_cf (w : WD) : Nat → (Nat → Int32) → va_E := w.2.2.2.2.1
abbrev w_Ex (w : WD) : State → Prop := w.2.2.2.2.2
def wPic (w : WD) (σ : Mem) : va_W := (List.range (w_n w)).map (fun q => (w_ad w q, w_cf w q (σ q)))
def wA (w : WD) : Nat → Prop := fun a => ∃ q, q < w_n w ∧ a = w_ad w q
def wT (w : WD) : List (ClassId × FieldType) := [((w_cs w).1, .int), ((w_cs w).2.1, .array .int), ((w_cs w).2.2, .boolean)]
theorem wPic_get (w : WD) (σ : Mem) {q : Nat} (h : q < w_n w) : (wPic w σ)[q]? = some (w_ad w q, w_cf w q (σ q)) := by
  unfold wPic
  rw [List.getElem?_map, List.getElem?_range h]
  rfl
theorem wPic_set (w : WD) (σ : Mem) {q : Nat} (f : Nat → Int32) : (wPic w σ).set q (w_ad w q, w_cf w q f) = wPic w (mrow σ q f) := by
  apply List.ext_getElem?
  intro j
  unfold wPic
  rw [List.getElem?_set, List.getElem?_map, List.getElem?_map, List.length_map, List.length_range]
  by_cases hj : j < w_n w
  · rw [List.getElem?_range hj]
    by_cases e : q = j
    · subst e
      simp [hj, mrow]
    · simp [e, mrow, show ¬ j = q from fun h => e h.symm]
  · rw [List.getElem?_eq_none (l := List.range (w_n w)) (by rw [List.length_range]; omega)]
    by_cases e : q = j
    · subst e
      simp [hj]
    · simp [e]
theorem wA_of (w : WD) {q : Nat} (h : q < w_n w) : wA w (w_ad w q) := ⟨q, h, rfl⟩
/-- the addresses are apart -/
def wInj (w : WD) : Prop := ∀ i j, i < w_n w → j < w_n w → w_ad w i = w_ad w j → i = j
theorem wPic_lt {w : WD} {σ : Mem} {k : Nat} {x : Nat × va_E} (h : (wPic w σ)[k]? = some x) : k < w_n w ∧ x = (w_ad w k, w_cf w k (σ k)) := by
  have hk : k < (wPic w σ).length := (List.getElem?_eq_some_iff.mp h).1
  have hk2 : k < w_n w := by
    unfold wPic at hk
    rwa [List.length_map, List.length_range] at hk
  rw [wPic_get w σ hk2] at h
  exact ⟨hk2, (Option.some.inj h).symm⟩
theorem wPic_D {w : WD} (hI : wInj w) (σ : Mem) : va_D (wA w) (wPic w σ) := by
  refine ⟨fun i j x y hi hj hxy => ?_, fun k x hk => ?_⟩
  · obtain ⟨h1, rfl⟩ := wPic_lt hi
    obtain ⟨h2, rfl⟩ := wPic_lt hj
    exact hI i j h1 h2 hxy
  · obtain ⟨h1, rfl⟩ := wPic_lt hk
    exact wA_of w h1
/-- what else holds of a state stays over a call's frame, and over a heap that changes in the world alone -/
def wExOk (w : WD) : Prop := (∀ (U : State) (g : JFrame) (mk : MethodId) (a : Array Value), w_Ex w U → w_Ex w (U.calling g mk a)) ∧ (∀ (s U : State) (H : Heap) (locs : List Loc), w_Ex w s → va_S (wA w) s.heap H locs → U.heap = H → s.WarmedH U.vm → w_Ex w U)
abbrev p_R (P : PT) : Room := P.2.2.2.1
abbrev p_s (P : PT) : State := P.2.2.2.2
def V (P : PT) (M : MT) (w : WD) (nL : Nat) (Q : State → Prop) (pc : Nat) (lv : List (Nat × Value)) (st : List Value) (σ : Mem) : Prop :=
  ∀ (H : Heap) (locs : List Loc) (ls : Array Slot), lv_has ls nL lv → va_P (w_D w) vwCl (wPic w σ) H → va_S (wA w) (p_s P).heap H locs → W P.1 P.2.1 P.2.2.1 (p_R P) (p_s P) M.1 M.2.1 M.2.2.1 M.2.2.2.1 M.2.2.2.2 H locs 0 0 Q (F0 M.1 pc ls st)
/-- what holds of the machine in a method: bytes cc, nL locals, class own, room for d levels -/
def VOk (P : PT) (M : MT) (w : WD) (nL : Nat) (cc : ByteArray) (own : String) (ret : Option FieldType) (d : Nat) : Prop :=
  P.1.tables.exec = Jvm.exec ∧ M.2.2.2.2.code = cc ∧ M.2.2.2.2.maxLocals = nL ∧ (p_s P).vm.findClass own = some M.1.cls ∧ (∀ c ∈ wAll, c.before M.2.1 (p_s P) = true) ∧ M.2.2.2.1.sig.returnType = ret ∧ M.2.2.2.1.locks = false ∧ va_K (w_D w) vwCl (wT w) (p_s P) ∧ wInj w ∧ w_Ex w (p_s P) ∧ wExOk w ∧ (d ≤ (p_R P).frames ∧ 40 * d ≤ (p_R P).locals)
def WPre (w : WD) (σ : Mem) (U : State) : Prop := va_P (w_D w) vwCl (wPic w σ) U.heap ∧ va_K (w_D w) vwCl (wT w) U ∧ wInj w ∧ w_Ex w U ∧ wExOk w
def WPost (w : WD) (σ : Mem) (t : State) : Prop := va_P (w_D w) vwCl (wPic w σ) t.heap
abbrev rmL (d : Nat) : Room := { frames := d, cells := 0, slots := 0, locals := 40 * d }
/-- contracts: from the memory σ with arguments av the method answers r (or nothing) and leaves σ' -/
def CtI (l : Launch) (w : WD) (d : Nat) (y : MethodName) (cc : ByteArray) (nL : Nat) (ret : Option FieldType) (av : List Value) (σ : Mem) (r : Int32) (σ' : Mem) : Prop :=
  Met l y (.code y cc nL ret :: wAll) (rmL d) (va_Pc av (WPre w σ)) (va_Qi (fun (r' : Int32) (u : Mem) => r' = r ∧ u = σ') (WPost w) (wA w)) 0 0 (wA w)
def CtV (l : Launch) (w : WD) (d : Nat) (y : MethodName) (cc : ByteArray) (nL : Nat) (av : List Value) (σ : Mem) (σ' : Mem) : Prop :=
  Met l y (.code y cc nL none :: wAll) (rmL d) (va_Pc av (WPre w σ)) (va_Qv (fun (u : Mem) => u = σ') (WPost w) (wA w)) 0 0 (wA w)
def CtR (l : Launch) (w : WD) (d : Nat) (y : MethodName) (cc : ByteArray) (nL : Nat) (ret : Option FieldType) (av : List Value) (σ : Mem) (a : Nat) : Prop :=
  Met l y (.code y cc nL ret :: wAll) (rmL d) (va_Pc av (WPre w σ)) (va_Qr (fun (u : Mem) => u = σ) (fun u b t => WPost w u t ∧ b = a) (wA w)) 0 0 (wA w)
def QI (P : PT) (M : MT) (w : WD) (r : Int32) (σ' : Mem) : State → Prop := MQ M.2.2.1 (va_Qi (fun (r' : Int32) (u : Mem) => r' = r ∧ u = σ') (WPost w) (wA w)) M.2.1 (p_s P) 0 0 (wA w)
def QV (P : PT) (M : MT) (w : WD) (σ' : Mem) : State → Prop := MQ M.2.2.1 (va_Qv (fun (u : Mem) => u = σ') (WPost w) (wA w)) M.2.1 (p_s P) 0 0 (wA w)
def QR (P : PT) (M : MT) (w : WD) (σ' : Mem) (a : Nat) : State → Prop := MQ M.2.2.1 (va_Qr (fun (u : Mem) => u = σ') (fun u b t => WPost w u t ∧ b = a) (wA w)) M.2.1 (p_s P) 0 0 (wA w)
def inB (i : Int32) (n : Nat) : Bool := decide (¬ (i < 0 ∨ n ≤ i.toNatClampNeg))
theorem inB_in {i : Int32} {n : Nat} (h : inB i n = true) : vp_in i n := by
  unfold vp_in
  exact of_decide_eq_true h
theorem inB_lt {i : Int32} {n : Nat} (h : inB i n = true) : i.toNatClampNeg < n := Nat.not_le.mp fun q => inB_in h (Or.inr q)
theorem lt_b {a b : Nat} (h : Nat.ble (a + 1) b = true) : a < b := Nat.le_of_ble_eq_true h
def isB (x : Int32) : Bool := decide (x = 0 ∨ x = 1)
theorem isB_n {x : Int32} (h : isB x = true) : narrow .boolean (.int x) = .int x := by
  rcases (of_decide_eq_true h : x = 0 ∨ x = 1) with rfl | rfl <;> rfl
theorem isB_f {x : Int32} (h : isB x = true) : fits .boolean (.int x) = true := by
  rcases (of_decide_eq_true h : x = 0 ∨ x = 1) with rfl | rfl <;> rfl
def gd {α : Type} (c : Bool) (k : Option α) : Option α := match c with
  | true => k
  | false => none
theorem gd_some {α : Type} {c : Bool} {k : Option α} {r : α} (h : gd c k = some r) : c = true ∧ k = some r := by
  cases c
  · cases h
  · exact ⟨rfl, h⟩
theorem opt_t {α : Type} {c : Prop} [Decidable c] {a b r : Option α} (hc : c) (h : (if c then a else b) = r) : a = r := by rwa [if_pos hc] at h
theorem opt_f {α : Type} {c : Prop} [Decidable c] {a b r : Option α} (hc : ¬ c) (h : (if c then a else b) = r) : b = r := by rwa [if_neg hc] at h
theorem opt_b {α β : Type} {a : Option α} {f : α → Option β} {r : β} (h : a.bind f = some r) : ∃ x, a = some x ∧ f x = some r := by
  cases a with
  | none => cases h
  | some x => exact ⟨x, rfl, h⟩
section VROWS
variable {P : PT} {M : MT} {w : WD} {nL : Nat} {Q : State → Prop} {pc : Nat} {lv : List (Nat × Value)} {st : List Value} {σ : Mem} {cc : ByteArray} {own : String} {ret : Option FieldType} {d : Nat}
theorem v_sub (ks : List Nat) {lv' : List (Nat × Value)} (h : lv_pick lv ks = lv') (k : V P M w nL Q pc lv' st σ) : V P M w nL Q pc lv st σ := fun H locs ls hl hP hS => k H locs ls (lv_sub hl ks h) hP hS
theorem v_eq {x y : Int32} (h : x = y) (k : V P M w nL Q pc lv (.int y :: st) σ) : V P M w nL Q pc lv (.int x :: st) σ := by rw [h]; exact k
theorem v_mem {σ' : Mem} (h : σ = σ') (k : V P M w nL Q pc lv st σ') : V P M w nL Q pc lv st σ := by rw [h]; exact k
theorem v_iadd {x y : Int32} (hX : VOk P M w nL cc own ret d) (hd : decode cc pc = .ok (.iadd, 1))  (k : V P M w nL Q (pc + 1) lv (.int (x + y) :: st) σ) : V P M w nL Q pc lv (.int y :: .int x :: st) σ := fun H locs ls hl hP hS => lv_iadd hX.1 hX.2.1 hd (k H locs ls hl hP hS)
theorem v_isub {x y : Int32} (hX : VOk P M w nL cc own ret d) (hd : decode cc pc = .ok (.isub, 1))  (k : V P M w nL Q (pc + 1) lv (.int (x - y) :: st) σ) : V P M w nL Q pc lv (.int y :: .int x :: st) σ := fun H locs ls hl hP hS => lv_isub hX.1 hX.2.1 hd (k H locs ls hl hP hS)
theorem v_imul {x y : Int32} (hX : VOk P M w nL cc own ret d) (hd : decode cc pc = .ok (.imul, 1))  (k : V P M w nL Q (pc + 1) lv (.int (x * y) :: st) σ) : V P M w nL Q pc lv (.int y :: .int x :: st) σ := fun H locs ls hl hP hS => lv_imul hX.1 hX.2.1 hd (k H locs ls hl hP hS)
theorem v_iand {x y : Int32} (hX : VOk P M w nL cc own ret d) (hd : decode cc pc = .ok (.iand, 1))  (k : V P M w nL Q (pc + 1) lv (.int (x &&& y) :: st) σ) : V P M w nL Q pc lv (.int y :: .int x :: st) σ := fun H locs ls hl hP hS => lv_iand hX.1 hX.2.1 hd (k H locs ls hl hP hS)
theorem v_ior {x y : Int32} (hX : VOk P M w nL cc own ret d) (hd : decode cc pc = .ok (.ior, 1))  (k : V P M w nL Q (pc + 1) lv (.int (x ||| y) :: st) σ) : V P M w nL Q pc lv (.int y :: .int x :: st) σ := fun H locs ls hl hP hS => lv_ior hX.1 hX.2.1 hd (k H locs ls hl hP hS)
theorem v_ixor {x y : Int32} (hX : VOk P M w nL cc own ret d) (hd : decode cc pc = .ok (.ixor, 1))  (k : V P M w nL Q (pc + 1) lv (.int (x ^^^ y) :: st) σ) : V P M w nL Q pc lv (.int y :: .int x :: st) σ := fun H locs ls hl hP hS => lv_ixor hX.1 hX.2.1 hd (k H locs ls hl hP hS)
theorem v_ishl {x y : Int32} (hX : VOk P M w nL cc own ret d) (hd : decode cc pc = .ok (.ishl, 1))  (k : V P M w nL Q (pc + 1) lv (.int (x <<< (y &&& 31)) :: st) σ) : V P M w nL Q pc lv (.int y :: .int x :: st) σ := fun H locs ls hl hP hS => lv_ishl hX.1 hX.2.1 hd (k H locs ls hl hP hS)
theorem v_ishr {x y : Int32} (hX : VOk P M w nL cc own ret d) (hd : decode cc pc = .ok (.ishr, 1))  (k : V P M w nL Q (pc + 1) lv (.int (x >>> (y &&& 31)) :: st) σ) : V P M w nL Q pc lv (.int y :: .int x :: st) σ := fun H locs ls hl hP hS => lv_ishr hX.1 hX.2.1 hd (k H locs ls hl hP hS)
theorem v_ineg {x : Int32} (hX : VOk P M w nL cc own ret d) (hd : decode cc pc = .ok (.ineg, 1))  (k : V P M w nL Q (pc + 1) lv (.int (-x) :: st) σ) : V P M w nL Q pc lv (.int x :: st) σ := fun H locs ls hl hP hS => lv_ineg hX.1 hX.2.1 hd (k H locs ls hl hP hS)
theorem v_idiv {x y : Int32} (hX : VOk P M w nL cc own ret d) (hd : decode cc pc = .ok (.idiv, 1)) (hne : ¬ y = 0) (k : V P M w nL Q (pc + 1) lv (.int (x / y) :: st) σ) : V P M w nL Q pc lv (.int y :: .int x :: st) σ := fun H locs ls hl hP hS => lv_idiv hX.1 hX.2.1 hd hne (k H locs ls hl hP hS)
theorem v_irem {x y : Int32} (hX : VOk P M w nL cc own ret d) (hd : decode cc pc = .ok (.irem, 1)) (hne : ¬ y = 0) (k : V P M w nL Q (pc + 1) lv (.int (x - x / y * y) :: st) σ) : V P M w nL Q pc lv (.int y :: .int x :: st) σ := fun H locs ls hl hP hS => lv_irem hX.1 hX.2.1 hd hne (k H locs ls hl hP hS)
theorem v_ladd {x y : Int64} (hX : VOk P M w nL cc own ret d) (hd : decode cc pc = .ok (.ladd, 1))  (k : V P M w nL Q (pc + 1) lv (.long (x + y) :: st) σ) : V P M w nL Q pc lv (.long y :: .long x :: st) σ := fun H locs ls hl hP hS => lv_ladd hX.1 hX.2.1 hd (k H locs ls hl hP hS)
theorem v_lmul {x y : Int64} (hX : VOk P M w nL cc own ret d) (hd : decode cc pc = .ok (.lmul, 1))  (k : V P M w nL Q (pc + 1) lv (.long (x * y) :: st) σ) : V P M w nL Q pc lv (.long y :: .long x :: st) σ := fun H locs ls hl hP hS => lv_lmul hX.1 hX.2.1 hd (k H locs ls hl hP hS)
theorem v_ldiv {x y : Int64} (hX : VOk P M w nL cc own ret d) (hd : decode cc pc = .ok (.ldiv, 1)) (hne : ¬ y = 0) (k : V P M w nL Q (pc + 1) lv (.long (x / y) :: st) σ) : V P M w nL Q pc lv (.long y :: .long x :: st) σ := fun H locs ls hl hP hS => lv_ldiv hX.1 hX.2.1 hd hne (k H locs ls hl hP hS)
theorem v_lrem {x y : Int64} (hX : VOk P M w nL cc own ret d) (hd : decode cc pc = .ok (.lrem, 1)) (hne : ¬ y = 0) (k : V P M w nL Q (pc + 1) lv (.long (x - x / y * y) :: st) σ) : V P M w nL Q pc lv (.long y :: .long x :: st) σ := fun H locs ls hl hP hS => lv_lrem hX.1 hX.2.1 hd hne (k H locs ls hl hP hS)
theorem v_lcmp {x y : Int64} (hX : VOk P M w nL cc own ret d) (hd : decode cc pc = .ok (.lcmp, 1)) (k : V P M w nL Q (pc + 1) lv (.int (lg_cmp x y) :: st) σ) : V P M w nL Q pc lv (.long y :: .long x :: st) σ := fun H locs ls hl hP hS => W.lcmp hX.1 hX.2.1 hd (k H locs ls hl hP hS)
theorem v_i2l {x : Int32} (hX : VOk P M w nL cc own ret d) (hd : decode cc pc = .ok (.i2l, 1)) (k : V P M w nL Q (pc + 1) lv (.long x.toInt64 :: st) σ) : V P M w nL Q pc lv (.int x :: st) σ := fun H locs ls hl hP hS => lv_i2l hX.1 hX.2.1 hd rfl (k H locs ls hl hP hS)
theorem v_l2i {x : Int64} (hX : VOk P M w nL cc own ret d) (hd : decode cc pc = .ok (.l2i, 1)) (k : V P M w nL Q (pc + 1) lv (.int x.toInt32 :: st) σ) : V P M w nL Q pc lv (.long x :: st) σ := fun H locs ls hl hP hS => lv_l2i hX.1 hX.2.1 hd rfl (k H locs ls hl hP hS)
theorem v_i2b {x : Int32} (hX : VOk P M w nL cc own ret d) (hd : decode cc pc = .ok (.i2b, 1)) (k : V P M w nL Q (pc + 1) lv (.int x.toInt8.toInt32 :: st) σ) : V P M w nL Q pc lv (.int x :: st) σ := fun H locs ls hl hP hS => lv_i2b hX.1 hX.2.1 hd rfl (k H locs ls hl hP hS)
theorem v_i2s {x : Int32} (hX : VOk P M w nL cc own ret d) (hd : decode cc pc = .ok (.i2s, 1)) (k : V P M w nL Q (pc + 1) lv (.int x.toInt16.toInt32 :: st) σ) : V P M w nL Q pc lv (.int x :: st) σ := fun H locs ls hl hP hS => lv_i2s hX.1 hX.2.1 hd rfl (k H locs ls hl hP hS)
theorem v_iushr {x y : Int32} (hX : VOk P M w nL cc own ret d) (hd : decode cc pc = .ok (.iushr, 1)) (k : V P M w nL Q (pc + 1) lv (.int (x.toUInt32 >>> (y.toUInt32 &&& Int32.toUInt32 31)).toInt32 :: st) σ) : V P M w nL Q pc lv (.int y :: .int x :: st) σ := fun H locs ls hl hP hS => lv_iushr hX.1 hX.2.1 hd rfl (k H locs ls hl hP hS)
theorem v_dup {a : Value} (hX : VOk P M w nL cc own ret d) (hd : decode cc pc = .ok (.dup, 1)) (hc : a.category = 1) (k : V P M w nL Q (pc + 1) lv (a :: a :: st) σ) : V P M w nL Q pc lv (a :: st) σ := fun H locs ls hl hP hS => lv_dup hX.1 hX.2.1 hd hc (k H locs ls hl hP hS)
theorem v_dup2 {a b : Value} (hX : VOk P M w nL cc own ret d) (hd : decode cc pc = .ok (.dup2, 1)) (hc : a.category = 1) (hc2 : b.category = 1) (k : V P M w nL Q (pc + 1) lv (a :: b :: a :: b :: st) σ) : V P M w nL Q pc lv (a :: b :: st) σ := fun H locs ls hl hP hS => lv_dup2_11 hX.1 hX.2.1 hd hc hc2 (k H locs ls hl hP hS)
theorem v_pop {a : Value} (hX : VOk P M w nL cc own ret d) (hd : decode cc pc = .ok (.pop, 1)) (hc : a.category = 1) (k : V P M w nL Q (pc + 1) lv st σ) : V P M w nL Q pc lv (a :: st) σ := fun H locs ls hl hP hS => lv_pop hX.1 hX.2.1 hd hc (k H locs ls hl hP hS)
theorem v_iconst {n : Int} (v : Int32) (hX : VOk P M w nL cc own ret d) (hd : decode cc pc = .ok (.iconst n, 1)) (hv : Int32.ofInt n = v) (k : V P M w nL Q (pc + 1) lv (.int v :: st) σ) : V P M w nL Q pc lv st σ := fun H locs ls hl hP hS => lv_iconst hX.1 hX.2.1 hd hv (k H locs ls hl hP hS)
theorem v_bipush {n : Int} (v : Int32) (hX : VOk P M w nL cc own ret d) (hd : decode cc pc = .ok (.bipush n, 2)) (hv : (Int8.ofInt n).toInt32 = v) (k : V P M w nL Q (pc + 2) lv (.int v :: st) σ) : V P M w nL Q pc lv st σ := fun H locs ls hl hP hS => lv_bipush hX.1 hX.2.1 hd hv (k H locs ls hl hP hS)
theorem v_sipush {n : Int} (v : Int32) (hX : VOk P M w nL cc own ret d) (hd : decode cc pc = .ok (.sipush n, 3)) (hv : (Int16.ofInt n).toInt32 = v) (k : V P M w nL Q (pc + 3) lv (.int v :: st) σ) : V P M w nL Q pc lv st σ := fun H locs ls hl hP hS => lv_sipush hX.1 hX.2.1 hd hv (k H locs ls hl hP hS)
theorem v_lconst {n : Fin 2} (v : Int64) (hX : VOk P M w nL cc own ret d) (hd : decode cc pc = .ok (.lconst n, 1)) (hv : Int64.ofNat (n : Nat) = v) (k : V P M w nL Q (pc + 1) lv (.long v :: st) σ) : V P M w nL Q pc lv st σ := fun H locs ls hl hP hS => lv_lconst hX.1 hX.2.1 hd hv (k H locs ls hl hP hS)
theorem v_ldc {index : Nat} (v : Int32) (hX : VOk P M w nL cc own ret d) (hd : decode cc pc = .ok (.ldc index, 2)) (hm : Cond.constant own index v ∈ wAll) (k : V P M w nL Q (pc + 2) lv (.int v :: st) σ) : V P M w nL Q pc lv st σ := fun H locs ls hl hP hS => lv_ldc hX.1 hX.2.1 hX.2.2.2.1 (hX.2.2.2.2.1 _ hm) hd (k H locs ls hl hP hS)
theorem v_ldcw {index : Nat} (v : Int32) (hX : VOk P M w nL cc own ret d) (hd : decode cc pc = .ok (.ldc_w index, 3)) (hm : Cond.constant own index v ∈ wAll) (k : V P M w nL Q (pc + 3) lv (.int v :: st) σ) : V P M w nL Q pc lv st σ := fun H locs ls hl hP hS => lv_ldcw hX.1 hX.2.1 hX.2.2.2.1 (hX.2.2.2.2.1 _ hm) hd (k H locs ls hl hP hS)
theorem v_ldc2 {index : Nat} (v : Int64) (hX : VOk P M w nL cc own ret d) (hd : decode cc pc = .ok (.ldc2_w index, 3)) (hm : Cond.constantLong own index v ∈ wAll) (k : V P M w nL Q (pc + 3) lv (.long v :: st) σ) : V P M w nL Q pc lv st σ := fun H locs ls hl hP hS => lv_ldc2 hX.1 hX.2.1 hX.2.2.2.1 (hX.2.2.2.2.1 _ hm) hd (k H locs ls hl hP hS)
theorem v_iload_n {f : Fin 4} (j i : Nat) {x : Int32} (hX : VOk P M w nL cc own ret d) (hd : decode cc pc = .ok (.iload_n f, 1)) (hi : (f : Nat) = i) (hj : lv[j]? = some (i, .int x)) (k : V P M w nL Q (pc + 1) lv (.int x :: st) σ) : V P M w nL Q pc lv st σ := fun H locs ls hl hP hS => lv_iload_n hX.1 hX.2.1 hd hi (lv_at hl j hj) (k H locs ls hl hP hS)
theorem v_iload (j : Nat) {i : Nat} {x : Int32} (hX : VOk P M w nL cc own ret d) (hd : decode cc pc = .ok (.iload i, 2)) (hj : lv[j]? = some (i, .int x)) (k : V P M w nL Q (pc + 2) lv (.int x :: st) σ) : V P M w nL Q pc lv st σ := fun H locs ls hl hP hS => lv_iload hX.1 hX.2.1 hd (lv_at hl j hj) (k H locs ls hl hP hS)
theorem v_istore_n {f : Fin 4} (i : Nat) {x : Int32} (lv' : List (Nat × Value)) (hX : VOk P M w nL cc own ret d) (hd : decode cc pc = .ok (.istore_n f, 1)) (hi : (f : Nat) = i) (hn : i < nL) (hv : (i, Value.int x) :: lv.filter (fun q => !(q.1 == i) && !(q.1 + 1 == i && q.2.category == 2)) = lv') (k : V P M w nL Q (pc + 1) lv' st σ) : V P M w nL Q pc lv (.int x :: st) σ := fun H locs ls hl hP hS => lv_istore_n hX.1 hX.2.1 hd hi hl hn hv (fun ls2 hl2 => k H locs ls2 hl2 hP hS)
theorem v_istore {i : Nat} {x : Int32} (lv' : List (Nat × Value)) (hX : VOk P M w nL cc own ret d) (hd : decode cc pc = .ok (.istore i, 2)) (hn : i < nL) (hv : (i, Value.int x) :: lv.filter (fun q => !(q.1 == i) && !(q.1 + 1 == i && q.2.category == 2)) = lv') (k : V P M w nL Q (pc + 2) lv' st σ) : V P M w nL Q pc lv (.int x :: st) σ := fun H locs ls hl hP hS => lv_istore hX.1 hX.2.1 hd hl hn hv (fun ls2 hl2 => k H locs ls2 hl2 hP hS)
theorem v_lload_n {f : Fin 4} (j i : Nat) {x : Int64} (hX : VOk P M w nL cc own ret d) (hd : decode cc pc = .ok (.lload_n f, 1)) (hi : (f : Nat) = i) (hj : lv[j]? = some (i, .long x)) (k : V P M w nL Q (pc + 1) lv (.long x :: st) σ) : V P M w nL Q pc lv st σ := fun H locs ls hl hP hS => lv_lload_n hX.1 hX.2.1 hd hi (lv_at hl j hj) (k H locs ls hl hP hS)
theorem v_lload (j : Nat) {i : Nat} {x : Int64} (hX : VOk P M w nL cc own ret d) (hd : decode cc pc = .ok (.lload i, 2)) (hj : lv[j]? = some (i, .long x)) (k : V P M w nL Q (pc + 2) lv (.long x :: st) σ) : V P M w nL Q pc lv st σ := fun H locs ls hl hP hS => lv_lload hX.1 hX.2.1 hd (lv_at hl j hj) (k H locs ls hl hP hS)
theorem v_lstore_n {f : Fin 4} (i : Nat) {x : Int64} (lv' : List (Nat × Value)) (hX : VOk P M w nL cc own ret d) (hd : decode cc pc = .ok (.lstore_n f, 1)) (hi : (f : Nat) = i) (hn : i + 1 < nL) (hv : (i, Value.long x) :: lv.filter (fun q => !(q.1 == i) && (!(q.1 == i + 1) && !(q.1 + 1 == i && q.2.category == 2))) = lv') (k : V P M w nL Q (pc + 1) lv' st σ) : V P M w nL Q pc lv (.long x :: st) σ := fun H locs ls hl hP hS => lv_lstore_n hX.1 hX.2.1 hd hi hl hn hv (fun ls2 hl2 => k H locs ls2 hl2 hP hS)
theorem v_lstore {i : Nat} {x : Int64} (lv' : List (Nat × Value)) (hX : VOk P M w nL cc own ret d) (hd : decode cc pc = .ok (.lstore i, 2)) (hn : i + 1 < nL) (hv : (i, Value.long x) :: lv.filter (fun q => !(q.1 == i) && (!(q.1 == i + 1) && !(q.1 + 1 == i && q.2.category == 2))) = lv') (k : V P M w nL Q (pc + 2) lv' st σ) : V P M w nL Q pc lv (.long x :: st) σ := fun H locs ls hl hP hS => lv_lstore hX.1 hX.2.1 hd hl hn hv (fun ls2 hl2 => k H locs ls2 hl2 hP hS)
theorem v_aload_n {f : Fin 4} (j i : Nat) {x : Nat} (hX : VOk P M w nL cc own ret d) (hd : decode cc pc = .ok (.aload_n f, 1)) (hi : (f : Nat) = i) (hj : lv[j]? = some (i, .ref x)) (k : V P M w nL Q (pc + 1) lv (.ref x :: st) σ) : V P M w nL Q pc lv st σ := fun H locs ls hl hP hS => lv_aload_n hX.1 hX.2.1 hd hi (lv_at hl j hj) (k H locs ls hl hP hS)
theorem v_aload (j : Nat) {i : Nat} {x : Nat} (hX : VOk P M w nL cc own ret d) (hd : decode cc pc = .ok (.aload i, 2)) (hj : lv[j]? = some (i, .ref x)) (k : V P M w nL Q (pc + 2) lv (.ref x :: st) σ) : V P M w nL Q pc lv st σ := fun H locs ls hl hP hS => lv_aload hX.1 hX.2.1 hd (lv_at hl j hj) (k H locs ls hl hP hS)
theorem v_astore_n {f : Fin 4} (i : Nat) {x : Nat} (lv' : List (Nat × Value)) (hX : VOk P M w nL cc own ret d) (hd : decode cc pc = .ok (.astore_n f, 1)) (hi : (f : Nat) = i) (hn : i < nL) (hv : (i, Value.ref x) :: lv.filter (fun q => !(q.1 == i) && !(q.1 + 1 == i && q.2.category == 2)) = lv') (k : V P M w nL Q (pc + 1) lv' st σ) : V P M w nL Q pc lv (.ref x :: st) σ := fun H locs ls hl hP hS => lv_astore_n hX.1 hX.2.1 hd hi hl hn hv (fun ls2 hl2 => k H locs ls2 hl2 hP hS)
theorem v_astore {i : Nat} {x : Nat} (lv' : List (Nat × Value)) (hX : VOk P M w nL cc own ret d) (hd : decode cc pc = .ok (.astore i, 2)) (hn : i < nL) (hv : (i, Value.ref x) :: lv.filter (fun q => !(q.1 == i) && !(q.1 + 1 == i && q.2.category == 2)) = lv') (k : V P M w nL Q (pc + 2) lv' st σ) : V P M w nL Q pc lv (.ref x :: st) σ := fun H locs ls hl hP hS => lv_astore hX.1 hX.2.1 hd hl hn hv (fun ls2 hl2 => k H locs ls2 hl2 hP hS)
theorem v_iinc {i : Nat} {n : Int} {x : Int32} (j : Nat) (v : Int32) (lv' : List (Nat × Value)) (hX : VOk P M w nL cc own ret d) (hd : decode cc pc = .ok (.iinc i n, 3)) (hj : lv[j]? = some (i, .int x)) (hv : x + Int32.ofInt n = v) (hn : i < nL) (hl' : (i, Value.int v) :: lv.filter (fun q => !(q.1 == i) && !(q.1 + 1 == i && q.2.category == 2)) = lv') (k : V P M w nL Q (pc + 3) lv' st σ) : V P M w nL Q pc lv st σ := fun H locs ls hl hP hS => lv_iinc hX.1 hX.2.1 hd hl hj hv hn hl' (fun ls2 hl2 => k H locs ls2 hl2 hP hS)
theorem v_goto {off : Int} (tgt : Nat) (hX : VOk P M w nL cc own ret d) (hd : decode cc pc = .ok (.goto off, 3)) (ht : (pc : Int) + off = (tgt : Int)) (k : V P M w nL Q tgt lv st σ) : V P M w nL Q pc lv st σ := fun H locs ls hl hP hS => lv_goto hX.1 hX.2.1 hd ht (k H locs ls hl hP hS)
theorem v_if_eq {x : Int32} {off : Int} (tgt : Nat) (hX : VOk P M w nL cc own ret d) (hd : decode cc pc = .ok (.ifCond .eq off, 3)) (ht : (pc : Int) + off = (tgt : Int)) (kt : x = 0 → V P M w nL Q tgt lv st σ) (kf : ¬ x = 0 → V P M w nL Q (pc + 3) lv st σ) : V P M w nL Q pc lv (.int x :: st) σ := fun H locs ls hl hP hS => lv_if_eq hX.1 hX.2.1 hd ht (fun h => kt h H locs ls hl hP hS) (fun h => kf h H locs ls hl hP hS)
theorem v_icmp_eq {x y : Int32} {off : Int} (tgt : Nat) (hX : VOk P M w nL cc own ret d) (hd : decode cc pc = .ok (.if_icmp .eq off, 3)) (ht : (pc : Int) + off = (tgt : Int)) (kt : x = y → V P M w nL Q tgt lv st σ) (kf : ¬ x = y → V P M w nL Q (pc + 3) lv st σ) : V P M w nL Q pc lv (.int y :: .int x :: st) σ := fun H locs ls hl hP hS => lv_icmp_eq hX.1 hX.2.1 hd ht (fun h => kt h H locs ls hl hP hS) (fun h => kf h H locs ls hl hP hS)
theorem v_if_ne {x : Int32} {off : Int} (tgt : Nat) (hX : VOk P M w nL cc own ret d) (hd : decode cc pc = .ok (.ifCond .ne off, 3)) (ht : (pc : Int) + off = (tgt : Int)) (kt : ¬ x = 0 → V P M w nL Q tgt lv st σ) (kf : x = 0 → V P M w nL Q (pc + 3) lv st σ) : V P M w nL Q pc lv (.int x :: st) σ := fun H locs ls hl hP hS => lv_if_ne hX.1 hX.2.1 hd ht (fun h => kt h H locs ls hl hP hS) (fun h => kf h H locs ls hl hP hS)
theorem v_icmp_ne {x y : Int32} {off : Int} (tgt : Nat) (hX : VOk P M w nL cc own ret d) (hd : decode cc pc = .ok (.if_icmp .ne off, 3)) (ht : (pc : Int) + off = (tgt : Int)) (kt : ¬ x = y → V P M w nL Q tgt lv st σ) (kf : x = y → V P M w nL Q (pc + 3) lv st σ) : V P M w nL Q pc lv (.int y :: .int x :: st) σ := fun H locs ls hl hP hS => lv_icmp_ne hX.1 hX.2.1 hd ht (fun h => kt h H locs ls hl hP hS) (fun h => kf h H locs ls hl hP hS)
theorem v_if_lt {x : Int32} {off : Int} (tgt : Nat) (hX : VOk P M w nL cc own ret d) (hd : decode cc pc = .ok (.ifCond .lt off, 3)) (ht : (pc : Int) + off = (tgt : Int)) (kt : x < 0 → V P M w nL Q tgt lv st σ) (kf : ¬ x < 0 → V P M w nL Q (pc + 3) lv st σ) : V P M w nL Q pc lv (.int x :: st) σ := fun H locs ls hl hP hS => lv_if_lt hX.1 hX.2.1 hd ht (fun h => kt h H locs ls hl hP hS) (fun h => kf h H locs ls hl hP hS)
theorem v_icmp_lt {x y : Int32} {off : Int} (tgt : Nat) (hX : VOk P M w nL cc own ret d) (hd : decode cc pc = .ok (.if_icmp .lt off, 3)) (ht : (pc : Int) + off = (tgt : Int)) (kt : x < y → V P M w nL Q tgt lv st σ) (kf : ¬ x < y → V P M w nL Q (pc + 3) lv st σ) : V P M w nL Q pc lv (.int y :: .int x :: st) σ := fun H locs ls hl hP hS => lv_icmp_lt hX.1 hX.2.1 hd ht (fun h => kt h H locs ls hl hP hS) (fun h => kf h H locs ls hl hP hS)
theorem v_if_ge {x : Int32} {off : Int} (tgt : Nat) (hX : VOk P M w nL cc own ret d) (hd : decode cc pc = .ok (.ifCond .ge off, 3)) (ht : (pc : Int) + off = (tgt : Int)) (kt : 0 ≤ x → V P M w nL Q tgt lv st σ) (kf : ¬ 0 ≤ x → V P M w nL Q (pc + 3) lv st σ) : V P M w nL Q pc lv (.int x :: st) σ := fun H locs ls hl hP hS => lv_if_ge hX.1 hX.2.1 hd ht (fun h => kt h H locs ls hl hP hS) (fun h => kf h H locs ls hl hP hS)
theorem v_icmp_ge {x y : Int32} {off : Int} (tgt : Nat) (hX : VOk P M w nL cc own ret d) (hd : decode cc pc = .ok (.if_icmp .ge off, 3)) (ht : (pc : Int) + off = (tgt : Int)) (kt : y ≤ x → V P M w nL Q tgt lv st σ) (kf : ¬ y ≤ x → V P M w nL Q (pc + 3) lv st σ) : V P M w nL Q pc lv (.int y :: .int x :: st) σ := fun H locs ls hl hP hS => lv_icmp_ge hX.1 hX.2.1 hd ht (fun h => kt h H locs ls hl hP hS) (fun h => kf h H locs ls hl hP hS)
theorem v_if_gt {x : Int32} {off : Int} (tgt : Nat) (hX : VOk P M w nL cc own ret d) (hd : decode cc pc = .ok (.ifCond .gt off, 3)) (ht : (pc : Int) + off = (tgt : Int)) (kt : 0 < x → V P M w nL Q tgt lv st σ) (kf : ¬ 0 < x → V P M w nL Q (pc + 3) lv st σ) : V P M w nL Q pc lv (.int x :: st) σ := fun H locs ls hl hP hS => lv_if_gt hX.1 hX.2.1 hd ht (fun h => kt h H locs ls hl hP hS) (fun h => kf h H locs ls hl hP hS)
theorem v_icmp_gt {x y : Int32} {off : Int} (tgt : Nat) (hX : VOk P M w nL cc own ret d) (hd : decode cc pc = .ok (.if_icmp .gt off, 3)) (ht : (pc : Int) + off = (tgt : Int)) (kt : y < x → V P M w nL Q tgt lv st σ) (kf : ¬ y < x → V P M w nL Q (pc + 3) lv st σ) : V P M w nL Q pc lv (.int y :: .int x :: st) σ := fun H locs ls hl hP hS => lv_icmp_gt hX.1 hX.2.1 hd ht (fun h => kt h H locs ls hl hP hS) (fun h => kf h H locs ls hl hP hS)
theorem v_if_le {x : Int32} {off : Int} (tgt : Nat) (hX : VOk P M w nL cc own ret d) (hd : decode cc pc = .ok (.ifCond .le off, 3)) (ht : (pc : Int) + off = (tgt : Int)) (kt : x ≤ 0 → V P M w nL Q tgt lv st σ) (kf : ¬ x ≤ 0 → V P M w nL Q (pc + 3) lv st σ) : V P M w nL Q pc lv (.int x :: st) σ := fun H locs ls hl hP hS => lv_if_le hX.1 hX.2.1 hd ht (fun h => kt h H locs ls hl hP hS) (fun h => kf h H locs ls hl hP hS)
theorem v_icmp_le {x y : Int32} {off : Int} (tgt : Nat) (hX : VOk P M w nL cc own ret d) (hd : decode cc pc = .ok (.if_icmp .le off, 3)) (ht : (pc : Int) + off = (tgt : Int)) (kt : x ≤ y → V P M w nL Q tgt lv st σ) (kf : ¬ x ≤ y → V P M w nL Q (pc + 3) lv st σ) : V P M w nL Q pc lv (.int y :: .int x :: st) σ := fun H locs ls hl hP hS => lv_icmp_le hX.1 hX.2.1 hd ht (fun h => kt h H locs ls hl hP hS) (fun h => kf h H locs ls hl hP hS)
theorem v_lookup {dflt : Int} {ps : Array (Int × Int)} {len : Nat} {x : Int32} (off : Int) (tgt : Nat) (hX : VOk P M w nL cc own ret d) (hd : decode cc pc = .ok (.lookupswitch dflt ps, len)) (hp : (ps.toList.zip (ps.toList.drop 1)).all (fun (a, next) => a.1 < next.1) = true) (ho : Op.lookupswitch.offset ps.toList dflt x.toInt = off) (ht : (pc : Int) + off = (tgt : Int)) (k : V P M w nL Q tgt lv st σ) : V P M w nL Q pc lv (.int x :: st) σ := fun H locs ls hl hP hS => lv_lookup hX.1 hX.2.1 hd hp ho ht (k H locs ls hl hP hS)
theorem v_tableOut {dflt lo hi : Int} {offs : Array Int} {len : Nat} {x : Int32} (tgt : Nat) (hX : VOk P M w nL cc own ret d) (hd : decode cc pc = .ok (.tableswitch dflt lo hi offs, len)) (h : x.toInt < lo ∨ hi < x.toInt) (ht : (pc : Int) + dflt = (tgt : Int)) (k : V P M w nL Q tgt lv st σ) : V P M w nL Q pc lv (.int x :: st) σ := fun H locs ls hl hP hS => lv_tableOut hX.1 hX.2.1 hd h ht (k H locs ls hl hP hS)
theorem v_tableIn {dflt lo hi : Int} {offs : Array Int} {len : Nat} {x : Int32} (off : Int) (tgt : Nat) (hX : VOk P M w nL cc own ret d) (hd : decode cc pc = .ok (.tableswitch dflt lo hi offs, len)) (h1 : ¬ x.toInt < lo) (h2 : ¬ hi < x.toInt) (ho : offs[(x.toInt - lo).toNat]? = some off) (ht : (pc : Int) + off = (tgt : Int)) (k : V P M w nL Q tgt lv st σ) : V P M w nL Q pc lv (.int x :: st) σ := fun H locs ls hl hP hS => lv_tableIn hX.1 hX.2.1 hd h1 h2 ho ht (k H locs ls hl hP hS)
theorem v_get {C : String} {T : u_T} {N ci index : Nat} {ref : String} {fs : List Value} {v : Value} (q k9 : Nat) (hX : VOk P M w nL cc own ret d) (hd : decode cc pc = .ok (.getfield index, 3)) (hm : Cond.fieldLink own index ref (T k9).2.1 (T k9).2.2.1 ∈ wAll) (href : (T k9).1 = ref) (hin : ∀ c ∈ u_ws C T N, c ∈ wAll) (hc : vwCl[ci]? = some (C, T, N)) (hk : k9 < N) (hq : q < w_n w) (hcell : w_cf w q (σ q) = .inr (ci, fs)) (hv : fs[k9]? = some v) (k : V P M w nL Q (pc + 3) lv (v :: st) σ) : V P M w nL Q pc lv (.ref (w_ad w q) :: st) σ := fun H locs ls hl hP hS => by
  obtain ⟨hx, hb, hml, hown, hts, hr, hlo, hK, hI, hE, hEo, hR⟩ := hX
  exact va_get (D := w_D w) (cl := vwCl) (ci := ci) (v := v) (C := C) (T := T) (N := N) hx hb hts hin hown hK hP q (by rw [wPic_get w σ hq, hcell]) hc k9 hk (hts _ hm) (fun x9 h9 => by rw [← href]; exact h9) hv hd (k H locs ls hl hP hS)
theorem v_put {C : String} {T : u_T} {N ci index : Nat} {ref : String} {fs : List Value} {v : Int32} {ty : FieldType} (ty0 : Nat → FieldType) (q k9 : Nat) (hX : VOk P M w nL cc own ret d) (hd : decode cc pc = .ok (.putfield index, 3)) (hm : Cond.fieldLink own index ref (T k9).2.1 (T k9).2.2.1 ∈ wAll) (href : (T k9).1 = ref) (hin : ∀ c ∈ u_ws C T N, c ∈ wAll) (hty : ∀ k, k < N → parseFieldDescriptor (T k).2.2.1 = some (ty0 k)) (hnm : ∀ a, a < N → ∀ b, b < N → a ≠ b → (T a).2.1 ≠ (T b).2.1) (hc : vwCl[ci]? = some (C, T, N)) (hk : k9 < N) (hq : q < w_n w) (hfin : (T k9).2.2.2 = false) (hdsc : parseFieldDescriptor (T k9).2.2.1 = some ty) (hna : narrow ty (.int v) = .int v) (hfit : fits ty (.int v) = true) (hcell : w_cf w q (σ q) = .inr (ci, fs)) (hln : k9 < fs.length) (hset : w_cf w q (upd (σ q) k9 v) = .inr (ci, fs.set k9 (.int v))) (k : V P M w nL Q (pc + 3) lv st (mst σ q k9 v)) : V P M w nL Q pc lv (.int v :: .ref (w_ad w q) :: st) σ := fun H locs ls hl hP hS => by
  obtain ⟨hx, hb, hml, hown, hts, hr, hlo, hK, hI, hE, hEo, hR⟩ := hX
  refine va_put (D := w_D w) (cl := vwCl) (A := wA w) (ci := ci) (v := .int v) (ty := ty) (C := C) (T := T) (N := N) hx hb hts hin ty0 hty hnm hown hK hP (wPic_D hI σ) hS q (by rw [wPic_get w σ hq, hcell]) hc k9 hk (hts _ hm) (fun x9 h9 => by rw [← href]; exact h9) hfin hdsc hna hfit hln hd (fun H1 locs1 hP1 _ hS1 => ?_)
  rw [← hset, wPic_set] at hP1
  exact k H1 locs1 ls hl hP1 hS1
theorem v_ald {len : Nat} {i v : Int32} (q : Nat) (hX : VOk P M w nL cc own ret d) (hd : decode cc pc = .ok (.iaload, 1)) (hq : q < w_n w) (hcell : w_cf w q (σ q) = .inl ((w_cs w).1, len, .inl (σ q))) (hin : inB i len = true) (hv : σ q i.toNatClampNeg = v) (k : V P M w nL Q (pc + 1) lv (.int v :: st) σ) : V P M w nL Q pc lv (.int i :: .ref (w_ad w q) :: st) σ := fun H locs ls hl hP hS => by
  obtain ⟨hx, hb, hml, hown, hts, hr, hlo, hK, hI, hE, hEo, hR⟩ := hX
  subst hv
  exact va_iald (D := w_D w) (cl := vwCl) hx hb hK hP q 0 (by rw [wPic_get w σ hq, hcell]) rfl (inB_in hin) hd (k H locs ls hl hP hS)
theorem v_ast {len : Nat} {i x : Int32} (q : Nat) (hX : VOk P M w nL cc own ret d) (hd : decode cc pc = .ok (.iastore, 1)) (hq : q < w_n w) (hcell : ∀ f, w_cf w q f = .inl ((w_cs w).1, len, .inl f)) (hin : inB i len = true) (k : V P M w nL Q (pc + 1) lv st (mst σ q i.toNatClampNeg x)) : V P M w nL Q pc lv (.int x :: .int i :: .ref (w_ad w q) :: st) σ := fun H locs ls hl hP hS => by
  obtain ⟨hx, hb, hml, hown, hts, hr, hlo, hK, hI, hE, hEo, hR⟩ := hX
  refine va_iast (D := w_D w) (cl := vwCl) (A := wA w) hx hb hK hP (wPic_D hI σ) hS q 0 (by rw [wPic_get w σ hq, hcell]) rfl (inB_in hin) hd (fun H1 locs1 hP1 _ hS1 => ?_)
  rw [← hcell, wPic_set] at hP1
  exact k H1 locs1 ls hl hP1 hS1
theorem v_aldc {len : Nat} {i v : Int32} (q j : Nat) (hX : VOk P M w nL cc own ret d) (hd : decode cc pc = .ok (.iaload, 1)) (hq : q < w_n w) (hcell : w_cf w q (σ q) = .inl ((w_cs w).1, len, .inl (σ q))) (hin : inB i len = true) (hi : i.toNatClampNeg = j) (hv : σ q j = v) (k : V P M w nL Q (pc + 1) lv (.int v :: st) σ) : V P M w nL Q pc lv (.int i :: .ref (w_ad w q) :: st) σ := v_ald q hX hd hq hcell hin (by rw [hi]; exact hv) k
theorem v_astc {len : Nat} {i x : Int32} (q j : Nat) (hX : VOk P M w nL cc own ret d) (hd : decode cc pc = .ok (.iastore, 1)) (hq : q < w_n w) (hcell : ∀ f, w_cf w q f = .inl ((w_cs w).1, len, .inl f)) (hin : inB i len = true) (hi : i.toNatClampNeg = j) (k : V P M w nL Q (pc + 1) lv st (mst σ q j x)) : V P M w nL Q pc lv (.int x :: .int i :: .ref (w_ad w q) :: st) σ := by
  subst hi
  exact v_ast q hX hd hq hcell hin k
theorem v_zald {len : Nat} {i v : Int32} (q : Nat) (hX : VOk P M w nL cc own ret d) (hd : decode cc pc = .ok (.baload, 1)) (hq : q < w_n w) (hcell : w_cf w q (σ q) = .inl ((w_cs w).2.2, len, .inl (σ q))) (hin : inB i len = true) (hv : σ q i.toNatClampNeg = v) (k : V P M w nL Q (pc + 1) lv (.int v :: st) σ) : V P M w nL Q pc lv (.int i :: .ref (w_ad w q) :: st) σ := fun H locs ls hl hP hS => by
  obtain ⟨hx, hb, hml, hown, hts, hr, hlo, hK, hI, hE, hEo, hR⟩ := hX
  subst hv
  exact va_zald (D := w_D w) (cl := vwCl) hx hb hK hP q 2 (by rw [wPic_get w σ hq, hcell]) rfl (inB_in hin) hd (k H locs ls hl hP hS)
theorem v_zast {len : Nat} {i x : Int32} (q : Nat) (hX : VOk P M w nL cc own ret d) (hd : decode cc pc = .ok (.bastore, 1)) (hq : q < w_n w) (hcell : ∀ f, w_cf w q f = .inl ((w_cs w).2.2, len, .inl f)) (hin : inB i len = true) (hx9 : vp_nar .boolean x = x) (k : V P M w nL Q (pc + 1) lv st (mst σ q i.toNatClampNeg x)) : V P M w nL Q pc lv (.int x :: .int i :: .ref (w_ad w q) :: st) σ := fun H locs ls hl hP hS => by
  obtain ⟨hx, hb, hml, hown, hts, hr, hlo, hK, hI, hE, hEo, hR⟩ := hX
  refine va_zast (D := w_D w) (cl := vwCl) (A := wA w) hx hb hK hP (wPic_D hI σ) hS q 2 (by rw [wPic_get w σ hq, hcell]) rfl (inB_in hin) hd (fun H1 locs1 hP1 _ hS1 => ?_)
  rw [hx9, ← hcell, wPic_set] at hP1
  exact k H1 locs1 ls hl hP1 hS1
theorem v_aaldG {i : Int32} (q b n : Nat) (hX : VOk P M w nL cc own ret d) (hd : decode cc pc = .ok (.aaload, 1)) (hq : q < w_n w) (hcell : w_cf w q (σ q) = .inl ((w_cs w).2.1, n, .inr (.inr (.inr (.inr (fun i => if i < n then some (w_ad w (b + i)) else none)))))) (hin : inB i n = true) (k : V P M w nL Q (pc + 1) lv (.ref (w_ad w (b + i.toNatClampNeg)) :: st) σ) : V P M w nL Q pc lv (.int i :: .ref (w_ad w q) :: st) σ := fun H locs ls hl hP hS => by
  obtain ⟨hx, hb, hml, hown, hts, hr, hlo, hK, hI, hE, hEo, hR⟩ := hX
  have ha : (wPic w σ)[q]? = some (w_ad w q, .inl ((w_cs w).2.1, n, .inr (.inr (.inr (.inr (fun i => if i < n then some (w_ad w (b + i)) else none)))))) := by rw [wPic_get w σ hq, hcell]
  have hlt := inB_lt hin
  have hin2 : ¬ (i < 0 ∨ n ≤ i.toNatClampNeg) := inB_in hin
  refine W.aald (v := .ref (w_ad w (b + i.toNatClampNeg))) (ty := .array .int) hx hb (hP q _ ha) ((hK.2 1 _ rfl).1 n (fun j => va_rf (if j < n then some (w_ad w (b + j)) else none))) rfl (fun q => by cases q) (by show ¬ (i < 0 ∨ (arrV _ _ _).slots.size ≤ _); rw [arrV_size]; exact hin2) (by show (arrV _ _ _).slots[_]? = _; rw [arrV_read _ _ hlt]; show some (va_rf (if i.toNatClampNeg < n then some (w_ad w (b + i.toNatClampNeg)) else none)) = _; rw [if_pos hlt]; rfl) rfl rfl hd (k H locs ls hl hP hS)
theorem v_alen {v : Int32} (q n : Nat) (hX : VOk P M w nL cc own ret d) (hd : decode cc pc = .ok (.arraylength, 1)) (hq : q < w_n w) (hcell : w_cf w q (σ q) = .inl ((w_cs w).1, n, .inl (σ q))) (hv : n.toInt32 = v) (k : V P M w nL Q (pc + 1) lv (.int v :: st) σ) : V P M w nL Q pc lv (.ref (w_ad w q) :: st) σ := fun H locs ls hl hP hS => by
  obtain ⟨hx, hb, hml, hown, hts, hr, hlo, hK, hI, hE, hEo, hR⟩ := hX
  have ha : (wPic w σ)[q]? = some (w_ad w q, .inl ((w_cs w).1, n, .inl (σ q))) := by rw [wPic_get w σ hq, hcell]
  exact W.alen hx hb (hP q _ ha) ((hK.2 0 _ rfl).1 n (fun j => .int (σ q j))) (by show (arrV _ _ _).slots.size.toInt32 = _; rw [arrV_size]; exact hv) rfl rfl hd (k H locs ls hl hP hS)
def cpB (sp dp n : Int32) (n0 n1 : Nat) : Bool := decide (¬ sp < 0 ∧ ¬ dp < 0 ∧ ¬ n < 0 ∧ sp.toNatClampNeg + n.toNatClampNeg ≤ n0 ∧ dp.toNatClampNeg + n.toNatClampNeg ≤ n1)
theorem v_cpy {index n0 n1 : Nat} {sp dp n : Int32} {rest : List Value} (q0 q1 : Nat) (hX : VOk P M w nL cc own ret d) (hd : decode cc pc = .ok (.invokestatic index, 3)) (hm0 : Cond.methodLink own index arraycopyName ∈ wAll) (hm1 : Cond.native arraycopyName ∈ wAll) (hm2 : Cond.static arraycopyName ∈ wAll) (hm3 : Cond.initialized "java/lang/System" ∈ wAll) (hq0 : q0 < w_n w) (hq1 : q1 < w_n w) (hc0 : ∀ f, w_cf w q0 f = .inl ((w_cs w).1, n0, .inl f)) (hc1 : ∀ f, w_cf w q1 f = .inl ((w_cs w).1, n1, .inl f)) (hB : cpB sp dp n n0 n1 = true) (hd1 : 1 ≤ d) (hroom : (rest.map fun v => v.category).sum ≤ 8) (k : V P M w nL Q (pc + 3) lv rest (mcpy σ q0 q1 sp.toNatClampNeg dp.toNatClampNeg n.toNatClampNeg)) : V P M w nL Q pc lv (.int n :: .int dp :: .ref (w_ad w q1) :: .int sp :: .ref (w_ad w q0) :: rest) σ := fun H locs ls hl hP hS => by
  obtain ⟨hx, hb, hml, hown, hts, hr, hlo, hK, hI, hE, hEo, hR⟩ := hX
  obtain ⟨h1, h2, h3, h4, h5⟩ : ¬ sp < 0 ∧ ¬ dp < 0 ∧ ¬ n < 0 ∧ sp.toNatClampNeg + n.toNatClampNeg ≤ n0 ∧ dp.toNatClampNeg + n.toNatClampNeg ≤ n1 := of_decide_eq_true hB
  refine va_copyi (D := w_D w) (cl := vwCl) (A := wA w) hx hb (hml.trans hl.1.symm) hown (hts _ hm0) (hts _ hm1) (hts _ hm2) (hts _ hm3) hK hP (wPic_D hI σ) hS q0 q1 0 0 (by rw [wPic_get w σ hq0, hc0]) (by rw [wPic_get w σ hq1, hc1]) rfl rfl rfl h1 h2 h3 h4 h5 (fun _ _ => rfl) (Nat.le_trans hd1 hR.1) (Nat.le_trans (Nat.add_le_add_right hroom _) (Nat.le_trans (show 8 + (nativeFrameWords "java/lang/System" "arraycopy" 5 + 11) ≤ 40 from Nat.le_of_ble_eq_true (by decide +kernel)) (Nat.le_trans (by omega) hR.2))) hd (fun H1 locs1 hP1 _ hS1 => ?_)
  rw [← hc1, wPic_set] at hP1
  exact k H1 locs1 ls hl hP1 hS1
def jmax (x y : Int32) : Int32 := if x < y then y else x
theorem v_max {index : Nat} {x y : Int32} {rest : List Value} (hX : VOk P M w nL cc own ret d) (hd : decode cc pc = .ok (.invokestatic index, 3)) (hm0 : Cond.methodLink own index Lib.Math.max.name ∈ wAll) (hm1 : Cond.static Lib.Math.max.name ∈ wAll) (hm2 : Cond.initialized "java/lang/Math" ∈ wAll) (hm3 : Cond.code Lib.Math.max.name Lib.Math.max.code 2 (some .int) ∈ wAll) (hd1 : 1 ≤ d) (hroom : (rest.map fun v => v.category).sum ≤ 8) (k : V P M w nL Q (pc + 3) lv (.int (jmax x y) :: rest) σ) : V P M w nL Q pc lv (.int y :: .int x :: rest) σ := fun H locs ls hl hP hS => by
  obtain ⟨hx, hb, hml, hown, hts, hr, hlo, hK, hI, hE, hEo, hR⟩ := hX
  exact va_mmax hx hb (hml.trans hl.1.symm) hown (hts _ hm0) (hts _ hm1) (hts _ hm2) (hts _ hm3) (Nat.le_trans hd1 hR.1) (Nat.le_trans (Nat.add_le_add_right hroom _) (Nat.le_trans (by omega) hR.2)) (Nat.zero_le _) (Nat.zero_le _) hd (k H locs ls hl hP hS)
theorem v_iret {r : Int32} {ty : FieldType} (hX : VOk P M w nL cc own (some ty) d) (hd : decode cc pc = .ok (.ireturn, 1)) (hn : narrow ty (.int r) = .int r) : V P M w nL (QI P M w r σ) pc lv [.int r] σ := fun H locs ls hl hP hS => by
  obtain ⟨hx, hb, hml, hown, hts, hr, hlo, hK, hI, hE, hEo, hR⟩ := hX
  exact W.zret (v := r) hx hb hr hn (fun t ht hW => ⟨⟨r, σ, rfl, ⟨rfl, rfl⟩, by show va_P _ _ _ t.heap; rw [ht]; exact hP⟩, hS.F ht⟩) hS.2.2 hd hlo
theorem v_vret (hX : VOk P M w nL cc own none d) (hd : decode cc pc = .ok (.return_, 1)) : V P M w nL (QV P M w σ) pc lv [] σ := fun H locs ls hl hP hS => by
  obtain ⟨hx, hb, hml, hown, hts, hr, hlo, hK, hI, hE, hEo, hR⟩ := hX
  exact W.vret hx hb hr (fun t ht hW => ⟨⟨σ, rfl, rfl, by show va_P _ _ _ t.heap; rw [ht]; exact hP⟩, hS.F ht⟩) hS.2.2 hd hlo
theorem v_nb {x : Int32} (h : x = 0 ∨ x = 1) : narrow .boolean (.int x) = .int x := by
  rcases h with rfl | rfl <;> rfl
theorem v_pre {U : State} (hX : VOk P M w nL cc own ret d) {H : Heap} {locs : List Loc} (hP : va_P (w_D w) vwCl (wPic w σ) H) (hS : va_S (wA w) (p_s P).heap H locs) (hU : U.heap = H) (hW : (p_s P).WarmedH U.vm) : WPre w σ U := by
  obtain ⟨hx, hb, hml, hown, hts, hr, hlo, hK, hI, hE, hEo, hR⟩ := hX
  exact ⟨by rw [hU]; exact hP, va_K.moved hW.alike hK, hI, hEo.2 (p_s P) U H locs hE hS hU hW, hEo⟩
theorem v_blind (av : List Value) : FrameBlind (va_Pc av (WPre w σ)) := fun a U g mk h => by
  obtain ⟨h0, hP, hK, hI, hE, hEo⟩ := h
  exact ⟨h0, hP, va_K.moved (u := U) (U := U.calling g mk a) (Vm.Alike.refl U.vm) hK, hI, hEo.1 U g mk a hE, hEo⟩
theorem v_good {ws : List Cond} (hG : GoodIn wAll wAll) (h : ∀ c ∈ ws, c ∈ wAll) : GoodIn wAll ws := fun c hc => hG c (h c hc)

theorem v_callVi {y : MethodName} {bytes : ByteArray} {maxL d2 index n : Nat} {ret2 : Option FieldType} {av As rest : List Value} {r : Int32} {σ2 : Mem} (q : Nat) {ci : Nat} {C : String} {T : u_T} {N : Nat} {fs : List Value} (hX : VOk P M w nL cc own ret d) (hd : decode cc pc = .ok (.invokevirtual index, 3)) (hM : CtI (P.2.1) w d2 y bytes maxL ret2 av σ r σ2) (hav : av = .ref (w_ad w q) :: As) (hst : st = As.reverse ++ .ref (w_ad w q) :: rest) (hq : q < w_n w) (hcell : w_cf w q (σ q) = .inr (ci, fs)) (hc : vwCl[ci]? = some (C, T, N)) (hC : y.cls = C) (hm1 : Cond.instanceMethod y ∈ wAll) (hm2 : Cond.selects C y y ∈ wAll) (hm3 : Cond.initialized C ∈ wAll) (hm0 : Cond.methodLink own index y ∈ wAll) (hmc : Cond.code y bytes maxL ret2 ∈ wAll) (hG : GoodIn wAll wAll) (hds : y.cls ≠ "java/lang/invoke/MethodHandle" ∧ y.cls ≠ "java/lang/invoke/VarHandle" ∧ (parseMethodDescriptor y.desc).map (fun d => d.parameters.length) = some n) (hn : As.length = n) (hR2 : d2 + 1 ≤ d ∧ maxL ≤ 21) (hroom : (rest.map fun v => v.category).sum ≤ 8) (k : V P M w nL Q (pc + 3) lv (.int r :: rest) σ2) : V P M w nL Q pc lv st σ := fun H locs ls hl hP hS => by
  have hX0 := hX
  obtain ⟨hx, hb, hml, hown, hts, hr, hlo, hK, hI, hE, hEo, hR⟩ := hX
  subst hav; subst hst
  have hRR : (rmL d2).frames + 1 ≤ (p_R P).frames ∧ 8 + (maxL + 11) + (rmL d2).locals ≤ (p_R P).locals := ⟨Nat.le_trans hR2.1 hR.1, by show 8 + (maxL + 11) + 40 * d2 ≤ _; omega⟩
  have hgw : GoodIn wAll (.code y bytes maxL ret2 :: wAll) := v_good hG (fun c h => by rcases List.mem_cons.mp h with rfl | h; exact hmc; exact h)
  have cw : CallW (p_R P) (p_s P) M.2.1 own C index y bytes maxL ret2 (.code y bytes maxL ret2 :: wAll) (rmL d2) 0 0 n := by
    subst hC
    exact ⟨callB_of n hts hgw rfl rfl rfl (hts _ hm3) (hts _ hm0) hds hRR, hts _ hm1, hts _ hm2⟩
  refine va_calli (va_runV (As := As) (rest := rest) ⟨hx, hb, hml, hown, hts⟩ hM cw ⟨v_blind _, va_recv hK hP (ci := ci) (q0 := q) hc (by rw [wPic_get w σ hq, hcell]), fun U hU hW => ⟨rfl, v_pre hX0 hP hS hU hW⟩⟩ rfl hn hl.1 rfl (lv_room hroom) hd ⟨Nat.zero_le _, Nat.zero_le _⟩) hS (fun q _ h => h) (fun q h => h) (fun r2 u t H1 locs1 ht hvm hw hB hz1 hk1 hS1 => ?_)
  obtain ⟨rfl, rfl⟩ := hw
  exact k H1 locs1 ls hl (by rw [← ht]; exact hB) hS1
theorem v_callVv {y : MethodName} {bytes : ByteArray} {maxL d2 index n : Nat} {av As rest : List Value} {σ2 : Mem} (q : Nat) {ci : Nat} {C : String} {T : u_T} {N : Nat} {fs : List Value} (hX : VOk P M w nL cc own ret d) (hd : decode cc pc = .ok (.invokevirtual index, 3)) (hM : CtV (P.2.1) w d2 y bytes maxL av σ σ2) (hav : av = .ref (w_ad w q) :: As) (hst : st = As.reverse ++ .ref (w_ad w q) :: rest) (hq : q < w_n w) (hcell : w_cf w q (σ q) = .inr (ci, fs)) (hc : vwCl[ci]? = some (C, T, N)) (hC : y.cls = C) (hm1 : Cond.instanceMethod y ∈ wAll) (hm2 : Cond.selects C y y ∈ wAll) (hm3 : Cond.initialized C ∈ wAll) (hm0 : Cond.methodLink own index y ∈ wAll) (hmc : Cond.code y bytes maxL none ∈ wAll) (hG : GoodIn wAll wAll) (hds : y.cls ≠ "java/lang/invoke/MethodHandle" ∧ y.cls ≠ "java/lang/invoke/VarHandle" ∧ (parseMethodDescriptor y.desc).map (fun d => d.parameters.length) = some n) (hn : As.length = n) (hR2 : d2 + 1 ≤ d ∧ maxL ≤ 21) (hroom : (rest.map fun v => v.category).sum ≤ 8) (k : V P M w nL Q (pc + 3) lv (rest) σ2) : V P M w nL Q pc lv st σ := fun H locs ls hl hP hS => by
  have hX0 := hX
  obtain ⟨hx, hb, hml, hown, hts, hr, hlo, hK, hI, hE, hEo, hR⟩ := hX
  subst hav; subst hst
  have hRR : (rmL d2).frames + 1 ≤ (p_R P).frames ∧ 8 + (maxL + 11) + (rmL d2).locals ≤ (p_R P).locals := ⟨Nat.le_trans hR2.1 hR.1, by show 8 + (maxL + 11) + 40 * d2 ≤ _; omega⟩
  have hgw : GoodIn wAll (.code y bytes maxL none :: wAll) := v_good hG (fun c h => by rcases List.mem_cons.mp h with rfl | h; exact hmc; exact h)
  have cw : CallW (p_R P) (p_s P) M.2.1 own C index y bytes maxL none (.code y bytes maxL none :: wAll) (rmL d2) 0 0 n := by
    subst hC
    exact ⟨callB_of n hts hgw rfl rfl rfl (hts _ hm3) (hts _ hm0) hds hRR, hts _ hm1, hts _ hm2⟩
  refine va_callv (va_runV (As := As) (rest := rest) ⟨hx, hb, hml, hown, hts⟩ hM cw ⟨v_blind _, va_recv hK hP (ci := ci) (q0 := q) hc (by rw [wPic_get w σ hq, hcell]), fun U hU hW => ⟨rfl, v_pre hX0 hP hS hU hW⟩⟩ rfl hn hl.1 rfl (lv_room hroom) hd ⟨Nat.zero_le _, Nat.zero_le _⟩) hS (fun q _ h => h) (fun q h => h) (fun u t H1 locs1 ht hvm hw hB hz1 hk1 hS1 => ?_)
  obtain rfl := hw
  exact k H1 locs1 ls hl (by rw [← ht]; exact hB) hS1
theorem v_callVr {y : MethodName} {bytes : ByteArray} {maxL d2 index n : Nat} {ret2 : Option FieldType} {av As rest : List Value} {a2 : Nat} (q : Nat) {ci : Nat} {C : String} {T : u_T} {N : Nat} {fs : List Value} (hX : VOk P M w nL cc own ret d) (hd : decode cc pc = .ok (.invokevirtual index, 3)) (hM : CtR (P.2.1) w d2 y bytes maxL ret2 av σ a2) (hav : av = .ref (w_ad w q) :: As) (hst : st = As.reverse ++ .ref (w_ad w q) :: rest) (hq : q < w_n w) (hcell : w_cf w q (σ q) = .inr (ci, fs)) (hc : vwCl[ci]? = some (C, T, N)) (hC : y.cls = C) (hm1 : Cond.instanceMethod y ∈ wAll) (hm2 : Cond.selects C y y ∈ wAll) (hm3 : Cond.initialized C ∈ wAll) (hm0 : Cond.methodLink own index y ∈ wAll) (hmc : Cond.code y bytes maxL ret2 ∈ wAll) (hG : GoodIn wAll wAll) (hds : y.cls ≠ "java/lang/invoke/MethodHandle" ∧ y.cls ≠ "java/lang/invoke/VarHandle" ∧ (parseMethodDescriptor y.desc).map (fun d => d.parameters.length) = some n) (hn : As.length = n) (hR2 : d2 + 1 ≤ d ∧ maxL ≤ 21) (hroom : (rest.map fun v => v.category).sum ≤ 8) (k : V P M w nL Q (pc + 3) lv (.ref a2 :: rest) σ) : V P M w nL Q pc lv st σ := fun H locs ls hl hP hS => by
  have hX0 := hX
  obtain ⟨hx, hb, hml, hown, hts, hr, hlo, hK, hI, hE, hEo, hR⟩ := hX
  subst hav; subst hst
  have hRR : (rmL d2).frames + 1 ≤ (p_R P).frames ∧ 8 + (maxL + 11) + (rmL d2).locals ≤ (p_R P).locals := ⟨Nat.le_trans hR2.1 hR.1, by show 8 + (maxL + 11) + 40 * d2 ≤ _; omega⟩
  have hgw : GoodIn wAll (.code y bytes maxL ret2 :: wAll) := v_good hG (fun c h => by rcases List.mem_cons.mp h with rfl | h; exact hmc; exact h)
  have cw : CallW (p_R P) (p_s P) M.2.1 own C index y bytes maxL ret2 (.code y bytes maxL ret2 :: wAll) (rmL d2) 0 0 n := by
    subst hC
    exact ⟨callB_of n hts hgw rfl rfl rfl (hts _ hm3) (hts _ hm0) hds hRR, hts _ hm1, hts _ hm2⟩
  refine va_callr (va_runV (As := As) (rest := rest) ⟨hx, hb, hml, hown, hts⟩ hM cw ⟨v_blind _, va_recv hK hP (ci := ci) (q0 := q) hc (by rw [wPic_get w σ hq, hcell]), fun U hU hW => ⟨rfl, v_pre hX0 hP hS hU hW⟩⟩ rfl hn hl.1 rfl (lv_room hroom) hd ⟨Nat.zero_le _, Nat.zero_le _⟩) hS (fun q _ h => h) (fun q h => h) (fun u ra t H1 locs1 ht hvm hw hB hz1 hk1 hS1 => ?_)
  obtain rfl := hw
  obtain ⟨hB, rfl⟩ := hB
  exact k H1 locs1 ls hl (by rw [← ht]; exact hB) hS1
theorem v_callSi {y : MethodName} {bytes : ByteArray} {maxL d2 index n : Nat} {ret2 : Option FieldType} {av As rest : List Value} {r : Int32} {σ2 : Mem} (hX : VOk P M w nL cc own ret d) (hd : decode cc pc = .ok (.invokestatic index, 3)) (hM : CtI (P.2.1) w d2 y bytes maxL ret2 av σ r σ2) (hav : As = av) (hst : st = As.reverse ++ rest) (hm1 : Cond.static y ∈ wAll) (hm3 : Cond.initialized y.cls ∈ wAll) (hm0 : Cond.methodLink own index y ∈ wAll) (hmc : Cond.code y bytes maxL ret2 ∈ wAll) (hG : GoodIn wAll wAll) (hds : y.cls ≠ "java/lang/invoke/MethodHandle" ∧ y.cls ≠ "java/lang/invoke/VarHandle" ∧ (parseMethodDescriptor y.desc).map (fun d => d.parameters.length) = some n) (hn : As.length = n) (hR2 : d2 + 1 ≤ d ∧ maxL ≤ 21) (hroom : (rest.map fun v => v.category).sum ≤ 8) (k : V P M w nL Q (pc + 3) lv (.int r :: rest) σ2) : V P M w nL Q pc lv st σ := fun H locs ls hl hP hS => by
  have hX0 := hX
  obtain ⟨hx, hb, hml, hown, hts, hr, hlo, hK, hI, hE, hEo, hR⟩ := hX
  subst hav; subst hst
  have hRR : (rmL d2).frames + 1 ≤ (p_R P).frames ∧ 8 + (maxL + 11) + (rmL d2).locals ≤ (p_R P).locals := ⟨Nat.le_trans hR2.1 hR.1, by show 8 + (maxL + 11) + 40 * d2 ≤ _; omega⟩
  have hgw : GoodIn wAll (.code y bytes maxL ret2 :: wAll) := v_good hG (fun c h => by rcases List.mem_cons.mp h with rfl | h; exact hmc; exact h)
  have cw : CallB (p_R P) (p_s P) M.2.1 own index y bytes maxL ret2 (.code y bytes maxL ret2 :: wAll) (rmL d2) 0 0 n ∧ (Cond.static y).before M.2.1 (p_s P) = true := ⟨callB_of n hts hgw rfl rfl rfl (hts _ hm3) (hts _ hm0) hds hRR, hts _ hm1⟩
  refine va_calli (va_runS (As := As) (rest := rest) ⟨hx, hb, hml, hown, hts⟩ hM cw ⟨v_blind _, fun U hU hW => ⟨rfl, v_pre hX0 hP hS hU hW⟩⟩ rfl hn hl.1 rfl (lv_room hroom) hd ⟨Nat.zero_le _, Nat.zero_le _⟩) hS (fun q _ h => h) (fun q h => h) (fun r2 u t H1 locs1 ht hvm hw hB hz1 hk1 hS1 => ?_)
  obtain ⟨rfl, rfl⟩ := hw
  exact k H1 locs1 ls hl (by rw [← ht]; exact hB) hS1
theorem v_callSv {y : MethodName} {bytes : ByteArray} {maxL d2 index n : Nat} {av As rest : List Value} {σ2 : Mem} (hX : VOk P M w nL cc own ret d) (hd : decode cc pc = .ok (.invokestatic index, 3)) (hM : CtV (P.2.1) w d2 y bytes maxL av σ σ2) (hav : As = av) (hst : st = As.reverse ++ rest) (hm1 : Cond.static y ∈ wAll) (hm3 : Cond.initialized y.cls ∈ wAll) (hm0 : Cond.methodLink own index y ∈ wAll) (hmc : Cond.code y bytes maxL none ∈ wAll) (hG : GoodIn wAll wAll) (hds : y.cls ≠ "java/lang/invoke/MethodHandle" ∧ y.cls ≠ "java/lang/invoke/VarHandle" ∧ (parseMethodDescriptor y.desc).map (fun d => d.parameters.length) = some n) (hn : As.length = n) (hR2 : d2 + 1 ≤ d ∧ maxL ≤ 21) (hroom : (rest.map fun v => v.category).sum ≤ 8) (k : V P M w nL Q (pc + 3) lv (rest) σ2) : V P M w nL Q pc lv st σ := fun H locs ls hl hP hS => by
  have hX0 := hX
  obtain ⟨hx, hb, hml, hown, hts, hr, hlo, hK, hI, hE, hEo, hR⟩ := hX
  subst hav; subst hst
  have hRR : (rmL d2).frames + 1 ≤ (p_R P).frames ∧ 8 + (maxL + 11) + (rmL d2).locals ≤ (p_R P).locals := ⟨Nat.le_trans hR2.1 hR.1, by show 8 + (maxL + 11) + 40 * d2 ≤ _; omega⟩
  have hgw : GoodIn wAll (.code y bytes maxL none :: wAll) := v_good hG (fun c h => by rcases List.mem_cons.mp h with rfl | h; exact hmc; exact h)
  have cw : CallB (p_R P) (p_s P) M.2.1 own index y bytes maxL none (.code y bytes maxL none :: wAll) (rmL d2) 0 0 n ∧ (Cond.static y).before M.2.1 (p_s P) = true := ⟨callB_of n hts hgw rfl rfl rfl (hts _ hm3) (hts _ hm0) hds hRR, hts _ hm1⟩
  refine va_callv (va_runS (As := As) (rest := rest) ⟨hx, hb, hml, hown, hts⟩ hM cw ⟨v_blind _, fun U hU hW => ⟨rfl, v_pre hX0 hP hS hU hW⟩⟩ rfl hn hl.1 rfl (lv_room hroom) hd ⟨Nat.zero_le _, Nat.zero_le _⟩) hS (fun q _ h => h) (fun q h => h) (fun u t H1 locs1 ht hvm hw hB hz1 hk1 hS1 => ?_)
  obtain rfl := hw
  exact k H1 locs1 ls hl (by rw [← ht]; exact hB) hS1
theorem v_callSr {y : MethodName} {bytes : ByteArray} {maxL d2 index n : Nat} {ret2 : Option FieldType} {av As rest : List Value} {a2 : Nat} (hX : VOk P M w nL cc own ret d) (hd : decode cc pc = .ok (.invokestatic index, 3)) (hM : CtR (P.2.1) w d2 y bytes maxL ret2 av σ a2) (hav : As = av) (hst : st = As.reverse ++ rest) (hm1 : Cond.static y ∈ wAll) (hm3 : Cond.initialized y.cls ∈ wAll) (hm0 : Cond.methodLink own index y ∈ wAll) (hmc : Cond.code y bytes maxL ret2 ∈ wAll) (hG : GoodIn wAll wAll) (hds : y.cls ≠ "java/lang/invoke/MethodHandle" ∧ y.cls ≠ "java/lang/invoke/VarHandle" ∧ (parseMethodDescriptor y.desc).map (fun d => d.parameters.length) = some n) (hn : As.length = n) (hR2 : d2 + 1 ≤ d ∧ maxL ≤ 21) (hroom : (rest.map fun v => v.category).sum ≤ 8) (k : V P M w nL Q (pc + 3) lv (.ref a2 :: rest) σ) : V P M w nL Q pc lv st σ := fun H locs ls hl hP hS => by
  have hX0 := hX
  obtain ⟨hx, hb, hml, hown, hts, hr, hlo, hK, hI, hE, hEo, hR⟩ := hX
  subst hav; subst hst
  have hRR : (rmL d2).frames + 1 ≤ (p_R P).frames ∧ 8 + (maxL + 11) + (rmL d2).locals ≤ (p_R P).locals := ⟨Nat.le_trans hR2.1 hR.1, by show 8 + (maxL + 11) + 40 * d2 ≤ _; omega⟩
  have hgw : GoodIn wAll (.code y bytes maxL ret2 :: wAll) := v_good hG (fun c h => by rcases List.mem_cons.mp h with rfl | h; exact hmc; exact h)
  have cw : CallB (p_R P) (p_s P) M.2.1 own index y bytes maxL ret2 (.code y bytes maxL ret2 :: wAll) (rmL d2) 0 0 n ∧ (Cond.static y).before M.2.1 (p_s P) = true := ⟨callB_of n hts hgw rfl rfl rfl (hts _ hm3) (hts _ hm0) hds hRR, hts _ hm1⟩
  refine va_callr (va_runS (As := As) (rest := rest) ⟨hx, hb, hml, hown, hts⟩ hM cw ⟨v_blind _, fun U hU hW => ⟨rfl, v_pre hX0 hP hS hU hW⟩⟩ rfl hn hl.1 rfl (lv_room hroom) hd ⟨Nat.zero_le _, Nat.zero_le _⟩) hS (fun q _ h => h) (fun q h => h) (fun u ra t H1 locs1 ht hvm hw hB hz1 hk1 hS1 => ?_)
  obtain rfl := hw
  obtain ⟨hB, rfl⟩ := hB
  exact k H1 locs1 ls hl (by rw [← ht]; exact hB) hS1
theorem v_callNi {y : MethodName} {bytes : ByteArray} {maxL d2 index n : Nat} {ret2 : Option FieldType} {av As rest : List Value} {r : Int32} {σ2 : Mem} (hX : VOk P M w nL cc own ret d) (hd : decode cc pc = .ok (.invokestatic index, 3)) (hM : CtI (P.2.1) w d2 y bytes maxL ret2 av σ r σ2) (hav : As = av) (hst : st = As.reverse ++ rest) (hm1 : Cond.static y ∈ wAll) (hm3 : Cond.initialized y.cls ∈ wAll) (hm0 : va_Nw (.methodLinkNest own index y "InkTaken") (p_s P)) (hmc : Cond.code y bytes maxL ret2 ∈ wAll) (hG : GoodIn wAll wAll) (hds : y.cls ≠ "java/lang/invoke/MethodHandle" ∧ y.cls ≠ "java/lang/invoke/VarHandle" ∧ (parseMethodDescriptor y.desc).map (fun d => d.parameters.length) = some n) (hn : As.length = n) (hR2 : d2 + 1 ≤ d ∧ maxL ≤ 21) (hroom : (rest.map fun v => v.category).sum ≤ 8) (k : V P M w nL Q (pc + 3) lv (.int r :: rest) σ2) : V P M w nL Q pc lv st σ := fun H locs ls hl hP hS => by
  have hX0 := hX
  obtain ⟨hx, hb, hml, hown, hts, hr, hlo, hK, hI, hE, hEo, hR⟩ := hX
  subst hav; subst hst
  have hRR : (rmL d2).frames + 1 ≤ (p_R P).frames ∧ 8 + (maxL + 11) + (rmL d2).locals ≤ (p_R P).locals := ⟨Nat.le_trans hR2.1 hR.1, by show 8 + (maxL + 11) + 40 * d2 ≤ _; omega⟩
  have hgw : GoodIn wAll (.code y bytes maxL ret2 :: wAll) := v_good hG (fun c h => by rcases List.mem_cons.mp h with rfl | h; exact hmc; exact h)
  have cw : va_CN (p_R P) (p_s P) M.2.1 own index y "InkTaken" bytes maxL ret2 (.code y bytes maxL ret2 :: wAll) (rmL d2) 0 0 n ∧ (Cond.static y).before M.2.1 (p_s P) = true ∧ True := ⟨va_cnB n hts hgw rfl rfl rfl hm0 (hts _ hm3) hds hRR, hts _ hm1, trivial⟩
  refine va_calli (va_runSN (As := As) (rest := rest) ⟨hx, hb, hml, hown, hts⟩ hM cw ⟨v_blind _, fun U hU hW => ⟨rfl, v_pre hX0 hP hS hU hW⟩⟩ rfl hn hl.1 rfl (lv_room hroom) hd ⟨Nat.zero_le _, Nat.zero_le _⟩) hS (fun q _ h => h) (fun q h => h) (fun r2 u t H1 locs1 ht hvm hw hB hz1 hk1 hS1 => ?_)
  obtain ⟨rfl, rfl⟩ := hw
  exact k H1 locs1 ls hl (by rw [← ht]; exact hB) hS1
theorem v_callNv {y : MethodName} {bytes : ByteArray} {maxL d2 index n : Nat} {av As rest : List Value} {σ2 : Mem} (hX : VOk P M w nL cc own ret d) (hd : decode cc pc = .ok (.invokestatic index, 3)) (hM : CtV (P.2.1) w d2 y bytes maxL av σ σ2) (hav : As = av) (hst : st = As.reverse ++ rest) (hm1 : Cond.static y ∈ wAll) (hm3 : Cond.initialized y.cls ∈ wAll) (hm0 : va_Nw (.methodLinkNest own index y "InkTaken") (p_s P)) (hmc : Cond.code y bytes maxL none ∈ wAll) (hG : GoodIn wAll wAll) (hds : y.cls ≠ "java/lang/invoke/MethodHandle" ∧ y.cls ≠ "java/lang/invoke/VarHandle" ∧ (parseMethodDescriptor y.desc).map (fun d => d.parameters.length) = some n) (hn : As.length = n) (hR2 : d2 + 1 ≤ d ∧ maxL ≤ 21) (hroom : (rest.map fun v => v.category).sum ≤ 8) (k : V P M w nL Q (pc + 3) lv (rest) σ2) : V P M w nL Q pc lv st σ := fun H locs ls hl hP hS => by
  have hX0 := hX
  obtain ⟨hx, hb, hml, hown, hts, hr, hlo, hK, hI, hE, hEo, hR⟩ := hX
  subst hav; subst hst
  have hRR : (rmL d2).frames + 1 ≤ (p_R P).frames ∧ 8 + (maxL + 11) + (rmL d2).locals ≤ (p_R P).locals := ⟨Nat.le_trans hR2.1 hR.1, by show 8 + (maxL + 11) + 40 * d2 ≤ _; omega⟩
  have hgw : GoodIn wAll (.code y bytes maxL none :: wAll) := v_good hG (fun c h => by rcases List.mem_cons.mp h with rfl | h; exact hmc; exact h)
  have cw : va_CN (p_R P) (p_s P) M.2.1 own index y "InkTaken" bytes maxL none (.code y bytes maxL none :: wAll) (rmL d2) 0 0 n ∧ (Cond.static y).before M.2.1 (p_s P) = true ∧ True := ⟨va_cnB n hts hgw rfl rfl rfl hm0 (hts _ hm3) hds hRR, hts _ hm1, trivial⟩
  refine va_callv (va_runSN (As := As) (rest := rest) ⟨hx, hb, hml, hown, hts⟩ hM cw ⟨v_blind _, fun U hU hW => ⟨rfl, v_pre hX0 hP hS hU hW⟩⟩ rfl hn hl.1 rfl (lv_room hroom) hd ⟨Nat.zero_le _, Nat.zero_le _⟩) hS (fun q _ h => h) (fun q h => h) (fun u t H1 locs1 ht hvm hw hB hz1 hk1 hS1 => ?_)
  obtain rfl := hw
  exact k H1 locs1 ls hl (by rw [← ht]; exact hB) hS1
theorem v_callNr {y : MethodName} {bytes : ByteArray} {maxL d2 index n : Nat} {ret2 : Option FieldType} {av As rest : List Value} {a2 : Nat} (hX : VOk P M w nL cc own ret d) (hd : decode cc pc = .ok (.invokestatic index, 3)) (hM : CtR (P.2.1) w d2 y bytes maxL ret2 av σ a2) (hav : As = av) (hst : st = As.reverse ++ rest) (hm1 : Cond.static y ∈ wAll) (hm3 : Cond.initialized y.cls ∈ wAll) (hm0 : va_Nw (.methodLinkNest own index y "InkTaken") (p_s P)) (hmc : Cond.code y bytes maxL ret2 ∈ wAll) (hG : GoodIn wAll wAll) (hds : y.cls ≠ "java/lang/invoke/MethodHandle" ∧ y.cls ≠ "java/lang/invoke/VarHandle" ∧ (parseMethodDescriptor y.desc).map (fun d => d.parameters.length) = some n) (hn : As.length = n) (hR2 : d2 + 1 ≤ d ∧ maxL ≤ 21) (hroom : (rest.map fun v => v.category).sum ≤ 8) (k : V P M w nL Q (pc + 3) lv (.ref a2 :: rest) σ) : V P M w nL Q pc lv st σ := fun H locs ls hl hP hS => by
  have hX0 := hX
  obtain ⟨hx, hb, hml, hown, hts, hr, hlo, hK, hI, hE, hEo, hR⟩ := hX
  subst hav; subst hst
  have hRR : (rmL d2).frames + 1 ≤ (p_R P).frames ∧ 8 + (maxL + 11) + (rmL d2).locals ≤ (p_R P).locals := ⟨Nat.le_trans hR2.1 hR.1, by show 8 + (maxL + 11) + 40 * d2 ≤ _; omega⟩
  have hgw : GoodIn wAll (.code y bytes maxL ret2 :: wAll) := v_good hG (fun c h => by rcases List.mem_cons.mp h with rfl | h; exact hmc; exact h)
  have cw : va_CN (p_R P) (p_s P) M.2.1 own index y "InkTaken" bytes maxL ret2 (.code y bytes maxL ret2 :: wAll) (rmL d2) 0 0 n ∧ (Cond.static y).before M.2.1 (p_s P) = true ∧ True := ⟨va_cnB n hts hgw rfl rfl rfl hm0 (hts _ hm3) hds hRR, hts _ hm1, trivial⟩
  refine va_callr (va_runSN (As := As) (rest := rest) ⟨hx, hb, hml, hown, hts⟩ hM cw ⟨v_blind _, fun U hU hW => ⟨rfl, v_pre hX0 hP hS hU hW⟩⟩ rfl hn hl.1 rfl (lv_room hroom) hd ⟨Nat.zero_le _, Nat.zero_le _⟩) hS (fun q _ h => h) (fun q h => h) (fun u ra t H1 locs1 ht hvm hw hB hz1 hk1 hS1 => ?_)
  obtain rfl := hw
  obtain ⟨hB, rfl⟩ := hB
  exact k H1 locs1 ls hl (by rw [← ht]; exact hB) hS1
theorem v_callOi {y : MethodName} {bytes : ByteArray} {maxL d2 index n : Nat} {ret2 : Option FieldType} {av As rest : List Value} {r : Int32} {σ2 : Mem} (q : Nat) {ci : Nat} {C : String} {T : u_T} {N : Nat} {fs : List Value} (hX : VOk P M w nL cc own ret d) (hd : decode cc pc = .ok (.invokevirtual index, 3)) (hM : CtI (P.2.1) w d2 y bytes maxL ret2 av σ r σ2) (hav : av = .ref (w_ad w q) :: As) (hst : st = As.reverse ++ .ref (w_ad w q) :: rest) (hq : q < w_n w) (hcell : w_cf w q (σ q) = .inr (ci, fs)) (hc : vwCl[ci]? = some (C, T, N)) (hC : y.cls = C) (hm1 : Cond.instanceMethod y ∈ wAll) (hm2 : Cond.selects C y y ∈ wAll) (hm3 : Cond.initialized C ∈ wAll) (hm0 : va_Nw (.methodLinkNest own index y "InkTaken") (p_s P)) (hmc : Cond.code y bytes maxL ret2 ∈ wAll) (hG : GoodIn wAll wAll) (hds : y.cls ≠ "java/lang/invoke/MethodHandle" ∧ y.cls ≠ "java/lang/invoke/VarHandle" ∧ (parseMethodDescriptor y.desc).map (fun d => d.parameters.length) = some n) (hn : As.length = n) (hR2 : d2 + 1 ≤ d ∧ maxL ≤ 21) (hroom : (rest.map fun v => v.category).sum ≤ 8) (k : V P M w nL Q (pc + 3) lv (.int r :: rest) σ2) : V P M w nL Q pc lv st σ := fun H locs ls hl hP hS => by
  have hX0 := hX
  obtain ⟨hx, hb, hml, hown, hts, hr, hlo, hK, hI, hE, hEo, hR⟩ := hX
  subst hav; subst hst
  have hRR : (rmL d2).frames + 1 ≤ (p_R P).frames ∧ 8 + (maxL + 11) + (rmL d2).locals ≤ (p_R P).locals := ⟨Nat.le_trans hR2.1 hR.1, by show 8 + (maxL + 11) + 40 * d2 ≤ _; omega⟩
  have hgw : GoodIn wAll (.code y bytes maxL ret2 :: wAll) := v_good hG (fun c h => by rcases List.mem_cons.mp h with rfl | h; exact hmc; exact h)
  have cw : va_CN (p_R P) (p_s P) M.2.1 own index y "InkTaken" bytes maxL ret2 (.code y bytes maxL ret2 :: wAll) (rmL d2) 0 0 n ∧ (Cond.instanceMethod y).before M.2.1 (p_s P) = true ∧ (Cond.selects C y y).before M.2.1 (p_s P) = true := by
    subst hC
    exact ⟨va_cnB n hts hgw rfl rfl rfl hm0 (hts _ hm3) hds hRR, hts _ hm1, hts _ hm2⟩
  refine va_calli (va_runVN (As := As) (rest := rest) ⟨hx, hb, hml, hown, hts⟩ hM cw ⟨v_blind _, va_recv hK hP (ci := ci) (q0 := q) hc (by rw [wPic_get w σ hq, hcell]), fun U hU hW => ⟨rfl, v_pre hX0 hP hS hU hW⟩⟩ rfl hn hl.1 rfl (lv_room hroom) hd ⟨Nat.zero_le _, Nat.zero_le _⟩) hS (fun q _ h => h) (fun q h => h) (fun r2 u t H1 locs1 ht hvm hw hB hz1 hk1 hS1 => ?_)
  obtain ⟨rfl, rfl⟩ := hw
  exact k H1 locs1 ls hl (by rw [← ht]; exact hB) hS1
theorem v_callOv {y : MethodName} {bytes : ByteArray} {maxL d2 index n : Nat} {av As rest : List Value} {σ2 : Mem} (q : Nat) {ci : Nat} {C : String} {T : u_T} {N : Nat} {fs : List Value} (hX : VOk P M w nL cc own ret d) (hd : decode cc pc = .ok (.invokevirtual index, 3)) (hM : CtV (P.2.1) w d2 y bytes maxL av σ σ2) (hav : av = .ref (w_ad w q) :: As) (hst : st = As.reverse ++ .ref (w_ad w q) :: rest) (hq : q < w_n w) (hcell : w_cf w q (σ q) = .inr (ci, fs)) (hc : vwCl[ci]? = some (C, T, N)) (hC : y.cls = C) (hm1 : Cond.instanceMethod y ∈ wAll) (hm2 : Cond.selects C y y ∈ wAll) (hm3 : Cond.initialized C ∈ wAll) (hm0 : va_Nw (.methodLinkNest own index y "InkTaken") (p_s P)) (hmc : Cond.code y bytes maxL none ∈ wAll) (hG : GoodIn wAll wAll) (hds : y.cls ≠ "java/lang/invoke/MethodHandle" ∧ y.cls ≠ "java/lang/invoke/VarHandle" ∧ (parseMethodDescriptor y.desc).map (fun d => d.parameters.length) = some n) (hn : As.length = n) (hR2 : d2 + 1 ≤ d ∧ maxL ≤ 21) (hroom : (rest.map fun v => v.category).sum ≤ 8) (k : V P M w nL Q (pc + 3) lv (rest) σ2) : V P M w nL Q pc lv st σ := fun H locs ls hl hP hS => by
  have hX0 := hX
  obtain ⟨hx, hb, hml, hown, hts, hr, hlo, hK, hI, hE, hEo, hR⟩ := hX
  subst hav; subst hst
  have hRR : (rmL d2).frames + 1 ≤ (p_R P).frames ∧ 8 + (maxL + 11) + (rmL d2).locals ≤ (p_R P).locals := ⟨Nat.le_trans hR2.1 hR.1, by show 8 + (maxL + 11) + 40 * d2 ≤ _; omega⟩
  have hgw : GoodIn wAll (.code y bytes maxL none :: wAll) := v_good hG (fun c h => by rcases List.mem_cons.mp h with rfl | h; exact hmc; exact h)
  have cw : va_CN (p_R P) (p_s P) M.2.1 own index y "InkTaken" bytes maxL none (.code y bytes maxL none :: wAll) (rmL d2) 0 0 n ∧ (Cond.instanceMethod y).before M.2.1 (p_s P) = true ∧ (Cond.selects C y y).before M.2.1 (p_s P) = true := by
    subst hC
    exact ⟨va_cnB n hts hgw rfl rfl rfl hm0 (hts _ hm3) hds hRR, hts _ hm1, hts _ hm2⟩
  refine va_callv (va_runVN (As := As) (rest := rest) ⟨hx, hb, hml, hown, hts⟩ hM cw ⟨v_blind _, va_recv hK hP (ci := ci) (q0 := q) hc (by rw [wPic_get w σ hq, hcell]), fun U hU hW => ⟨rfl, v_pre hX0 hP hS hU hW⟩⟩ rfl hn hl.1 rfl (lv_room hroom) hd ⟨Nat.zero_le _, Nat.zero_le _⟩) hS (fun q _ h => h) (fun q h => h) (fun u t H1 locs1 ht hvm hw hB hz1 hk1 hS1 => ?_)
  obtain rfl := hw
  exact k H1 locs1 ls hl (by rw [← ht]; exact hB) hS1
theorem v_callOr {y : MethodName} {bytes : ByteArray} {maxL d2 index n : Nat} {ret2 : Option FieldType} {av As rest : List Value} {a2 : Nat} (q : Nat) {ci : Nat} {C : String} {T : u_T} {N : Nat} {fs : List Value} (hX : VOk P M w nL cc own ret d) (hd : decode cc pc = .ok (.invokevirtual index, 3)) (hM : CtR (P.2.1) w d2 y bytes maxL ret2 av σ a2) (hav : av = .ref (w_ad w q) :: As) (hst : st = As.reverse ++ .ref (w_ad w q) :: rest) (hq : q < w_n w) (hcell : w_cf w q (σ q) = .inr (ci, fs)) (hc : vwCl[ci]? = some (C, T, N)) (hC : y.cls = C) (hm1 : Cond.instanceMethod y ∈ wAll) (hm2 : Cond.selects C y y ∈ wAll) (hm3 : Cond.initialized C ∈ wAll) (hm0 : va_Nw (.methodLinkNest own index y "InkTaken") (p_s P)) (hmc : Cond.code y bytes maxL ret2 ∈ wAll) (hG : GoodIn wAll wAll) (hds : y.cls ≠ "java/lang/invoke/MethodHandle" ∧ y.cls ≠ "java/lang/invoke/VarHandle" ∧ (parseMethodDescriptor y.desc).map (fun d => d.parameters.length) = some n) (hn : As.length = n) (hR2 : d2 + 1 ≤ d ∧ maxL ≤ 21) (hroom : (rest.map fun v => v.category).sum ≤ 8) (k : V P M w nL Q (pc + 3) lv (.ref a2 :: rest) σ) : V P M w nL Q pc lv st σ := fun H locs ls hl hP hS => by
  have hX0 := hX
  obtain ⟨hx, hb, hml, hown, hts, hr, hlo, hK, hI, hE, hEo, hR⟩ := hX
  subst hav; subst hst
  have hRR : (rmL d2).frames + 1 ≤ (p_R P).frames ∧ 8 + (maxL + 11) + (rmL d2).locals ≤ (p_R P).locals := ⟨Nat.le_trans hR2.1 hR.1, by show 8 + (maxL + 11) + 40 * d2 ≤ _; omega⟩
  have hgw : GoodIn wAll (.code y bytes maxL ret2 :: wAll) := v_good hG (fun c h => by rcases List.mem_cons.mp h with rfl | h; exact hmc; exact h)
  have cw : va_CN (p_R P) (p_s P) M.2.1 own index y "InkTaken" bytes maxL ret2 (.code y bytes maxL ret2 :: wAll) (rmL d2) 0 0 n ∧ (Cond.instanceMethod y).before M.2.1 (p_s P) = true ∧ (Cond.selects C y y).before M.2.1 (p_s P) = true := by
    subst hC
    exact ⟨va_cnB n hts hgw rfl rfl rfl hm0 (hts _ hm3) hds hRR, hts _ hm1, hts _ hm2⟩
  refine va_callr (va_runVN (As := As) (rest := rest) ⟨hx, hb, hml, hown, hts⟩ hM cw ⟨v_blind _, va_recv hK hP (ci := ci) (q0 := q) hc (by rw [wPic_get w σ hq, hcell]), fun U hU hW => ⟨rfl, v_pre hX0 hP hS hU hW⟩⟩ rfl hn hl.1 rfl (lv_room hroom) hd ⟨Nat.zero_le _, Nat.zero_le _⟩) hS (fun q _ h => h) (fun q h => h) (fun u ra t H1 locs1 ht hvm hw hB hz1 hk1 hS1 => ?_)
  obtain rfl := hw
  obtain ⟨hB, rfl⟩ := hB
  exact k H1 locs1 ls hl (by rw [← ht]; exact hB) hS1
end VROWS
/-- a contract out of the walk of its body -/
theorem ct_I {l : Launch} {w : WD} {d : Nat} {y : MethodName} {cc : ByteArray} {nL : Nat} {ret : Option FieldType} {av : List Value} {σ : Mem} {r : Int32} {σ' : Mem} (own : String) (lv : List (Nat × Value)) (hy : plainName y.cls = true) (hown : y.cls = own) (hlv : lv_args 0 av = lv) (hln : (lg_sl av).length ≤ nL)
    (h : ∀ (P : PT) (M : MT), P.2.1 = l → VOk P M w nL cc own ret d → V P M w nL (QI P M w r σ') 0 lv [] σ) : CtI l w d y cc nL ret av σ r σ' := by
  subst hown
  refine Met.ofW (cc := cc) (maxL := nL) (ret := ret) hy rfl ?_
  intro p e s m args below meth c s₁ B hml hv
  obtain ⟨rfl, hP, hK, hI, hE, hEo⟩ := hv
  have hts := atoms_spec (ws := .code y cc nL ret :: wAll) B.pre
  have hown : s.vm.findClass y.cls = some m.cls := findClass_of_methodNamed B.named
  have hX : VOk (p, l, e, rmL d, s) (m, av.toArray, below, meth, c) w nL cc y.cls ret d := ⟨B.exec, B.bytes, hml, hown, fun c9 h9 => hts c9 (List.mem_cons_of_mem _ h9), B.returns, B.notSynchronized, hK, hI, hE, hEo, Nat.le_refl _, Nat.le_refl _⟩
  have hl := lv_entry av (n := nL) hln
  rw [hlv] at hl
  rw [lg_entry_eq]
  exact h _ _ rfl hX s.heap [] _ hl hP va_S.rf
theorem ct_V {l : Launch} {w : WD} {d : Nat} {y : MethodName} {cc : ByteArray} {nL : Nat} {av : List Value} {σ : Mem} {σ' : Mem} (own : String) (lv : List (Nat × Value)) (hy : plainName y.cls = true) (hown : y.cls = own) (hlv : lv_args 0 av = lv) (hln : (lg_sl av).length ≤ nL)
    (h : ∀ (P : PT) (M : MT), P.2.1 = l → VOk P M w nL cc own none d → V P M w nL (QV P M w σ') 0 lv [] σ) : CtV l w d y cc nL av σ σ' := by
  subst hown
  refine Met.ofW (cc := cc) (maxL := nL) (ret := none) hy rfl ?_
  intro p e s m args below meth c s₁ B hml hv
  obtain ⟨rfl, hP, hK, hI, hE, hEo⟩ := hv
  have hts := atoms_spec (ws := .code y cc nL none :: wAll) B.pre
  have hown : s.vm.findClass y.cls = some m.cls := findClass_of_methodNamed B.named
  have hX : VOk (p, l, e, rmL d, s) (m, av.toArray, below, meth, c) w nL cc y.cls none d := ⟨B.exec, B.bytes, hml, hown, fun c9 h9 => hts c9 (List.mem_cons_of_mem _ h9), B.returns, B.notSynchronized, hK, hI, hE, hEo, Nat.le_refl _, Nat.le_refl _⟩
  have hl := lv_entry av (n := nL) hln
  rw [hlv] at hl
  rw [lg_entry_eq]
  exact h _ _ rfl hX s.heap [] _ hl hP va_S.rf
