/-! constructors: contracts, calls -/
theorem getL {α : Type} {X Y : List α} {k : Nat} {q : α} (h : X[k]? = some q) : (X ++ Y)[k]? = some q := by
  rw [List.getElem?_append_left (List.getElem?_eq_some_iff.mp h).1]; exact h
theorem getR {α : Type} {X Y : List α} {k : Nat} {q : α} (h : Y[k]? = some q) : (X ++ Y)[X.length + k]? = some q := by
  rw [List.getElem?_append_right (by omega), Nat.add_sub_cancel_left]; exact h
theorem p_left {D : va_G} {cl : List vw_C} {X Y : va_W} {H : Heap} (h : va_P D cl (X ++ Y) H) : va_P D cl X H := fun k q hk => h k q (getL hk)
theorem p_right {D : va_G} {cl : List vw_C} {X Y : va_W} {H : Heap} (h : va_P D cl (X ++ Y) H) : va_P D cl Y H := fun k q hk => h _ q (getR hk)
theorem d_left {A : Nat → Prop} {X Y : va_W} (h : va_D A (X ++ Y)) : va_D A X := ⟨fun i j p q hi hj e => h.1 i j p q (getL hi) (getL hj) e, fun k q hk => h.2 k q (getL hk)⟩
theorem d_right {A : Nat → Prop} {X Y : va_W} (h : va_D A (X ++ Y)) : va_D A Y := ⟨fun i j p q hi hj e => by have := h.1 _ _ p q (getR hi) (getR hj) e; omega, fun k q hk => h.2 _ q (getR hk)⟩
theorem d_apart {A : Nat → Prop} {X Y : va_W} (h : va_D A (X ++ Y)) {i j : Nat} {p q : Nat × va_E} (hi : X[i]? = some p) (hj : Y[j]? = some q) : p.1 ≠ q.1 := fun e => by
  have h1 := h.1 _ _ p q (getL hi) (getR hj) e
  have h2 := (List.getElem?_eq_some_iff.mp hi).1
  omega
/-- a part of the world comes back changed, the rest is as it was -/
theorem join_app {A A1 : Nat → Prop} {D : va_G} {X Y Y1 : va_W} {H H1 : Heap} (hP : va_P D vwCl (X ++ Y) H) (hD : va_D A (X ++ Y)) (hA1 : ∀ q : Nat, A1 q → (∃ (k : Nat) (e : va_E), Y[k]? = some (q, e)) ∨ H.size ≤ q) (hk : ∀ q : Nat, q < H.size → ¬ A1 q → H1[q]? = H[q]?) (hP1 : va_P D vwCl Y1 H1) (hD1 : va_D A1 Y1) (hAA : ∀ q, A1 q → A q) : va_P D vwCl (X ++ Y1) H1 ∧ va_D A (X ++ Y1) := by
  have nin : ∀ (k : Nat) (x : Nat × va_E), X[k]? = some x → ¬ A1 x.1 := fun k x hx hq => by
    rcases hA1 _ hq with ⟨j, e, hj⟩ | h
    · exact d_apart hD hx hj rfl
    · have := (p_left hP k x hx).lt
      omega
  refine ⟨((p_left hP).kept fun k x hx => hk x.1 ((p_left hP k x hx).lt) (nin k x hx)).app hP1, (d_left hD).app (hD1.weaken fun k q _ h => hAA _ h) fun i j p q hi hj e => nin i p hi ?_⟩
  rw [e]
  exact hD1.2 j q hj
theorem d_app {A : Nat → Prop} {ws : va_W} {N0 : Nat} (hD : va_D A ws) (hlt : ∀ (k : Nat) (x : Nat × va_E), ws[k]? = some x → x.1 < N0) (f : Nat → va_E) (m : Nat) (hA : ∀ i, i < m → A (N0 + i)) : va_D A (ws ++ (List.range m).map (fun i => (N0 + i, f i))) := by
  have get : ∀ (k : Nat) (x : Nat × va_E), ((List.range m).map (fun i => (N0 + i, f i)))[k]? = some x → k < m ∧ x = (N0 + k, f k) := fun k x hk => by
    have hl : k < m := by
      have := (List.getElem?_eq_some_iff.mp hk).1
      rwa [List.length_map, List.length_range] at this
    rw [List.getElem?_map, List.getElem?_range hl] at hk
    exact ⟨hl, (Option.some.inj hk).symm⟩
  refine hD.app ⟨fun i j p q hi hj e => ?_, fun k q hk => ?_⟩ (fun i j p q hi hj e => ?_)
  · obtain ⟨_, rfl⟩ := get i p hi
    obtain ⟨_, rfl⟩ := get j q hj
    have e : N0 + i = N0 + j := e
    omega
  · obtain ⟨h1, rfl⟩ := get k q hk
    exact hA k h1
  · obtain ⟨_, rfl⟩ := get j q hj
    have := hlt i p hi
    have e : p.1 = N0 + j := e
    omega
def ExOk (Ex : State → Prop) : Prop := (∀ (U : State) (g : JFrame) (mk : MethodId) (a : Array Value), Ex U → Ex (U.calling g mk a)) ∧ (∀ (s U : State), Ex s → s.WarmedH U.vm → Ex U)
abbrev rmC (d mc ms : Nat) : Room := { frames := d, cells := mc, slots := ms, locals := 40 * d }
def CtC (l : Launch) (D : va_G) (cs : ClassId × ClassId × ClassId) (d mc ms : Nat) (y : MethodName) (cc : ByteArray) (nL ci : Nat) (fs0 : List Value) (Ex : State → Prop) (Wf : (Nat → Nat) → va_W) : Prop :=
  ∀ a sz : Nat, Met l y (.code y cc nL none :: wAll) (rmC d mc ms) (va_Pc [.ref a] (fun U => U.heap.size = sz ∧ va_P D vwCl [(a, .inr (ci, fs0))] U.heap ∧ va_K D vwCl (wTc cs) U ∧ Ex U ∧ ExOk Ex)) (va_Qv (fun (u : Nat → Nat) => u 0 = a) (fun u t => va_P D vwCl (Wf u) t.heap ∧ va_D (va_A [(a, .inr (ci, fs0))] sz) (Wf u)) (va_A [(a, .inr (ci, fs0))] sz)) mc ms (va_A [(a, .inr (ci, fs0))] sz)
def QC (P : PT) (M : MT) (D : va_G) (A : Nat → Prop) (Wf : (Nat → Nat) → va_W) (a mc ms : Nat) : State → Prop := MQ M.2.2.1 (va_Qv (fun (u : Nat → Nat) => u 0 = a) (fun u t => va_P D vwCl (Wf u) t.heap ∧ va_D A (Wf u)) A) M.2.1 (p_s P) mc ms A
def CEnd (M : MT) : Prop := M.2.2.2.1.sig.returnType = none ∧ M.2.2.2.1.locks = false ∧ M.2.2.2.1.name = "<init>"
theorem ct_C {l : Launch} {D : va_G} {cs : ClassId × ClassId × ClassId} {d mc ms : Nat} {y : MethodName} {cc : ByteArray} {nL ci : Nat} {fs0 : List Value} {Ex : State → Prop} {Wf : (Nat → Nat) → va_W} (own : String) (hy : plainName y.cls = true) (hown : y.cls = own) (hyn : y.name = "<init>") (hln : 1 ≤ nL)
    (h : ∀ (P : PT) (M : MT) (A : Nat → Prop) (a : Nat), P.2.1 = l → p_R P = rmC d mc ms → COk P M D cs A nL cc own → CEnd M → Ex (p_s P) → ExOk Ex → CJ P M D A nL (QC P M D A Wf a mc ms) 0 [(0, .ref a)] [] [(a, .inr (ci, fs0))] 0 0) : CtC l D cs d mc ms y cc nL ci fs0 Ex Wf := by
  subst hown
  intro a sz
  refine Met.ofW (cc := cc) (maxL := nL) (ret := none) hy rfl ?_
  intro p e s m args below meth c s₁ B hml hv
  obtain ⟨rfl, hsz, hP, hK, hE, hEo⟩ := hv
  subst hsz
  have hts := atoms_spec (ws := .code y cc nL none :: wAll) B.pre
  have hown : s.vm.findClass y.cls = some m.cls := findClass_of_methodNamed B.named
  have hin : meth.name = "<init>" := (name_of_methodNamed B.named B.method).1.trans hyn
  have hX : COk (p, l, e, rmC d mc ms, s) (m, #[.ref a], below, meth, c) D cs (va_A [(a, .inr (ci, fs0))] s.heap.size) nL cc y.cls := ⟨B.exec, B.bytes, hml, hown, fun c9 h9 => hts c9 (List.mem_cons_of_mem _ h9), hK, fun q hq => Or.inr hq⟩
  have hl := lv_entry [Value.ref a] (n := nL) (by show 1 ≤ nL; exact hln)
  rw [lg_entry_eq]
  have hD : va_D (va_A [(a, .inr (ci, fs0))] s.heap.size) [(a, .inr (ci, fs0))] := by
    refine ⟨fun i j p q hi hj e => ?_, fun k q hk => va_A.in hk⟩
    have h1 := (List.getElem?_eq_some_iff.mp hi).1
    have h2 := (List.getElem?_eq_some_iff.mp hj).1
    simp at h1 h2
    omega
  exact h (p, l, e, rmC d mc ms, s) (m, #[.ref a], below, meth, c) _ a rfl rfl hX ⟨B.returns, B.notSynchronized, hin⟩ hE hEo s.heap [] _ hl hP hD va_S.rf
section CCALL
variable {P : PT} {M : MT} {D : va_G} {cs : ClassId × ClassId × ClassId} {A : Nat → Prop} {nL : Nat} {Q : State → Prop} {pc : Nat} {lv : List (Nat × Value)} {st : List Value} {ws : va_W} {n z : Nat} {cc : ByteArray} {own : String}
theorem j_vret {Wf : (Nat → Nat) → va_W} {a : Nat} (u : Nat → Nat) (hX : COk P M D cs A nL cc own) (hE : CEnd M) (hd : decode cc pc = .ok (.return_, 1)) (hu : u 0 = a) (hw : Wf u = ws) : CJ P M D A nL (QC P M D A Wf a n z) pc lv [] ws n z := fun H locs ls hl hP hD hS => by
  obtain ⟨hr, hlo, -⟩ := hE
  subst hw
  exact W.vret hX.1 hX.2.1 hr (fun t ht hW => ⟨⟨u, rfl, hu, by rw [ht]; exact hP, hD⟩, hS.F ht⟩) hS.2.2 hd hlo
theorem ctc_blind {D : va_G} {cs : ClassId × ClassId × ClassId} {ci sz a : Nat} {fs0 : List Value} {Ex : State → Prop} (av : List Value) : FrameBlind (va_Pc av (fun U => U.heap.size = sz ∧ va_P D vwCl [(a, .inr (ci, fs0))] U.heap ∧ va_K D vwCl (wTc cs) U ∧ Ex U ∧ ExOk Ex)) := fun a U g mk h => by
  obtain ⟨h0, h1, hP, hK, hE, hEo⟩ := h
  exact ⟨h0, h1, hP, va_K.moved (u := U) (U := U.calling g mk a) (Vm.Alike.refl U.vm) hK, hEo.1 U g mk a hE, hEo⟩
theorem j_callN {y : MethodName} {bytes : ByteArray} {maxL d2 mc ms index ci a : Nat} {fs0 : List Value} {Ex : State → Prop} {Wf : (Nat → Nat) → va_W} {X : va_W} (hX : COk P M D cs A nL cc own) (hd : decode cc pc = .ok (.invokespecial index, 3)) (hM : CtC P.2.1 D cs d2 mc ms y bytes maxL ci fs0 Ex Wf) (hN : va_Nw (.methodLinkNest own index y "InkTaken") (p_s P)) (hini : Cond.initialized y.cls ∈ wAll) (hinst : Cond.instanceMethod y ∈ wAll) (hmc : Cond.code y bytes maxL none ∈ wAll) (hy : y.name = "<init>") (hds : y.cls ≠ "java/lang/invoke/MethodHandle" ∧ y.cls ≠ "java/lang/invoke/VarHandle" ∧ (parseMethodDescriptor y.desc).map (fun d => d.parameters.length) = some 0) (hR : d2 + 1 ≤ (p_R P).frames ∧ 8 + (maxL + 11) + 40 * d2 ≤ (p_R P).locals) (hroom : (st.map fun v => v.category).sum ≤ 8) (hce : n + mc ≤ (p_R P).cells) (hsl : z + ms ≤ (p_R P).slots) (hEx : Ex (p_s P)) (hEo : ExOk Ex)
    (k : ∀ u : Nat → Nat, u 0 = a → CJ P M D A nL Q (pc + 3) lv st (X ++ Wf u) (n + mc) (z + ms)) : CJ P M D A nL Q pc lv (.ref a :: st) (X ++ [(a, .inr (ci, fs0))]) n z := fun H locs ls hl hP hD hS => by
  obtain ⟨hx, hb, hml, hown, hts, hK, hA⟩ := hX
  have hgw : GoodIn wAll (.code y bytes maxL none :: wAll) := v_good gAll (fun c h => by rcases List.mem_cons.mp h with rfl | h; exact hmc; exact h)
  have cw : va_CN (p_R P) (p_s P) M.2.1 own index y "InkTaken" bytes maxL none (.code y bytes maxL none :: wAll) (rmC d2 mc ms) mc ms 0 ∧ y.name = "<init>" ∧ (Cond.instanceMethod y).before M.2.1 (p_s P) = true := ⟨va_cnB 0 hts hgw rfl rfl rfl hN (hts _ hini) hds hR, hy, hts _ hinst⟩
  have hAA : ∀ q, va_A [(a, .inr (ci, fs0))] H.size q → A q := fun q hq => by
    rcases hq with ⟨k9, e9, h9⟩ | h9
    · exact (d_right hD).2 k9 _ h9
    · exact hA q (Nat.le_trans hS.1 h9)
  refine va_callv (va_runIN (As := []) (b := a) (rest := st) ⟨hx, hb, hml, hown, hts⟩ (hM a H.size) cw ⟨ctc_blind _, fun U hU hW => ⟨rfl, by rw [hU], by rw [hU]; exact p_right hP, va_K.moved hW.alike hK, hEo.2 _ _ hEx hW, hEo⟩⟩ rfl rfl hl.1 rfl (lv_room hroom) hd ⟨hce, hsl⟩) hS (fun q _ h => hAA q h) hAA (fun u t H1 locs1 ht hvm hu hB hz1 hk1 hS1 => ?_)
  obtain ⟨hP1, hD1⟩ := hB
  obtain ⟨hP2, hD2⟩ := join_app (A1 := va_A [(a, .inr (ci, fs0))] H.size) hP hD (fun q hq => hq) hk1 (by rw [← ht]; exact hP1) hD1 hAA
  exact k u hu H1 locs1 ls hl hP2 hD2 hS1
theorem j_callI {y : MethodName} {bytes : ByteArray} {maxL d2 mc ms index ci a : Nat} {fs0 : List Value} {Ex : State → Prop} {Wf : (Nat → Nat) → va_W} {X : va_W} (hX : COk P M D cs A nL cc own) (hd : decode cc pc = .ok (.invokespecial index, 3)) (hM : CtC P.2.1 D cs d2 mc ms y bytes maxL ci fs0 Ex Wf) (hN : Cond.methodLink own index y ∈ wAll) (hini : Cond.initialized y.cls ∈ wAll) (hinst : Cond.instanceMethod y ∈ wAll) (hmc : Cond.code y bytes maxL none ∈ wAll) (hy : y.name = "<init>") (hds : y.cls ≠ "java/lang/invoke/MethodHandle" ∧ y.cls ≠ "java/lang/invoke/VarHandle" ∧ (parseMethodDescriptor y.desc).map (fun d => d.parameters.length) = some 0) (hR : d2 + 1 ≤ (p_R P).frames ∧ 8 + (maxL + 11) + 40 * d2 ≤ (p_R P).locals) (hroom : (st.map fun v => v.category).sum ≤ 8) (hce : n + mc ≤ (p_R P).cells) (hsl : z + ms ≤ (p_R P).slots) (hEx : Ex (p_s P)) (hEo : ExOk Ex)
    (k : ∀ u : Nat → Nat, u 0 = a → CJ P M D A nL Q (pc + 3) lv st (X ++ Wf u) (n + mc) (z + ms)) : CJ P M D A nL Q pc lv (.ref a :: st) (X ++ [(a, .inr (ci, fs0))]) n z := fun H locs ls hl hP hD hS => by
  obtain ⟨hx, hb, hml, hown, hts, hK, hA⟩ := hX
  have hgw : GoodIn wAll (.code y bytes maxL none :: wAll) := v_good gAll (fun c h => by rcases List.mem_cons.mp h with rfl | h; exact hmc; exact h)
  have cw := cwI (R := p_R P) (rm := rmC d2 mc ms) (mc := mc) (ms := ms) (own := own) (index := index) 0 hts hgw rfl rfl rfl (hts _ hini) (hts _ hN) (hts _ hinst) hy hds hR
  have hAA : ∀ q, va_A [(a, .inr (ci, fs0))] H.size q → A q := fun q hq => by
    rcases hq with ⟨k9, e9, h9⟩ | h9
    · exact (d_right hD).2 k9 _ h9
    · exact hA q (Nat.le_trans hS.1 h9)
  refine va_callv (va_runI (As := []) (b := a) (rest := st) ⟨hx, hb, hml, hown, hts⟩ (hM a H.size) cw ⟨ctc_blind _, fun U hU hW => ⟨rfl, by rw [hU], by rw [hU]; exact p_right hP, va_K.moved hW.alike hK, hEo.2 _ _ hEx hW, hEo⟩⟩ rfl rfl hl.1 rfl (lv_room hroom) hd ⟨hce, hsl⟩) hS (fun q _ h => hAA q h) hAA (fun u t H1 locs1 ht hvm hu hB hz1 hk1 hS1 => ?_)
  obtain ⟨hP1, hD1⟩ := hB
  obtain ⟨hP2, hD2⟩ := join_app (A1 := va_A [(a, .inr (ci, fs0))] H.size) hP hD (fun q hq => hq) hk1 (by rw [← ht]; exact hP1) hD1 hAA
  exact k u hu H1 locs1 ls hl hP2 hD2 hS1
def mnE (cs : ClassId × ClassId × ClassId) (h0 : Nat) (i : Nat) : va_E := if i = 0 then .inl (cs.2.1, 8, .inr (.inr (.inr (.inr (fun i => if i < 8 then some (h0 + 1 + i) else none))))) else .inl (cs.1, 40, .inl zr)
/-- the rows of items: an outer row and eight inner ones -/
theorem j_mna {index : Nat} {hw : True} (hX : COk P M D cs A nL cc own) (hd : decode cc pc = .ok (.multianewarray index 2, 4)) (hcl : Cond.classLink own index "[[I" ∈ wAll) (hO : AO2 (p_s P)) (harr : Cond.arrayClass .int ∈ wAll) (hn : n + 9 ≤ (p_R P).cells) (hz : z + 328 ≤ (p_R P).slots)
    (k : ∀ h0 : Nat, CJ P M D A nL Q (pc + 4) lv (.ref h0 :: st) (ws ++ (List.range 9).map (fun i => (h0 + i, mnE cs h0 i))) (n + 9) (z + 328)) : CJ P M D A nL Q pc lv (.int 40 :: .int 8 :: st) ws n z := fun H locs ls hl hP hD hS T hT Xs => by
  obtain ⟨hx, hb, hml, hown, hts, hK, hA⟩ := hX
  obtain ⟨vm₁, X', step⟩ := mn_step Xs hx hown (hts _ hcl) (AO2.use hO) (hts _ harr) (hK.2 0 (cs.1, .int) rfl).2 (hK.2 1 (cs.2.1, .array .int) rfl).2 (ls := ls) (st := st) (by rw [hb]; exact hd) hn hz
  have hTh : (T.setVm vm₁).heap = H := hT
  generalize T.setVm vm₁ = T1 at X' step hTh
  subst hTh
  have f1 := mnS_size cs.2.1 cs.1 T1 8
  have f2 := mnS_outer cs.2.1 cs.1 T1 8
  have hold : ∀ x : Nat, x < T1.heap.size → (mnS cs.2.1 cs.1 T1 8).heap[x]? = T1.heap[x]? := fun x hx => mnS_old cs.2.1 cs.1 T1 8 hx
  have hrow : ∀ j : Nat, j < 8 → (mnS cs.2.1 cs.1 T1 8).heap[T1.heap.size + 1 + j]? = some (vp_cell cs.1 (40, .inl zr)) := fun j hj => mnS_inner cs.2.1 cs.1 T1 8 hj
  generalize mnS cs.2.1 cs.1 T1 8 = F at X' step f1 f2 hold hrow
  have hlt : ∀ (k9 : Nat) (x : Nat × va_E), ws[k9]? = some x → x.1 < T1.heap.size := fun k9 x hx => (hP k9 x hx).lt
  have hP1 : va_P D vwCl (ws ++ (List.range 9).map (fun i => (T1.heap.size + i, mnE cs T1.heap.size i))) F.heap := (hP.kept fun k9 x hx => hold x.1 (hlt k9 x hx)).app (fun k9 x hx => by
    have h9 : k9 < 9 := by
      have := (List.getElem?_eq_some_iff.mp hx).1
      rwa [List.length_map, List.length_range] at this
    rw [List.getElem?_map, List.getElem?_range h9] at hx
    cases hx
    by_cases e0 : k9 = 0
    · subst e0
      show F.heap[T1.heap.size]? = some (vp_cell _ _)
      rw [f2]
      rfl
    · obtain ⟨j, rfl⟩ : ∃ j, k9 = j + 1 := ⟨k9 - 1, by omega⟩
      show va_at D vwCl (T1.heap.size + (j + 1), mnE cs T1.heap.size (j + 1)) F.heap
      rw [show mnE cs T1.heap.size (j + 1) = .inl (cs.1, 40, .inl zr) from if_neg (by omega), show T1.heap.size + (j + 1) = T1.heap.size + 1 + j by omega]
      exact hrow j (by omega))
  have hS1 : va_S A (p_s P).heap F.heap locs := ⟨Nat.le_trans hS.1 (by rw [f1]; omega), fun q h1 h2 => (hold q (Nat.lt_of_lt_of_le h1 hS.1)).trans (hS.2.1 q h1 h2), hS.2.2⟩
  have hD1 : va_D A (ws ++ (List.range 9).map (fun i => (T1.heap.size + i, mnE cs T1.heap.size i))) := d_app hD hlt _ 9 (fun i _ => hA _ (Nat.le_trans hS.1 (by omega)))
  obtain ⟨t, a1, b1⟩ := k T1.heap.size F.heap locs ls hl hP1 hD1 hS1 F rfl X'
  refine ⟨t, step t ?_, b1⟩
  rw [hT]
  exact a1
end CCALL
