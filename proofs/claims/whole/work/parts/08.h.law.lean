/-! the law: rows over both worlds -/
def Afr (s : State) : Nat → Prop := fun q => s.heap.size ≤ q
def exL (s : State) (ts : Nat × Nat × Nat) : Prop :=
  va_Nw (.methodLinkNest RX1 81 yX6_bitOf "InkTaken") s ∧ va_Nw (.methodLinkNest RX3 45 yX6_bitOf "InkTaken") s ∧
  (va_Z RX2 "ABOVE" "[I" (.ref ts.1) (Afr s) s s.heap ∧ va_T .int ts.1 6 (fun j => .int (tbA j)) (Afr s) s s.heap) ∧
  (va_Z RX2 "SIZE_BODIES" "[I" (.ref ts.2.1) (Afr s) s s.heap ∧ va_T .int ts.2.1 6 (fun j => .int (tbS j)) (Afr s) s s.heap) ∧
  (va_Z RX2 "MARK_BODIES" "[I" (.ref ts.2.2) (Afr s) s s.heap ∧ va_T .int ts.2.2 6 (fun j => .int (tbM j)) (Afr s) s s.heap)
theorem exL_use {s U : State} {ts : Nat × Nat × Nat} {ad : Nat → Nat} {H : Heap} {locs : List Loc} (h : exL s ts) (had : ∀ q, q < 68 → Afr s (ad q)) (hS : va_S (Afr s) s.heap H locs) (hU : U.heap = H) (hW : s.WarmedH U.vm) : exX ad ts U := by
  obtain ⟨h1, h2, ⟨h3, h4⟩, ⟨h5, h6⟩, ⟨h7, h8⟩⟩ := h
  have hk : ∀ a : Nat, a < s.heap.size → ¬ Afr s a → U.heap[a]? = s.heap[a]? := fun a g1 g2 => by rw [hU]; exact hS.2.1 a g1 g2
  have hn : ∀ q, exA ad q → Afr s q := fun q ⟨j, hj, e⟩ => by rw [e]; exact had j hj
  have hv := hW.alike
  exact ⟨va_Nw.warmM hW h1, va_Nw.warmM hW h2, ⟨((h3.kept hk).narrow hn).moved hv, ((h4.kept hk).narrow hn).moved hv⟩, ⟨((h5.kept hk).narrow hn).moved hv, ((h6.kept hk).narrow hn).moved hv⟩, ⟨((h7.kept hk).narrow hn).moved hv, ((h8.kept hk).narrow hn).moved hv⟩⟩
theorem join_appL {A A1 : Nat → Prop} {D : va_G} {X Y Y1 : va_W} {H H1 : Heap} (hP : va_P D vwCl (Y ++ X) H) (hD : va_D A (Y ++ X)) (hA1 : ∀ q : Nat, A1 q → (∃ (k : Nat) (e : va_E), Y[k]? = some (q, e)) ∨ H.size ≤ q) (hk : ∀ q : Nat, q < H.size → ¬ A1 q → H1[q]? = H[q]?) (hP1 : va_P D vwCl Y1 H1) (hD1 : va_D A1 Y1) (hAA : ∀ q, A1 q → A q) : va_P D vwCl (Y1 ++ X) H1 ∧ va_D A (Y1 ++ X) := by
  have nin : ∀ (k : Nat) (x : Nat × va_E), X[k]? = some x → ¬ A1 x.1 := fun k x hx hq => by
    rcases hA1 _ hq with ⟨j, e, hj⟩ | h
    · exact d_apart hD hj hx rfl
    · have := (p_right hP k x hx).lt
      omega
  refine ⟨hP1.app ((p_right hP).kept fun k x hx => hk x.1 ((p_right hP k x hx).lt) (nin k x hx)), (hD1.weaken fun k q _ h => hAA _ h).app (d_right hD) fun i j p q hi hj e => nin j q hj ?_⟩
  rw [← e]
  exact hD1.2 i p hi
theorem wA_in {w : WD} {σ : Mem} {q : Nat} (h : wA w q) : ∃ (k : Nat) (e : va_E), (wPic w σ)[k]? = some (q, e) := by
  obtain ⟨j, hj, rfl⟩ := h
  exact ⟨j, _, wPic_get w σ hj⟩
theorem inj_of {A : Nat → Prop} {w : WD} {σ : Mem} (h : va_D A (wPic w σ)) : wInj w := fun i j hi hj e => h.1 i j _ _ (wPic_get w σ hi) (wPic_get w σ hj) e
theorem A_of {A : Nat → Prop} {w : WD} {σ : Mem} (h : va_D A (wPic w σ)) {q : Nat} (hq : wA w q) : A q := by
  obtain ⟨j, hj, rfl⟩ := hq
  exact h.2 j _ (wPic_get w σ hj)
section LROWS
variable {P : PT} {M : MT} {D : va_G} {cs : ClassId × ClassId × ClassId} {A : Nat → Prop} {nL : Nat} {Q : State → Prop} {pc : Nat} {lv : List (Nat × Value)} {st : List Value} {ws : va_W} {n z : Nat} {cc : ByteArray} {own : String} {ad am : Nat → Nat} {ts : Nat × Nat × Nat} {σ μ : Mem}
theorem j_sld {b L : Nat} {xs : Nat → Int32} {i v : Int32} (hX : COk P M D cs A nL cc own) (hd : decode cc pc = .ok (.iaload, 1)) (hs : va_X b L xs (p_s P) (p_s P).heap) (hb : b < (p_s P).heap.size) (hA : ¬ A b) (hin : inB i L = true) (hv : xs i.toNatClampNeg = v) (k : CJ P M D A nL Q (pc + 1) lv (.int v :: st) ws n z) : CJ P M D A nL Q pc lv (.int i :: .ref b :: st) ws n z := fun H locs ls hl hP hD hS => by
  subst hv
  exact va_sld hX.1 hX.2.1 hs hb hA hS (inB_in hin) hd (k H locs ls hl hP hD hS)
theorem j_slen {b L : Nat} {xs : Nat → Int32} (hX : COk P M D cs A nL cc own) (hd : decode cc pc = .ok (.arraylength, 1)) (hs : va_X b L xs (p_s P) (p_s P).heap) (hb : b < (p_s P).heap.size) (hA : ¬ A b) (k : CJ P M D A nL Q (pc + 1) lv (.int (nI L) :: st) ws n z) : CJ P M D A nL Q pc lv (.ref b :: st) ws n z := fun H locs ls hl hP hD hS => va_slen hX.1 hX.2.1 hs hb hA hS hd (k H locs ls hl hP hD hS)
theorem j_callX {y : MethodName} {bytes : ByteArray} {maxL d2 index m : Nat} {av As rest : List Value} {r : Int32} {σ2 : Mem} (hX : COk P M D cs A nL cc own) (hd : decode cc pc = .ok (.invokevirtual index, 3)) (hM : CtI P.2.1 (xW D cs ad ts) d2 y bytes maxL (some .int) av σ r σ2) (hav : av = .ref (ad 0) :: As) (hst : st = As.reverse ++ .ref (ad 0) :: rest) (hE : exL (p_s P) ts) (hAe : A = Afr (p_s P)) (hC : y.cls = RX6) (hm1 : Cond.instanceMethod y ∈ wAll) (hm2 : Cond.selects RX6 y y ∈ wAll) (hm3 : Cond.initialized RX6 ∈ wAll) (hm0 : Cond.methodLink own index y ∈ wAll) (hmc : Cond.code y bytes maxL (some .int) ∈ wAll) (hds : y.cls ≠ "java/lang/invoke/MethodHandle" ∧ y.cls ≠ "java/lang/invoke/VarHandle" ∧ (parseMethodDescriptor y.desc).map (fun d => d.parameters.length) = some m) (hn : As.length = m) (hR : d2 + 1 ≤ (p_R P).frames ∧ 8 + (maxL + 11) + 40 * d2 ≤ (p_R P).locals) (hroom : (rest.map fun v => v.category).sum ≤ 8) (hce : n ≤ (p_R P).cells ∧ z ≤ (p_R P).slots)
    (k : CJ P M D A nL Q (pc + 3) lv (.int r :: rest) (wPic (xW D cs ad ts) σ2 ++ wPic (mW D cs am) μ) n z) : CJ P M D A nL Q pc lv st (wPic (xW D cs ad ts) σ ++ wPic (mW D cs am) μ) n z := fun H locs ls hl hP hD hS => by
  subst hAe
  obtain ⟨hx, hb, hml, hown, hts, hK, hA⟩ := hX
  subst hav; subst hst
  have hI : wInj (xW D cs ad ts) := inj_of (d_left hD)
  have hA1 : ∀ q, wA (xW D cs ad ts) q → Afr (p_s P) q := fun q h => A_of (d_left hD) h
  have hgw : GoodIn wAll (.code y bytes maxL (some .int) :: wAll) := v_good gAll (fun c h => by rcases List.mem_cons.mp h with rfl | h; exact hmc; exact h)
  have cw : CallW (p_R P) (p_s P) M.2.1 own RX6 index y bytes maxL (some .int) (.code y bytes maxL (some .int) :: wAll) (rmL d2) 0 0 m := by
    have hi3 := hts _ hm3
    rw [← hC] at hi3
    exact ⟨callB_of m hts hgw rfl rfl rfl hi3 (hts _ hm0) hds hR, hts _ hm1, hts _ hm2⟩
  refine va_calli (va_runV (As := As) (b := ad 0) (rest := rest) ⟨hx, hb, hml, hown, hts⟩ hM cw ⟨v_blind _, va_recv hK (p_left hP) (ci := 6) (q0 := 0) rfl (by rw [wPic_get (xW D cs ad ts) σ (show 0 < 68 by omega)]; rfl), fun U hU hW => ⟨rfl, by rw [hU]; exact p_left hP, va_K.moved hW.alike hK, hI, exL_use hE (fun q hq => hA1 _ ⟨q, hq, rfl⟩) hS hU hW, xW_ok D cs ad ts⟩⟩ rfl hn hl.1 rfl (lv_room hroom) hd hce) hS (fun q _ h => hA1 q h) (fun q h => hA1 q h) (fun r2 u t H1 locs1 ht hvm hw hB hz1 hk1 hS1 => ?_)
  obtain ⟨rfl, rfl⟩ := hw
  obtain ⟨hP2, hD2⟩ := join_appL (A1 := wA (xW D cs ad ts)) hP hD (fun q hq => Or.inl (wA_in hq)) hk1 (by rw [← ht]; exact hB) (wPic_D hI u) hA1
  exact k H1 locs1 ls hl hP2 hD2 hS1
theorem j_callM {y : MethodName} {bytes : ByteArray} {maxL d2 index m : Nat} {av As rest : List Value} {r : Int32} {μ2 : Mem} (hX : COk P M D cs A nL cc own) (hd : decode cc pc = .ok (.invokevirtual index, 3)) (hM : CtI P.2.1 (mW D cs am) d2 y bytes maxL (some .int) av μ r μ2) (hav : av = .ref (am 0) :: As) (hst : st = As.reverse ++ .ref (am 0) :: rest) (hC : y.cls = RX7) (hm1 : Cond.instanceMethod y ∈ wAll) (hm2 : Cond.selects RX7 y y ∈ wAll) (hm3 : Cond.initialized RX7 ∈ wAll) (hm0 : Cond.methodLink own index y ∈ wAll) (hmc : Cond.code y bytes maxL (some .int) ∈ wAll) (hds : y.cls ≠ "java/lang/invoke/MethodHandle" ∧ y.cls ≠ "java/lang/invoke/VarHandle" ∧ (parseMethodDescriptor y.desc).map (fun d => d.parameters.length) = some m) (hn : As.length = m) (hR : d2 + 1 ≤ (p_R P).frames ∧ 8 + (maxL + 11) + 40 * d2 ≤ (p_R P).locals) (hroom : (rest.map fun v => v.category).sum ≤ 8) (hce : n ≤ (p_R P).cells ∧ z ≤ (p_R P).slots)
    (k : CJ P M D A nL Q (pc + 3) lv (.int r :: rest) (wPic (xW D cs ad ts) σ ++ wPic (mW D cs am) μ2) n z) : CJ P M D A nL Q pc lv st (wPic (xW D cs ad ts) σ ++ wPic (mW D cs am) μ) n z := fun H locs ls hl hP hD hS => by
  obtain ⟨hx, hb, hml, hown, hts, hK, hA⟩ := hX
  subst hav; subst hst
  have hI : wInj (mW D cs am) := inj_of (d_right hD)
  have hA1 : ∀ q, wA (mW D cs am) q → A q := fun q h => A_of (d_right hD) h
  have hgw : GoodIn wAll (.code y bytes maxL (some .int) :: wAll) := v_good gAll (fun c h => by rcases List.mem_cons.mp h with rfl | h; exact hmc; exact h)
  have cw : CallW (p_R P) (p_s P) M.2.1 own RX7 index y bytes maxL (some .int) (.code y bytes maxL (some .int) :: wAll) (rmL d2) 0 0 m := by
    have hi3 := hts _ hm3
    rw [← hC] at hi3
    exact ⟨callB_of m hts hgw rfl rfl rfl hi3 (hts _ hm0) hds hR, hts _ hm1, hts _ hm2⟩
  refine va_calli (va_runV (As := As) (b := am 0) (rest := rest) ⟨hx, hb, hml, hown, hts⟩ hM cw ⟨v_blind _, va_recv hK (p_right hP) (ci := 7) (q0 := 0) rfl (by rw [wPic_get (mW D cs am) μ (show 0 < 12 by omega)]; rfl), fun U hU hW => ⟨rfl, by rw [hU]; exact p_right hP, va_K.moved hW.alike hK, hI, trivial, mW_ok D cs am⟩⟩ rfl hn hl.1 rfl (lv_room hroom) hd hce) hS (fun q _ h => hA1 q h) (fun q h => hA1 q h) (fun r2 u t H1 locs1 ht hvm hw hB hz1 hk1 hS1 => ?_)
  obtain ⟨rfl, rfl⟩ := hw
  obtain ⟨hP2, hD2⟩ := join_app (A1 := wA (mW D cs am)) hP hD (fun q hq => Or.inl (wA_in hq)) hk1 (by rw [← ht]; exact hB) (wPic_D hI u) hA1
  exact k H1 locs1 ls hl hP2 hD2 hS1
end LROWS
theorem and63 (x : Int32) : ∃ v : Nat, v < 64 ∧ x &&& 63 = nI v := by
  refine ⟨(x &&& 63).toBitVec.toNat, ?_, ?_⟩
  · rw [Int32.toBitVec_and, BitVec.toNat_and]
    exact Nat.lt_of_le_of_lt Nat.and_le_right (by decide)
  · apply i32_ext
    rw [nI_tb, BitVec.ofNat_toNat, BitVec.setWidth_eq]
theorem sim0 : Sim σ00 σ00 := by
  have e : ∀ q, q ≠ 2 → σ00 q = zr := fun q hq => if_neg hq
  have e2 : σ00 2 = neg8 8 := if_pos rfl
  have o : AOK (fun _ => 0) := ⟨Nat.zero_le _, Nat.zero_le _, Nat.zero_le _, Nat.zero_le _, Nat.zero_le _, Nat.zero_le _, fun k hk => absurd hk (Nat.not_lt_zero _), fun k hk => absurd hk (Nat.not_lt_zero _), fun k hk => absurd hk (Nat.not_lt_zero _)⟩
  refine ⟨fun r hr => Or.inl ⟨?_, ?_⟩, rfl, rfl, ⟨0, by omega, rfl, rfl, fun i hi => absurd hi (Nat.not_lt_zero _)⟩, ⟨fun _ => 0, 0, fun _ _ => 0, o, Nat.zero_le _, ⟨fun c hc => absurd hc (Nat.not_lt_zero _), fun h => absurd h (Nat.not_lt_zero _)⟩, ⟨rfl, rfl, rfl, rfl, rfl, rfl, rfl, rfl, fun k hk => absurd hk (Nat.not_lt_zero _), fun k hk => absurd hk (Nat.not_lt_zero _), fun k hk => absurd hk (Nat.not_lt_zero _)⟩, fun i hi => rfl, Or.inl ⟨rfl, rfl, rfl⟩, rfl, rfl, rfl, ⟨Nat.zero_le _, fun j hj => absurd hj (Nat.not_lt_zero _)⟩, rfl⟩, ⟨⟨rfl, Or.inl rfl⟩, ⟨rfl, Or.inl rfl⟩⟩, ⟨0, by omega, rfl, rfl, fun i hi => absurd hi (Nat.not_lt_zero _)⟩⟩
  · rw [e2]; exact if_pos hr
  · rw [e2]; exact if_pos hr
