/-! the row laid aside: A, but of another year, day, and with W white -/
def Ahd (A A' : Ar) (y d W : Nat) : Prop := A' 0 = y ∧ A' 5 = d ∧ (∀ j, (j < 55 ∨ 65 ≤ j) → j ≠ 0 → j ≠ 5 → A' j = A j) ∧ (∀ c, c < A 3 → A' (55 + c) = if W.testBit c then 1 else 0) ∧ ∀ i, A 3 ≤ i → W.testBit i = false
def AD (μ : Mem) (A : Ar) (y d W : Nat) : Prop := ∃ A', MA (μ 11) A' ∧ Ahd A A' y d W
theorem stn_eq {A A' : Ar} {b : Nat} : ∀ {n : Nat}, (∀ d, d < n → A' (65 + d) = A (65 + d) ∧ A' (70 + d) = A (70 + d) ∧ A' (75 + d) = A (75 + d)) → stn A' b n = stn A b n
  | 0, _ => rfl
  | n + 1, h => by
    show stn A' b n ||| _ = stn A b n ||| _
    obtain ⟨h1, h2, h3⟩ := h n (by omega)
    unfold ownS
    rw [stn_eq (n := n) (fun d hd => h d (by omega)), h1, h2, h3]
section AHD
variable {A A' : Ar} {y d W : Nat}
theorem ahd_kd (h : Ahd A A' y d W) (hO : AOK A) {c : Nat} (hc : c < A 3) : kd A' c = kd A c := by
  have ok := hO.2.2.2.2.2.2.2.1 c hc
  have hC := hO.2.2.2.1
  have hH := hO.2.2.1
  show A' (7 + A' (25 + c)) = A (7 + A (25 + c))
  rw [h.2.2.1 (25 + c) (by omega) (by omega) (by omega), h.2.2.1 (7 + A (25 + c)) (by omega) (by omega) (by omega)]
theorem ahd_ok (h : Ahd A A' y d W) (hO : AOK A) (hy : y ≤ 99) (h5 : A 5 ≤ d) (hd : d ≤ 1199) : AOK A' := by
  obtain ⟨e0, e5, ej, ew, -⟩ := h
  obtain ⟨h0, h1, h2, h3, h4, h5', h6, h7, h8⟩ := hO
  have e2 := ej 2 (by omega) (by omega) (by omega)
  have e3 := ej 3 (by omega) (by omega) (by omega)
  have e4 := ej 4 (by omega) (by omega) (by omega)
  refine ⟨by omega, by rw [ej 1 (by omega) (by omega) (by omega)]; exact h1, by omega, by omega, by omega, by omega, ?_, ?_, ?_⟩
  · intro k hk
    rw [e2] at hk
    rw [ej (7 + k) (by omega) (by omega) (by omega), ej (11 + k) (by omega) (by omega) (by omega)]
    exact h6 k hk
  · intro c hc
    rw [e3] at hc
    obtain ⟨g1, g2, g3, g4, g5, g6⟩ := h7 c hc
    rw [ej (15 + c) (by omega) (by omega) (by omega), ej (25 + c) (by omega) (by omega) (by omega), ej (35 + c) (by omega) (by omega) (by omega), ej (45 + c) (by omega) (by omega) (by omega), e2, e5, ew c hc]
    refine ⟨g1, g2, g3, g4, by omega, ?_⟩
    split <;> omega
  · intro k hk
    rw [e4] at hk
    rw [ej (65 + k) (by omega) (by omega) (by omega), ej (70 + k) (by omega) (by omega) (by omega), ej (75 + k) (by omega) (by omega) (by omega), ej (80 + k) (by omega) (by omega) (by omega)]
    exact h8 k hk
theorem ahd_wb (h : Ahd A A' y d W) : wb A' = W := by
  obtain ⟨e0, e5, ej, ew, ez⟩ := h
  have e3 := ej 3 (by omega) (by omega) (by omega)
  symm
  apply bset_eq
  intro i
  rw [e3]
  by_cases hi : i < A 3
  · rw [ew i hi, decide_eq_true hi]
    cases W.testBit i <;> rfl
  · rw [ez i (by omega), decide_eq_false hi]
    rfl
theorem ahd_blk (h : Ahd A A' y d W) (hO : AOK A) (w : Nat) : blk A' w = blk A w := by
  have hC := hO.2.2.2.1
  unfold blk
  rw [h.2.2.1 3 (by omega) (by omega) (by omega)]
  exact orset_congr (fun j hj => ⟨rfl, fun _ => h.2.2.1 (15 + j) (by omega) (by omega) (by omega)⟩)
theorem ahd_std (h : Ahd A A' y d W) (hO : AOK A) (b : Nat) : std A' b = std A b := by
  have hN := hO.2.2.2.2.1
  unfold std
  rw [h.2.2.1 4 (by omega) (by omega) (by omega)]
  exact stn_eq (fun k hk => ⟨h.2.2.1 _ (by omega) (by omega) (by omega), h.2.2.1 _ (by omega) (by omega) (by omega), h.2.2.1 _ (by omega) (by omega) (by omega)⟩)
theorem ahd_inLim (h : Ahd A A' y d W) (hO : AOK A) {c : Nat} (hc : c < A 3) (y' d' : Nat) : inLim A' y' d' c = inLim A y' d' c := by
  have hC := hO.2.2.2.1
  unfold inLim
  rw [ahd_kd h hO hc, h.2.2.1 (45 + c) (by omega) (by omega) (by omega)]
end AHD
section AD
variable {A : Ar} {y d W fuel : Nat} {μ : Mem}
theorem ad_lay (hM : MA (μ 5) A) (hO : AOK A) (hF : 100 ≤ fuel) : ∃ μ', f_X7_layAside fuel μ = some μ' ∧ E11 μ μ' ∧ AD μ' A (A 0) (A 5) (wb A) := by
  obtain ⟨μ', h1, h2, h3, -⟩ := X7_copies_5_11_eq (σ := μ) (i := 0) (j := 0) (by omega) (by omega) hF
  refine ⟨μ', ?_, h2, A, ?_, rfl, rfl, fun _ _ _ _ => rfl, ?_, ?_⟩
  · unfold f_X7_layAside
    rw [i0, h1]
    rfl
  · intro i hi
    have := h3 i hi
    rw [Nat.zero_add] at this
    rw [this, hM i hi]
  · intro c hc
    have ok := hO.2.2.2.2.2.2.2.1 c hc
    rw [wb_tb hc]
    rcases (show A (55 + c) = 0 ∨ A (55 + c) = 1 by omega) with e | e <;> rw [e] <;> rfl
  · intro i hi
    unfold wb
    rw [bset_tb, decide_eq_false (by omega)]
    rfl
theorem ad_black (h : AD μ A y d W) (hO : AOK A) (hy : y ≤ 99) (h5 : A 5 ≤ d) (hd : d ≤ 1199) (hF : 100 ≤ fuel) : f_X7_black_a fuel μ = some (nI (blk A W)) := by
  obtain ⟨A', hM, h⟩ := h
  rw [X7_black_a_eq hM (ahd_ok h hO hy h5 hd) hF, ahd_wb h, ahd_blk h hO]
theorem ad_standBy (h : AD μ A y d W) (hO : AOK A) (hy : y ≤ 99) (h5 : A 5 ≤ d) (hd : d ≤ 1199) (hF : 100 ≤ fuel) {b : Nat} (hb : b < 64) : f_X7_standBy_a fuel μ (nI b) = some (nI (std A b)) := by
  obtain ⟨A', hM, h⟩ := h
  rw [X7_standBy_a_eq hM (ahd_ok h hO hy h5 hd) hF hb, ahd_std h hO]
theorem ad_stand (h : AD μ A y d W) (hO : AOK A) (hy : y ≤ 99) (h5 : A 5 ≤ d) (hd : d ≤ 1199) (hF : 100 ≤ fuel) : f_X7_stand_a fuel μ = some (nI (std A (blk A W))) := by
  obtain ⟨A', hM, h⟩ := h
  rw [X7_stand_a_eq hM (ahd_ok h hO hy h5 hd) hF, ahd_wb h, ahd_blk h hO, ahd_std h hO]
theorem ad_wset (h : AD μ A y d W) (hO : AOK A) (hy : y ≤ 99) (h5 : A 5 ≤ d) (hd : d ≤ 1199) (hF : 100 ≤ fuel) : f_X7_whiteSet fuel μ = some (nI W) := by
  obtain ⟨A', hM, h⟩ := h
  rw [X7_whiteSet_eq hM (ahd_ok h hO hy h5 hd) hF, ahd_wb h]
theorem ad_may (h : AD μ A y d W) (hO : AOK A) (hy : y ≤ 99) (h5 : A 5 ≤ d) (hd : d ≤ 1199) {c : Nat} (hc : c < A 3) : f_X7_mayRecall_a μ (nI c) = some (bI (!W.testBit c && inLim A y d c)) := by
  obtain ⟨A', hM, h⟩ := h
  rw [X7_mayRecall_a_eq hM (ahd_ok h hO hy h5 hd) (by rw [h.2.2.1 3 (by omega) (by omega) (by omega)]; exact hc), ahd_inLim h hO hc, h.1, h.2.1, h.2.2.2.1 c hc]
  cases W.testBit c <;> rfl
theorem ad_cop (h : AD μ A y d W) : μ 11 3 = nI (A 3) := by
  obtain ⟨A', hM, h⟩ := h
  rw [hM 3 (by omega), h.2.2.1 3 (by omega) (by omega) (by omega)]
theorem or_tb_z {a b n : Nat} (ha : ∀ i, n ≤ i → a.testBit i = false) (hb : ∀ i, n ≤ i → b.testBit i = false) : ∀ i, n ≤ i → (a ||| b).testBit i = false := fun i hi => by rw [Nat.testBit_or, ha i hi, hb i hi]; rfl
theorem bset_z (p : Nat → Bool) (n : Nat) : ∀ i, n ≤ i → (bset p n).testBit i = false := fun i hi => by rw [bset_tb, decide_eq_false (by omega)]; rfl
theorem upW_at {B : Ar} {p : Nat → Bool} {n c : Nat} (hc : c < n) : upW B p n (55 + c) = if p c = true then 1 else B (55 + c) := by
  unfold upW
  rw [Nat.add_sub_cancel_left]
  by_cases e : p c = true
  · rw [if_pos e, if_pos ⟨by omega, by omega, e⟩]
  · rw [if_neg e, if_neg (fun q => e q.2.2)]
theorem ad_day (h : AD μ A y d W) (hO : AOK A) (hy : y ≤ 99) (h5 : A 5 ≤ d) (hd : d ≤ 1198) (hF : 100 ≤ fuel) : ∃ μ', f_X7_dayGoes_a fuel μ = some μ' ∧ E11 μ μ' ∧ AD μ' A y (d + 1) (W ||| rep A (d + 1)) := by
  obtain ⟨A', hM, h⟩ := h
  have hO' := ahd_ok h hO hy h5 (by omega)
  have hC := hO.2.2.2.1
  obtain ⟨μ', h1, h2, h3⟩ := X7_dayGoes_a_eq hM hO' (by rw [h.2.1]; exact hd) hF
  have e3 : A' 3 = A 3 := h.2.2.1 3 (by omega) (by omega) (by omega)
  refine ⟨μ', h1, h2, _, h3, ?_, ?_, ?_, ?_, ?_⟩
  · rw [upW_lo (by omega)]; exact (if_neg (show ¬ 0 = 5 by omega)).trans h.1
  · rw [upW_lo (by omega)]; exact (if_pos rfl).trans (by rw [h.2.1])
  · intro j hj h0 h5
    rw [upW_lo (by omega)]
    exact (if_neg h5).trans (h.2.2.1 j hj h0 h5)
  · intro c hc
    have ok := hO.2.2.2.2.2.2.2.1 c hc
    rw [upW_at (by omega)]
    show (if (decide (kd A' c = 3) && decide (A' 1 ≤ A' 5 + 1 - A' (45 + c))) = true then 1 else if 55 + c = 5 then A' 5 + 1 else A' (55 + c)) = _
    rw [if_neg (show ¬ 55 + c = 5 by omega), h.2.2.2.1 c hc, Nat.testBit_or]
    unfold rep
    rw [bset_tb, decide_eq_true hc, Bool.true_and, ahd_kd h hO hc, h.2.2.1 1 (by omega) (by omega) (by omega), h.2.1, h.2.2.1 (45 + c) (by omega) (by omega) (by omega)]
    cases W.testBit c <;> cases (decide (kd A c = 3) && decide (A 1 ≤ d + 1 - A (45 + c))) <;> rfl
  · exact or_tb_z h.2.2.2.2 (bset_z _ _)
theorem ad_rec (h : AD μ A y d W) (hO : AOK A) (hy : y ≤ 99) (h5 : A 5 ≤ d) (hd : d ≤ 1199) (hF : 100 ≤ fuel) {hs : Nat} (hs9 : hs < 16) : ∃ μ', f_X7_recalls fuel μ (nI hs) = some μ' ∧ E11 μ μ' ∧ AD μ' A y d (W ||| bset (fun c => hs.testBit (A (25 + c)) && (!W.testBit c && inLim A y d c)) (A 3)) := by
  obtain ⟨A', hM, h⟩ := h
  have hO' := ahd_ok h hO hy h5 hd
  have hC := hO.2.2.2.1
  obtain ⟨μ', h1, h2, h3⟩ := X7_recalls_eq hM hO' hF hs9
  have e3 : A' 3 = A 3 := h.2.2.1 3 (by omega) (by omega) (by omega)
  refine ⟨μ', h1, h2, _, h3, ?_, ?_, ?_, ?_, ?_⟩
  · rw [upW_lo (by omega)]; exact h.1
  · rw [upW_lo (by omega)]; exact h.2.1
  · intro j hj h0 h5
    rw [upW_lo (by omega)]
    exact h.2.2.1 j hj h0 h5
  · intro c hc
    rw [upW_at (by omega), h.2.2.2.1 c hc, Nat.testBit_or, bset_tb, decide_eq_true hc, Bool.true_and, ahd_inLim h hO hc, h.1, h.2.1, h.2.2.1 (25 + c) (by omega) (by omega) (by omega)]
    cases W.testBit c <;> cases hs.testBit (A (25 + c)) <;> cases inLim A y d c <;> rfl
  · exact or_tb_z h.2.2.2.2 (bset_z _ _)
theorem ad_year (h : AD μ A y d W) (y' : Nat) : AD (mst μ 11 0 (nI y')) A y' d W := by
  obtain ⟨A', hM, h⟩ := h
  refine ⟨fun j => if j = 0 then y' else A' j, by rw [mst_at]; exact MA_st hM, if_pos rfl, ?_, ?_, ?_, h.2.2.2.2⟩
  · exact (if_neg (show ¬ 5 = 0 by omega)).trans h.2.1
  · intro j hj h0 h5
    exact (if_neg h0).trans (h.2.2.1 j hj h0 h5)
  · intro c hc
    exact (if_neg (show ¬ 55 + c = 0 by omega)).trans (h.2.2.2.1 c hc)
theorem ad_one (h : AD μ A y d W) (hO : AOK A) {c : Nat} (hc : c < A 3) : AD (mst μ 11 (55 + c) 1) A y d (W ||| 2 ^ c) := by
  obtain ⟨A', hM, h⟩ := h
  have hC := hO.2.2.2.1
  refine ⟨fun j => if j = 55 + c then 1 else A' j, by rw [mst_at]; exact MA_st (a := 1) hM, ?_, ?_, ?_, ?_, ?_⟩
  · exact (if_neg (show ¬ 0 = 55 + c by omega)).trans h.1
  · exact (if_neg (show ¬ 5 = 55 + c by omega)).trans h.2.1
  · intro j hj h0 h5
    exact (if_neg (show ¬ j = 55 + c by omega)).trans (h.2.2.1 j hj h0 h5)
  · intro k hk
    show (if 55 + k = 55 + c then 1 else A' (55 + k)) = _
    rw [Nat.testBit_or, Nat.testBit_two_pow]
    by_cases e : k = c
    · subst e
      rw [if_pos rfl]
      simp
    · rw [if_neg (by omega), h.2.2.2.1 k hk]
      simp [show ¬ c = k from fun q => e q.symm]
  · exact or_tb_z h.2.2.2.2 (fun i hi => by rw [Nat.testBit_two_pow]; exact decide_eq_false (by omega))
theorem rep_sub {a b : Nat} (h : a ≤ b) : rep A a ||| rep A b = rep A b := by
  apply Nat.eq_of_testBit_eq
  intro i
  rw [Nat.testBit_or]
  unfold rep
  rw [bset_tb, bset_tb]
  by_cases h1 : A 1 ≤ a - A (45 + i)
  · rw [decide_eq_true h1, decide_eq_true (show A 1 ≤ b - A (45 + i) by omega), Bool.or_self]
  · rw [decide_eq_false h1, Bool.and_false, Bool.and_false, Bool.false_or]
theorem rep_now (hP : RP A) : wb A ||| rep A (A 5) = wb A := by
  apply Nat.eq_of_testBit_eq
  intro i
  rw [Nat.testBit_or]
  unfold rep
  rw [bset_tb]
  by_cases hi : i < A 3
  · rw [wb_tb hi, decide_eq_true hi, Bool.true_and]
    by_cases e1 : kd A i = 3
    · by_cases e2 : A 1 ≤ A 5 - A (45 + i)
      · rw [hP.1 i hi e1 e2]; rfl
      · rw [decide_eq_false e2, Bool.and_false, Bool.or_false]
    · rw [decide_eq_false e1, Bool.false_and, Bool.or_false]
  · rw [decide_eq_false hi, Bool.false_and, Bool.or_false]
end AD
