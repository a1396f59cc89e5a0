/-! write, recall, days, undo -/
section AC2
variable {σ μ : Mem} {fuel : Nat} {A A' : Ar} {d W : Nat}
theorem ahd_self (hO : AOK A) : Ahd A A (A 0) (A 5) (wb A) := by
  refine ⟨rfl, rfl, fun _ _ _ _ => rfl, ?_, bset_z _ _⟩
  intro c hc
  have ok := hO.2.2.2.2.2.2.2.1 c hc
  rw [wb_tb hc]
  rcases (show A (55 + c) = 0 ∨ A (55 + c) = 1 by omega) with e | e <;> rw [e] <;> rfl
theorem ahd_eqA (h : Ahd A A' (A 0) d W) (hO : AOK A) : EqA A A' ∧ A' 3 = A 3 ∧ A' 6 = A 6 ∧ A' 5 = d := by
  have hC := hO.2.2.2.1
  have hH := hO.2.2.1
  have hN := hO.2.2.2.2.1
  obtain ⟨e0, e5, ej, -, -⟩ := h
  have ej : ∀ j, (j < 55 ∨ 65 ≤ j) → j ≠ 0 → j ≠ 5 → A j = A' j := fun j a b c => (ej j a b c).symm
  exact ⟨⟨e0.symm, ej _ (by omega) (by omega) (by omega), ej _ (by omega) (by omega) (by omega), ej _ (by omega) (by omega) (by omega), fun k hk => ⟨ej _ (by omega) (by omega) (by omega), ej _ (by omega) (by omega) (by omega)⟩, fun c hc => ⟨ej _ (by omega) (by omega) (by omega), ej _ (by omega) (by omega) (by omega), ej _ (by omega) (by omega) (by omega), ej _ (by omega) (by omega) (by omega)⟩, fun c hc => ⟨ej _ (by omega) (by omega) (by omega), ej _ (by omega) (by omega) (by omega), ej _ (by omega) (by omega) (by omega), ej _ (by omega) (by omega) (by omega)⟩⟩, (ej 3 (by omega) (by omega) (by omega)).symm, (ej 6 (by omega) (by omega) (by omega)).symm, e5⟩
theorem ahd_xn {σ2 : Mem} (hX : XN σ A) (h : Ahd A A' (A 0) d W) (hO : AOK A) (r : ∀ q, 14 ≤ q → q ≤ 23 → σ2 q = σ q) (f3 : σ2 13 3 = nI d) (f5 : σ2 13 5 = nI W) (fr : ∀ k, k ≠ 3 → k ≠ 5 → σ2 13 k = σ 13 k) : XN σ2 A' := by
  obtain ⟨x1, x2, x3, x4, x5, x6, x7, x8, xk, xc, xd⟩ := hX
  obtain ⟨⟨g0, g1, g2, g4, gk, gc, gd'⟩, g3, g6, g5⟩ := ahd_eqA h hO
  refine ⟨?_, ?_, ?_, ?_, ?_, ?_, ?_, ?_, ?_, ?_, ?_⟩
  · rw [fr 1 (by omega) (by omega), x1, g0]
  · rw [fr 2 (by omega) (by omega), x2, g1]
  · rw [f3, g5]
  · rw [fr 4 (by omega) (by omega), x4, g6]
  · rw [f5, ahd_wb h]
  · rw [fr 6 (by omega) (by omega), x6, g2]
  · rw [fr 7 (by omega) (by omega), x7, g3]
  · rw [fr 8 (by omega) (by omega), x8, g4]
  · intro k hk
    rw [r 14 (by omega) (by omega), r 15 (by omega) (by omega), ← (gk k (by omega)).1, ← (gk k (by omega)).2]
    exact xk k (by omega)
  · intro c hc
    obtain ⟨q1, q2, q3, q4⟩ := gc c (by omega)
    rw [r 16 (by omega) (by omega), r 17 (by omega) (by omega), r 18 (by omega) (by omega), r 19 (by omega) (by omega), ← q1, ← q2, ← q3, ← q4]
    exact xc c (by omega)
  · intro c hc
    obtain ⟨q1, q2, q3, q4⟩ := gd' c (by omega)
    rw [r 20 (by omega) (by omega), r 21 (by omega) (by omega), r 22 (by omega) (by omega), r 23 (by omega) (by omega), ← q1, ← q2, ← q3, ← q4]
    exact xd c (by omega)
theorem s_recall (h : Sim σ μ) (hF : 2100 ≤ fuel) (x1 : Int32) : SQ (f_X6_recall fuel σ x1) (f_X7_recall fuel μ x1) := by
  obtain ⟨hR, h2, h3, h4, ⟨A, a, B, hO, hD, hP, hX, hM, t1, t2, t3, t4, hH, hB⟩, h6, h7⟩ := id h
  unfold f_X6_recall f_X7_recall
  have hC := hO.2.2.2.1
  by_cases h1 : isN x1 0 (A 3)
  case neg => rw [isCopyX_f hX.2.2.2.2.2.2.1 hO h1, isCopyM_f hM hO h1]; exact ⟨_, _, _, rfl, rfl, h⟩
  obtain ⟨c, hc, rfl⟩ := isN_lt h1
  have ok := hO.2.2.2.2.2.2.2.1 c hc
  rw [isCopyX_t hX.2.2.2.2.2.2.1 hO hc, isCopyM_t hM hO hc, b1, b1, z1, z1, X1_mayRecallNow_eq hX hO hc, X7_mayRecall_n_eq hM hO hc, wb_tb hc, show (!decide (A (55 + c) = 1)) = decide (A (55 + c) = 0) by rcases (show A (55 + c) = 0 ∨ A (55 + c) = 1 by omega) with e | e <;> rw [e] <;> rfl, bs, bs]
  by_cases cm : (decide (A (55 + c) = 0) && inLim A (A 0) (A 5) c) = true
  case neg =>
    rw [Bool.eq_false_iff.mpr cm]
    exact ⟨_, _, _, rfl, rfl, h⟩
  rw [cm, if_neg (show ¬ bI true = 0 by decide), if_neg (show ¬ bI true = 0 by decide)]
  obtain ⟨σ1, μ1, e1, e2, hk⟩ := kr hF hH hB t3 t4 hM hO hD hP 1
  obtain ⟨k1, k2, k3, -⟩ := id hk
  have hwl := wb_lt hO
  have hX1 : XN σ1 A := by
    unfold XN at *
    rw [k1 13 (by omega) (by omega) (by omega), k1 14 (by omega) (by omega) (by omega), k1 15 (by omega) (by omega) (by omega), k1 16 (by omega) (by omega) (by omega), k1 17 (by omega) (by omega) (by omega), k1 18 (by omega) (by omega) (by omega), k1 19 (by omega) (by omega) (by omega), k1 20 (by omega) (by omega) (by omega), k1 21 (by omega) (by omega) (by omega), k1 22 (by omega) (by omega) (by omega), k1 23 (by omega) (by omega) (by omega)]
    exact hX
  have hM1 : MA (μ1 5) A := by rw [k2 5 (by omega) (by omega)]; exact hM
  have hA : Ahd A (fun j => if j = 55 + c then 1 else A j) (A 0) (A 5) (wb A ||| 2 ^ c) := by
    have hs := ahd_self hO
    refine ⟨if_neg (show ¬ 0 = 55 + c by omega), if_neg (show ¬ 5 = 55 + c by omega), fun j hj h0 h5 => if_neg (show ¬ j = 55 + c by omega), ?_, ?_⟩
    · intro k hk
      show (if 55 + k = 55 + c then 1 else A (55 + k)) = _
      rw [Nat.testBit_or, Nat.testBit_two_pow]
      by_cases e : k = c
      · subst e
        rw [if_pos rfl]
        simp
      · rw [if_neg (by omega), hs.2.2.2.1 k hk]
        simp [show ¬ c = k from fun q => e q.symm]
    · exact or_tb_z hs.2.2.2.2 (fun i hi => by rw [Nat.testBit_two_pow]; exact decide_eq_false (by omega))
  have hM2 : MA (mst μ1 5 (55 + c) 1 5) (fun j => if j = 55 + c then 1 else A j) := by rw [mst_at]; exact MA_st (a := 1) hM1
  revert hA hM2
  generalize (fun j => if j = 55 + c then 1 else A j) = A'
  intro hA hM2
  have hO2 := ahd_ok hA hO hO.1 (Nat.le_refl _) (by omega)
  obtain ⟨q0, q3, q6, q5⟩ := ahd_eqA hA hO
  rw [hX.2.2.2.2.1, e1, e2, bs, bs, hX1.2.2.2.2.1, nI_shl1 (by omega), nI_or, a55, gB (by omega) (by omega), cl_n (by omega), cl_n (by omega)]
  have hX2 : XN (mst σ1 13 5 (nI (wb A ||| 2 ^ c))) A' := ahd_xn hX1 hA hO (fun q q1 q2 => mst_ne (by omega)) (by rw [mst_at]; exact hX1.2.2.1) (by rw [mst_at]; exact if_pos rfl) (fun k k3 k5 => by rw [mst_at]; exact if_neg k5)
  have hwe := ahd_wb hA
  rw [← hwe] at hX2
  rw [← hwe, X1_blackBy_eq hX2 hO2 (by omega) (wb_lt hO2), X7_black_n_eq hM2 hO2 (by omega), bs, bs, gB (by omega) (by omega), a15, gB (by omega) (by omega), bs, cl_n (by omega), hM2 _ (by omega), (hX1.2.2.2.2.2.2.2.2.2.1 c hc).1, ← (q0.2.2.2.2.2.1 c hc).1]
  refine ⟨_, _, _, rfl, rfl, Sim.did h t2 hk ⟨q0, rfl, Or.inr (Or.inl ⟨rfl, q3, q5, q6⟩)⟩ hO2 (by omega) ?_ hX2 hM2 ?_ (fun q hq => mst_ne (by omega)) (fun q hq => mst_ne hq)⟩
  · refine ⟨fun k hk h3 h4 => ?_, fun q => by rw [← q0.2.1]; exact hP.2 (by rw [q0.2.2.1]; exact q)⟩
    rw [q3] at hk
    rw [ahd_kd hA hO hk] at h3
    rw [q5, ← q0.2.1, ← (q0.2.2.2.2.2.1 k hk).2.2.2] at h4
    rw [hA.2.2.2.1 k hk, Nat.testBit_or, wb_tb hk, hP.1 k hk h3 h4]
    rfl
  · rw [mst_at]
    show σ1 13 0 = _
    rw [k1 13 (by omega) (by omega) (by omega)]
/-- a day more -/
theorem s_day (h : Sim σ μ) (hF : 2100 ≤ fuel) {e : Nat} (he : σ 13 3 = nI e) (hd : e < 999) : ∃ σ1 σ2 μ1 μ2, f_X0_keep σ 2 (σ 13 5) = some σ1 ∧ f_X1_passDay fuel σ1 = some σ2 ∧ f_X7_remember fuel μ = some μ1 ∧ f_X7_dayGoes_n fuel μ1 = some μ2 ∧ Sim σ2 μ2 ∧ σ2 13 3 = nI (e + 1) := by
  obtain ⟨hR, h2, h3, h4, ⟨A, a, B, hO, hD, hP, hX, hM, t1, t2, t3, t4, hH, hB⟩, h6, h7⟩ := id h
  have hC := hO.2.2.2.1
  obtain ⟨σ1, μ1, e1, e2, hk⟩ := kr hF hH hB t3 t4 hM hO hD hP 2
  obtain ⟨k1, k2, k3, -⟩ := id hk
  have hX1 : XN σ1 A := by
    unfold XN at *
    rw [k1 13 (by omega) (by omega) (by omega), k1 14 (by omega) (by omega) (by omega), k1 15 (by omega) (by omega) (by omega), k1 16 (by omega) (by omega) (by omega), k1 17 (by omega) (by omega) (by omega), k1 18 (by omega) (by omega) (by omega), k1 19 (by omega) (by omega) (by omega), k1 20 (by omega) (by omega) (by omega), k1 21 (by omega) (by omega) (by omega), k1 22 (by omega) (by omega) (by omega), k1 23 (by omega) (by omega) (by omega)]
    exact hX
  have hM1 : MA (μ1 5) A := by rw [k2 5 (by omega) (by omega)]; exact hM
  have e5 : A 5 = e := by
    rw [hX.2.2.1] at he
    exact (eq_n (by omega) (by omega)).mp he
  obtain ⟨μ2, d1, d2, d3⟩ := X7_dayGoes_n_eq hM1 hO (by omega) (fuel := fuel) (by omega)
  have hs := ahd_self hO
  have hA : Ahd A (upW (fun j => if j = 5 then A 5 + 1 else A j) (fun c => decide (kd A c = 3) && decide (A 1 ≤ A 5 + 1 - A (45 + c))) (A 3)) (A 0) (A 5 + 1) (wb A ||| rep A (A 5 + 1)) := by
    refine ⟨?_, ?_, ?_, ?_, ?_⟩
    · rw [upW_lo (by omega)]; exact if_neg (show ¬ 0 = 5 by omega)
    · rw [upW_lo (by omega)]; exact if_pos rfl
    · intro j hj h0 h5
      rw [upW_lo (by omega)]
      exact if_neg h5
    · intro c hc
      rw [upW_at (by omega)]
      show (if (decide (kd A c = 3) && decide (A 1 ≤ A 5 + 1 - A (45 + c))) = true then 1 else if 55 + c = 5 then A 5 + 1 else A (55 + c)) = _
      rw [if_neg (show ¬ 55 + c = 5 by omega), hs.2.2.2.1 c hc, Nat.testBit_or]
      unfold rep
      rw [bset_tb, decide_eq_true hc, Bool.true_and]
      cases (wb A).testBit c <;> cases (decide (kd A c = 3) && decide (A 1 ≤ A 5 + 1 - A (45 + c))) <;> rfl
    · exact or_tb_z hs.2.2.2.2 (bset_z _ _)
  revert hA d3
  generalize (upW (fun j => if j = 5 then A 5 + 1 else A j) (fun c => decide (kd A c = 3) && decide (A 1 ≤ A 5 + 1 - A (45 + c))) (A 3)) = A'
  intro d3 hA
  have hO2 := ahd_ok hA hO hO.1 (by omega) (by omega)
  obtain ⟨q0, q3, q6, q5⟩ := ahd_eqA hA hO
  have hAd : Ahd A (fun j => if j = 5 then A 5 + 1 else A j) (A 0) (A 5 + 1) (wb A) := ⟨rfl, rfl, fun j _ _ h5 => if_neg h5, fun c hc => by
    show (if 55 + c = 5 then A 5 + 1 else A (55 + c)) = _
    rw [if_neg (by omega)]; exact hs.2.2.2.1 c hc, hs.2.2.2.2⟩
  have hXd : XN (mst σ1 13 3 (nI (A 5 + 1))) (fun j => if j = 5 then A 5 + 1 else A j) := ahd_xn hX1 hAd hO (fun q q1 q2 => mst_ne (by omega)) (by rw [mst_at]; exact if_pos rfl) (by rw [mst_at]; exact hX1.2.2.2.2.1) (fun k k3 k5 => by rw [mst_at]; exact if_neg k3)
  have hOd := ahd_ok hAd hO hO.1 (by omega) (by omega)
  have hrd : rep (fun j => if j = 5 then A 5 + 1 else A j) (A 5 + 1) = rep A (A 5 + 1) := by
    unfold rep
    refine orset_congr (fun c hc => ⟨?_, fun _ => rfl⟩)
    show (decide ((if 7 + (if 25 + c = 5 then A 5 + 1 else A (25 + c)) = 5 then A 5 + 1 else A (7 + (if 25 + c = 5 then A 5 + 1 else A (25 + c)))) = 3) && decide (A 1 ≤ A 5 + 1 - (if 45 + c = 5 then A 5 + 1 else A (45 + c)))) = _
    rw [if_neg (show ¬ 25 + c = 5 by omega), if_neg (show ¬ 45 + c = 5 by omega), if_neg (show ¬ 7 + A (25 + c) = 5 by omega)]
  have hp : f_X1_passDay fuel σ1 = some (mst (mst σ1 13 3 (nI (A 5 + 1))) 13 5 (nI (wb A ||| rep A (A 5 + 1)))) := by
    unfold f_X1_passDay
    rw [hX1.2.2.1, hX1.2.2.2.2.1, s1, X1_whiteOn_eq (d := A 5 + 1) hXd hOd (by omega) (show (if 5 = 5 then A 5 + 1 else A 5) ≤ A 5 + 1 from Nat.le_refl _) (by omega), hrd]
    rfl
  refine ⟨σ1, _, μ1, μ2, by rw [hX.2.2.2.2.1]; exact e1, hp, e2, d1, Sim.did h t2 hk ⟨q0, rfl, Or.inr (Or.inr ⟨rfl, q3, q5, q6⟩)⟩ hO2 (by omega) ?_ ?_ d3 ?_ (fun q hq => by rw [mst_ne (by omega), mst_ne (by omega)]) (fun q hq => d2 q hq), ?_⟩
  · refine ⟨fun k hk h3 h4 => ?_, fun q => by rw [← q0.2.1]; exact hP.2 (by rw [q0.2.2.1]; exact q)⟩
    rw [q3] at hk
    rw [ahd_kd hA hO hk] at h3
    rw [q5, ← q0.2.1, ← (q0.2.2.2.2.2.1 k hk).2.2.2] at h4
    rw [hA.2.2.2.1 k hk, Nat.testBit_or]
    unfold rep
    rw [bset_tb, decide_eq_true hk, decide_eq_true h3, decide_eq_true h4, Bool.and_true, Bool.and_true, Bool.or_true]
    rfl
  · exact ahd_xn hX1 hA hO (fun q q1 q2 => by rw [mst_ne (by omega), mst_ne (by omega)]) (by rw [mst_at, mst_at]; rfl) (by rw [mst_at]; exact if_pos rfl) (fun k k3 k5 => by rw [mst_at, mst_at]; exact (if_neg k5).trans (if_neg k3))
  · rw [mst_at, mst_at]
    show σ1 13 0 = _
    rw [k1 13 (by omega) (by omega) (by omega)]
  · rw [mst_at, mst_at, ← e5]; rfl
theorem s_days (h : Sim σ μ) (hF : 2100 ≤ fuel) (x1 : Int32) : SQ (f_X6_days fuel σ x1) (f_X7_days fuel μ x1) := by
  obtain ⟨hR, h2, h3, h4, ⟨A, a, B, hO, hD, hP, hX, hM, t1, t2, t3, t4, hH, hB⟩, h6, h7⟩ := id h
  unfold f_X6_days f_X7_days
  rw [t2]
  by_cases h0 : σ 13 0 = 0
  · rw [if_pos h0, if_pos h0]; exact ⟨_, _, _, rfl, rfl, h⟩
  rw [if_neg h0, if_neg h0]
  by_cases h1 : isN x1 1 25
  case neg =>
    rw [in_f (lo := 1) (n := 25) rfl rfl (by omega) h1, b0, z0]
    rw [isN_iff (by omega)] at h1
    by_cases c1 : x1 < 1
    · rw [if_pos c1]; exact ⟨_, _, _, rfl, rfl, h⟩
    · rw [if_neg c1, if_neg (show ¬ x1 ≤ 24 by
        rw [Int32.lt_iff_toInt_lt, show (1 : Int32).toInt = 1 by decide] at c1
        rw [Int32.le_iff_toInt_le, show (24 : Int32).toInt = 24 by decide]
        omega)]
      exact ⟨_, _, _, rfl, rfl, h⟩
  rw [in_t (lo := 1) (n := 25) rfl rfl (by omega) h1, b1, z1]
  obtain ⟨x, hx1, hx2, rfl⟩ := h1
  rw [if_neg (show ¬ nI x < 1 by rw [show (1 : Int32) = nI 1 from rfl, lt_n (by omega) (by omega)]; omega), if_pos (show nI x ≤ 24 by rw [show (24 : Int32) = nI 24 from rfl, le_n (by omega) (by omega)]; omega), hX.2.2.1, hM 5 (by omega), nI_add, show (999 : Int32) = nI 999 from rfl]
  by_cases c : A 5 + x ≤ 999
  case neg => rw [if_neg (by rw [le_n (by omega) (by omega)]; omega), if_neg (by rw [le_n (by omega) (by omega)]; omega)]; exact ⟨_, _, _, rfl, rfl, h⟩
  rw [if_pos (by rw [le_n (by omega) (by omega)]; omega), if_pos (by rw [le_n (by omega) (by omega)]; omega)]
  have key : ∀ k i e n m σ μ, i + k = x → k < n → k < m → Sim σ μ → σ 13 3 = nI e → e + k ≤ 999 → SQ (f_X6_days_47 fuel n σ (nI x) (nI i)) (f_X7_days_44 fuel m μ (nI x) (nI i)) := by
    intro k
    induction k with
    | zero =>
      intro i e n m σ μ hi hn hm h he hk
      obtain ⟨n, rfl⟩ := suc_of hn
      obtain ⟨m, rfl⟩ := suc_of hm
      obtain ⟨-, -, -, -, ⟨A, -, -, hO, -, -, hX, hM, -⟩, -, -⟩ := id h
      rw [f_X6_days_47, f_X7_days_44, if_pos (by rw [le_n (by omega) (by omega)]; omega), if_pos (by rw [le_n (by omega) (by omega)]; omega), hX.2.2.2.2.1, X1_standingBy_eq hX hO (by omega) (wb_lt hO), X7_stand_n_eq hM hO (by omega)]
      exact ⟨_, _, _, rfl, rfl, h⟩
    | succ k ih =>
      intro i e n m σ μ hi hn hm h he hk
      obtain ⟨n, rfl⟩ := suc_of hn
      obtain ⟨m, rfl⟩ := suc_of hm
      obtain ⟨σ1, σ2, μ1, μ2, q1, q2, q3, q4, q5, q6⟩ := s_day h hF he (by omega)
      rw [f_X6_days_47, f_X7_days_44, if_neg (by rw [le_n (by omega) (by omega)]; omega), if_neg (by rw [le_n (by omega) (by omega)]; omega), q1, q3, bs, bs, q2, q4, bs, bs, s1]
      exact ih (i + 1) (e + 1) n m σ2 μ2 (by omega) (by omega) (by omega) q5 q6 (by omega)
  exact key x 0 (A 5) fuel fuel σ μ (by omega) (by omega) (by omega) h hX.2.2.1 c
end AC2
