/-! copy, deed -/
section STQ
variable {b : Nat → Nat} {t p : Nat} {σ μ : Mem} {fuel : Nat} {A : Ar}
def kC3 (fuel n : Nat) (m : Mem) : Option (Int32 × Mem) := (f_X7_number fuel m (nI (35 + n)) (nI 1) (nI 9)).bind fun v5 => if v5.1 = 0 then some (0, v5.2) else (f_X7_sign fuel v5.2 (nI 4)).bind fun v6 => if v6.1 = 0 then some (0, v6.2) else kH2 v6.2
def kC2 (fuel n : Nat) (m : Mem) : Option (Int32 × Mem) := (f_X7_number fuel m (nI (25 + n)) (nI 0) ((m 10 2) - 1)).bind fun v3 => if v3.1 = 0 then some (0, v3.2) else (f_X7_sign fuel v3.2 (nI 3)).bind fun v4 => if v4.1 = 0 then some (0, v4.2) else kC3 fuel n v4.2
theorem px_ne {σ' : Mem} (h : PX b t p σ) (h46 : σ' 46 = σ 46) (h47 : σ' 47 = σ 47) : PX b t p σ' := by
  obtain ⟨q1, q2, q3, q4, q5, q6⟩ := h
  exact ⟨q1, q2, q3, by rw [h46]; exact q4, by rw [h46]; exact q5, by rw [h47]; exact q6⟩
theorem st_copy (hF : 1000 ≤ fuel) (hx : PX b t p σ) (hI : PI σ μ A) (hp : p < t) (hm : PM b t (p + 1) μ) (h16 : μ 0 16 = nI p) (h2 : 0 < A 2) (h4 : A 4 = 0) : StR b t σ μ (fun A' => A' 2 = A 2 ∧ A' 3 = A 3 + 1 ∧ A' 4 = 0) (f_X4_readCopy fuel σ) (f_X7_readsCopy fuel μ) := by
  obtain ⟨hO, i5, i6, i1, iz, hX, i0, hM⟩ := hI
  obtain ⟨x1, x2, x3, x4, x5, x6, x7, x8, xk, xc, xd⟩ := id hX
  have hH := hO.2.2.1
  have hC := hO.2.2.2.1
  unfold f_X4_readCopy f_X7_readsCopy
  rw [x7, hM 3 (by omega), show (10 : Int32) = nI 10 from rfl]
  by_cases c : A 3 < 10
  case neg =>
    rw [if_neg (show ¬ nI (A 3) < nI 10 by rw [lt_n (by omega) (by omega)]; omega), if_pos (show nI (A 3) = nI 10 by rw [eq_n (by omega) (by omega)]; omega)]
    exact Or.inl ⟨_, _, rfl, rfl, fl_mk hx.2.2.2.2.1 ET.rf h16⟩
  rw [if_pos (show nI (A 3) < nI 10 by rw [lt_n (by omega) (by omega)]; omega), if_neg (show ¬ nI (A 3) = nI 10 by rw [eq_n (by omega) (by omega)]; omega), hx.2.2.2.2.1, s1, s1, a15, a25, a35]
  generalize hn : A 3 = n at *
  have hx1 : PX b t (p + 1) (mst σ 46 3 (nI (p + 1))) := hx.mv (by omega)
  have fx1 : FX σ (mst σ 46 3 (nI (p + 1))) := FX.st
  have fm1 : FM μ (mst μ 10 3 (nI (n + 1))) := ⟨fun q q1 q2 => by rw [mst_ne q2], fun k k1 k2 => by rw [mst_ne (by omega)]⟩
  show StR b t σ μ _ ((f_X4_readNumberAndSign fuel (mst σ 46 3 (nI (p + 1))) (nI 0) (nI 5) (nI 44)).bind fun v1 =>
    if 0 ≤ v1.1 then
      (f_X4_readNumberAndSign fuel v1.2 (nI 0) ((v1.2 48 6) - 1) (nI 44)).bind fun v2 =>
      if 0 ≤ v2.1 then
        (f_X4_readNumberAndSign fuel v2.2 (nI 1) (nI 9) (nI 59)).bind fun v3 =>
        if 0 ≤ v3.1 then
          (f_X1_addCopyD v3.2 v1.1 v2.1 v3.1).bind fun v4 =>
          some (1, v4)
        else
          some (0, v3.2)
      else
        some (0, v2.2)
    else
      some (0, v1.2)) _
  rcases ns2 hF hx1 (hm.st (k := 3) (v := nI (n + 1))) (lo := 0) (hi := 5) (s := 15 + n) (x := 44) (k := 3) (by omega) (by omega) (by omega) (by omega) with ⟨σ2, μ2, g1, g2, g3⟩ | ⟨y, p2, σ2, μ2, y1, y2, g1, g2, g3, g4, g5, g6, g7, g8⟩
  · rw [g1]
    exact Or.inl ⟨_, _, rfl, g3 (kC2 fuel n), Fl.tr fx1 fm1 g2⟩
  rw [g1, bs]
  have sq2 : ∀ q, q ≠ 46 → σ2 q = σ q := fun q hq => by rw [g2 q hq, mst_ne hq]
  have m102 : μ2 10 2 = nI (A 2) := by
    rw [g5, mst_at]
    exact (if_neg (by omega)).trans ((if_neg (by omega)).trans (hM 2 (by omega)))
  have eh : nI (A 2) - 1 = nI (A 2 - 1) := by rw [show (1 : Int32) = nI 1 from rfl, pk_sub (by omega)]
  have ek2 : kC2 fuel n μ2 = (f_X7_number fuel μ2 (nI (25 + n)) (nI 0) (nI (A 2 - 1))).bind fun v3 => if v3.1 = 0 then some (0, v3.2) else (f_X7_sign fuel v3.2 (nI 3)).bind fun v4 => if v4.1 = 0 then some (0, v4.2) else kC3 fuel n v4.2 := by
    unfold kC2
    rw [m102, eh]
  show StR b t σ μ _ (if 0 ≤ nI y then
      (f_X4_readNumberAndSign fuel σ2 (nI 0) ((σ2 48 6) - 1) (nI 44)).bind fun v2 =>
      if 0 ≤ v2.1 then
        (f_X4_readNumberAndSign fuel v2.2 (nI 1) (nI 9) (nI 59)).bind fun v3 =>
        if 0 ≤ v3.1 then
          (f_X1_addCopyD v3.2 (nI y) v2.1 v3.1).bind fun v4 =>
          some (1, v4)
        else
          some (0, v3.2)
      else
        some (0, v2.2)
    else
      some (0, σ2)) _
  rw [if_pos (nI_nn (by omega)), sq2 48 (by omega), x6, eh]
  have fx2 : FX σ σ2 := fx_of sq2
  have fm2 : FM μ μ2 := fm1.tr g6
  rcases ns2 hF g3 g4 (lo := 0) (hi := A 2 - 1) (s := 25 + n) (x := 44) (k := 3) (by omega) (by omega) (by omega) (by omega) with ⟨σ3, μ3, k1, k2, k3⟩ | ⟨z, p3, σ3, μ3, z1, z2, k1, k2, k3, k4, k5, k6, k7, k8⟩
  · rw [k1]
    exact Or.inl ⟨_, _, rfl, (g8 (kC2 fuel n)).trans (ek2.trans (k3 (kC3 fuel n))), Fl.tr fx2 fm2 k2⟩
  rw [k1, bs]
  have sq3 : ∀ q, q ≠ 46 → σ3 q = σ q := fun q hq => by rw [k2 q hq, sq2 q hq]
  have fx3 : FX σ σ3 := fx_of sq3
  have fm3 : FM μ μ3 := fm2.tr k6
  show StR b t σ μ _ (if 0 ≤ nI z then
        (f_X4_readNumberAndSign fuel σ3 (nI 1) (nI 9) (nI 59)).bind fun v3 =>
        if 0 ≤ v3.1 then
          (f_X1_addCopyD v3.2 (nI y) (nI z) v3.1).bind fun v4 =>
          some (1, v4)
        else
          some (0, v3.2)
      else
        some (0, σ3)) _
  rw [if_pos (nI_nn (by omega))]
  rcases ns2 hF k3 k4 (lo := 1) (hi := 9) (s := 35 + n) (x := 59) (k := 4) (by omega) (by omega) (by omega) (by omega) with ⟨σ4, μ4, l1, l2, l3⟩ | ⟨w, p4, σ4, μ4, w1, w2, l1, l2, l3, l4, l5, l6, l7, l8⟩
  · rw [l1]
    exact Or.inl ⟨_, _, rfl, (g8 (kC2 fuel n)).trans (ek2.trans ((k8 (kC3 fuel n)).trans (l3 kH2))), Fl.tr fx3 fm3 l2⟩
  rw [l1, bs]
  have sq : ∀ q, q ≠ 46 → σ4 q = σ q := fun q hq => by rw [l2 q hq, sq3 q hq]
  have ea : f_X1_addCopyD σ4 (nI y) (nI z) (nI w) = some (mst (mst (mst (mst (mst σ4 51 n (nI y)) 52 n (nI z)) 53 n (nI w)) 54 n (nI 0)) 48 7 (nI (n + 1))) := by
    unfold f_X1_addCopyD
    rw [sq 48 (by omega), x7, x3, i5, show (10 : Int32) = nI 10 from rfl, if_pos (show nI n < nI 10 by rw [lt_n (by omega) (by omega)]; omega), gB (by omega) (by omega), gB (by omega) (by omega), gB (by omega) (by omega), gB (by omega) (by omega), cl_n (by omega), s1]
  show StR b t σ μ _ (if 0 ≤ nI w then (f_X1_addCopyD σ4 (nI y) (nI z) (nI w)).bind fun v4 => some (1, v4) else some (0, σ4)) _
  rw [if_pos (nI_nn (by omega)), ea, bs]
  have eA : ∀ j, j ≠ 3 → j ≠ 15 + n → j ≠ 25 + n → j ≠ 35 + n → (if j = 35 + n then w else if j = 25 + n then z else if j = 15 + n then y else if j = 3 then n + 1 else A j) = A j := fun j j1 j2 j3 j4 => by rw [if_neg j4, if_neg j3, if_neg j2, if_neg j1]
  have e3 : (if 3 = 35 + n then w else if 3 = 25 + n then z else if 3 = 15 + n then y else if 3 = 3 then n + 1 else A 3) = n + 1 := by rw [if_neg (by omega), if_neg (by omega), if_neg (by omega), if_pos rfl]
  have e15 : (if 15 + n = 35 + n then w else if 15 + n = 25 + n then z else if 15 + n = 15 + n then y else if 15 + n = 3 then n + 1 else A (15 + n)) = y := by rw [if_neg (by omega), if_neg (by omega), if_pos rfl]
  have e25 : (if 25 + n = 35 + n then w else if 25 + n = 25 + n then z else if 25 + n = 15 + n then y else if 25 + n = 3 then n + 1 else A (25 + n)) = z := by rw [if_neg (by omega), if_pos rfl]
  have e35 : (if 35 + n = 35 + n then w else if 35 + n = 25 + n then z else if 35 + n = 15 + n then y else if 35 + n = 3 then n + 1 else A (35 + n)) = w := by rw [if_pos rfl]
  have e2 := eA 2 (by omega) (by omega) (by omega) (by omega)
  have e4 := eA 4 (by omega) (by omega) (by omega) (by omega)
  have iz' : ∀ c, c < 10 → (if 45 + c = 35 + n then w else if 45 + c = 25 + n then z else if 45 + c = 15 + n then y else if 45 + c = 3 then n + 1 else A (45 + c)) = 0 ∧ (if 55 + c = 35 + n then w else if 55 + c = 25 + n then z else if 55 + c = 15 + n then y else if 55 + c = 3 then n + 1 else A (55 + c)) = 0 := fun c hc => ⟨(eA _ (by omega) (by omega) (by omega) (by omega)).trans (iz c hc).1, (eA _ (by omega) (by omega) (by omega) (by omega)).trans (iz c hc).2⟩
  refine Or.inr ⟨_, μ4, p4, fun j => if j = 35 + n then w else if j = 25 + n then z else if j = 15 + n then y else if j = 3 then n + 1 else A j, rfl, (g8 (kC2 fuel n)).trans (ek2.trans ((k8 (kC3 fuel n)).trans (l8 kH2))), fun q q1 q2 => ?_, fm3.tr l6, ?_, ?_, l4, ⟨?_, ?_, ?_, ?_, iz', ?_, ?_, ?_⟩, e2, e3, e4.trans h4⟩
  · rw [mst_ne (by omega), mst_ne (by omega), mst_ne (by omega), mst_ne (by omega), mst_ne (by omega), sq q q1]
  · rw [l7, k7, g7, mst_ne (by omega)]
  · exact px_ne l3 (by rw [mst_ne (by omega), mst_ne (by omega), mst_ne (by omega), mst_ne (by omega), mst_ne (by omega)]) (by rw [mst_ne (by omega), mst_ne (by omega), mst_ne (by omega), mst_ne (by omega), mst_ne (by omega)])
  · refine ⟨?_, ?_, ?_, ?_, ?_, ?_, fun j hj => ?_, fun j hj => ?_, fun j hj => ?_⟩
    · exact eql (eA 0 (by omega) (by omega) (by omega) (by omega)) hO.1
    · exact eql (eA 1 (by omega) (by omega) (by omega) (by omega)) hO.2.1
    · exact eql e2 (by omega)
    · exact eql e3 (by omega)
    · exact eql e4 (by omega)
    · exact eql (eA 5 (by omega) (by omega) (by omega) (by omega)) (by omega)
    · have hj : j < A 2 := Nat.lt_of_lt_of_eq hj e2
      have q1 := eA (7 + j) (by omega) (by omega) (by omega) (by omega)
      have q2 := eA (11 + j) (by omega) (by omega) (by omega) (by omega)
      have := hO.2.2.2.2.2.2.1 j hj
      exact ⟨Nat.le_trans this.1 (Nat.le_of_eq q1.symm), eql q1 this.2.1, eql q2 this.2.2⟩
    · have hj : j < n + 1 := Nat.lt_of_lt_of_eq hj e3
      have e5 := eA 5 (by omega) (by omega) (by omega) (by omega)
      by_cases ej : j = n
      · subst ej
        exact ⟨eql e15 (by omega), Nat.lt_of_le_of_lt (Nat.le_of_eq e25) (Nat.lt_of_lt_of_eq (by omega) e2.symm), Nat.le_trans w1 (Nat.le_of_eq e35.symm), eql e35 w2, eql (iz' j (by omega)).1 (Nat.zero_le _), eql (iz' j (by omega)).2 (Nat.zero_le _)⟩
      · have q1 := eA (15 + j) (by omega) (by omega) (by omega) (by omega)
        have q2 := eA (25 + j) (by omega) (by omega) (by omega) (by omega)
        have q3 := eA (35 + j) (by omega) (by omega) (by omega) (by omega)
        have ok := hO.2.2.2.2.2.2.2.1 j (by omega)
        exact ⟨eql q1 ok.1, Nat.lt_of_le_of_lt (Nat.le_of_eq q2) (Nat.lt_of_lt_of_eq ok.2.1 e2.symm), Nat.le_trans ok.2.2.1 (Nat.le_of_eq q3.symm), eql q3 ok.2.2.2.1, eql (iz' j (by omega)).1 (Nat.zero_le _), eql (iz' j (by omega)).2 (Nat.zero_le _)⟩
    · exact absurd (Nat.lt_of_lt_of_eq hj (e4.trans h4)) (Nat.not_lt_zero _)
  · exact (eA 5 (by omega) (by omega) (by omega) (by omega)).trans i5
  · exact (eA 6 (by omega) (by omega) (by omega) (by omega)).trans i6
  · exact Nat.le_trans i1 (Nat.le_of_eq (eA 1 (by omega) (by omega) (by omega) (by omega)).symm)
  · have s48 : ∀ j, j ≠ 7 → mst (mst (mst (mst (mst σ4 51 n (nI y)) 52 n (nI z)) 53 n (nI w)) 54 n (nI 0)) 48 7 (nI (n + 1)) 48 j = σ 48 j := fun j hj => by
      rw [mst_at, mst_ne (by omega), mst_ne (by omega), mst_ne (by omega), mst_ne (by omega), sq 48 (by omega)]; exact if_neg hj
    have w0 : wb (fun j => if j = 35 + n then w else if j = 25 + n then z else if j = 15 + n then y else if j = 3 then n + 1 else A j) = 0 := wb0 (eql e3 (by omega)) iz'
    refine ⟨?_, ?_, ?_, ?_, ?_, ?_, ?_, ?_, fun j hj => ?_, fun j hj => ?_, fun j hj => ?_⟩
    · rw [s48 1 (by omega), x1]; exact congrArg nI (eA 0 (by omega) (by omega) (by omega) (by omega)).symm
    · rw [s48 2 (by omega), x2]; exact congrArg nI (eA 1 (by omega) (by omega) (by omega) (by omega)).symm
    · rw [s48 3 (by omega), x3]; exact congrArg nI (eA 5 (by omega) (by omega) (by omega) (by omega)).symm
    · rw [s48 4 (by omega), x4]; exact congrArg nI (eA 6 (by omega) (by omega) (by omega) (by omega)).symm
    · rw [s48 5 (by omega), x5, w0, wb0 (by omega) iz]
    · rw [s48 6 (by omega), x6]; exact congrArg nI e2.symm
    · rw [mst_at]; exact (if_pos rfl).trans (congrArg nI e3.symm)
    · rw [s48 8 (by omega), x8]; exact congrArg nI e4.symm
    · have hj : j < A 2 := Nat.lt_of_lt_of_eq hj e2
      have q1 := eA (7 + j) (by omega) (by omega) (by omega) (by omega)
      have q2 := eA (11 + j) (by omega) (by omega) (by omega) (by omega)
      have := xk j hj
      refine ⟨?_, ?_⟩
      · rw [mst_ne (by omega), mst_ne (by omega), mst_ne (by omega), mst_ne (by omega), mst_ne (by omega), sq 49 (by omega), this.1]; exact congrArg nI q1.symm
      · rw [mst_ne (by omega), mst_ne (by omega), mst_ne (by omega), mst_ne (by omega), mst_ne (by omega), sq 50 (by omega), this.2]; exact congrArg nI q2.symm
    · have hj : j < n + 1 := Nat.lt_of_lt_of_eq hj e3
      have m51 : mst (mst (mst (mst (mst σ4 51 n (nI y)) 52 n (nI z)) 53 n (nI w)) 54 n (nI 0)) 48 7 (nI (n + 1)) 51 j = upd (σ 51) n (nI y) j := by rw [mst_ne (by omega), mst_ne (by omega), mst_ne (by omega), mst_ne (by omega), mst_at, sq 51 (by omega)]
      have m52 : mst (mst (mst (mst (mst σ4 51 n (nI y)) 52 n (nI z)) 53 n (nI w)) 54 n (nI 0)) 48 7 (nI (n + 1)) 52 j = upd (σ 52) n (nI z) j := by rw [mst_ne (by omega), mst_ne (by omega), mst_ne (by omega), mst_at, mst_ne (by omega), sq 52 (by omega)]
      have m53 : mst (mst (mst (mst (mst σ4 51 n (nI y)) 52 n (nI z)) 53 n (nI w)) 54 n (nI 0)) 48 7 (nI (n + 1)) 53 j = upd (σ 53) n (nI w) j := by rw [mst_ne (by omega), mst_ne (by omega), mst_at, mst_ne (by omega), mst_ne (by omega), sq 53 (by omega)]
      have m54 : mst (mst (mst (mst (mst σ4 51 n (nI y)) 52 n (nI z)) 53 n (nI w)) 54 n (nI 0)) 48 7 (nI (n + 1)) 54 j = upd (σ 54) n (nI 0) j := by rw [mst_ne (by omega), mst_at, mst_ne (by omega), mst_ne (by omega), mst_ne (by omega), sq 54 (by omega)]
      rw [m51, m52, m53, m54]
      by_cases ej : j = n
      · subst ej
        exact ⟨(if_pos rfl).trans (congrArg nI e15.symm), (if_pos rfl).trans (congrArg nI e25.symm), (if_pos rfl).trans (congrArg nI e35.symm), (if_pos rfl).trans (congrArg nI (iz' j (by omega)).1.symm)⟩
      · have q1 := eA (15 + j) (by omega) (by omega) (by omega) (by omega)
        have q2 := eA (25 + j) (by omega) (by omega) (by omega) (by omega)
        have q3 := eA (35 + j) (by omega) (by omega) (by omega) (by omega)
        have q4 := eA (45 + j) (by omega) (by omega) (by omega) (by omega)
        obtain ⟨r1, r2, r3, r4⟩ := xc j (by omega)
        exact ⟨(if_neg ej).trans (r1.trans (congrArg nI q1.symm)), (if_neg ej).trans (r2.trans (congrArg nI q2.symm)), (if_neg ej).trans (r3.trans (congrArg nI q3.symm)), (if_neg ej).trans (r4.trans (congrArg nI q4.symm))⟩
    · exact absurd (Nat.lt_of_lt_of_eq hj (e4.trans h4)) (Nat.not_lt_zero _)
  · rw [mst_at, mst_ne (by omega), mst_ne (by omega), mst_ne (by omega), mst_ne (by omega), sq 48 (by omega)]; exact i0
  · rw [l5, k5, g5, mst_at]
    exact MA_st (MA_st (MA_st (MA_st hM)))
/-- a deed's last number and sign -/
theorem ns_d (hF : 1000 ≤ fuel) (hx : PX b t p σ) (hm : PM b t p μ) {lo hi s d : Nat} (hhi : hi < 1000) (hlo : lo < 1000) (hs : s < 85) (hs4 : s ≠ 4) (hd : μ 10 4 = nI d) :
    (∃ σ' μ', f_X4_readNumberAndSign fuel σ (nI lo) (nI hi) (nI 59) = some (-1, σ') ∧ Fl σ μ σ' μ' ∧ ((f_X7_number fuel μ (nI s) (nI lo) (nI hi)).bind fun v9 => if v9.1 = 0 then some (0, v9.2) else (f_X7_sign fuel (mst v9.2 10 4 ((v9.2 10 4) + 1)) (nI 4)).bind fun v10 => gd (isB v10.1) (some (v10.1, v10.2))) = some (0, μ')) ∨
    (∃ v p' σ' μ', lo ≤ v ∧ v ≤ hi ∧ f_X4_readNumberAndSign fuel σ (nI lo) (nI hi) (nI 59) = some (nI v, σ') ∧ (∀ q, q ≠ 46 → σ' q = σ q) ∧ PX b t p' σ' ∧ PM b t p' μ' ∧ μ' 10 = upd (upd (μ 10) s (nI v)) 4 (nI (d + 1)) ∧ FM μ μ' ∧ μ' 0 6 = μ 0 6 ∧ ((f_X7_number fuel μ (nI s) (nI lo) (nI hi)).bind fun v9 => if v9.1 = 0 then some (0, v9.2) else (f_X7_sign fuel (mst v9.2 10 4 ((v9.2 10 4) + 1)) (nI 4)).bind fun v10 => gd (isB v10.1) (some (v10.1, v10.2))) = some (1, μ')) := by
  unfold f_X4_readNumberAndSign
  rcases nm hF hx hm hhi hlo hs with ⟨f, μ', e1, e2, e3, e4⟩ | ⟨v, n, μ', v1, v2, e1, e2, e3, e4⟩
  · rw [e1, e2]
    exact Or.inl ⟨_, _, rfl, fl_mk hx.2.2.2.2.1 e3 e4, rfl⟩
  · rw [e1, e2, bs, if_neg (show ¬ (nI v, mst σ 46 3 (nI (p + n))).1 < 0 from nI_pos (by omega)), bs]
    have e10 : mst μ' 10 s (nI v) 10 4 = nI d := by
      rw [mst_at, e3.1 10 (by omega)]
      exact (if_neg (fun q => hs4 q.symm)).trans hd
    have m1 : (if ((1 : Int32), mst μ' 10 s (nI v)).1 = 0 then some ((0 : Int32), ((1 : Int32), mst μ' 10 s (nI v)).2) else (f_X7_sign fuel (mst ((1 : Int32), mst μ' 10 s (nI v)).2 10 4 ((((1 : Int32), mst μ' 10 s (nI v)).2 10 4) + 1)) (nI 4)).bind fun v10 => gd (isB v10.1) (some (v10.1, v10.2))) = (f_X7_sign fuel (mst (mst μ' 10 s (nI v)) 10 4 (nI (d + 1))) (nI 4)).bind fun v10 => gd (isB v10.1) (some (v10.1, v10.2)) := by
      show (if (1 : Int32) = 0 then some ((0 : Int32), mst μ' 10 s (nI v)) else (f_X7_sign fuel (mst (mst μ' 10 s (nI v)) 10 4 ((mst μ' 10 s (nI v) 10 4) + 1)) (nI 4)).bind fun v10 => gd (isB v10.1) (some (v10.1, v10.2))) = _
      rw [if_neg (by decide), e10, s1]
    rw [m1]
    have fm : FM μ (mst (mst μ' 10 s (nI v)) 10 4 (nI (d + 1))) := ⟨fun q q1 q2 => by rw [mst_ne q2, mst_ne q2]; exact e3.1 q q1, fun k k1 k2 => by rw [mst_ne (by omega), mst_ne (by omega)]; exact e3.2 k k2⟩
    rcases sgn_r hF (hx.mv e4.2.1) ((e4.st (k := s) (v := nI v)).st (k := 4) (v := nI (d + 1))) (x := 59) (k := 4) (by omega) with ⟨μ2, g1, g2, g3, g4⟩ | ⟨μ2, g1, g2, g3, g4⟩
    · refine Or.inl ⟨mst (mst σ 46 3 (nI (p + n))) 46 4 1, mst μ2 0 6 1, ?_, ?_, ?_⟩
      · show (f_X4_readSign (mst σ 46 3 (nI (p + n))) (nI 59)).bind _ = _
        rw [g1]; rfl
      · exact Fl.tr FX.st fm (fl_mk (p := p + n) (by rw [mst_at]; rfl) g3 g4)
      · rw [g2]; rfl
    · refine Or.inr ⟨v, p + n + 1, mst (mst σ 46 3 (nI (p + n))) 46 3 (nI (p + n + 1)), μ2, v1, v2, ?_, fun q hq => by rw [mst_ne hq, mst_ne hq], PX.mv (PX.mv hx e4.2.1) g4.2.1, g4, ?_, fm.tr g3.fm, ?_, ?_⟩
      · show (f_X4_readSign (mst σ 46 3 (nI (p + n))) (nI 59)).bind _ = _
        rw [g1]; rfl
      · rw [g3.1 10 (by omega), mst_at, mst_at, e3.1 10 (by omega)]
      · rw [g3.2 6 (by omega), mst_ne (by omega), mst_ne (by omega)]; exact e3.2 6 (by omega)
      · rw [g2]; rfl
def kD3 (fuel d : Nat) (m : Mem) : Option (Int32 × Mem) := (f_X7_number fuel m (nI (80 + d)) (nI 0) (nI 20)).bind fun v9 => if v9.1 = 0 then some (0, v9.2) else (f_X7_sign fuel (mst v9.2 10 4 ((v9.2 10 4) + 1)) (nI 4)).bind fun v10 => gd (isB v10.1) (some (v10.1, v10.2))
def kD2 (fuel d : Nat) (m : Mem) : Option (Int32 × Mem) := (f_X7_number fuel m (nI (75 + d)) (nI 0) (nI d)).bind fun v7 => if v7.1 = 0 then some (0, v7.2) else (f_X7_sign fuel v7.2 (nI 3)).bind fun v8 => if v8.1 = 0 then some (0, v8.2) else kD3 fuel d v8.2
theorem st_deed (hF : 1000 ≤ fuel) (hx : PX b t p σ) (hI : PI σ μ A) (hp : p < t) (hm : PM b t (p + 1) μ) (h16 : μ 0 16 = nI p) (hl : f_X7_isLetter μ (nI 97) = some (bI (decide (p < t ∧ b p = 97)))) : StR b t σ μ (fun A' => A' 2 = A 2 ∧ A' 4 = A 4 + 1) (f_X4_readDeed fuel σ) (f_X7_readsDeed fuel μ) := by
  obtain ⟨hO, i5, i6, i1, iz, hX, i0, hM⟩ := hI
  obtain ⟨x1, x2, x3, x4, x5, x6, x7, x8, xk, xc, xd⟩ := id hX
  have hH := hO.2.2.1
  have hC := hO.2.2.2.1
  have hN := hO.2.2.2.2.1
  have hbp := hx.2.2.1 p hp
  unfold f_X4_readDeed f_X7_readsDeed
  rw [x8, hM 4 (by omega), show (5 : Int32) = nI 5 from rfl]
  by_cases c : A 4 < 5
  case neg =>
    rw [if_neg (show ¬ nI (A 4) < nI 5 by rw [lt_n (by omega) (by omega)]; omega), if_pos (show nI (A 4) = nI 5 by rw [eq_n (by omega) (by omega)]; omega)]
    exact Or.inl ⟨_, _, rfl, rfl, fl_mk hx.2.2.2.2.1 ET.rf h16⟩
  rw [if_pos (show nI (A 4) < nI 5 by rw [lt_n (by omega) (by omega)]; omega), if_neg (show ¬ nI (A 4) = nI 5 by rw [eq_n (by omega) (by omega)]; omega), nextX hx, bs, if_pos hp, show (97 : Int32) = nI 97 from rfl, hl, bs, a70]
  generalize hn : A 4 = n at *
  -- all of it, or any
  have both : ∀ g : Nat, g ≤ 1 → StR b t σ μ (fun A' => A' 2 = A 2 ∧ A' 4 = n + 1) (f_X4_readDeed_31 fuel σ (nI g)) (f_X7_readsDeed_40 fuel μ (nI n) (nI g) (nI (70 + n))) := by
    intro g hg
    unfold f_X4_readDeed_31 f_X7_readsDeed_40
    rw [gB (by omega) (by omega), cl_n (by omega), a65, a75, a80, hx.2.2.2.2.1, s1]
    have hx1 : PX b t (p + 1) (mst σ 46 3 (nI (p + 1))) := hx.mv (by omega)
    have fx1 : FX σ (mst σ 46 3 (nI (p + 1))) := FX.st
    have fm1 : FM μ (mst μ 10 (70 + n) (nI g)) := ⟨fun q q1 q2 => by rw [mst_ne q2], fun k k1 k2 => by rw [mst_ne (by omega)]⟩
    show StR b t σ μ _ ((f_X4_readNumberAndSign fuel (mst σ 46 3 (nI (p + 1))) (nI 1) (nI 63) (nI 44)).bind fun v4 =>
      if 0 ≤ v4.1 then
        (f_X4_readNumberAndSign fuel v4.2 (nI 0) (v4.2 48 8) (nI 44)).bind fun v5 =>
        if 0 ≤ v5.1 then
          (f_X4_readNumberAndSign fuel v5.2 (nI 0) (nI 20) (nI 59)).bind fun v6 =>
          if 0 ≤ v6.1 then
            (f_X1_addDeed v6.2 (nI g) v4.1 (v5.1 - 1) v6.1).bind fun v7 =>
            some (1, v7)
          else
            some (0, v6.2)
        else
          some (0, v5.2)
      else
        some (0, v4.2)) _
    rcases ns2 hF hx1 (hm.st (k := 70 + n) (v := nI g)) (lo := 1) (hi := 63) (s := 65 + n) (x := 44) (k := 3) (by omega) (by omega) (by omega) (by omega) with ⟨σ2, μ2, g1, g2, g3⟩ | ⟨y, p2, σ2, μ2, y1, y2, g1, g2, g3, g4, g5, g6, g7, g8⟩
    · rw [g1]
      exact Or.inl ⟨_, _, rfl, g3 (kD2 fuel n), Fl.tr fx1 fm1 g2⟩
    rw [g1, bs]
    have sq2 : ∀ q, q ≠ 46 → σ2 q = σ q := fun q hq => by rw [g2 q hq, mst_ne hq]
    show StR b t σ μ _ (if 0 ≤ nI y then
        (f_X4_readNumberAndSign fuel σ2 (nI 0) (σ2 48 8) (nI 44)).bind fun v5 =>
        if 0 ≤ v5.1 then
          (f_X4_readNumberAndSign fuel v5.2 (nI 0) (nI 20) (nI 59)).bind fun v6 =>
          if 0 ≤ v6.1 then
            (f_X1_addDeed v6.2 (nI g) (nI y) (v5.1 - 1) v6.1).bind fun v7 =>
            some (1, v7)
          else
            some (0, v6.2)
        else
          some (0, v5.2)
      else
        some (0, σ2)) _
    rw [if_pos (nI_nn (by omega)), sq2 48 (by omega), x8]
    have fx2 : FX σ σ2 := fx_of sq2
    have fm2 : FM μ μ2 := fm1.tr g6
    rcases ns2 hF g3 g4 (lo := 0) (hi := n) (s := 75 + n) (x := 44) (k := 3) (by omega) (by omega) (by omega) (by omega) with ⟨σ3, μ3, k1, k2, k3⟩ | ⟨z, p3, σ3, μ3, z1, z2, k1, k2, k3, k4, k5, k6, k7, k8⟩
    · rw [k1]
      exact Or.inl ⟨_, _, rfl, (g8 (kD2 fuel n)).trans (k3 (kD3 fuel n)), Fl.tr fx2 fm2 k2⟩
    rw [k1, bs]
    have sq3 : ∀ q, q ≠ 46 → σ3 q = σ q := fun q hq => by rw [k2 q hq, sq2 q hq]
    have fx3 : FX σ σ3 := fx_of sq3
    have fm3 : FM μ μ3 := fm2.tr k6
    have m4 : μ3 10 4 = nI n := by
      rw [k5, g5, mst_at]
      exact (if_neg (by omega)).trans ((if_neg (by omega)).trans ((if_neg (by omega)).trans (by rw [hM 4 (by omega), hn])))
    show StR b t σ μ _ (if 0 ≤ nI z then
          (f_X4_readNumberAndSign fuel σ3 (nI 0) (nI 20) (nI 59)).bind fun v6 =>
          if 0 ≤ v6.1 then
            (f_X1_addDeed v6.2 (nI g) (nI y) (nI z - 1) v6.1).bind fun v7 =>
            some (1, v7)
          else
            some (0, v6.2)
        else
          some (0, σ3)) _
    rw [if_pos (nI_nn (by omega))]
    rcases ns_d hF k3 k4 (lo := 0) (hi := 20) (s := 80 + n) (by omega) (by omega) (by omega) (by omega) m4 with ⟨σ4, μ4, l1, l2, l3⟩ | ⟨w, p4, σ4, μ4, w1, w2, l1, l2, l3, l4, l5, l6, l7, l8⟩
    · rw [l1]
      exact Or.inl ⟨_, _, rfl, (g8 (kD2 fuel n)).trans ((k8 (kD3 fuel n)).trans l3), Fl.tr fx3 fm3 l2⟩
    rw [l1, bs]
    have sq : ∀ q, q ≠ 46 → σ4 q = σ q := fun q hq => by rw [l2 q hq, sq3 q hq]
    have ea : f_X1_addDeed σ4 (nI g) (nI y) (nI z - 1) (nI w) = some (mst (mst (mst (mst (mst σ4 56 n (nI g)) 55 n (nI y)) 57 n (nI z - 1)) 58 n (nI w)) 48 8 (nI (n + 1))) := by
      unfold f_X1_addDeed
      rw [sq 48 (by omega), x8, show (5 : Int32) = nI 5 from rfl, if_pos (show nI n < nI 5 by rw [lt_n (by omega) (by omega)]; omega), gB (by omega) (by omega), gB (by omega) (by omega), gB (by omega) (by omega), gB (by omega) (by omega), cl_n (by omega), s1]
    show StR b t σ μ _ (if 0 ≤ nI w then (f_X1_addDeed σ4 (nI g) (nI y) (nI z - 1) (nI w)).bind fun v4 => some (1, v4) else some (0, σ4)) _
    rw [if_pos (nI_nn (by omega)), ea, bs]
    generalize hA' : (fun j => if j = 4 then n + 1 else if j = 80 + n then w else if j = 75 + n then z else if j = 65 + n then y else if j = 70 + n then g else A j) = A'
    have eA : ∀ j, j ≠ 4 → j ≠ 65 + n → j ≠ 70 + n → j ≠ 75 + n → j ≠ 80 + n → A' j = A j := fun j j1 j2 j3 j4 j5 => by rw [← hA']; exact (if_neg j1).trans ((if_neg j5).trans ((if_neg j4).trans ((if_neg j2).trans (if_neg j3))))
    have e4 : A' 4 = n + 1 := by rw [← hA']; exact if_pos rfl
    have e80 : A' (80 + n) = w := by rw [← hA']; exact (if_neg (by omega)).trans (if_pos rfl)
    have e75 : A' (75 + n) = z := by rw [← hA']; exact (if_neg (by omega)).trans ((if_neg (by omega)).trans (if_pos rfl))
    have e65 : A' (65 + n) = y := by rw [← hA']; exact (if_neg (by omega)).trans ((if_neg (by omega)).trans ((if_neg (by omega)).trans (if_pos rfl)))
    have e70 : A' (70 + n) = g := by rw [← hA']; exact (if_neg (by omega)).trans ((if_neg (by omega)).trans ((if_neg (by omega)).trans ((if_neg (by omega)).trans (if_pos rfl))))
    have lo' : ∀ j, j < 65 → j ≠ 4 → A' j = A j := fun j j1 j2 => eA j j2 (by omega) (by omega) (by omega) (by omega)
    have iz' : ∀ c, c < 10 → A' (45 + c) = 0 ∧ A' (55 + c) = 0 := fun c hc => by rw [lo' _ (by omega) (by omega), lo' _ (by omega) (by omega)]; exact iz c hc
    refine Or.inr ⟨_, μ4, p4, A', rfl, (g8 (kD2 fuel n)).trans ((k8 (kD3 fuel n)).trans l8), fun q q1 q2 => ?_, fm3.tr l6, ?_, ?_, l4, ⟨?_, ?_, ?_, ?_, iz', ?_, ?_, ?_⟩, lo' 2 (by omega) (by omega), e4⟩
    · rw [mst_ne (by omega), mst_ne (by omega), mst_ne (by omega), mst_ne (by omega), mst_ne (by omega), sq q q1]
    · rw [l7, k7, g7, mst_ne (by omega)]
    · exact px_ne l3 (by rw [mst_ne (by omega), mst_ne (by omega), mst_ne (by omega), mst_ne (by omega), mst_ne (by omega)]) (by rw [mst_ne (by omega), mst_ne (by omega), mst_ne (by omega), mst_ne (by omega), mst_ne (by omega)])
    · refine ⟨?_, ?_, ?_, ?_, ?_, ?_, fun j hj => ?_, fun j hj => ?_, fun j hj => ?_⟩
      · rw [lo' 0 (by omega) (by omega)]; exact hO.1
      · rw [lo' 1 (by omega) (by omega)]; exact hO.2.1
      · rw [lo' 2 (by omega) (by omega)]; exact hH
      · rw [lo' 3 (by omega) (by omega)]; exact hC
      · rw [e4]; omega
      · rw [lo' 5 (by omega) (by omega)]; omega
      · rw [lo' 2 (by omega) (by omega)] at hj
        rw [lo' _ (by omega) (by omega), lo' _ (by omega) (by omega)]
        exact hO.2.2.2.2.2.2.1 j hj
      · rw [lo' 3 (by omega) (by omega)] at hj
        rw [lo' (15 + j) (by omega) (by omega), lo' (25 + j) (by omega) (by omega), lo' (35 + j) (by omega) (by omega), lo' (45 + j) (by omega) (by omega), lo' (55 + j) (by omega) (by omega), lo' 2 (by omega) (by omega), lo' 5 (by omega) (by omega)]
        exact hO.2.2.2.2.2.2.2.1 j hj
      · rw [e4] at hj
        by_cases ej : j = n
        · subst ej
          rw [e65, e70, e75, e80]
          omega
        · rw [eA _ (by omega) (by omega) (by omega) (by omega) (by omega), eA _ (by omega) (by omega) (by omega) (by omega) (by omega), eA _ (by omega) (by omega) (by omega) (by omega) (by omega), eA _ (by omega) (by omega) (by omega) (by omega) (by omega)]
          exact hO.2.2.2.2.2.2.2.2 j (by omega)
    · rw [lo' 5 (by omega) (by omega)]; exact i5
    · rw [lo' 6 (by omega) (by omega)]; exact i6
    · rw [lo' 1 (by omega) (by omega)]; exact i1
    · have s48 : ∀ j, j ≠ 8 → mst (mst (mst (mst (mst σ4 56 n (nI g)) 55 n (nI y)) 57 n (nI z - 1)) 58 n (nI w)) 48 8 (nI (n + 1)) 48 j = σ 48 j := fun j hj => by
        rw [mst_at, mst_ne (by omega), mst_ne (by omega), mst_ne (by omega), mst_ne (by omega), sq 48 (by omega)]; exact if_neg hj
      have lw : ∀ q, q ≠ 46 → (q < 48 ∨ (49 ≤ q ∧ q ≤ 54)) → mst (mst (mst (mst (mst σ4 56 n (nI g)) 55 n (nI y)) 57 n (nI z - 1)) 58 n (nI w)) 48 8 (nI (n + 1)) q = σ q := fun q h1 h2 => by rw [mst_ne (by omega), mst_ne (by omega), mst_ne (by omega), mst_ne (by omega), mst_ne (by omega), sq q h1]
      refine ⟨?_, ?_, ?_, ?_, ?_, ?_, ?_, ?_, fun j hj => ?_, fun j hj => ?_, fun j hj => ?_⟩
      · rw [s48 1 (by omega), x1, lo' 0 (by omega) (by omega)]
      · rw [s48 2 (by omega), x2, lo' 1 (by omega) (by omega)]
      · rw [s48 3 (by omega), x3, lo' 5 (by omega) (by omega)]
      · rw [s48 4 (by omega), x4, lo' 6 (by omega) (by omega)]
      · rw [s48 5 (by omega), x5, wb0 (by rw [lo' 3 (by omega) (by omega)]; exact hC) iz', wb0 hC iz]
      · rw [s48 6 (by omega), x6, lo' 2 (by omega) (by omega)]
      · rw [s48 7 (by omega), x7, lo' 3 (by omega) (by omega)]
      · rw [mst_at, e4]; exact if_pos rfl
      · rw [lo' 2 (by omega) (by omega)] at hj
        rw [lw 49 (by omega) (by omega), lw 50 (by omega) (by omega), lo' _ (by omega) (by omega), lo' _ (by omega) (by omega)]
        exact xk j hj
      · rw [lo' 3 (by omega) (by omega)] at hj
        rw [lw 51 (by omega) (by omega), lw 52 (by omega) (by omega), lw 53 (by omega) (by omega), lw 54 (by omega) (by omega), lo' _ (by omega) (by omega), lo' _ (by omega) (by omega), lo' _ (by omega) (by omega), lo' _ (by omega) (by omega)]
        exact xc j hj
      · rw [e4] at hj
        rw [mst_ne (show 55 ≠ 48 by omega), mst_ne (show 55 ≠ 58 by omega), mst_ne (show 55 ≠ 57 by omega), mst_at, mst_ne (show 55 ≠ 56 by omega), sq 55 (by omega), mst_ne (show 56 ≠ 48 by omega), mst_ne (show 56 ≠ 58 by omega), mst_ne (show 56 ≠ 57 by omega), mst_ne (show 56 ≠ 55 by omega), mst_at, sq 56 (by omega), mst_ne (show 57 ≠ 48 by omega), mst_ne (show 57 ≠ 58 by omega), mst_at, mst_ne (show 57 ≠ 55 by omega), mst_ne (show 57 ≠ 56 by omega), sq 57 (by omega), mst_ne (show 58 ≠ 48 by omega), mst_at, mst_ne (show 58 ≠ 57 by omega), mst_ne (show 58 ≠ 55 by omega), mst_ne (show 58 ≠ 56 by omega), sq 58 (by omega)]
        unfold upd
        by_cases ej : j = n
        · subst ej
          rw [e65, e70, e75, e80, if_pos rfl, if_pos rfl, if_pos rfl, if_pos rfl]
          exact ⟨rfl, rfl, rfl, rfl⟩
        · rw [if_neg ej, if_neg ej, if_neg ej, if_neg ej, eA _ (by omega) (by omega) (by omega) (by omega) (by omega), eA _ (by omega) (by omega) (by omega) (by omega) (by omega), eA _ (by omega) (by omega) (by omega) (by omega) (by omega), eA _ (by omega) (by omega) (by omega) (by omega) (by omega)]
          exact xd j (by omega)
    · rw [mst_at, mst_ne (by omega), mst_ne (by omega), mst_ne (by omega), mst_ne (by omega), sq 48 (by omega)]; exact i0
    · rw [l5, k5, g5, mst_at, ← hA']
      exact MA_st (MA_st (MA_st (MA_st (MA_st hM))))
  by_cases c7 : b p = 97
  · rw [decide_eq_true ⟨hp, c7⟩, if_neg (show ¬ bI true = 0 by decide), if_pos (show nI (b p) = nI 97 by rw [c7])]
    exact both 1 (by omega)
  · rw [decide_eq_false (fun q => c7 q.2), if_pos (show bI false = 0 from rfl), if_neg (show ¬ nI (b p) = nI 97 by rw [eq_n (by omega) (by omega)]; exact c7)]
    exact both 0 (by omega)
end STQ
