/-! one archive becomes another; images -/
theorem mcpy_ne {σ : Mem} {q0 q1 sp dp n q : Nat} (h : q ≠ q1) : mcpy σ q0 q1 sp dp n q = σ q := mrow_ne _ h
theorem mcpy_at (σ : Mem) (q0 q1 sp dp n : Nat) : mcpy σ q0 q1 sp dp n q1 = va_cpy (σ q0) (σ q1) sp dp n := mrow_at _ _ _
theorem bec_13_48 {σ : Mem} (h : isB (σ 48 0) = true) : ∃ σ', f_X1_become_13_48 σ = some σ' ∧ (∀ q, (q < 13 ∨ 23 < q) → σ' q = σ q) ∧ σ' 13 0 = σ 48 0 ∧ ∀ A : Ar, AOK A → XA (σ 48) (σ 49) (σ 50) (σ 51) (σ 52) (σ 53) (σ 54) (σ 55) (σ 56) (σ 57) (σ 58) A → XA (σ' 13) (σ' 14) (σ' 15) (σ' 16) (σ' 17) (σ' 18) (σ' 19) (σ' 20) (σ' 21) (σ' 22) (σ' 23) A := by
  unfold f_X1_become_13_48
  rw [gd_t h, gd_t (show cpB 0 0 4 4 4 = true by decide), gd_t (show cpB 0 0 4 4 4 = true by decide), gd_t (show cpB 0 0 10 10 10 = true by decide), gd_t (show cpB 0 0 10 10 10 = true by decide), gd_t (show cpB 0 0 10 10 10 = true by decide), gd_t (show cpB 0 0 10 10 10 = true by decide), gd_t (show cpB 0 0 5 5 5 = true by decide), gd_t (show cpB 0 0 5 5 5 = true by decide), gd_t (show cpB 0 0 5 5 5 = true by decide), gd_t (show cpB 0 0 5 5 5 = true by decide)]
  refine ⟨_, rfl, fun q hq => ?_, ?_, fun A hO hA => ?_⟩
  · rw [mcpy_ne (by omega), mcpy_ne (by omega), mcpy_ne (by omega), mcpy_ne (by omega), mcpy_ne (by omega), mcpy_ne (by omega), mcpy_ne (by omega), mcpy_ne (by omega), mcpy_ne (by omega), mcpy_ne (by omega), mst_ne (by omega), mst_ne (by omega), mst_ne (by omega), mst_ne (by omega), mst_ne (by omega), mst_ne (by omega), mst_ne (by omega), mst_ne (by omega), mst_ne (by omega)]
  · rfl
  · obtain ⟨x1, x2, x3, x4, x5, x6, x7, x8, xk, xc, xd⟩ := hA
    have hC := hO.2.2.2.1
    have hH := hO.2.2.1
    have hN := hO.2.2.2.2.1
    refine ⟨x1, x2, x3, x4, x5, x6, x7, x8, ?_, ?_, ?_⟩
    · intro i hi
      obtain ⟨y0, y1⟩ := xk i hi
      refine ⟨?_, ?_⟩
      · show (if 0 ≤ i ∧ i < 0 + 4 then σ 49 (0 + (i - 0)) else σ 14 i) = _
        rw [if_pos (by omega), Nat.zero_add, Nat.sub_zero]; exact y0
      · show (if 0 ≤ i ∧ i < 0 + 4 then σ 50 (0 + (i - 0)) else σ 15 i) = _
        rw [if_pos (by omega), Nat.zero_add, Nat.sub_zero]; exact y1
    · intro i hi
      obtain ⟨y2, y3, y4, y5⟩ := xc i hi
      refine ⟨?_, ?_, ?_, ?_⟩
      · show (if 0 ≤ i ∧ i < 0 + 10 then σ 51 (0 + (i - 0)) else σ 16 i) = _
        rw [if_pos (by omega), Nat.zero_add, Nat.sub_zero]; exact y2
      · show (if 0 ≤ i ∧ i < 0 + 10 then σ 52 (0 + (i - 0)) else σ 17 i) = _
        rw [if_pos (by omega), Nat.zero_add, Nat.sub_zero]; exact y3
      · show (if 0 ≤ i ∧ i < 0 + 10 then σ 53 (0 + (i - 0)) else σ 18 i) = _
        rw [if_pos (by omega), Nat.zero_add, Nat.sub_zero]; exact y4
      · show (if 0 ≤ i ∧ i < 0 + 10 then σ 54 (0 + (i - 0)) else σ 19 i) = _
        rw [if_pos (by omega), Nat.zero_add, Nat.sub_zero]; exact y5
    · intro i hi
      obtain ⟨y6, y7, y8, y9⟩ := xd i hi
      refine ⟨?_, ?_, ?_, ?_⟩
      · show (if 0 ≤ i ∧ i < 0 + 5 then σ 55 (0 + (i - 0)) else σ 20 i) = _
        rw [if_pos (by omega), Nat.zero_add, Nat.sub_zero]; exact y6
      · show (if 0 ≤ i ∧ i < 0 + 5 then σ 56 (0 + (i - 0)) else σ 21 i) = _
        rw [if_pos (by omega), Nat.zero_add, Nat.sub_zero]; exact y7
      · show (if 0 ≤ i ∧ i < 0 + 5 then σ 57 (0 + (i - 0)) else σ 22 i) = _
        rw [if_pos (by omega), Nat.zero_add, Nat.sub_zero]; exact y8
      · show (if 0 ≤ i ∧ i < 0 + 5 then σ 58 (0 + (i - 0)) else σ 23 i) = _
        rw [if_pos (by omega), Nat.zero_add, Nat.sub_zero]; exact y9
theorem bec_24_13 {σ : Mem} (h : isB (σ 13 0) = true) : ∃ σ', f_X1_become_24_13 σ = some σ' ∧ (∀ q, (q < 24 ∨ 34 < q) → σ' q = σ q) ∧ σ' 24 0 = σ 13 0 ∧ ∀ A : Ar, AOK A → XA (σ 13) (σ 14) (σ 15) (σ 16) (σ 17) (σ 18) (σ 19) (σ 20) (σ 21) (σ 22) (σ 23) A → XA (σ' 24) (σ' 25) (σ' 26) (σ' 27) (σ' 28) (σ' 29) (σ' 30) (σ' 31) (σ' 32) (σ' 33) (σ' 34) A := by
  unfold f_X1_become_24_13
  rw [gd_t h, gd_t (show cpB 0 0 4 4 4 = true by decide), gd_t (show cpB 0 0 4 4 4 = true by decide), gd_t (show cpB 0 0 10 10 10 = true by decide), gd_t (show cpB 0 0 10 10 10 = true by decide), gd_t (show cpB 0 0 10 10 10 = true by decide), gd_t (show cpB 0 0 10 10 10 = true by decide), gd_t (show cpB 0 0 5 5 5 = true by decide), gd_t (show cpB 0 0 5 5 5 = true by decide), gd_t (show cpB 0 0 5 5 5 = true by decide), gd_t (show cpB 0 0 5 5 5 = true by decide)]
  refine ⟨_, rfl, fun q hq => ?_, ?_, fun A hO hA => ?_⟩
  · rw [mcpy_ne (by omega), mcpy_ne (by omega), mcpy_ne (by omega), mcpy_ne (by omega), mcpy_ne (by omega), mcpy_ne (by omega), mcpy_ne (by omega), mcpy_ne (by omega), mcpy_ne (by omega), mcpy_ne (by omega), mst_ne (by omega), mst_ne (by omega), mst_ne (by omega), mst_ne (by omega), mst_ne (by omega), mst_ne (by omega), mst_ne (by omega), mst_ne (by omega), mst_ne (by omega)]
  · rfl
  · obtain ⟨x1, x2, x3, x4, x5, x6, x7, x8, xk, xc, xd⟩ := hA
    have hC := hO.2.2.2.1
    have hH := hO.2.2.1
    have hN := hO.2.2.2.2.1
    refine ⟨x1, x2, x3, x4, x5, x6, x7, x8, ?_, ?_, ?_⟩
    · intro i hi
      obtain ⟨y0, y1⟩ := xk i hi
      refine ⟨?_, ?_⟩
      · show (if 0 ≤ i ∧ i < 0 + 4 then σ 14 (0 + (i - 0)) else σ 25 i) = _
        rw [if_pos (by omega), Nat.zero_add, Nat.sub_zero]; exact y0
      · show (if 0 ≤ i ∧ i < 0 + 4 then σ 15 (0 + (i - 0)) else σ 26 i) = _
        rw [if_pos (by omega), Nat.zero_add, Nat.sub_zero]; exact y1
    · intro i hi
      obtain ⟨y2, y3, y4, y5⟩ := xc i hi
      refine ⟨?_, ?_, ?_, ?_⟩
      · show (if 0 ≤ i ∧ i < 0 + 10 then σ 16 (0 + (i - 0)) else σ 27 i) = _
        rw [if_pos (by omega), Nat.zero_add, Nat.sub_zero]; exact y2
      · show (if 0 ≤ i ∧ i < 0 + 10 then σ 17 (0 + (i - 0)) else σ 28 i) = _
        rw [if_pos (by omega), Nat.zero_add, Nat.sub_zero]; exact y3
      · show (if 0 ≤ i ∧ i < 0 + 10 then σ 18 (0 + (i - 0)) else σ 29 i) = _
        rw [if_pos (by omega), Nat.zero_add, Nat.sub_zero]; exact y4
      · show (if 0 ≤ i ∧ i < 0 + 10 then σ 19 (0 + (i - 0)) else σ 30 i) = _
        rw [if_pos (by omega), Nat.zero_add, Nat.sub_zero]; exact y5
    · intro i hi
      obtain ⟨y6, y7, y8, y9⟩ := xd i hi
      refine ⟨?_, ?_, ?_, ?_⟩
      · show (if 0 ≤ i ∧ i < 0 + 5 then σ 20 (0 + (i - 0)) else σ 31 i) = _
        rw [if_pos (by omega), Nat.zero_add, Nat.sub_zero]; exact y6
      · show (if 0 ≤ i ∧ i < 0 + 5 then σ 21 (0 + (i - 0)) else σ 32 i) = _
        rw [if_pos (by omega), Nat.zero_add, Nat.sub_zero]; exact y7
      · show (if 0 ≤ i ∧ i < 0 + 5 then σ 22 (0 + (i - 0)) else σ 33 i) = _
        rw [if_pos (by omega), Nat.zero_add, Nat.sub_zero]; exact y8
      · show (if 0 ≤ i ∧ i < 0 + 5 then σ 23 (0 + (i - 0)) else σ 34 i) = _
        rw [if_pos (by omega), Nat.zero_add, Nat.sub_zero]; exact y9
theorem bec_35_13 {σ : Mem} (h : isB (σ 13 0) = true) : ∃ σ', f_X1_become_35_13 σ = some σ' ∧ (∀ q, (q < 35 ∨ 45 < q) → σ' q = σ q) ∧ σ' 35 0 = σ 13 0 ∧ ∀ A : Ar, AOK A → XA (σ 13) (σ 14) (σ 15) (σ 16) (σ 17) (σ 18) (σ 19) (σ 20) (σ 21) (σ 22) (σ 23) A → XA (σ' 35) (σ' 36) (σ' 37) (σ' 38) (σ' 39) (σ' 40) (σ' 41) (σ' 42) (σ' 43) (σ' 44) (σ' 45) A := by
  unfold f_X1_become_35_13
  rw [gd_t h, gd_t (show cpB 0 0 4 4 4 = true by decide), gd_t (show cpB 0 0 4 4 4 = true by decide), gd_t (show cpB 0 0 10 10 10 = true by decide), gd_t (show cpB 0 0 10 10 10 = true by decide), gd_t (show cpB 0 0 10 10 10 = true by decide), gd_t (show cpB 0 0 10 10 10 = true by decide), gd_t (show cpB 0 0 5 5 5 = true by decide), gd_t (show cpB 0 0 5 5 5 = true by decide), gd_t (show cpB 0 0 5 5 5 = true by decide), gd_t (show cpB 0 0 5 5 5 = true by decide)]
  refine ⟨_, rfl, fun q hq => ?_, ?_, fun A hO hA => ?_⟩
  · rw [mcpy_ne (by omega), mcpy_ne (by omega), mcpy_ne (by omega), mcpy_ne (by omega), mcpy_ne (by omega), mcpy_ne (by omega), mcpy_ne (by omega), mcpy_ne (by omega), mcpy_ne (by omega), mcpy_ne (by omega), mst_ne (by omega), mst_ne (by omega), mst_ne (by omega), mst_ne (by omega), mst_ne (by omega), mst_ne (by omega), mst_ne (by omega), mst_ne (by omega), mst_ne (by omega)]
  · rfl
  · obtain ⟨x1, x2, x3, x4, x5, x6, x7, x8, xk, xc, xd⟩ := hA
    have hC := hO.2.2.2.1
    have hH := hO.2.2.1
    have hN := hO.2.2.2.2.1
    refine ⟨x1, x2, x3, x4, x5, x6, x7, x8, ?_, ?_, ?_⟩
    · intro i hi
      obtain ⟨y0, y1⟩ := xk i hi
      refine ⟨?_, ?_⟩
      · show (if 0 ≤ i ∧ i < 0 + 4 then σ 14 (0 + (i - 0)) else σ 36 i) = _
        rw [if_pos (by omega), Nat.zero_add, Nat.sub_zero]; exact y0
      · show (if 0 ≤ i ∧ i < 0 + 4 then σ 15 (0 + (i - 0)) else σ 37 i) = _
        rw [if_pos (by omega), Nat.zero_add, Nat.sub_zero]; exact y1
    · intro i hi
      obtain ⟨y2, y3, y4, y5⟩ := xc i hi
      refine ⟨?_, ?_, ?_, ?_⟩
      · show (if 0 ≤ i ∧ i < 0 + 10 then σ 16 (0 + (i - 0)) else σ 38 i) = _
        rw [if_pos (by omega), Nat.zero_add, Nat.sub_zero]; exact y2
      · show (if 0 ≤ i ∧ i < 0 + 10 then σ 17 (0 + (i - 0)) else σ 39 i) = _
        rw [if_pos (by omega), Nat.zero_add, Nat.sub_zero]; exact y3
      · show (if 0 ≤ i ∧ i < 0 + 10 then σ 18 (0 + (i - 0)) else σ 40 i) = _
        rw [if_pos (by omega), Nat.zero_add, Nat.sub_zero]; exact y4
      · show (if 0 ≤ i ∧ i < 0 + 10 then σ 19 (0 + (i - 0)) else σ 41 i) = _
        rw [if_pos (by omega), Nat.zero_add, Nat.sub_zero]; exact y5
    · intro i hi
      obtain ⟨y6, y7, y8, y9⟩ := xd i hi
      refine ⟨?_, ?_, ?_, ?_⟩
      · show (if 0 ≤ i ∧ i < 0 + 5 then σ 20 (0 + (i - 0)) else σ 42 i) = _
        rw [if_pos (by omega), Nat.zero_add, Nat.sub_zero]; exact y6
      · show (if 0 ≤ i ∧ i < 0 + 5 then σ 21 (0 + (i - 0)) else σ 43 i) = _
        rw [if_pos (by omega), Nat.zero_add, Nat.sub_zero]; exact y7
      · show (if 0 ≤ i ∧ i < 0 + 5 then σ 22 (0 + (i - 0)) else σ 44 i) = _
        rw [if_pos (by omega), Nat.zero_add, Nat.sub_zero]; exact y8
      · show (if 0 ≤ i ∧ i < 0 + 5 then σ 23 (0 + (i - 0)) else σ 45 i) = _
        rw [if_pos (by omega), Nat.zero_add, Nat.sub_zero]; exact y9
theorem bec_13_24 {σ : Mem} (h : isB (σ 24 0) = true) : ∃ σ', f_X1_become_13_24 σ = some σ' ∧ (∀ q, (q < 13 ∨ 23 < q) → σ' q = σ q) ∧ σ' 13 0 = σ 24 0 ∧ ∀ A : Ar, AOK A → XA (σ 24) (σ 25) (σ 26) (σ 27) (σ 28) (σ 29) (σ 30) (σ 31) (σ 32) (σ 33) (σ 34) A → XA (σ' 13) (σ' 14) (σ' 15) (σ' 16) (σ' 17) (σ' 18) (σ' 19) (σ' 20) (σ' 21) (σ' 22) (σ' 23) A := by
  unfold f_X1_become_13_24
  rw [gd_t h, gd_t (show cpB 0 0 4 4 4 = true by decide), gd_t (show cpB 0 0 4 4 4 = true by decide), gd_t (show cpB 0 0 10 10 10 = true by decide), gd_t (show cpB 0 0 10 10 10 = true by decide), gd_t (show cpB 0 0 10 10 10 = true by decide), gd_t (show cpB 0 0 10 10 10 = true by decide), gd_t (show cpB 0 0 5 5 5 = true by decide), gd_t (show cpB 0 0 5 5 5 = true by decide), gd_t (show cpB 0 0 5 5 5 = true by decide), gd_t (show cpB 0 0 5 5 5 = true by decide)]
  refine ⟨_, rfl, fun q hq => ?_, ?_, fun A hO hA => ?_⟩
  · rw [mcpy_ne (by omega), mcpy_ne (by omega), mcpy_ne (by omega), mcpy_ne (by omega), mcpy_ne (by omega), mcpy_ne (by omega), mcpy_ne (by omega), mcpy_ne (by omega), mcpy_ne (by omega), mcpy_ne (by omega), mst_ne (by omega), mst_ne (by omega), mst_ne (by omega), mst_ne (by omega), mst_ne (by omega), mst_ne (by omega), mst_ne (by omega), mst_ne (by omega), mst_ne (by omega)]
  · rfl
  · obtain ⟨x1, x2, x3, x4, x5, x6, x7, x8, xk, xc, xd⟩ := hA
    have hC := hO.2.2.2.1
    have hH := hO.2.2.1
    have hN := hO.2.2.2.2.1
    refine ⟨x1, x2, x3, x4, x5, x6, x7, x8, ?_, ?_, ?_⟩
    · intro i hi
      obtain ⟨y0, y1⟩ := xk i hi
      refine ⟨?_, ?_⟩
      · show (if 0 ≤ i ∧ i < 0 + 4 then σ 25 (0 + (i - 0)) else σ 14 i) = _
        rw [if_pos (by omega), Nat.zero_add, Nat.sub_zero]; exact y0
      · show (if 0 ≤ i ∧ i < 0 + 4 then σ 26 (0 + (i - 0)) else σ 15 i) = _
        rw [if_pos (by omega), Nat.zero_add, Nat.sub_zero]; exact y1
    · intro i hi
      obtain ⟨y2, y3, y4, y5⟩ := xc i hi
      refine ⟨?_, ?_, ?_, ?_⟩
      · show (if 0 ≤ i ∧ i < 0 + 10 then σ 27 (0 + (i - 0)) else σ 16 i) = _
        rw [if_pos (by omega), Nat.zero_add, Nat.sub_zero]; exact y2
      · show (if 0 ≤ i ∧ i < 0 + 10 then σ 28 (0 + (i - 0)) else σ 17 i) = _
        rw [if_pos (by omega), Nat.zero_add, Nat.sub_zero]; exact y3
      · show (if 0 ≤ i ∧ i < 0 + 10 then σ 29 (0 + (i - 0)) else σ 18 i) = _
        rw [if_pos (by omega), Nat.zero_add, Nat.sub_zero]; exact y4
      · show (if 0 ≤ i ∧ i < 0 + 10 then σ 30 (0 + (i - 0)) else σ 19 i) = _
        rw [if_pos (by omega), Nat.zero_add, Nat.sub_zero]; exact y5
    · intro i hi
      obtain ⟨y6, y7, y8, y9⟩ := xd i hi
      refine ⟨?_, ?_, ?_, ?_⟩
      · show (if 0 ≤ i ∧ i < 0 + 5 then σ 31 (0 + (i - 0)) else σ 20 i) = _
        rw [if_pos (by omega), Nat.zero_add, Nat.sub_zero]; exact y6
      · show (if 0 ≤ i ∧ i < 0 + 5 then σ 32 (0 + (i - 0)) else σ 21 i) = _
        rw [if_pos (by omega), Nat.zero_add, Nat.sub_zero]; exact y7
      · show (if 0 ≤ i ∧ i < 0 + 5 then σ 33 (0 + (i - 0)) else σ 22 i) = _
        rw [if_pos (by omega), Nat.zero_add, Nat.sub_zero]; exact y8
      · show (if 0 ≤ i ∧ i < 0 + 5 then σ 34 (0 + (i - 0)) else σ 23 i) = _
        rw [if_pos (by omega), Nat.zero_add, Nat.sub_zero]; exact y9
theorem bec_13_35 {σ : Mem} (h : isB (σ 35 0) = true) : ∃ σ', f_X1_become_13_35 σ = some σ' ∧ (∀ q, (q < 13 ∨ 23 < q) → σ' q = σ q) ∧ σ' 13 0 = σ 35 0 ∧ ∀ A : Ar, AOK A → XA (σ 35) (σ 36) (σ 37) (σ 38) (σ 39) (σ 40) (σ 41) (σ 42) (σ 43) (σ 44) (σ 45) A → XA (σ' 13) (σ' 14) (σ' 15) (σ' 16) (σ' 17) (σ' 18) (σ' 19) (σ' 20) (σ' 21) (σ' 22) (σ' 23) A := by
  unfold f_X1_become_13_35
  rw [gd_t h, gd_t (show cpB 0 0 4 4 4 = true by decide), gd_t (show cpB 0 0 4 4 4 = true by decide), gd_t (show cpB 0 0 10 10 10 = true by decide), gd_t (show cpB 0 0 10 10 10 = true by decide), gd_t (show cpB 0 0 10 10 10 = true by decide), gd_t (show cpB 0 0 10 10 10 = true by decide), gd_t (show cpB 0 0 5 5 5 = true by decide), gd_t (show cpB 0 0 5 5 5 = true by decide), gd_t (show cpB 0 0 5 5 5 = true by decide), gd_t (show cpB 0 0 5 5 5 = true by decide)]
  refine ⟨_, rfl, fun q hq => ?_, ?_, fun A hO hA => ?_⟩
  · rw [mcpy_ne (by omega), mcpy_ne (by omega), mcpy_ne (by omega), mcpy_ne (by omega), mcpy_ne (by omega), mcpy_ne (by omega), mcpy_ne (by omega), mcpy_ne (by omega), mcpy_ne (by omega), mcpy_ne (by omega), mst_ne (by omega), mst_ne (by omega), mst_ne (by omega), mst_ne (by omega), mst_ne (by omega), mst_ne (by omega), mst_ne (by omega), mst_ne (by omega), mst_ne (by omega)]
  · rfl
  · obtain ⟨x1, x2, x3, x4, x5, x6, x7, x8, xk, xc, xd⟩ := hA
    have hC := hO.2.2.2.1
    have hH := hO.2.2.1
    have hN := hO.2.2.2.2.1
    refine ⟨x1, x2, x3, x4, x5, x6, x7, x8, ?_, ?_, ?_⟩
    · intro i hi
      obtain ⟨y0, y1⟩ := xk i hi
      refine ⟨?_, ?_⟩
      · show (if 0 ≤ i ∧ i < 0 + 4 then σ 36 (0 + (i - 0)) else σ 14 i) = _
        rw [if_pos (by omega), Nat.zero_add, Nat.sub_zero]; exact y0
      · show (if 0 ≤ i ∧ i < 0 + 4 then σ 37 (0 + (i - 0)) else σ 15 i) = _
        rw [if_pos (by omega), Nat.zero_add, Nat.sub_zero]; exact y1
    · intro i hi
      obtain ⟨y2, y3, y4, y5⟩ := xc i hi
      refine ⟨?_, ?_, ?_, ?_⟩
      · show (if 0 ≤ i ∧ i < 0 + 10 then σ 38 (0 + (i - 0)) else σ 16 i) = _
        rw [if_pos (by omega), Nat.zero_add, Nat.sub_zero]; exact y2
      · show (if 0 ≤ i ∧ i < 0 + 10 then σ 39 (0 + (i - 0)) else σ 17 i) = _
        rw [if_pos (by omega), Nat.zero_add, Nat.sub_zero]; exact y3
      · show (if 0 ≤ i ∧ i < 0 + 10 then σ 40 (0 + (i - 0)) else σ 18 i) = _
        rw [if_pos (by omega), Nat.zero_add, Nat.sub_zero]; exact y4
      · show (if 0 ≤ i ∧ i < 0 + 10 then σ 41 (0 + (i - 0)) else σ 19 i) = _
        rw [if_pos (by omega), Nat.zero_add, Nat.sub_zero]; exact y5
    · intro i hi
      obtain ⟨y6, y7, y8, y9⟩ := xd i hi
      refine ⟨?_, ?_, ?_, ?_⟩
      · show (if 0 ≤ i ∧ i < 0 + 5 then σ 42 (0 + (i - 0)) else σ 20 i) = _
        rw [if_pos (by omega), Nat.zero_add, Nat.sub_zero]; exact y6
      · show (if 0 ≤ i ∧ i < 0 + 5 then σ 43 (0 + (i - 0)) else σ 21 i) = _
        rw [if_pos (by omega), Nat.zero_add, Nat.sub_zero]; exact y7
      · show (if 0 ≤ i ∧ i < 0 + 5 then σ 44 (0 + (i - 0)) else σ 22 i) = _
        rw [if_pos (by omega), Nat.zero_add, Nat.sub_zero]; exact y8
      · show (if 0 ≤ i ∧ i < 0 + 5 then σ 45 (0 + (i - 0)) else σ 23 i) = _
        rw [if_pos (by omega), Nat.zero_add, Nat.sub_zero]; exact y9
section IMG
variable {σ μ : Mem} {fuel : Nat}
theorem isB_01 {x : Int32} (h : x = 0 ∨ x = 1) : isB x = true := by rcases h with rfl | rfl <;> decide
theorem s_image (h : Sim σ μ) (hF : 2100 ≤ fuel) (x1 : Int32) : SQ (f_X6_image σ x1) (f_X7_image fuel μ x1) := by
  obtain ⟨hR, h2, h3, h4, ⟨A, a, B, hO, hD, hP, hX, hM, t1, t2, t3, t4, hH, hB⟩, ⟨hI1, hI2⟩, h7⟩ := id h
  unfold f_X6_image f_X7_image
  rw [show (2 : Int32) = nI 2 from rfl]
  by_cases c1 : isN x1 0 2
  case neg => rw [below_f (by omega) c1, isTwo_f c1]; exact ⟨_, _, _, rfl, rfl, h⟩
  obtain ⟨k, hk, rfl⟩ := isN_lt c1
  rw [below_t hk (by omega), isTwo_t hk, b1, b1, z1, z1, t2]
  by_cases h0 : σ 13 0 = 0
  · rw [if_pos h0, if_pos h0]; exact ⟨_, _, _, rfl, rfl, h⟩
  have t1' : σ 13 0 = 1 := by rcases t1 with q | q; exact absurd q.1 h0; exact q
  rw [if_neg h0, if_neg h0, show (85 : Int32) = nI 85 from rfl, pk_mul]
  obtain ⟨μ1, e1, f1, v1, w1⟩ := X7_copies_5_7_eq (σ := μ) (fuel := fuel) (i := 0) (j := 85 * k) (by omega) (by omega) (by omega)
  rw [show f_X7_copies_5_7 fuel μ 0 (nI (85 * k)) = some μ1 from e1, bs, gB (by omega) (by omega), cl_n (by omega)]
  rcases (show k = 0 ∨ k = 1 by omega) with rfl | rfl
  · obtain ⟨σ1, g1, g2, g3, g4⟩ := bec_24_13 (σ := σ) (isB_01 (Or.inr t1'))
    rw [if_pos (show nI 0 = 0 from rfl), g1, bs]
    have m : ∀ q, q ≠ 7 → q ≠ 8 → mst μ1 8 0 1 q = μ q := fun q q1 q2 => by rw [mst_ne q2, f1 q q1]
    have i0 : IM (σ1 24 0) (mst μ1 8 0 1 8 0) (σ1 24) (σ1 25) (σ1 26) (σ1 27) (σ1 28) (σ1 29) (σ1 30) (σ1 31) (σ1 32) (σ1 33) (σ1 34) (mst μ1 8 0 1 7) 0 := ⟨by rw [g3, t1', mst_at]; rfl, Or.inr ⟨by rw [g3, t1'], A, hO, hD, hP, g4 A hO hX, fun i hi => by rw [mst_ne (by omega)]; exact (v1 i hi).trans (by rw [Nat.zero_add]; exact hM i hi)⟩⟩
    have i1 : IM (σ1 35 0) (mst μ1 8 0 1 8 1) (σ1 35) (σ1 36) (σ1 37) (σ1 38) (σ1 39) (σ1 40) (σ1 41) (σ1 42) (σ1 43) (σ1 44) (σ1 45) (mst μ1 8 0 1 7) 85 := by
      rw [mst_at, f1 8 (by omega), mst_ne (show 7 ≠ 8 by omega), g2 35 (by omega), g2 36 (by omega), g2 37 (by omega), g2 38 (by omega), g2 39 (by omega), g2 40 (by omega), g2 41 (by omega), g2 42 (by omega), g2 43 (by omega), g2 44 (by omega), g2 45 (by omega)]
      show IM (σ 35 0) (μ 8 1) _ _ _ _ _ _ _ _ _ _ _ _ _
      refine ⟨hI2.1, hI2.2.imp id (fun ⟨q1, A, q2, q3, q4, q5, q6⟩ => ⟨q1, A, q2, q3, q4, q5, fun i hi => ?_⟩)⟩
      rw [w1 _ (by omega)]; exact q6 i hi
    refine ⟨1, σ1, _, rfl, rfl, SR_congr hR (fun q hq => g2 q (by omega)) (m 1 (by omega) (by omega)) (m 2 (by omega) (by omega)) (m 3 (by omega) (by omega)), ?_, ?_, ?_, ⟨A, a, B, hO, hD, hP, ?_, ?_, Or.inr (by rw [g2 13 (by omega)]; exact t1'), ?_, ?_, ?_, ?_, hB⟩, ⟨i0, i1⟩, ?_⟩
    · rw [g2 0 (by omega), m 0 (by omega) (by omega)]; exact h2
    · rw [g2 0 (by omega), m 0 (by omega) (by omega)]; exact h3
    · rw [g2 46 (by omega), g2 47 (by omega), m 0 (by omega) (by omega), m 4 (by omega) (by omega)]; exact h4
    · unfold XN at *
      rw [g2 13 (by omega), g2 14 (by omega), g2 15 (by omega), g2 16 (by omega), g2 17 (by omega), g2 18 (by omega), g2 19 (by omega), g2 20 (by omega), g2 21 (by omega), g2 22 (by omega), g2 23 (by omega)]; exact hX
    · rw [m 5 (by omega) (by omega)]; exact hM
    · rw [g2 13 (by omega), m 0 (by omega) (by omega)]; exact t2
    · rw [g2 59 (by omega)]; exact t3
    · rw [m 0 (by omega) (by omega)]; exact t4
    · rw [g2 60 (by omega), g2 61 (by omega), m 6 (by omega) (by omega)]; exact hH
    · rw [g2 66 (by omega), g2 67 (by omega), m 0 (by omega) (by omega), m 9 (by omega) (by omega)]; exact h7
  · obtain ⟨σ1, g1, g2, g3, g4⟩ := bec_35_13 (σ := σ) (isB_01 (Or.inr t1'))
    rw [if_neg (show ¬ nI 1 = 0 by decide), g1, bs]
    have m : ∀ q, q ≠ 7 → q ≠ 8 → mst μ1 8 1 1 q = μ q := fun q q1 q2 => by rw [mst_ne q2, f1 q q1]
    have i1 : IM (σ1 35 0) (mst μ1 8 1 1 8 1) (σ1 35) (σ1 36) (σ1 37) (σ1 38) (σ1 39) (σ1 40) (σ1 41) (σ1 42) (σ1 43) (σ1 44) (σ1 45) (mst μ1 8 1 1 7) 85 := ⟨by rw [g3, t1', mst_at]; rfl, Or.inr ⟨by rw [g3, t1'], A, hO, hD, hP, g4 A hO hX, fun i hi => by rw [mst_ne (by omega)]; exact (v1 i hi).trans (by rw [Nat.zero_add]; exact hM i hi)⟩⟩
    have i0 : IM (σ1 24 0) (mst μ1 8 1 1 8 0) (σ1 24) (σ1 25) (σ1 26) (σ1 27) (σ1 28) (σ1 29) (σ1 30) (σ1 31) (σ1 32) (σ1 33) (σ1 34) (mst μ1 8 1 1 7) 0 := by
      rw [mst_at, f1 8 (by omega), mst_ne (show 7 ≠ 8 by omega), g2 24 (by omega), g2 25 (by omega), g2 26 (by omega), g2 27 (by omega), g2 28 (by omega), g2 29 (by omega), g2 30 (by omega), g2 31 (by omega), g2 32 (by omega), g2 33 (by omega), g2 34 (by omega)]
      show IM (σ 24 0) (μ 8 0) _ _ _ _ _ _ _ _ _ _ _ _ _
      refine ⟨hI1.1, hI1.2.imp id (fun ⟨q1, A, q2, q3, q4, q5, q6⟩ => ⟨q1, A, q2, q3, q4, q5, fun i hi => ?_⟩)⟩
      rw [w1 _ (by omega)]; exact q6 i hi
    refine ⟨1, σ1, _, rfl, rfl, SR_congr hR (fun q hq => g2 q (by omega)) (m 1 (by omega) (by omega)) (m 2 (by omega) (by omega)) (m 3 (by omega) (by omega)), ?_, ?_, ?_, ⟨A, a, B, hO, hD, hP, ?_, ?_, Or.inr (by rw [g2 13 (by omega)]; exact t1'), ?_, ?_, ?_, ?_, hB⟩, ⟨i0, i1⟩, ?_⟩
    · rw [g2 0 (by omega), m 0 (by omega) (by omega)]; exact h2
    · rw [g2 0 (by omega), m 0 (by omega) (by omega)]; exact h3
    · rw [g2 46 (by omega), g2 47 (by omega), m 0 (by omega) (by omega), m 4 (by omega) (by omega)]; exact h4
    · unfold XN at *
      rw [g2 13 (by omega), g2 14 (by omega), g2 15 (by omega), g2 16 (by omega), g2 17 (by omega), g2 18 (by omega), g2 19 (by omega), g2 20 (by omega), g2 21 (by omega), g2 22 (by omega), g2 23 (by omega)]; exact hX
    · rw [m 5 (by omega) (by omega)]; exact hM
    · rw [g2 13 (by omega), m 0 (by omega) (by omega)]; exact t2
    · rw [g2 59 (by omega)]; exact t3
    · rw [m 0 (by omega) (by omega)]; exact t4
    · rw [g2 60 (by omega), g2 61 (by omega), m 6 (by omega) (by omega)]; exact hH
    · rw [g2 66 (by omega), g2 67 (by omega), m 0 (by omega) (by omega), m 9 (by omega) (by omega)]; exact h7
theorem s_restore (h : Sim σ μ) (hF : 2100 ≤ fuel) (x1 : Int32) : SQ (f_X6_restore σ x1) (f_X7_restore fuel μ x1) := by
  obtain ⟨hR, h2, h3, h4, ⟨A, a, B, hO, hD, hP, hX, hM, t1, t2, t3, t4, hH, hB⟩, ⟨hI1, hI2⟩, h7⟩ := id h
  unfold f_X6_restore f_X7_restore
  rw [show (2 : Int32) = nI 2 from rfl]
  by_cases c1 : isN x1 0 2
  case neg => rw [below_f (by omega) c1, isTwo_f c1]; exact ⟨_, _, _, rfl, rfl, h⟩
  obtain ⟨k, hk, rfl⟩ := isN_lt c1
  rw [below_t hk (by omega), isTwo_t hk, b1, b1, z1, z1, show (85 : Int32) = nI 85 from rfl, pk_mul, gB (by omega) (by omega), cl_n (by omega)]
  obtain ⟨μ1, e1, f1, v1, w1⟩ := X7_copies_7_5_eq (σ := μ) (fuel := fuel) (i := 85 * k) (j := 0) (by omega) (by omega) (by omega)
  rw [show f_X7_copies_7_5 fuel μ (nI (85 * k)) 0 = some μ1 from e1, bs]
  rcases (show k = 0 ∨ k = 1 by omega) with rfl | rfl
  · simp only [if_pos (show nI 0 = 0 from rfl)]
    obtain ⟨j1, j2⟩ := hI1
    rw [j1]
    rcases j2 with j2 | ⟨j2, A', a1, a2, a3, a4, a5⟩
    · rw [if_pos j2, if_pos j2]; exact ⟨_, _, _, rfl, rfl, h⟩
    have t1' : σ 13 0 = 1 := by rcases t1 with q | q; exact absurd (j2.symm.trans q.2.1) (by decide); exact q
    rw [if_neg (by rw [j2]; decide), if_neg (by rw [j2]; decide)]
    obtain ⟨σ1, g1, g2, g3, g4⟩ := bec_13_24 (σ := σ) (isB_01 (Or.inr j2))
    rw [g1, bs]
    have r : ∀ q, (q < 13 ∨ 24 ≤ q) → q ≠ 59 → mst σ1 59 2 0 q = σ q := fun q q1 q2 => by rw [mst_ne q2, g2 q (by omega)]
    have r2 : ∀ q, q ≠ 59 → mst σ1 59 2 0 q = σ1 q := fun q q2 => mst_ne q2
    have m : ∀ q, q ≠ 0 → q ≠ 5 → mst μ1 0 9 0 q = μ q := fun q q1 q2 => by rw [mst_ne q1, f1 q q2]
    have m0 : ∀ k, k ≠ 9 → mst μ1 0 9 0 0 k = μ 0 k := fun k hk => by rw [mst_at, f1 0 (by omega)]; exact if_neg hk
    refine ⟨1, _, _, rfl, rfl, SR_congr hR (fun q hq => r q (by omega) (by omega)) (m 1 (by omega) (by omega)) (m 2 (by omega) (by omega)) (m 3 (by omega) (by omega)), ?_, ?_, ?_, ⟨A', 0, fun _ => A', a1, a2, a3, ?_, ?_, Or.inr ?_, ?_, ?_, ?_, ⟨by omega, fun j hj => by omega⟩, rfl⟩, SI_congr h.2.2.2.2.2.1 (fun q hq => r q (by omega) (by omega)) (m 7 (by omega) (by omega)) (m 8 (by omega) (by omega)), ?_⟩
    · rw [r 0 (by omega) (by omega), m0 3 (by omega)]; exact h2
    · rw [r 0 (by omega) (by omega), m0 6 (by omega)]; exact h3
    · rw [r 46 (by omega) (by omega), r 47 (by omega) (by omega), m0 5 (by omega), m 4 (by omega) (by omega)]; exact h4
    · unfold XN
      rw [r2 13 (by omega), r2 14 (by omega), r2 15 (by omega), r2 16 (by omega), r2 17 (by omega), r2 18 (by omega), r2 19 (by omega), r2 20 (by omega), r2 21 (by omega), r2 22 (by omega), r2 23 (by omega)]; exact g4 A' a1 a4
    · rw [mst_ne (by omega)]; exact fun i hi => (show μ1 5 i = _ by have := v1 i hi; rw [show 0 + i = i from Nat.zero_add i] at this; rw [this]; exact (show μ 7 _ = _ by have := a5 i hi; simpa only [Nat.zero_add, Nat.mul_zero] using this))
    · rw [r2 13 (by omega), g3, j2]
    · rw [r2 13 (by omega), g3, j2, m0 7 (by omega), t2]; exact t1'
    · rw [mst_at]; rfl
    · rw [mst_at]; rfl
    · rw [r 66 (by omega) (by omega), r 67 (by omega) (by omega), m0 13 (by omega), m 9 (by omega) (by omega)]; exact h7
  · simp only [if_neg (show ¬ nI 1 = 0 by decide)]
    obtain ⟨j1, j2⟩ := hI2
    rw [j1]
    rcases j2 with j2 | ⟨j2, A', a1, a2, a3, a4, a5⟩
    · rw [if_pos j2, if_pos j2]; exact ⟨_, _, _, rfl, rfl, h⟩
    have t1' : σ 13 0 = 1 := by rcases t1 with q | q; exact absurd (j2.symm.trans q.2.2) (by decide); exact q
    rw [if_neg (by rw [j2]; decide), if_neg (by rw [j2]; decide)]
    obtain ⟨σ1, g1, g2, g3, g4⟩ := bec_13_35 (σ := σ) (isB_01 (Or.inr j2))
    rw [g1, bs]
    have r : ∀ q, (q < 13 ∨ 24 ≤ q) → q ≠ 59 → mst σ1 59 2 0 q = σ q := fun q q1 q2 => by rw [mst_ne q2, g2 q (by omega)]
    have r2 : ∀ q, q ≠ 59 → mst σ1 59 2 0 q = σ1 q := fun q q2 => mst_ne q2
    have m : ∀ q, q ≠ 0 → q ≠ 5 → mst μ1 0 9 0 q = μ q := fun q q1 q2 => by rw [mst_ne q1, f1 q q2]
    have m0 : ∀ k, k ≠ 9 → mst μ1 0 9 0 0 k = μ 0 k := fun k hk => by rw [mst_at, f1 0 (by omega)]; exact if_neg hk
    refine ⟨1, _, _, rfl, rfl, SR_congr hR (fun q hq => r q (by omega) (by omega)) (m 1 (by omega) (by omega)) (m 2 (by omega) (by omega)) (m 3 (by omega) (by omega)), ?_, ?_, ?_, ⟨A', 0, fun _ => A', a1, a2, a3, ?_, ?_, Or.inr ?_, ?_, ?_, ?_, ⟨by omega, fun j hj => by omega⟩, rfl⟩, SI_congr h.2.2.2.2.2.1 (fun q hq => r q (by omega) (by omega)) (m 7 (by omega) (by omega)) (m 8 (by omega) (by omega)), ?_⟩
    · rw [r 0 (by omega) (by omega), m0 3 (by omega)]; exact h2
    · rw [r 0 (by omega) (by omega), m0 6 (by omega)]; exact h3
    · rw [r 46 (by omega) (by omega), r 47 (by omega) (by omega), m0 5 (by omega), m 4 (by omega) (by omega)]; exact h4
    · unfold XN
      rw [r2 13 (by omega), r2 14 (by omega), r2 15 (by omega), r2 16 (by omega), r2 17 (by omega), r2 18 (by omega), r2 19 (by omega), r2 20 (by omega), r2 21 (by omega), r2 22 (by omega), r2 23 (by omega)]; exact g4 A' a1 a4
    · rw [mst_ne (by omega)]; exact fun i hi => (show μ1 5 i = _ by have := v1 i hi; rw [show 0 + i = i from Nat.zero_add i] at this; rw [this]; exact (show μ 7 _ = _ by have := a5 i hi; simpa only [Nat.zero_add, Nat.mul_zero] using this))
    · rw [r2 13 (by omega), g3, j2]
    · rw [r2 13 (by omega), g3, j2, m0 7 (by omega), t2]; exact t1'
    · rw [mst_at]; rfl
    · rw [mst_at]; rfl
    · rw [r 66 (by omega) (by omega), r 67 (by omega) (by omega), m0 13 (by omega), m 9 (by omega) (by omega)]; exact h7
end IMG
