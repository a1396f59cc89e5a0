/-! ranges: a number is one of those below n, or it isn't; both sides' tests -/
def isN (x : Int32) (lo n : Nat) : Prop := ∃ j, lo ≤ j ∧ j < n ∧ x = nI j
theorem isN_iff {x : Int32} {lo n : Nat} (hn : n < 2147483648) : isN x lo n ↔ ((lo : Int) ≤ x.toInt ∧ x.toInt < (n : Int)) := by
  constructor
  · rintro ⟨j, h1, h2, rfl⟩
    rw [nI_toInt (by omega)]
    omega
  · rintro ⟨h1, h2⟩
    refine ⟨x.toInt.toNat, by omega, by omega, ?_⟩
    apply Int32.toInt_inj.mp
    rw [nI_toInt (by omega)]
    omega
theorem below_t {j n : Nat} (h : j < n) (hn : n < 2147483648) : f_X6_isBelow (nI j) (nI n) = some 1 := by
  unfold f_X6_isBelow
  rw [if_neg (nI_pos (by omega)), if_neg (nI_ge h hn)]
theorem below_f {x : Int32} {n : Nat} (hn : n < 2147483648) (h : ¬ isN x 0 n) : f_X6_isBelow x (nI n) = some 0 := by
  unfold f_X6_isBelow
  by_cases h0 : x < 0
  · rw [if_pos h0]
  · rw [if_neg h0, if_pos]
    rw [isN_iff hn] at h
    rw [Int32.lt_iff_toInt_lt] at h0
    rw [Int32.le_iff_toInt_le, nI_toInt hn]
    have : (0 : Int32).toInt = 0 := by decide
    omega
theorem in_eq (a b c : Int64) : f_X7_in a b c = some (bI (decide (b ≤ a) && decide (a ≤ c))) := by
  unfold f_X7_in
  have e1 : (lg_cmp a b < 0) ↔ ¬ b ≤ a := by
    unfold lg_cmp
    simp only [gt_iff_lt, Int64.lt_iff_toInt_lt, Int64.le_iff_toInt_le, ← Int64.toInt_inj]
    split
    · exact ⟨fun h => absurd h (by decide), fun h => by omega⟩
    · split
      · exact ⟨fun h => absurd h (by decide), fun h => by omega⟩
      · exact ⟨fun _ => by omega, fun _ => by decide⟩
  have e2 : (0 < lg_cmp a c) ↔ ¬ a ≤ c := by
    unfold lg_cmp
    simp only [gt_iff_lt, Int64.lt_iff_toInt_lt, Int64.le_iff_toInt_le, ← Int64.toInt_inj]
    split
    · exact ⟨fun h => by omega, fun h => by decide⟩
    · split
      · exact ⟨fun h => absurd h (by decide), fun h => by omega⟩
      · exact ⟨fun h => absurd h (by decide), fun h => by omega⟩
  by_cases h1 : b ≤ a
  · rw [if_neg (fun h => e1.mp h h1), decide_eq_true h1]
    by_cases h2 : a ≤ c
    · rw [if_neg (fun h => e2.mp h h2), decide_eq_true h2]; rfl
    · rw [if_pos (e2.mpr h2), decide_eq_false h2]; rfl
  · rw [if_pos (e1.mpr h1), decide_eq_false h1]; rfl
theorem i64_toInt (x : Int32) : x.toInt64.toInt = x.toInt := by
  rw [Int32.toInt_toInt64]
theorem in_gen {x : Int32} {lo n : Nat} {b c : Int64} (hb : b.toInt = lo) (hc : c.toInt = (n : Int) - 1) (hn : n < 2147483648) : f_X7_in x.toInt64 b c = some (bI (decide (b ≤ x.toInt64) && decide (x.toInt64 ≤ c))) ∧ ((decide (b ≤ x.toInt64) && decide (x.toInt64 ≤ c)) = true ↔ isN x lo n) := by
  refine ⟨in_eq _ _ _, ?_⟩
  rw [isN_iff hn, Bool.and_eq_true, decide_eq_true_iff, decide_eq_true_iff, Int64.le_iff_toInt_le, Int64.le_iff_toInt_le, i64_toInt, hb, hc]
  omega
theorem in_t {x : Int32} {lo n : Nat} {b c : Int64} (hb : b.toInt = lo) (hc : c.toInt = (n : Int) - 1) (hn : n < 2147483648) (h : isN x lo n) : f_X7_in x.toInt64 b c = some 1 := by
  obtain ⟨h1, h2⟩ := in_gen (x := x) hb hc hn
  rw [h1, h2.mpr h]
  rfl
theorem in_f {x : Int32} {lo n : Nat} {b c : Int64} (hb : b.toInt = lo) (hc : c.toInt = (n : Int) - 1) (hn : n < 2147483648) (h : ¬ isN x lo n) : f_X7_in x.toInt64 b c = some 0 := by
  obtain ⟨h1, h2⟩ := in_gen (x := x) hb hc hn
  rw [h1]
  cases e : (decide (b ≤ x.toInt64) && decide (x.toInt64 ≤ c)) with
  | false => rfl
  | true => exact absurd (h2.mp e) h
/-- the upper bound is a count less 1 -/
theorem cm1 {n : Nat} (h : n < 1000000) : (nI n - 1).toInt64.toInt = (n : Int) - 1 := by
  rw [i64_toInt, show (1 : Int32) = nI 1 from rfl, pk_sub_toInt (by omega) (by omega)]
  rfl
theorem isRowX_t {j : Nat} (h : j < 8) : f_X6_isRow (nI j) = some 1 := by
  unfold f_X6_isRow
  rw [show (8 : Int32) = nI 8 from rfl, below_t h (by omega)]
  rfl
theorem isRowX_f {x : Int32} (h : ¬ isN x 0 8) : f_X6_isRow x = some 0 := by
  unfold f_X6_isRow
  rw [show (8 : Int32) = nI 8 from rfl, below_f (by omega) h]
  rfl
theorem isRowM_t {j : Nat} (h : j < 8) : f_X7_isRow (nI j) = some 1 := by
  unfold f_X7_isRow
  rw [in_t (lo := 0) (n := 8) rfl rfl (by omega) ⟨j, by omega, h, rfl⟩]
  rfl
theorem isRowM_f {x : Int32} (h : ¬ isN x 0 8) : f_X7_isRow x = some 0 := by
  unfold f_X7_isRow
  rw [in_f (lo := 0) (n := 8) rfl rfl (by omega) h]
  rfl
theorem isTwo_t {j : Nat} (h : j < 2) : f_X7_isTwo (nI j) = some 1 := by
  unfold f_X7_isTwo
  rw [in_t (lo := 0) (n := 2) rfl rfl (by omega) ⟨j, by omega, h, rfl⟩]
  rfl
theorem isTwo_f {x : Int32} (h : ¬ isN x 0 2) : f_X7_isTwo x = some 0 := by
  unfold f_X7_isTwo
  rw [in_f (lo := 0) (n := 2) rfl rfl (by omega) h]
  rfl
section RNG
variable {σ : Mem} {A : Ar}
theorem isHandX_t (h6 : σ 13 6 = nI (A 2)) (hO : AOK A) {j : Nat} (h : j < A 2) : f_X6_isHand σ (nI j) = some 1 := by
  have := hO.2.2.1
  unfold f_X6_isHand
  rw [h6, below_t h (by omega)]; rfl
theorem isHandX_f (h6 : σ 13 6 = nI (A 2)) (hO : AOK A) {x : Int32} (h : ¬ isN x 0 (A 2)) : f_X6_isHand σ x = some 0 := by
  have := hO.2.2.1
  unfold f_X6_isHand
  rw [h6, below_f (by omega) h]; rfl
theorem isCopyX_t (h6 : σ 13 7 = nI (A 3)) (hO : AOK A) {j : Nat} (h : j < A 3) : f_X6_isCopy σ (nI j) = some 1 := by
  have := hO.2.2.2.1
  unfold f_X6_isCopy
  rw [h6, below_t h (by omega)]; rfl
theorem isCopyX_f (h6 : σ 13 7 = nI (A 3)) (hO : AOK A) {x : Int32} (h : ¬ isN x 0 (A 3)) : f_X6_isCopy σ x = some 0 := by
  have := hO.2.2.2.1
  unfold f_X6_isCopy
  rw [h6, below_f (by omega) h]; rfl
theorem isDeedX_t (h6 : σ 13 8 = nI (A 4)) (hO : AOK A) {j : Nat} (h : j < A 4) : f_X6_isDeed σ (nI j) = some 1 := by
  have := hO.2.2.2.2.1
  unfold f_X6_isDeed
  rw [h6, below_t h (by omega)]; rfl
theorem isDeedX_f (h6 : σ 13 8 = nI (A 4)) (hO : AOK A) {x : Int32} (h : ¬ isN x 0 (A 4)) : f_X6_isDeed σ x = some 0 := by
  have := hO.2.2.2.2.1
  unfold f_X6_isDeed
  rw [h6, below_f (by omega) h]; rfl
theorem p2_le {a : Nat} (h : a ≤ 4) : 2 ^ a ≤ 16 := Nat.pow_le_pow_right (n := 2) (i := a) (j := 4) (by decide) h
theorem isHsX_t (h6 : σ 13 6 = nI (A 2)) (hO : AOK A) {j : Nat} (h : j < 2 ^ A 2) : f_X6_isHandSet σ (nI j) = some 1 := by
  have := hO.2.2.1
  have := p2_le this
  unfold f_X6_isHandSet
  rw [h6, nI_shl1 (by omega), below_t h (by omega)]; rfl
theorem isHsX_f (h6 : σ 13 6 = nI (A 2)) (hO : AOK A) {x : Int32} (h : ¬ isN x 0 (2 ^ A 2)) : f_X6_isHandSet σ x = some 0 := by
  have := hO.2.2.1
  have := p2_le this
  unfold f_X6_isHandSet
  rw [h6, nI_shl1 (by omega), below_f (by omega) h]; rfl
theorem isHandM_t (hM : MA (σ 5) A) (hO : AOK A) {j : Nat} (h : j < A 2) : f_X7_isHand σ (nI j) = some 1 := by
  have := hO.2.2.1
  unfold f_X7_isHand
  rw [hM 2 (by omega), in_t (lo := 0) (n := A 2) rfl (cm1 (by omega)) (by omega) ⟨j, by omega, h, rfl⟩]; rfl
theorem isHandM_f (hM : MA (σ 5) A) (hO : AOK A) {x : Int32} (h : ¬ isN x 0 (A 2)) : f_X7_isHand σ x = some 0 := by
  have := hO.2.2.1
  unfold f_X7_isHand
  rw [hM 2 (by omega), in_f (lo := 0) (n := A 2) rfl (cm1 (by omega)) (by omega) h]; rfl
theorem isCopyM_t (hM : MA (σ 5) A) (hO : AOK A) {j : Nat} (h : j < A 3) : f_X7_isCopy σ (nI j) = some 1 := by
  have := hO.2.2.2.1
  unfold f_X7_isCopy
  rw [hM 3 (by omega), in_t (lo := 0) (n := A 3) rfl (cm1 (by omega)) (by omega) ⟨j, by omega, h, rfl⟩]; rfl
theorem isCopyM_f (hM : MA (σ 5) A) (hO : AOK A) {x : Int32} (h : ¬ isN x 0 (A 3)) : f_X7_isCopy σ x = some 0 := by
  have := hO.2.2.2.1
  unfold f_X7_isCopy
  rw [hM 3 (by omega), in_f (lo := 0) (n := A 3) rfl (cm1 (by omega)) (by omega) h]; rfl
theorem isDeedM_t (hM : MA (σ 5) A) (hO : AOK A) {j : Nat} (h : j < A 4) : f_X7_isDeed σ (nI j) = some 1 := by
  have := hO.2.2.2.2.1
  unfold f_X7_isDeed
  rw [hM 4 (by omega), in_t (lo := 0) (n := A 4) rfl (cm1 (by omega)) (by omega) ⟨j, by omega, h, rfl⟩]; rfl
theorem isDeedM_f (hM : MA (σ 5) A) (hO : AOK A) {x : Int32} (h : ¬ isN x 0 (A 4)) : f_X7_isDeed σ x = some 0 := by
  have := hO.2.2.2.2.1
  unfold f_X7_isDeed
  rw [hM 4 (by omega), in_f (lo := 0) (n := A 4) rfl (cm1 (by omega)) (by omega) h]; rfl
theorem areHM_t (hM : MA (σ 5) A) (hO : AOK A) {j : Nat} (h : j < 2 ^ A 2) : f_X7_areHands σ (nI j) = some 1 := by
  have := hO.2.2.1
  have := p2_le this
  unfold f_X7_areHands
  rw [hM 2 (by omega), nI_shl1 (by omega), in_t (lo := 0) (n := 2 ^ A 2) rfl (cm1 (by omega)) (by omega) ⟨j, by omega, h, rfl⟩]; rfl
theorem areHM_f (hM : MA (σ 5) A) (hO : AOK A) {x : Int32} (h : ¬ isN x 0 (2 ^ A 2)) : f_X7_areHands σ x = some 0 := by
  have := hO.2.2.1
  have := p2_le this
  unfold f_X7_areHands
  rw [hM 2 (by omega), nI_shl1 (by omega), in_f (lo := 0) (n := 2 ^ A 2) rfl (cm1 (by omega)) (by omega) h]; rfl
end RNG
