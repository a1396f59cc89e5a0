/-! the class' own methods of an archive, in the words of the spec -/
theorem orset_t {g : Nat → Nat} {p : Nat → Bool} {n : Nat} (h : p n = true) : orset g p (n + 1) = orset g p n ||| 2 ^ g n := by
  show orset g p n ||| _ = _
  rw [if_pos h]
theorem orset_f {g : Nat → Nat} {p : Nat → Bool} {n : Nat} (h : p n = false) : orset g p (n + 1) = orset g p n := by
  show orset g p n ||| _ = _
  rw [if_neg (by rw [h]; decide), Nat.or_zero]
theorem suc_of {n k : Nat} (h : k < n) : ∃ m, n = m + 1 := ⟨n - 1, by omega⟩
section ARX
variable {σ : Mem} {A : Ar} {fuel : Nat}
theorem X1_limitOf_eq (hX : XN σ A) (hO : AOK A) {h y : Nat} (hh : h < A 2) (hy : y ≤ 99) : f_X1_limitOf σ (nI h) (nI y) = some (limI (A (7 + h)) y) := by
  obtain ⟨-, -, -, -, -, -, -, -, hk, -, -⟩ := hX
  have hk := (hk h hh).1
  have hH := hO.2.2.1
  have ok := hO.2.2.2.2.2.2.1 h hh
  unfold f_X1_limitOf
  rw [gB (by omega) (by omega), cl_n (by omega), hk]
  rcases (show A (7 + h) = 1 ∨ A (7 + h) = 2 ∨ A (7 + h) = 3 ∨ A (7 + h) = 4 ∨ A (7 + h) = 5 by omega) with e | e | e | e | e <;> rw [e]
  · rw [if_neg (by decide), if_neg (by decide), if_neg (by decide), if_neg (by decide)]; rfl
  · rw [if_pos (by decide), show (2 : Int32) = nI 2 from rfl, pk_div (by omega) (by omega) (by omega)]; rfl
  · rw [if_neg (by decide), if_pos (by decide)]; rfl
  · rw [if_neg (by decide), if_neg (by decide), if_pos (by decide), show (2 : Int32) = nI 2 from rfl, pk_mul, Nat.mul_comm]; rfl
  · rw [if_neg (by decide), if_neg (by decide), if_neg (by decide), if_pos (by decide)]; rfl
theorem X1_isDrunk_eq (hX : XN σ A) (hO : AOK A) {h : Nat} (hh : h < A 2) : f_X1_isDrunk σ (nI h) = some (bI (decide (A (7 + h) = 3))) := by
  obtain ⟨-, -, -, -, -, -, -, -, hk, -, -⟩ := hX
  have hk := (hk h hh).1
  have hH := hO.2.2.1
  have ok := hO.2.2.2.2.2.2.1 h hh
  unfold f_X1_isDrunk
  rw [gB (by omega) (by omega), cl_n (by omega), hk]
  by_cases e : A (7 + h) = 3
  · rw [e]; rfl
  · rw [if_neg (by rw [show (3 : Int32) = nI 3 from rfl, eq_n (by omega) (by omega)]; exact e), decide_eq_false e]; rfl
theorem X1_isInLimit_eq (hX : XN σ A) (hO : AOK A) {c d : Nat} (hc : c < A 3) (hd : d < 100000) : f_X1_isInLimit σ (nI c) (nI d) = some (bI (inLim A (A 0) d c)) := by
  have hX0 := hX
  obtain ⟨hY, -, -, -, -, -, -, -, -, hcs, -⟩ := hX
  have ok := hO.2.2.2.2.2.2.2.1 c hc
  have hC := hO.2.2.2.1
  have hY9 := hO.1
  have hD := hO.2.2.2.2.2.1
  unfold f_X1_isInLimit
  rw [gB (by omega) (by omega), gB (by omega) (by omega), cl_n (by omega), (hcs c hc).2.1, (hcs c hc).2.2.2, hY, X1_limitOf_eq hX0 hO ok.2.1 hY9]
  show (if limI (A (7 + A (25 + c))) (A 0) < nI d - nI (A (45 + c)) then some 0 else some 1) = _
  simp only [dl (show d < 100000 by omega) (show A (45 + c) < 100000 by omega) hY9]
  unfold inLim
  by_cases e : (d : Int) - (A (45 + c) : Int) ≤ lim (kd A c) (A 0)
  · rw [if_neg (fun h => h e), decide_eq_true e]; rfl
  · rw [if_pos e, decide_eq_false e]; rfl
theorem X1_mayRecall_eq (hX : XN σ A) (hO : AOK A) {c w d : Nat} (hc : c < A 3) (hw : w < 1024) (hd : d < 100000) : f_X1_mayRecall σ (nI c) (nI w) (nI d) = some (bI (!w.testBit c && inLim A (A 0) d c)) := by
  have hC := hO.2.2.2.1
  unfold f_X1_mayRecall f_X6_bitOf
  rw [bit_bI (by omega) (by omega), X1_isInLimit_eq hX hO hc hd]
  cases w.testBit c <;> cases inLim A (A 0) d c <;> rfl
theorem X1_mayRecallNow_eq (hX : XN σ A) (hO : AOK A) {c : Nat} (hc : c < A 3) : f_X1_mayRecallNow σ (nI c) = some (bI (!(wb A).testBit c && inLim A (A 0) (A 5) c)) := by
  have hX0 := hX
  obtain ⟨-, -, hD, -, hW, -⟩ := hX
  have hD9 := hO.2.2.2.2.2.1
  unfold f_X1_mayRecallNow
  rw [hW, hD, X1_mayRecall_eq hX0 hO hc (wb_lt hO) (by omega)]
  show gd (isB (bI _)) (some _) = _
  rw [gi]
theorem X1_recallableBy_eq (hX : XN σ A) (hO : AOK A) (hF : 100 ≤ fuel) {hs y : Nat} (hs9 : hs < 16) (hy : y ≤ 99) : f_X1_recallableBy fuel σ (nI hs) (nI y) = some (nI (recs A hs y)) := by
  have hX0 := hX
  obtain ⟨hY, hR, hD, hSp, hW, hH, hC, hN, hk, hcs, hds⟩ := hX
  have hC9 := hO.2.2.2.1
  have hD9 := hO.2.2.2.2.2.1
  have hH9 := hO.2.2.1
  have hwl := wb_lt hO
  have key : ∀ k i n, i + k = A 3 → k < n → f_X1_recallableBy_5 fuel σ n (nI hs) (nI y) (nI (bset (fun c => hs.testBit (A (25 + c)) && (!(wb A).testBit c && inLim A y (A 5) c)) i)) (nI i) = some (nI (recs A hs y)) := by
    intro k
    induction k with
    | zero =>
      intro i n hi hn
      obtain ⟨m, rfl⟩ := suc_of hn
      rw [f_X1_recallableBy_5, hC, if_pos (by rw [le_n (by omega) (by omega)]; omega), show i = A 3 by omega]
      rfl
    | succ k ih =>
      intro i n hi hn
      obtain ⟨m, rfl⟩ := suc_of hn
      have hil : i < A 3 := by omega
      have ok := hO.2.2.2.2.2.2.2.1 i hil
      have ih := ih (i + 1) m (by omega) (by omega)
      have e1 : inLim A y (A 5) i = decide ((A 5 : Int) - (A (45 + i) : Int) ≤ lim (A (7 + A (25 + i))) y) := rfl
      rw [f_X1_recallableBy_5, hC, if_neg (by rw [le_n (by omega) (by omega)]; omega), gB (by omega) (by omega), cl_n (by omega), (hcs i hil).2.1]
      unfold f_X6_bitOf f_X1_recallableBy_50
      rw [bit_bI (by omega) (by omega), hW, bit_bI (by omega) (by omega), gB (by omega) (by omega), cl_n (by omega), X1_limitOf_eq hX0 hO ok.2.1 hy, hD, (hcs i hil).2.2.2, nI_shl1 (by omega), nI_or, s1]
      simp only [Option.bind_some, dl (show A 5 < 100000 by omega) (show A (45 + i) < 100000 by omega) hy]
      cases ea : hs.testBit (A (25 + i)) with
      | false =>
        rw [show bset (fun c => hs.testBit (A (25 + c)) && (!(wb A).testBit c && inLim A y (A 5) c)) (i + 1) = _ from orset_f (by simp only [ea]; rfl)] at ih
        exact ih
      | true =>
        cases eb : (wb A).testBit i with
        | true =>
          rw [show bset (fun c => hs.testBit (A (25 + c)) && (!(wb A).testBit c && inLim A y (A 5) c)) (i + 1) = _ from orset_f (by simp only [ea, eb]; rfl)] at ih
          exact ih
        | false =>
          by_cases ec : (A 5 : Int) - (A (45 + i) : Int) ≤ lim (A (7 + A (25 + i))) y
          · rw [show bset (fun c => hs.testBit (A (25 + c)) && (!(wb A).testBit c && inLim A y (A 5) c)) (i + 1) = _ from orset_t (by simp only [ea, eb, e1, decide_eq_true ec]; rfl)] at ih
            simp only [ec, not_true_eq_false, if_false]
            exact ih
          · rw [show bset (fun c => hs.testBit (A (25 + c)) && (!(wb A).testBit c && inLim A y (A 5) c)) (i + 1) = _ from orset_f (by simp only [ea, eb, e1, decide_eq_false ec]; rfl)] at ih
            simp only [ec, not_false_eq_true, if_true]
            exact ih
  exact key (A 3) 0 fuel (by omega) (by omega)
theorem X1_whiteAfter_eq (hX : XN σ A) (hO : AOK A) (hF : 100 ≤ fuel) {hs y : Nat} (hs9 : hs < 16) (hy : y ≤ 99) : f_X1_whiteAfter fuel σ (nI hs) (nI y) = some (nI (wb A ||| recs A hs y)) := by
  unfold f_X1_whiteAfter
  rw [X1_recallableBy_eq hX hO hF hs9 hy, hX.2.2.2.2.1]
  show some (nI _ ||| nI _) = _
  rw [nI_or]
theorem X1_copiesBy_eq (hX : XN σ A) (hO : AOK A) (hF : 100 ≤ fuel) {h : Nat} (hh : h < 100) : f_X1_copiesBy fuel σ (nI h) = some (nI (bset (fun c => decide (A (25 + c) = h)) (A 3))) := by
  obtain ⟨hY, hR, hD, hSp, hW, hH, hC, hN, hk, hcs, hds⟩ := hX
  have hC9 := hO.2.2.2.1
  have hH9 := hO.2.2.1
  have key : ∀ k i n, i + k = A 3 → k < n → f_X1_copiesBy_4 fuel σ n (nI h) (nI (bset (fun c => decide (A (25 + c) = h)) i)) (nI i) = some (nI (bset (fun c => decide (A (25 + c) = h)) (A 3))) := by
    intro k
    induction k with
    | zero =>
      intro i n hi hn
      obtain ⟨m, rfl⟩ := suc_of hn
      rw [f_X1_copiesBy_4, hC, if_pos (by rw [le_n (by omega) (by omega)]; omega), show i = A 3 by omega]
    | succ k ih =>
      intro i n hi hn
      obtain ⟨m, rfl⟩ := suc_of hn
      have hil : i < A 3 := by omega
      have ok := hO.2.2.2.2.2.2.2.1 i hil
      have ih := ih (i + 1) m (by omega) (by omega)
      rw [f_X1_copiesBy_4, hC, if_neg (by rw [le_n (by omega) (by omega)]; omega), gB (by omega) (by omega), cl_n (by omega), (hcs i hil).2.1, nI_shl1 (by omega), nI_or, s1]
      simp only [eq_n (show A (25 + i) < 2147483648 by omega) (show h < 2147483648 by omega)]
      by_cases e : A (25 + i) = h
      · rw [show bset (fun c => decide (A (25 + c) = h)) (i + 1) = _ from orset_t (decide_eq_true e)] at ih
        rw [if_pos e]; exact ih
      · rw [show bset (fun c => decide (A (25 + c) = h)) (i + 1) = _ from orset_f (decide_eq_false e)] at ih
        rw [if_neg e]; exact ih
  exact key (A 3) 0 fuel (by omega) (by omega)
theorem X1_copiesAt_eq (hX : XN σ A) (hO : AOK A) (hF : 100 ≤ fuel) {h : Nat} (hh : h < 100) : f_X1_copiesAt fuel σ (nI h) = some (nI (bset (fun c => decide (A (15 + c) = h)) (A 3))) := by
  obtain ⟨hY, hR, hD, hSp, hW, hH, hC, hN, hk, hcs, hds⟩ := hX
  have hC9 := hO.2.2.2.1
  have key : ∀ k i n, i + k = A 3 → k < n → f_X1_copiesAt_4 fuel σ n (nI h) (nI (bset (fun c => decide (A (15 + c) = h)) i)) (nI i) = some (nI (bset (fun c => decide (A (15 + c) = h)) (A 3))) := by
    intro k
    induction k with
    | zero =>
      intro i n hi hn
      obtain ⟨m, rfl⟩ := suc_of hn
      rw [f_X1_copiesAt_4, hC, if_pos (by rw [le_n (by omega) (by omega)]; omega), show i = A 3 by omega]
    | succ k ih =>
      intro i n hi hn
      obtain ⟨m, rfl⟩ := suc_of hn
      have hil : i < A 3 := by omega
      have ok := hO.2.2.2.2.2.2.2.1 i hil
      have ih := ih (i + 1) m (by omega) (by omega)
      rw [f_X1_copiesAt_4, hC, if_neg (by rw [le_n (by omega) (by omega)]; omega), gB (by omega) (by omega), cl_n (by omega), (hcs i hil).1, nI_shl1 (by omega), nI_or, s1]
      simp only [eq_n (show A (15 + i) < 2147483648 by omega) (show h < 2147483648 by omega)]
      by_cases e : A (15 + i) = h
      · rw [show bset (fun c => decide (A (15 + c) = h)) (i + 1) = _ from orset_t (decide_eq_true e)] at ih
        rw [if_pos e]; exact ih
      · rw [show bset (fun c => decide (A (15 + c) = h)) (i + 1) = _ from orset_f (decide_eq_false e)] at ih
        rw [if_neg e]; exact ih
  exact key (A 3) 0 fuel (by omega) (by omega)
theorem X1_blackBy_eq (hX : XN σ A) (hO : AOK A) (hF : 100 ≤ fuel) {w : Nat} (hw : w < 1024) : f_X1_blackBy fuel σ (nI w) = some (nI (blk A w)) := by
  obtain ⟨hY, hR, hD, hSp, hW, hH, hC, hN, hk, hcs, hds⟩ := hX
  have hC9 := hO.2.2.2.1
  have key : ∀ k i n, i + k = A 3 → k < n → f_X1_blackBy_4 fuel σ n (nI w) (nI (orset (fun c => A (15 + c)) (fun c => !w.testBit c) i)) (nI i) = some (nI (blk A w)) := by
    intro k
    induction k with
    | zero =>
      intro i n hi hn
      obtain ⟨m, rfl⟩ := suc_of hn
      rw [f_X1_blackBy_4, hC, if_pos (by rw [le_n (by omega) (by omega)]; omega), show i = A 3 by omega]
      rfl
    | succ k ih =>
      intro i n hi hn
      obtain ⟨m, rfl⟩ := suc_of hn
      have hil : i < A 3 := by omega
      have ok := hO.2.2.2.2.2.2.2.1 i hil
      have ih := ih (i + 1) m (by omega) (by omega)
      unfold f_X6_bitOf at *
      rw [f_X1_blackBy_4, hC, if_neg (by rw [le_n (by omega) (by omega)]; omega), gB (by omega) (by omega), cl_n (by omega), (hcs i hil).1, nI_shl1 (by omega), nI_or, s1]
      unfold f_X6_bitOf
      rw [bit_bI (by omega) (by omega)]
      cases e : w.testBit i with
      | false =>
        rw [show orset (fun c => A (15 + c)) (fun c => !w.testBit c) (i + 1) = _ from orset_t (by simp only [e]; rfl)] at ih
        exact ih
      | true =>
        rw [show orset (fun c => A (15 + c)) (fun c => !w.testBit c) (i + 1) = _ from orset_f (by simp only [e]; rfl)] at ih
        exact ih
  exact key (A 3) 0 fuel (by omega) (by omega)
theorem sg {a b r : Nat} (ha : a < 100000) (hb : b < 100000) (hr : r < 100000) (h : b ≤ a) : (nI a - nI b < nI r) = ¬ (r ≤ a - b) := by
  rw [pk_sub h, lt_n (by omega) (by omega)]
  apply propext
  omega
theorem X1_whiteOn_eq (hX : XN σ A) (hO : AOK A) (hF : 100 ≤ fuel) {w d : Nat} (hd : A 5 ≤ d) (hd9 : d < 100000) : f_X1_whiteOn fuel σ (nI w) (nI d) = some (nI (w ||| rep A d)) := by
  have hX0 := hX
  obtain ⟨hY, hR, hD, hSp, hW, hH, hC, hN, hk, hcs, hds⟩ := hX
  have hC9 := hO.2.2.2.1
  have hR9 := hO.2.1
  have key : ∀ k i n, i + k = A 3 → k < n → f_X1_whiteOn_5 fuel σ n (nI d) (nI (w ||| bset (fun c => decide (kd A c = 3) && decide (A 1 ≤ d - A (45 + c))) i)) (nI i) = some (nI (w ||| rep A d)) := by
    intro k
    induction k with
    | zero =>
      intro i n hi hn
      obtain ⟨m, rfl⟩ := suc_of hn
      rw [f_X1_whiteOn_5, hC, if_pos (by rw [le_n (by omega) (by omega)]; omega), show i = A 3 by omega]
      rfl
    | succ k ih =>
      intro i n hi hn
      obtain ⟨m, rfl⟩ := suc_of hn
      have hil : i < A 3 := by omega
      have ok := hO.2.2.2.2.2.2.2.1 i hil
      have ih := ih (i + 1) m (by omega) (by omega)
      rw [f_X1_whiteOn_5, hC, if_neg (by rw [le_n (by omega) (by omega)]; omega), gB (by omega) (by omega), cl_n (by omega), (hcs i hil).2.1, X1_isDrunk_eq hX0 hO ok.2.1, gB (by omega) (by omega), (hcs i hil).2.2.2, hR, nI_shl1 (by omega), nI_or, s1, Nat.or_assoc]
      simp only [Option.bind_some, bI_0, sg (show d < 100000 by omega) (show A (45 + i) < 100000 by omega) (show A 1 < 100000 by omega) (show A (45 + i) ≤ d by omega)]
      by_cases e : A (7 + A (25 + i)) = 3
      · rw [if_neg (by rw [decide_eq_true e]; decide)]
        by_cases e2 : A 1 ≤ d - A (45 + i)
        · rw [show bset (fun c => decide (kd A c = 3) && decide (A 1 ≤ d - A (45 + c))) (i + 1) = _ from orset_t (by rw [decide_eq_true e, decide_eq_true e2]; rfl)] at ih
          rw [if_neg (fun h => h e2)]; exact ih
        · rw [show bset (fun c => decide (kd A c = 3) && decide (A 1 ≤ d - A (45 + c))) (i + 1) = _ from orset_f (by rw [decide_eq_false e2, Bool.and_false])] at ih
          rw [if_pos e2]; exact ih
      · rw [show bset (fun c => decide (kd A c = 3) && decide (A 1 ≤ d - A (45 + c))) (i + 1) = _ from orset_f (by rw [decide_eq_false e]; rfl)] at ih
        rw [if_pos (decide_eq_false e)]; exact ih
  have := key (A 3) 0 fuel (by omega) (by omega)
  rw [show bset (fun c => decide (kd A c = 3) && decide (A 1 ≤ d - A (45 + c))) 0 = 0 from rfl, Nat.or_zero] at this
  exact this
theorem andnot0 {a b : Nat} : (a ^^^ (a &&& b) = 0) = (a &&& b = a) := by
  apply propext
  constructor
  · intro h
    apply Nat.eq_of_testBit_eq
    intro i
    have h1 := congrArg (fun x => x.testBit i) h
    simp only [Nat.testBit_xor, Nat.testBit_and, Nat.zero_testBit] at h1 ⊢
    revert h1
    cases a.testBit i <;> cases b.testBit i <;> decide
  · intro h
    rw [h, Nat.xor_self]
theorem and_lt64 {a b : Nat} (ha : a < 64) : a &&& b < 64 := Nat.lt_of_le_of_lt Nat.and_le_left ha
theorem X1_standingOn_eq (hX : XN σ A) (hO : AOK A) (hF : 100 ≤ fuel) {b : Nat} (hb : b < 64) : f_X1_standingOn fuel σ (nI b) = some (nI (std A b)) := by
  obtain ⟨hY, hR, hD, hSp, hW, hH, hC, hN, hk, hcs, hds⟩ := hX
  have hN9 := hO.2.2.2.2.1
  have key : ∀ k i n, i + k = A 4 → k < n → f_X1_standingOn_4 fuel σ n (nI b) (nI (stn A b i)) (nI i) = some (nI (std A b)) := by
    intro k
    induction k with
    | zero =>
      intro i n hi hn
      obtain ⟨m, rfl⟩ := suc_of hn
      rw [f_X1_standingOn_4, hN, if_pos (by rw [le_n (by omega) (by omega)]; omega), show i = A 4 by omega]
      rfl
    | succ k ih =>
      intro i n hi hn
      obtain ⟨m, rfl⟩ := suc_of hn
      have hil : i < A 4 := by omega
      have ok := hO.2.2.2.2.2.2.2.2 i hil
      have ih := ih (i + 1) m (by omega) (by omega)
      have hs : stn A b i < 2 ^ i := stn_lt
      have hs2 : (2 : Nat) ^ i ≤ 2 ^ 5 := Nat.pow_le_pow_right (by decide) (by omega)
      have hs3 : A (65 + i) ^^^ (A (65 + i) &&& b) < 64 := Nat.xor_lt_two_pow (n := 6) (by omega) (and_lt64 (by omega))
      have hs4 : A (65 + i) &&& b < 64 := and_lt64 (by omega)
      have eown : ∀ (K : Int32 → Option Int32), (if nI (A (70 + i)) = 1 then (if nI (A (65 + i)) &&& (nI b ^^^ (-1)) = 0 then K 1 else K 0) else (if nI (A (65 + i)) &&& nI b = 0 then K 0 else K 1)) = K (bI (ownS A b i)) := by
        intro K
        rw [nI_not (by omega) (by omega), nI_and]
        simp only [i0, i1, eq_n (show A (70 + i) < 2147483648 by omega) (show 1 < 2147483648 by omega), eq_n (show A (65 + i) ^^^ (A (65 + i) &&& b) < 2147483648 by omega) (show 0 < 2147483648 by omega), eq_n (show A (65 + i) &&& b < 2147483648 by omega) (show 0 < 2147483648 by omega), andnot0]
        unfold ownS
        by_cases e : A (70 + i) = 1
        · rw [if_pos e, if_pos e]
          by_cases e2 : A (65 + i) &&& b = A (65 + i)
          · rw [if_pos e2, decide_eq_true e2]; rfl
          · rw [if_neg e2, decide_eq_false e2]; rfl
        · rw [if_neg e, if_neg e]
          by_cases e2 : A (65 + i) &&& b = 0
          · rw [if_pos e2, decide_eq_true e2]; rfl
          · rw [if_neg e2, decide_eq_false e2]; rfl
      rw [f_X1_standingOn_4, hN, if_neg (by rw [le_n (by omega) (by omega)]; omega), gB (by omega) (by omega), gB (by omega) (by omega), gB (by omega) (by omega), cl_n (by omega), (hds i hil).2.1, (hds i hil).1, eown]
      unfold f_X1_standingOn_59
      rw [gB (by omega) (by omega), gB (by omega) (by omega), cl_n (by omega), (hds i hil).2.2.1]
      have eheld : ∀ (K : Int32 → Option Int32), (if nI (A (75 + i)) - 1 < 0 then K 1 else ((f_X6_bitOf (nI (stn A b i)) (nI (A (75 + i)) - 1)).bind fun v6 => if v6 = 1 then K 1 else K 0)) = K (bI (decide (A (75 + i) = 0) || (stn A b i).testBit (A (75 + i) - 1))) := by
        intro K
        by_cases e : A (75 + i) = 0
        · rw [e]; rfl
        · rw [i1, pk_sub (by omega), i0, if_neg (by rw [lt_n (by omega) (by omega)]; omega), decide_eq_false e, Bool.false_or]
          unfold f_X6_bitOf
          rw [← i1, bit_bI (by omega) (by omega)]
          cases (stn A b i).testBit (A (75 + i) - 1) <;> rfl
      rw [eheld]
      unfold f_X1_standingOn_89
      rw [nI_shl1 (by omega), nI_or, s1]
      have est : stn A b (i + 1) = stn A b i ||| (if (ownS A b i && (decide (A (75 + i) = 0) || (stn A b i).testBit (A (75 + i) - 1))) = true then 2 ^ i else 0) := rfl
      rw [est] at ih
      revert ih
      cases ownS A b i <;> cases (decide (A (75 + i) = 0) || (stn A b i).testBit (A (75 + i) - 1)) <;> intro ih
      · simpa [bI] using ih
      · simpa [bI] using ih
      · simpa [bI] using ih
      · simpa [bI] using ih
  exact key (A 4) 0 fuel (by omega) (by omega)
theorem X1_standingBy_eq (hX : XN σ A) (hO : AOK A) (hF : 100 ≤ fuel) {w : Nat} (hw : w < 1024) : f_X1_standingBy fuel σ (nI w) = some (nI (std A (blk A w))) := by
  unfold f_X1_standingBy
  rw [X1_blackBy_eq hX hO hF hw]
  show (f_X1_standingOn fuel σ (nI (blk A w))).bind _ = _
  rw [X1_standingOn_eq hX hO hF (blk_lt hO w)]
  rfl
/-- how many bits, below 1024 -/
def pc (a : Nat) : Nat := (List.range 10).foldl (fun s i => s + (if a.testBit i then 1 else 0)) 0
theorem bitCount_eq {a : Nat} (h : a < 1024) : f_J6_bitCount_0f7a4 (nI a) = some (nI (pc a)) := by
  have : (List.range 1024).all (fun a => decide (f_J6_bitCount_0f7a4 (nI a) = some (nI (pc a)))) = true := by decide +kernel
  exact of_decide_eq_true (List.all_eq_true.mp this a (List.mem_range.mpr h))
theorem X1_unwhiteBy_eq (hX : XN σ A) (hO : AOK A) (hF : 100 ≤ fuel) {h : Nat} (hh : h < 100) : f_X1_unwhiteBy fuel σ (nI h) = some (nI (pc (bset (fun c => decide (A (25 + c) = h)) (A 3) ^^^ (bset (fun c => decide (A (25 + c) = h)) (A 3) &&& wb A)))) := by
  unfold f_X1_unwhiteBy
  have hb : bset (fun c => decide (A (25 + c) = h)) (A 3) < 1024 := bset_lt (m := 10) hO.2.2.2.1
  have hw := wb_lt hO
  rw [X1_copiesBy_eq hX hO hF hh, hX.2.2.2.2.1]
  show (f_J6_bitCount_0f7a4 (nI _ &&& (nI _ ^^^ (-1)))).bind _ = _
  rw [nI_not (by omega) (by omega), bitCount_eq (Nat.xor_lt_two_pow (n := 10) hb (Nat.lt_of_le_of_lt Nat.and_le_left hb))]
  rfl
end ARX
