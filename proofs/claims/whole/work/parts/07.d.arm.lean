/-! the reference's functions of an archive, in the words of the spec -/
def cnt (p : Nat → Bool) : Nat → Nat
  | 0 => 0
  | n + 1 => cnt p n + (if p n then 1 else 0)
theorem pc_cnt (a : Nat) : pc a = cnt (fun i => a.testBit i) 10 := rfl
theorem cnt_congr {p q : Nat → Bool} : ∀ {n : Nat}, (∀ i, i < n → p i = q i) → cnt p n = cnt q n
  | 0, _ => rfl
  | n + 1, h => by
    show cnt p n + _ = cnt q n + _
    rw [cnt_congr (n := n) (fun i hi => h i (by omega)), h n (by omega)]
theorem cnt_more {p : Nat → Bool} {n : Nat} : ∀ {k : Nat}, (∀ i, n ≤ i → p i = false) → cnt p (n + k) = cnt p n
  | 0, _ => rfl
  | k + 1, h => by
    show cnt p (n + k) + (if p (n + k) = true then 1 else 0) = _
    rw [cnt_more (k := k) h, h (n + k) (by omega)]
    rfl
theorem pc_bset {p : Nat → Bool} {n : Nat} (h : n ≤ 10) : pc (bset p n) = cnt p n := by
  rw [pc_cnt, show 10 = n + (10 - n) by omega, cnt_more (fun i hi => by rw [bset_tb, decide_eq_false (by omega)]; rfl)]
  exact cnt_congr (fun i hi => by rw [bset_tb, decide_eq_true hi]; rfl)
theorem cnt_le {p : Nat → Bool} : ∀ {n : Nat}, cnt p n ≤ n
  | 0 => Nat.le_refl 0
  | n + 1 => by
    show cnt p n + _ ≤ _
    have := cnt_le (p := p) (n := n)
    split <;> omega
theorem mrow_at (σ : Mem) (q : Nat) (f : Nat → Int32) : mrow σ q f q = f := if_pos rfl
theorem mrow_ne {σ : Mem} {q q' : Nat} (f : Nat → Int32) (h : q' ≠ q) : mrow σ q f q' = σ q' := if_neg h
theorem mst_at (σ : Mem) (q k : Nat) (x : Int32) : mst σ q k x q = upd (σ q) k x := if_pos rfl
theorem mst_ne {σ : Mem} {q q' k : Nat} {x : Int32} (h : q' ≠ q) : mst σ q k x q' = σ q' := if_neg h
theorem MA_st {v : Nat → Int32} {A : Ar} {k a : Nat} (h : MA v A) : MA (upd v k (nI a)) (fun j => if j = k then a else A j) := fun i hi => by
  unfold upd
  by_cases e : i = k
  · simp [e]
  · simp [e, h i hi]
theorem MA_same {v : Nat → Int32} {A : Ar} {k : Nat} (h : MA v A) : MA (upd v k (v k)) A := fun i hi => by
  unfold upd
  by_cases e : i = k
  · simp only [e, if_true]; rw [← e]; exact h i hi
  · simp only [e, if_false]; exact h i hi
theorem MA_congr {v : Nat → Int32} {A B : Ar} (h : MA v A) (e : ∀ i, i < 85 → A i = B i) : MA v B := fun i hi => by rw [h i hi, e i hi]
/-- the copies below n of which p holds are white -/
def upW (A : Ar) (p : Nat → Bool) (n : Nat) : Ar := fun j => if 55 ≤ j ∧ j < 55 + n ∧ p (j - 55) = true then 1 else A j
theorem upW_0 (A : Ar) (p : Nat → Bool) : upW A p 0 = A := funext fun j => if_neg (fun h => by omega)
theorem upW_lo {A : Ar} {p : Nat → Bool} {n j : Nat} (h : j < 55 ∨ 55 + n ≤ j) : upW A p n j = A j := if_neg (fun q => by omega)
theorem upW_t {A : Ar} {p : Nat → Bool} {n : Nat} (h : p n = true) : (fun j => if j = 55 + n then 1 else upW A p n j) = upW A p (n + 1) := funext fun j => by
  unfold upW
  by_cases e : j = 55 + n
  · rw [if_pos e, if_pos ⟨by omega, by omega, by rw [e, Nat.add_sub_cancel_left]; exact h⟩]
  · rw [if_neg e]
    by_cases e2 : 55 ≤ j ∧ j < 55 + n ∧ p (j - 55) = true
    · rw [if_pos e2, if_pos ⟨e2.1, by omega, e2.2.2⟩]
    · rw [if_neg e2, if_neg (fun q => e2 ⟨q.1, by omega, q.2.2⟩)]
theorem upW_f {A : Ar} {p : Nat → Bool} {n : Nat} (h : p n = false) : upW A p n = upW A p (n + 1) := funext fun j => by
  unfold upW
  by_cases e2 : 55 ≤ j ∧ j < 55 + n ∧ p (j - 55) = true
  · rw [if_pos e2, if_pos ⟨e2.1, by omega, e2.2.2⟩]
  · rw [if_neg e2, if_neg (fun q => e2 ⟨q.1, by
      rcases Nat.lt_or_ge j (55 + n) with h1 | h1
      · exact h1
      · have : j = 55 + n := by omega
        rw [this, Nat.add_sub_cancel_left, h] at q
        exact absurd q.2.2 (by decide), q.2.2⟩)]
theorem wb_tb {A : Ar} {c : Nat} (h : c < A 3) : (wb A).testBit c = decide (A (55 + c) = 1) := by
  unfold wb
  rw [bset_tb, decide_eq_true h, Bool.true_and]

section ARM_n
variable {σ : Mem} {A : Ar} {fuel : Nat}
theorem X7_limit_n_eq (hM : MA (σ 5) A) (hO : AOK A) {h : Nat} (hh : h < A 2) : f_X7_limit_n σ (nI h) = some (limI (A (7 + h)) (A 0)) := by
  have hH := hO.2.2.1
  have hY := hO.1
  have ok := hO.2.2.2.2.2.2.1 h hh
  unfold f_X7_limit_n
  rw [a7, gB (by omega) (by omega), cl_n (by omega), hM (7 + h) (by omega), hM 0 (by omega)]
  rcases (show A (7 + h) = 1 ∨ A (7 + h) = 2 ∨ A (7 + h) = 3 ∨ A (7 + h) = 4 ∨ A (7 + h) = 5 by omega) with e | e | e | e | e <;> rw [e]
  · rw [if_neg (by decide), if_neg (by decide), if_neg (by decide), if_neg (by decide)]; rfl
  · rw [if_pos (by decide), show (2 : Int32) = nI 2 from rfl, pk_div (by omega) (by omega) (by omega)]; rfl
  · rw [if_neg (by decide), if_pos (by decide)]; rfl
  · rw [if_neg (by decide), if_neg (by decide), if_pos (by decide), show (2 : Int32) = nI 2 from rfl, pk_mul]; rfl
  · rw [if_neg (by decide), if_neg (by decide), if_neg (by decide), if_pos (by decide)]; rfl
theorem X7_mayRecall_n_eq (hM : MA (σ 5) A) (hO : AOK A) {c : Nat} (hc : c < A 3) : f_X7_mayRecall_n σ (nI c) = some (bI (decide (A (55 + c) = 0) && inLim A (A 0) (A 5) c)) := by
  have hC := hO.2.2.2.1
  have hY := hO.1
  have hD := hO.2.2.2.2.2.1
  have ok := hO.2.2.2.2.2.2.2.1 c hc
  unfold f_X7_mayRecall_n
  rw [a55, a45, a25, gB (by omega) (by omega), gB (by omega) (by omega), gB (by omega) (by omega), cl_n (by omega), cl_n (by omega), cl_n (by omega), hM (55 + c) (by omega), hM (25 + c) (by omega), hM (45 + c) (by omega), hM 5 (by omega), X7_limit_n_eq hM hO ok.2.1]
  simp only [Option.bind_some, i0, eq_n (show A (55 + c) < 2147483648 by omega) (show 0 < 2147483648 by omega), dl (show A 5 < 100000 by omega) (show A (45 + c) < 100000 by omega) hY]
  unfold inLim
  by_cases e : A (55 + c) = 0
  · rw [if_pos e, decide_eq_true e, Bool.true_and]
    by_cases e2 : (A 5 : Int) - (A (45 + c) : Int) ≤ lim (kd A c) (A 0)
    · rw [if_neg (fun h => h e2), decide_eq_true e2]; rfl
    · rw [if_pos e2, decide_eq_false e2]; rfl
  · rw [if_neg e, decide_eq_false e]; rfl
theorem X7_black_n_eq (hM : MA (σ 5) A) (hO : AOK A) (hF : 100 ≤ fuel) : f_X7_black_n fuel σ = some (nI (blk A (wb A))) := by
  have hC9 := hO.2.2.2.1
  have key : ∀ k i n, i + k = A 3 → k < n → f_X7_black_n_4 fuel σ n (nI (orset (fun c => A (15 + c)) (fun c => !(wb A).testBit c) i)) (nI i) = some (nI (blk A (wb A))) := by
    intro k
    induction k with
    | zero =>
      intro i n hi hn
      obtain ⟨m, rfl⟩ := suc_of hn
      rw [f_X7_black_n_4, hM 3 (by omega), if_pos (by rw [le_n (by omega) (by omega)]; omega), show i = A 3 by omega]
      rfl
    | succ k ih =>
      intro i n hi hn
      obtain ⟨m, rfl⟩ := suc_of hn
      have hil : i < A 3 := by omega
      have ok := hO.2.2.2.2.2.2.2.1 i hil
      have ih := ih (i + 1) m (by omega) (by omega)
      rw [f_X7_black_n_4, hM 3 (by omega), if_neg (by rw [le_n (by omega) (by omega)]; omega), a55, a15, gB (by omega) (by omega), gB (by omega) (by omega), cl_n (by omega), cl_n (by omega), hM (55 + i) (by omega), hM (15 + i) (by omega), nI_shl1 (by omega), nI_or, s1]
      simp only [i0, eq_n (show A (55 + i) < 2147483648 by omega) (show 0 < 2147483648 by omega), nI_or, Nat.or_zero]
      by_cases e : A (55 + i) = 0
      · rw [show orset (fun c => A (15 + c)) (fun c => !(wb A).testBit c) (i + 1) = _ from orset_t (by rw [wb_tb hil, decide_eq_false (by omega)]; rfl)] at ih
        rw [if_pos e]; exact ih
      · rw [show orset (fun c => A (15 + c)) (fun c => !(wb A).testBit c) (i + 1) = _ from orset_f (by rw [wb_tb hil, decide_eq_true (by omega)]; rfl)] at ih
        rw [if_neg e]; exact ih
  exact key (A 3) 0 fuel (by omega) (by omega)
theorem X7_standBy_n_eq (hM : MA (σ 5) A) (hO : AOK A) (hF : 100 ≤ fuel) {b : Nat} (hb : b < 64) : f_X7_standBy_n fuel σ (nI b) = some (nI (std A b)) := by
  have hN9 := hO.2.2.2.2.1
  have key : ∀ k i n, i + k = A 4 → k < n → f_X7_standBy_n_4 fuel σ n (nI b) (nI (stn A b i)) (nI i) = some (nI (std A b)) := by
    intro k
    induction k with
    | zero =>
      intro i n hi hn
      obtain ⟨m, rfl⟩ := suc_of hn
      rw [f_X7_standBy_n_4, hM 4 (by omega), if_pos (by rw [le_n (by omega) (by omega)]; omega), show i = A 4 by omega]
      rfl
    | succ k ih =>
      intro i n hi hn
      obtain ⟨m, rfl⟩ := suc_of hn
      have hil : i < A 4 := by omega
      have ok := hO.2.2.2.2.2.2.2.2 i hil
      have ih := ih (i + 1) m (by omega) (by omega)
      have hs : stn A b i < 2 ^ i := stn_lt
      have hs2 : (2 : Nat) ^ i ≤ 2 ^ 5 := Nat.pow_le_pow_right (by decide) (by omega)
      have hs4 : A (65 + i) &&& b < 64 := and_lt64 (by omega)
      rw [f_X7_standBy_n_4, hM 4 (by omega), if_neg (by rw [le_n (by omega) (by omega)]; omega), a65, a75, gB (by omega) (by omega), gB (by omega) (by omega), gB (by omega) (by omega), cl_n (by omega), cl_n (by omega), hM (75 + i) (by omega), hM (65 + i) (by omega), nI_and]
      have eheld : ∀ (K : Int32 → Option Int32), (if nI (A (75 + i)) = 0 then K 1 else (if (nI (stn A b i) >>> ((nI (A (75 + i)) - 1) &&& 31)) &&& 1 = 1 then K 1 else K 0)) = K (bI (decide (A (75 + i) = 0) || (stn A b i).testBit (A (75 + i) - 1))) := by
        intro K
        by_cases e : A (75 + i) = 0
        · rw [e]; rfl
        · rw [if_neg (by rw [i0, eq_n (by omega) (by omega)]; exact e), decide_eq_false e, Bool.false_or, show nI (A (75 + i)) - 1 = nI (A (75 + i) - 1) from pk_sub (a := A (75 + i)) (b := 1) (by omega), bit_bI (by omega) (by omega)]
          cases (stn A b i).testBit (A (75 + i) - 1) <;> rfl
      rw [eheld]
      unfold f_X7_standBy_n_51
      rw [a70, a65, gB (by omega) (by omega), gB (by omega) (by omega), cl_n (by omega), cl_n (by omega), hM (70 + i) (by omega), hM (65 + i) (by omega)]
      have eown : ∀ (K : Int32 → Option Int32), (if nI (A (70 + i)) = 1 then (if nI (A (65 + i) &&& b) = nI (A (65 + i)) then K 1 else K 0) else (if nI (A (65 + i) &&& b) = 0 then K 0 else K 1)) = K (bI (ownS A b i)) := by
        intro K
        simp only [i0, i1, eq_n (show A (70 + i) < 2147483648 by omega) (show 1 < 2147483648 by omega), eq_n (show A (65 + i) &&& b < 2147483648 by omega) (show A (65 + i) < 2147483648 by omega), eq_n (show A (65 + i) &&& b < 2147483648 by omega) (show 0 < 2147483648 by omega)]
        unfold ownS
        by_cases e : A (70 + i) = 1
        · rw [if_pos e, if_pos e]
          by_cases e2 : A (65 + i) &&& b = A (65 + i)
          · rw [if_pos e2, decide_eq_true e2]; rfl
          · rw [if_neg e2, decide_eq_false e2]; rfl
        · rw [if_neg e, if_neg e]
          by_cases e2 : A (65 + i) &&& b = 0
          · rw [if_pos e2, decide_eq_true e2]; rfl
          · rw [if_neg e2, decide_eq_false e2]; rfl
      rw [eown]
      unfold f_X7_standBy_n_92
      rw [nI_shl1 (by omega), nI_or, s1, i0, nI_or, Nat.or_zero, ← i0]
      have est : stn A b (i + 1) = stn A b i ||| (if (ownS A b i && (decide (A (75 + i) = 0) || (stn A b i).testBit (A (75 + i) - 1))) = true then 2 ^ i else 0) := rfl
      rw [est] at ih
      revert ih
      cases ownS A b i <;> cases (decide (A (75 + i) = 0) || (stn A b i).testBit (A (75 + i) - 1)) <;> intro ih
      · simpa [bI] using ih
      · simpa [bI] using ih
      · simpa [bI] using ih
      · simpa [bI] using ih
  exact key (A 4) 0 fuel (by omega) (by omega)
theorem X7_stand_n_eq (hM : MA (σ 5) A) (hO : AOK A) (hF : 100 ≤ fuel) : f_X7_stand_n fuel σ = some (nI (std A (blk A (wb A)))) := by
  unfold f_X7_stand_n
  rw [X7_black_n_eq hM hO hF]
  show (f_X7_standBy_n fuel σ (nI (blk A (wb A)))).bind _ = _
  rw [X7_standBy_n_eq hM hO hF (blk_lt hO _)]
  rfl
/-- a day: what goes white -/
theorem X7_dayGoes_n_eq (hM : MA (σ 5) A) (hO : AOK A) (hD : A 5 ≤ 1198) (hF : 100 ≤ fuel) : ∃ σ', f_X7_dayGoes_n fuel σ = some σ' ∧ (∀ q, q ≠ 5 → σ' q = σ q) ∧ MA (σ' 5) (upW (fun j => if j = 5 then A 5 + 1 else A j) (fun c => decide (kd A c = 3) && decide (A 1 ≤ A 5 + 1 - A (45 + c))) (A 3)) := by
  have hC9 := hO.2.2.2.1
  have hR9 := hO.2.1
  have hH9 := hO.2.2.1
  have key : ∀ k i n τ, i + k = A 3 → k < n → (∀ q, q ≠ 5 → τ q = σ q) → MA (τ 5) (upW (fun j => if j = 5 then A 5 + 1 else A j) (fun c => decide (kd A c = 3) && decide (A 1 ≤ A 5 + 1 - A (45 + c))) i) → ∃ σ', f_X7_dayGoes_n_9 fuel n τ (nI i) = some σ' ∧ (∀ q, q ≠ 5 → σ' q = σ q) ∧ MA (σ' 5) (upW (fun j => if j = 5 then A 5 + 1 else A j) (fun c => decide (kd A c = 3) && decide (A 1 ≤ A 5 + 1 - A (45 + c))) (A 3)) := by
    intro k
    induction k with
    | zero =>
      intro i n τ hi hn hf hm
      obtain ⟨m, rfl⟩ := suc_of hn
      rw [f_X7_dayGoes_n_9, hm 3 (by omega), upW_lo (by omega)]
      show ∃ σ', (if nI (A 3) ≤ nI i then some τ else _) = some σ' ∧ _
      rw [if_pos (by rw [le_n (by omega) (by omega)]; omega)]
      refine ⟨τ, rfl, hf, ?_⟩
      rw [show i = A 3 by omega] at hm
      exact hm
    | succ k ih =>
      intro i n τ hi hn hf hm
      obtain ⟨m, rfl⟩ := suc_of hn
      have hil : i < A 3 := by omega
      have ok := hO.2.2.2.2.2.2.2.1 i hil
      have r3 : τ 5 3 = nI (A 3) := by rw [hm 3 (by omega), upW_lo (by omega)]; rfl
      have r25 : τ 5 (25 + i) = nI (A (25 + i)) := by rw [hm (25 + i) (by omega), upW_lo (by omega), if_neg (by omega)]
      have r45 : τ 5 (45 + i) = nI (A (45 + i)) := by rw [hm (45 + i) (by omega), upW_lo (by omega), if_neg (by omega)]
      have r7 : τ 5 (7 + A (25 + i)) = nI (A (7 + A (25 + i))) := by rw [hm (7 + A (25 + i)) (by omega), upW_lo (by omega), if_neg (by omega)]
      have r5 : τ 5 5 = nI (A 5 + 1) := by rw [hm 5 (by omega), upW_lo (by omega), if_pos rfl]
      have r1 : τ 5 1 = nI (A 1) := by rw [hm 1 (by omega), upW_lo (by omega)]; rfl
      have okk := hO.2.2.2.2.2.2.1 (A (25 + i)) ok.2.1
      have eK : ∀ b : Bool, b = (decide (kd A i = 3) && decide (A 1 ≤ A 5 + 1 - A (45 + i))) → ∃ σ', f_X7_dayGoes_n_52 fuel (f_X7_dayGoes_n_9 fuel m) τ (nI i) (bI b) = some σ' ∧ (∀ q, q ≠ 5 → σ' q = σ q) ∧ MA (σ' 5) (upW (fun j => if j = 5 then A 5 + 1 else A j) (fun c => decide (kd A c = 3) && decide (A 1 ≤ A 5 + 1 - A (45 + c))) (A 3)) := by
        intro b hb
        unfold f_X7_dayGoes_n_52
        rw [a55, gB (by omega) (by omega), gB (by omega) (by omega), gB (by omega) (by omega), cl_n (by omega), s1]
        cases b with
        | false =>
          rw [if_pos (show bI false = 0 from rfl)]
          refine ih (i + 1) m _ (by omega) (by omega) (fun q hq => by rw [mst_ne hq]; exact hf q hq) ?_
          rw [mst_at, ← upW_f hb.symm]
          exact MA_same hm
        | true =>
          rw [if_neg (show ¬ bI true = 0 by decide)]
          refine ih (i + 1) m _ (by omega) (by omega) (fun q hq => by rw [mst_ne hq]; exact hf q hq) ?_
          rw [mst_at, ← upW_t hb.symm]
          exact MA_st (a := 1) hm
      rw [f_X7_dayGoes_n_9, r3, if_neg (by rw [le_n (by omega) (by omega)]; omega), a25, gB (by omega) (by omega), cl_n (by omega), r25, a7, gB (by omega) (by omega), cl_n (by omega), r7, a45, gB (by omega) (by omega), cl_n (by omega), r45, r5, r1]
      simp only [show (3 : Int32) = nI 3 from rfl, eq_n (show A (7 + A (25 + i)) < 2147483648 by omega) (show 3 < 2147483648 by omega), sg (show A 5 + 1 < 100000 by omega) (show A (45 + i) < 100000 by omega) (show A 1 < 100000 by omega) (show A (45 + i) ≤ A 5 + 1 by omega)]
      by_cases e : A (7 + A (25 + i)) = 3
      · rw [if_pos e]
        by_cases e2 : A 1 ≤ A 5 + 1 - A (45 + i)
        · rw [if_neg (fun h => h e2)]
          exact eK true (by rw [decide_eq_true e, decide_eq_true e2]; rfl)
        · rw [if_pos e2]
          exact eK false (by rw [decide_eq_false e2, Bool.and_false])
      · rw [if_neg e]
        exact eK false (by rw [decide_eq_false e]; rfl)
  unfold f_X7_dayGoes_n
  refine key (A 3) 0 fuel _ (by omega) (by omega) (fun q hq => mst_ne hq) ?_
  rw [mst_at, upW_0, hM 5 (by omega), s1]
  exact MA_st hM
end ARM_n

section ARM_a
variable {σ : Mem} {A : Ar} {fuel : Nat}
theorem X7_limit_a_eq (hM : MA (σ 11) A) (hO : AOK A) {h : Nat} (hh : h < A 2) : f_X7_limit_a σ (nI h) = some (limI (A (7 + h)) (A 0)) := by
  have hH := hO.2.2.1
  have hY := hO.1
  have ok := hO.2.2.2.2.2.2.1 h hh
  unfold f_X7_limit_a
  rw [a7, gB (by omega) (by omega), cl_n (by omega), hM (7 + h) (by omega), hM 0 (by omega)]
  rcases (show A (7 + h) = 1 ∨ A (7 + h) = 2 ∨ A (7 + h) = 3 ∨ A (7 + h) = 4 ∨ A (7 + h) = 5 by omega) with e | e | e | e | e <;> rw [e]
  · rw [if_neg (by decide), if_neg (by decide), if_neg (by decide), if_neg (by decide)]; rfl
  · rw [if_pos (by decide), show (2 : Int32) = nI 2 from rfl, pk_div (by omega) (by omega) (by omega)]; rfl
  · rw [if_neg (by decide), if_pos (by decide)]; rfl
  · rw [if_neg (by decide), if_neg (by decide), if_pos (by decide), show (2 : Int32) = nI 2 from rfl, pk_mul]; rfl
  · rw [if_neg (by decide), if_neg (by decide), if_neg (by decide), if_pos (by decide)]; rfl
theorem X7_mayRecall_a_eq (hM : MA (σ 11) A) (hO : AOK A) {c : Nat} (hc : c < A 3) : f_X7_mayRecall_a σ (nI c) = some (bI (decide (A (55 + c) = 0) && inLim A (A 0) (A 5) c)) := by
  have hC := hO.2.2.2.1
  have hY := hO.1
  have hD := hO.2.2.2.2.2.1
  have ok := hO.2.2.2.2.2.2.2.1 c hc
  unfold f_X7_mayRecall_a
  rw [a55, a45, a25, gB (by omega) (by omega), gB (by omega) (by omega), gB (by omega) (by omega), cl_n (by omega), cl_n (by omega), cl_n (by omega), hM (55 + c) (by omega), hM (25 + c) (by omega), hM (45 + c) (by omega), hM 5 (by omega), X7_limit_a_eq hM hO ok.2.1]
  simp only [Option.bind_some, i0, eq_n (show A (55 + c) < 2147483648 by omega) (show 0 < 2147483648 by omega), dl (show A 5 < 100000 by omega) (show A (45 + c) < 100000 by omega) hY]
  unfold inLim
  by_cases e : A (55 + c) = 0
  · rw [if_pos e, decide_eq_true e, Bool.true_and]
    by_cases e2 : (A 5 : Int) - (A (45 + c) : Int) ≤ lim (kd A c) (A 0)
    · rw [if_neg (fun h => h e2), decide_eq_true e2]; rfl
    · rw [if_pos e2, decide_eq_false e2]; rfl
  · rw [if_neg e, decide_eq_false e]; rfl
theorem X7_black_a_eq (hM : MA (σ 11) A) (hO : AOK A) (hF : 100 ≤ fuel) : f_X7_black_a fuel σ = some (nI (blk A (wb A))) := by
  have hC9 := hO.2.2.2.1
  have key : ∀ k i n, i + k = A 3 → k < n → f_X7_black_a_4 fuel σ n (nI (orset (fun c => A (15 + c)) (fun c => !(wb A).testBit c) i)) (nI i) = some (nI (blk A (wb A))) := by
    intro k
    induction k with
    | zero =>
      intro i n hi hn
      obtain ⟨m, rfl⟩ := suc_of hn
      rw [f_X7_black_a_4, hM 3 (by omega), if_pos (by rw [le_n (by omega) (by omega)]; omega), show i = A 3 by omega]
      rfl
    | succ k ih =>
      intro i n hi hn
      obtain ⟨m, rfl⟩ := suc_of hn
      have hil : i < A 3 := by omega
      have ok := hO.2.2.2.2.2.2.2.1 i hil
      have ih := ih (i + 1) m (by omega) (by omega)
      rw [f_X7_black_a_4, hM 3 (by omega), if_neg (by rw [le_n (by omega) (by omega)]; omega), a55, a15, gB (by omega) (by omega), gB (by omega) (by omega), cl_n (by omega), cl_n (by omega), hM (55 + i) (by omega), hM (15 + i) (by omega), nI_shl1 (by omega), nI_or, s1]
      simp only [i0, eq_n (show A (55 + i) < 2147483648 by omega) (show 0 < 2147483648 by omega), nI_or, Nat.or_zero]
      by_cases e : A (55 + i) = 0
      · rw [show orset (fun c => A (15 + c)) (fun c => !(wb A).testBit c) (i + 1) = _ from orset_t (by rw [wb_tb hil, decide_eq_false (by omega)]; rfl)] at ih
        rw [if_pos e]; exact ih
      · rw [show orset (fun c => A (15 + c)) (fun c => !(wb A).testBit c) (i + 1) = _ from orset_f (by rw [wb_tb hil, decide_eq_true (by omega)]; rfl)] at ih
        rw [if_neg e]; exact ih
  exact key (A 3) 0 fuel (by omega) (by omega)
theorem X7_standBy_a_eq (hM : MA (σ 11) A) (hO : AOK A) (hF : 100 ≤ fuel) {b : Nat} (hb : b < 64) : f_X7_standBy_a fuel σ (nI b) = some (nI (std A b)) := by
  have hN9 := hO.2.2.2.2.1
  have key : ∀ k i n, i + k = A 4 → k < n → f_X7_standBy_a_4 fuel σ n (nI b) (nI (stn A b i)) (nI i) = some (nI (std A b)) := by
    intro k
    induction k with
    | zero =>
      intro i n hi hn
      obtain ⟨m, rfl⟩ := suc_of hn
      rw [f_X7_standBy_a_4, hM 4 (by omega), if_pos (by rw [le_n (by omega) (by omega)]; omega), show i = A 4 by omega]
      rfl
    | succ k ih =>
      intro i n hi hn
      obtain ⟨m, rfl⟩ := suc_of hn
      have hil : i < A 4 := by omega
      have ok := hO.2.2.2.2.2.2.2.2 i hil
      have ih := ih (i + 1) m (by omega) (by omega)
      have hs : stn A b i < 2 ^ i := stn_lt
      have hs2 : (2 : Nat) ^ i ≤ 2 ^ 5 := Nat.pow_le_pow_right (by decide) (by omega)
      have hs4 : A (65 + i) &&& b < 64 := and_lt64 (by omega)
      rw [f_X7_standBy_a_4, hM 4 (by omega), if_neg (by rw [le_n (by omega) (by omega)]; omega), a65, a75, gB (by omega) (by omega), gB (by omega) (by omega), gB (by omega) (by omega), cl_n (by omega), cl_n (by omega), hM (75 + i) (by omega), hM (65 + i) (by omega), nI_and]
      have eheld : ∀ (K : Int32 → Option Int32), (if nI (A (75 + i)) = 0 then K 1 else (if (nI (stn A b i) >>> ((nI (A (75 + i)) - 1) &&& 31)) &&& 1 = 1 then K 1 else K 0)) = K (bI (decide (A (75 + i) = 0) || (stn A b i).testBit (A (75 + i) - 1))) := by
        intro K
        by_cases e : A (75 + i) = 0
        · rw [e]; rfl
        · rw [if_neg (by rw [i0, eq_n (by omega) (by omega)]; exact e), decide_eq_false e, Bool.false_or, show nI (A (75 + i)) - 1 = nI (A (75 + i) - 1) from pk_sub (a := A (75 + i)) (b := 1) (by omega), bit_bI (by omega) (by omega)]
          cases (stn A b i).testBit (A (75 + i) - 1) <;> rfl
      rw [eheld]
      unfold f_X7_standBy_a_51
      rw [a70, a65, gB (by omega) (by omega), gB (by omega) (by omega), cl_n (by omega), cl_n (by omega), hM (70 + i) (by omega), hM (65 + i) (by omega)]
      have eown : ∀ (K : Int32 → Option Int32), (if nI (A (70 + i)) = 1 then (if nI (A (65 + i) &&& b) = nI (A (65 + i)) then K 1 else K 0) else (if nI (A (65 + i) &&& b) = 0 then K 0 else K 1)) = K (bI (ownS A b i)) := by
        intro K
        simp only [i0, i1, eq_n (show A (70 + i) < 2147483648 by omega) (show 1 < 2147483648 by omega), eq_n (show A (65 + i) &&& b < 2147483648 by omega) (show A (65 + i) < 2147483648 by omega), eq_n (show A (65 + i) &&& b < 2147483648 by omega) (show 0 < 2147483648 by omega)]
        unfold ownS
        by_cases e : A (70 + i) = 1
        · rw [if_pos e, if_pos e]
          by_cases e2 : A (65 + i) &&& b = A (65 + i)
          · rw [if_pos e2, decide_eq_true e2]; rfl
          · rw [if_neg e2, decide_eq_false e2]; rfl
        · rw [if_neg e, if_neg e]
          by_cases e2 : A (65 + i) &&& b = 0
          · rw [if_pos e2, decide_eq_true e2]; rfl
          · rw [if_neg e2, decide_eq_false e2]; rfl
      rw [eown]
      unfold f_X7_standBy_a_92
      rw [nI_shl1 (by omega), nI_or, s1, i0, nI_or, Nat.or_zero, ← i0]
      have est : stn A b (i + 1) = stn A b i ||| (if (ownS A b i && (decide (A (75 + i) = 0) || (stn A b i).testBit (A (75 + i) - 1))) = true then 2 ^ i else 0) := rfl
      rw [est] at ih
      revert ih
      cases ownS A b i <;> cases (decide (A (75 + i) = 0) || (stn A b i).testBit (A (75 + i) - 1)) <;> intro ih
      · simpa [bI] using ih
      · simpa [bI] using ih
      · simpa [bI] using ih
      · simpa [bI] using ih
  exact key (A 4) 0 fuel (by omega) (by omega)
theorem X7_stand_a_eq (hM : MA (σ 11) A) (hO : AOK A) (hF : 100 ≤ fuel) : f_X7_stand_a fuel σ = some (nI (std A (blk A (wb A)))) := by
  unfold f_X7_stand_a
  rw [X7_black_a_eq hM hO hF]
  show (f_X7_standBy_a fuel σ (nI (blk A (wb A)))).bind _ = _
  rw [X7_standBy_a_eq hM hO hF (blk_lt hO _)]
  rfl
/-- a day: what goes white -/
theorem X7_dayGoes_a_eq (hM : MA (σ 11) A) (hO : AOK A) (hD : A 5 ≤ 1198) (hF : 100 ≤ fuel) : ∃ σ', f_X7_dayGoes_a fuel σ = some σ' ∧ (∀ q, q ≠ 11 → σ' q = σ q) ∧ MA (σ' 11) (upW (fun j => if j = 5 then A 5 + 1 else A j) (fun c => decide (kd A c = 3) && decide (A 1 ≤ A 5 + 1 - A (45 + c))) (A 3)) := by
  have hC9 := hO.2.2.2.1
  have hR9 := hO.2.1
  have hH9 := hO.2.2.1
  have key : ∀ k i n τ, i + k = A 3 → k < n → (∀ q, q ≠ 11 → τ q = σ q) → MA (τ 11) (upW (fun j => if j = 5 then A 5 + 1 else A j) (fun c => decide (kd A c = 3) && decide (A 1 ≤ A 5 + 1 - A (45 + c))) i) → ∃ σ', f_X7_dayGoes_a_9 fuel n τ (nI i) = some σ' ∧ (∀ q, q ≠ 11 → σ' q = σ q) ∧ MA (σ' 11) (upW (fun j => if j = 5 then A 5 + 1 else A j) (fun c => decide (kd A c = 3) && decide (A 1 ≤ A 5 + 1 - A (45 + c))) (A 3)) := by
    intro k
    induction k with
    | zero =>
      intro i n τ hi hn hf hm
      obtain ⟨m, rfl⟩ := suc_of hn
      rw [f_X7_dayGoes_a_9, hm 3 (by omega), upW_lo (by omega)]
      show ∃ σ', (if nI (A 3) ≤ nI i then some τ else _) = some σ' ∧ _
      rw [if_pos (by rw [le_n (by omega) (by omega)]; omega)]
      refine ⟨τ, rfl, hf, ?_⟩
      rw [show i = A 3 by omega] at hm
      exact hm
    | succ k ih =>
      intro i n τ hi hn hf hm
      obtain ⟨m, rfl⟩ := suc_of hn
      have hil : i < A 3 := by omega
      have ok := hO.2.2.2.2.2.2.2.1 i hil
      have r3 : τ 11 3 = nI (A 3) := by rw [hm 3 (by omega), upW_lo (by omega)]; rfl
      have r25 : τ 11 (25 + i) = nI (A (25 + i)) := by rw [hm (25 + i) (by omega), upW_lo (by omega), if_neg (by omega)]
      have r45 : τ 11 (45 + i) = nI (A (45 + i)) := by rw [hm (45 + i) (by omega), upW_lo (by omega), if_neg (by omega)]
      have r7 : τ 11 (7 + A (25 + i)) = nI (A (7 + A (25 + i))) := by rw [hm (7 + A (25 + i)) (by omega), upW_lo (by omega), if_neg (by omega)]
      have r5 : τ 11 5 = nI (A 5 + 1) := by rw [hm 5 (by omega), upW_lo (by omega), if_pos rfl]
      have r1 : τ 11 1 = nI (A 1) := by rw [hm 1 (by omega), upW_lo (by omega)]; rfl
      have okk := hO.2.2.2.2.2.2.1 (A (25 + i)) ok.2.1
      have eK : ∀ b : Bool, b = (decide (kd A i = 3) && decide (A 1 ≤ A 5 + 1 - A (45 + i))) → ∃ σ', f_X7_dayGoes_a_52 fuel (f_X7_dayGoes_a_9 fuel m) τ (nI i) (bI b) = some σ' ∧ (∀ q, q ≠ 11 → σ' q = σ q) ∧ MA (σ' 11) (upW (fun j => if j = 5 then A 5 + 1 else A j) (fun c => decide (kd A c = 3) && decide (A 1 ≤ A 5 + 1 - A (45 + c))) (A 3)) := by
        intro b hb
        unfold f_X7_dayGoes_a_52
        rw [a55, gB (by omega) (by omega), gB (by omega) (by omega), gB (by omega) (by omega), cl_n (by omega), s1]
        cases b with
        | false =>
          rw [if_pos (show bI false = 0 from rfl)]
          refine ih (i + 1) m _ (by omega) (by omega) (fun q hq => by rw [mst_ne hq]; exact hf q hq) ?_
          rw [mst_at, ← upW_f hb.symm]
          exact MA_same hm
        | true =>
          rw [if_neg (show ¬ bI true = 0 by decide)]
          refine ih (i + 1) m _ (by omega) (by omega) (fun q hq => by rw [mst_ne hq]; exact hf q hq) ?_
          rw [mst_at, ← upW_t hb.symm]
          exact MA_st (a := 1) hm
      rw [f_X7_dayGoes_a_9, r3, if_neg (by rw [le_n (by omega) (by omega)]; omega), a25, gB (by omega) (by omega), cl_n (by omega), r25, a7, gB (by omega) (by omega), cl_n (by omega), r7, a45, gB (by omega) (by omega), cl_n (by omega), r45, r5, r1]
      simp only [show (3 : Int32) = nI 3 from rfl, eq_n (show A (7 + A (25 + i)) < 2147483648 by omega) (show 3 < 2147483648 by omega), sg (show A 5 + 1 < 100000 by omega) (show A (45 + i) < 100000 by omega) (show A 1 < 100000 by omega) (show A (45 + i) ≤ A 5 + 1 by omega)]
      by_cases e : A (7 + A (25 + i)) = 3
      · rw [if_pos e]
        by_cases e2 : A 1 ≤ A 5 + 1 - A (45 + i)
        · rw [if_neg (fun h => h e2)]
          exact eK true (by rw [decide_eq_true e, decide_eq_true e2]; rfl)
        · rw [if_pos e2]
          exact eK false (by rw [decide_eq_false e2, Bool.and_false])
      · rw [if_neg e]
        exact eK false (by rw [decide_eq_false e]; rfl)
  unfold f_X7_dayGoes_a
  refine key (A 3) 0 fuel _ (by omega) (by omega) (fun q hq => mst_ne hq) ?_
  rw [mst_at, upW_0, hM 5 (by omega), s1]
  exact MA_st hM
end ARM_a

section ARM
variable {σ : Mem} {A : Ar} {fuel : Nat}
theorem X7_whites_eq (hM : MA (σ 5) A) (hO : AOK A) (hF : 100 ≤ fuel) : f_X7_whites fuel σ = some (nI (pc (wb A))) := by
  have hC9 := hO.2.2.2.1
  have key : ∀ k i n, i + k = A 3 → k < n → f_X7_whites_4 fuel σ n (nI (cnt (fun c => decide (A (55 + c) = 1)) i)) (nI i) = some (nI (pc (wb A))) := by
    intro k
    induction k with
    | zero =>
      intro i n hi hn
      obtain ⟨m, rfl⟩ := suc_of hn
      rw [f_X7_whites_4, hM 3 (by omega), if_pos (by rw [le_n (by omega) (by omega)]; omega), show i = A 3 by omega]
      unfold wb
      rw [pc_bset hC9]
    | succ k ih =>
      intro i n hi hn
      obtain ⟨m, rfl⟩ := suc_of hn
      have hil : i < A 3 := by omega
      have ok := hO.2.2.2.2.2.2.2.1 i hil
      have ih := ih (i + 1) m (by omega) (by omega)
      rw [f_X7_whites_4, hM 3 (by omega), if_neg (by rw [le_n (by omega) (by omega)]; omega), a55, gB (by omega) (by omega), cl_n (by omega), hM (55 + i) (by omega), nI_add, s1]
      have e : cnt (fun c => decide (A (55 + c) = 1)) (i + 1) = cnt (fun c => decide (A (55 + c) = 1)) i + A (55 + i) := by
        show _ + _ = _
        by_cases h1 : A (55 + i) = 1
        · simp [h1]
        · have : A (55 + i) = 0 := by omega
          simp [this]
      rw [e] at ih
      exact ih
  exact key (A 3) 0 fuel (by omega) (by omega)
theorem X7_whiteSet_eq (hM : MA (σ 11) A) (hO : AOK A) (hF : 100 ≤ fuel) : f_X7_whiteSet fuel σ = some (nI (wb A)) := by
  have hC9 := hO.2.2.2.1
  have key : ∀ k i n, i + k = A 3 → k < n → f_X7_whiteSet_4 fuel σ n (nI (bset (fun c => decide (A (55 + c) = 1)) i)) (nI i) = some (nI (wb A)) := by
    intro k
    induction k with
    | zero =>
      intro i n hi hn
      obtain ⟨m, rfl⟩ := suc_of hn
      rw [f_X7_whiteSet_4, hM 3 (by omega), if_pos (by rw [le_n (by omega) (by omega)]; omega), show i = A 3 by omega]
      rfl
    | succ k ih =>
      intro i n hi hn
      obtain ⟨m, rfl⟩ := suc_of hn
      have hil : i < A 3 := by omega
      have ok := hO.2.2.2.2.2.2.2.1 i hil
      have ih := ih (i + 1) m (by omega) (by omega)
      have hp : (2 : Nat) ^ i ≤ 2 ^ 10 := Nat.pow_le_pow_right (by decide) (by omega)
      have hp2 : A (55 + i) * 2 ^ i ≤ 1 * 2 ^ 10 := Nat.mul_le_mul ok.2.2.2.2.2 hp
      rw [f_X7_whiteSet_4, hM 3 (by omega), if_neg (by rw [le_n (by omega) (by omega)]; omega), a55, gB (by omega) (by omega), cl_n (by omega), hM (55 + i) (by omega), nI_shlv (by omega) (by omega), nI_or, s1]
      have e : bset (fun c => decide (A (55 + c) = 1)) (i + 1) = bset (fun c => decide (A (55 + c) = 1)) i ||| A (55 + i) * 2 ^ i := by
        by_cases h1 : A (55 + i) = 1
        · rw [show bset (fun c => decide (A (55 + c) = 1)) (i + 1) = _ from orset_t (decide_eq_true h1), h1, Nat.one_mul]; rfl
        · have : A (55 + i) = 0 := by omega
          rw [show bset (fun c => decide (A (55 + c) = 1)) (i + 1) = _ from orset_f (decide_eq_false h1), this, Nat.zero_mul, Nat.or_zero]
      rw [e] at ih
      exact ih
  exact key (A 3) 0 fuel (by omega) (by omega)
theorem X7_copiesOf_eq (hM : MA (σ 5) A) (hO : AOK A) (hF : 100 ≤ fuel) {f v : Nat} (hf : f ≤ 50) (hv : v < 100) (hA : ∀ c, c < A 3 → A (f + c) < 100) : f_X7_copiesOf fuel σ (nI f) (nI v) = some (nI (bset (fun c => decide (A (f + c) = v)) (A 3))) := by
  have hC9 := hO.2.2.2.1
  have key : ∀ k i n, i + k = A 3 → k < n → f_X7_copiesOf_5 fuel σ n (nI f) (nI v) (nI (bset (fun c => decide (A (f + c) = v)) i)) (nI i) = some (nI (bset (fun c => decide (A (f + c) = v)) (A 3))) := by
    intro k
    induction k with
    | zero =>
      intro i n hi hn
      obtain ⟨m, rfl⟩ := suc_of hn
      rw [f_X7_copiesOf_5, hM 3 (by omega), if_pos (by rw [le_n (by omega) (by omega)]; omega), show i = A 3 by omega]
    | succ k ih =>
      intro i n hi hn
      obtain ⟨m, rfl⟩ := suc_of hn
      have hil : i < A 3 := by omega
      have hai := hA i hil
      have ih := ih (i + 1) m (by omega) (by omega)
      rw [f_X7_copiesOf_5, hM 3 (by omega), if_neg (by rw [le_n (by omega) (by omega)]; omega), nI_add, gB (by omega) (by omega), cl_n (by omega), hM (f + i) (by omega), nI_shl1 (by omega), nI_or, s1]
      simp only [i0, nI_or, Nat.or_zero, eq_n (show A (f + i) < 2147483648 by omega) (show v < 2147483648 by omega)]
      by_cases e : A (f + i) = v
      · rw [show bset (fun c => decide (A (f + c) = v)) (i + 1) = _ from orset_t (decide_eq_true e)] at ih
        rw [if_pos e]; exact ih
      · rw [show bset (fun c => decide (A (f + c) = v)) (i + 1) = _ from orset_f (decide_eq_false e)] at ih
        rw [if_neg e]; exact ih
  exact key (A 3) 0 fuel (by omega) (by omega)
/-- all that a set of hands may recall is white -/
theorem X7_recalls_eq (hM : MA (σ 11) A) (hO : AOK A) (hF : 100 ≤ fuel) {hs : Nat} (hs9 : hs < 16) : ∃ σ', f_X7_recalls fuel σ (nI hs) = some σ' ∧ (∀ q, q ≠ 11 → σ' q = σ q) ∧ MA (σ' 11) (upW A (fun c => hs.testBit (A (25 + c)) && (decide (A (55 + c) = 0) && inLim A (A 0) (A 5) c)) (A 3)) := by
  have hC9 := hO.2.2.2.1
  have hH9 := hO.2.2.1
  have key : ∀ k i n τ, i + k = A 3 → k < n → (∀ q, q ≠ 11 → τ q = σ q) → MA (τ 11) (upW A (fun c => hs.testBit (A (25 + c)) && (decide (A (55 + c) = 0) && inLim A (A 0) (A 5) c)) i) → ∃ σ', f_X7_recalls_2 fuel n τ (nI hs) (nI i) = some σ' ∧ (∀ q, q ≠ 11 → σ' q = σ q) ∧ MA (σ' 11) (upW A (fun c => hs.testBit (A (25 + c)) && (decide (A (55 + c) = 0) && inLim A (A 0) (A 5) c)) (A 3)) := by
    intro k
    induction k with
    | zero =>
      intro i n τ hi hn hf hm
      obtain ⟨m, rfl⟩ := suc_of hn
      rw [f_X7_recalls_2, hm 3 (by omega), upW_lo (by omega), if_pos (by rw [le_n (by omega) (by omega)]; omega)]
      refine ⟨τ, rfl, hf, ?_⟩
      rw [show i = A 3 by omega] at hm
      exact hm
    | succ k ih =>
      intro i n τ hi hn hf hm
      obtain ⟨m, rfl⟩ := suc_of hn
      have hil : i < A 3 := by omega
      have ok := hO.2.2.2.2.2.2.2.1 i hil
      have r3 : τ 11 3 = nI (A 3) := by rw [hm 3 (by omega), upW_lo (by omega)]
      have r25 : τ 11 (25 + i) = nI (A (25 + i)) := by rw [hm (25 + i) (by omega), upW_lo (by omega)]
      have eU : ∀ j, j ≠ 55 + i → (j < 55 ∨ 55 + i ≤ j) → upW A (fun c => hs.testBit (A (25 + c)) && (decide (A (55 + c) = 0) && inLim A (A 0) (A 5) c)) i j = A j := fun j _ h => upW_lo h
      have hOu : AOK (upW A (fun c => hs.testBit (A (25 + c)) && (decide (A (55 + c) = 0) && inLim A (A 0) (A 5) c)) i) := by
        obtain ⟨h0, h1, h2, h3, h4, h5, h6, h7, h8⟩ := hO
        have l : ∀ j, (j < 55 ∨ 65 ≤ j) → upW A (fun c => hs.testBit (A (25 + c)) && (decide (A (55 + c) = 0) && inLim A (A 0) (A 5) c)) i j = A j := fun j h => upW_lo (by omega)
        refine ⟨by rw [l 0 (by omega)]; exact h0, by rw [l 1 (by omega)]; exact h1, by rw [l 2 (by omega)]; exact h2, by rw [l 3 (by omega)]; exact h3, by rw [l 4 (by omega)]; exact h4, by rw [l 5 (by omega)]; exact h5, ?_, ?_, ?_⟩
        · intro k hk
          rw [l 2 (by omega)] at hk
          rw [l (7 + k) (by omega), l (11 + k) (by omega)]
          exact h6 k hk
        · intro c hc
          rw [l 3 (by omega)] at hc
          rw [l (15 + c) (by omega), l (25 + c) (by omega), l (35 + c) (by omega), l (45 + c) (by omega), l 2 (by omega), l 5 (by omega)]
          obtain ⟨g1, g2, g3, g4, g5, g6⟩ := h7 c hc
          refine ⟨g1, g2, g3, g4, g5, ?_⟩
          unfold upW
          split
          · exact Nat.le_refl 1
          · exact g6
        · intro d hd
          rw [l 4 (by omega)] at hd
          rw [l (65 + d) (by omega), l (70 + d) (by omega), l (75 + d) (by omega), l (80 + d) (by omega)]
          exact h8 d hd
      have emay : f_X7_mayRecall_a τ (nI i) = some (bI (decide (A (55 + i) = 0) && inLim A (A 0) (A 5) i)) := by
        rw [X7_mayRecall_a_eq hm hOu (by rw [upW_lo (by omega)]; exact hil)]
        unfold inLim
        have g1 := ok.2.1
        rw [upW_lo (j := 55 + i) (by omega), upW_lo (j := 0) (by omega), upW_lo (j := 5) (by omega), upW_lo (j := 45 + i) (by omega)]
        show some (bI (_ && decide (_ ≤ lim (upW A _ i (7 + upW A _ i (25 + i))) _))) = _
        rw [upW_lo (j := 25 + i) (by omega), upW_lo (j := 7 + A (25 + i)) (by omega)]
      have eK : ∀ b : Bool, b = (hs.testBit (A (25 + i)) && (decide (A (55 + i) = 0) && inLim A (A 0) (A 5) i)) → ∃ σ', f_X7_recalls_36 fuel (f_X7_recalls_2 fuel m) τ (nI hs) (nI i) (bI b) = some σ' ∧ (∀ q, q ≠ 11 → σ' q = σ q) ∧ MA (σ' 11) (upW A (fun c => hs.testBit (A (25 + c)) && (decide (A (55 + c) = 0) && inLim A (A 0) (A 5) c)) (A 3)) := by
        intro b hb
        unfold f_X7_recalls_36
        rw [a55, gB (by omega) (by omega), gB (by omega) (by omega), gB (by omega) (by omega), cl_n (by omega), s1]
        cases b with
        | false =>
          rw [if_pos (show bI false = 0 from rfl)]
          refine ih (i + 1) m _ (by omega) (by omega) (fun q hq => by rw [mst_ne hq]; exact hf q hq) ?_
          rw [mst_at, ← upW_f hb.symm]
          exact MA_same hm
        | true =>
          rw [if_neg (show ¬ bI true = 0 by decide)]
          refine ih (i + 1) m _ (by omega) (by omega) (fun q hq => by rw [mst_ne hq]; exact hf q hq) ?_
          rw [mst_at, ← upW_t hb.symm]
          exact MA_st (a := 1) hm
      rw [f_X7_recalls_2, r3, if_neg (by rw [le_n (by omega) (by omega)]; omega), a25, gB (by omega) (by omega), cl_n (by omega), r25, bit_bI (by omega) (by omega), emay]
      cases e : hs.testBit (A (25 + i)) with
      | false => exact eK false (by rw [e]; rfl)
      | true =>
        cases e2 : (decide (A (55 + i) = 0) && inLim A (A 0) (A 5) i) with
        | false => exact eK false (by rw [e, e2]; rfl)
        | true => exact eK true (by rw [e, e2]; rfl)
  exact key (A 3) 0 fuel σ (by omega) (by omega) (fun q _ => rfl) (by rw [upW_0]; exact hM)
end ARM
