/-! an archive as numbers, in the reference's order; what both sides say of it -/
abbrev Ar : Type := Nat → Nat
def lim (k y : Nat) : Int := if k = 2 then ((y / 2 : Nat) : Int) else if k = 4 then ((2 * y : Nat) : Int) else if k = 5 then -1 else (y : Int)
def limI (k y : Nat) : Int32 := if k = 2 then nI (y / 2) else if k = 4 then nI (2 * y) else if k = 5 then -1 else nI y
theorem limI_toInt {k y : Nat} (h : y ≤ 99) : (limI k y).toInt = lim k y := by
  unfold limI lim
  by_cases h2 : k = 2
  · rw [if_pos h2, if_pos h2]; exact nI_toInt (by omega)
  rw [if_neg h2, if_neg h2]
  by_cases h4 : k = 4
  · rw [if_pos h4, if_pos h4]; exact nI_toInt (by omega)
  rw [if_neg h4, if_neg h4]
  by_cases h5 : k = 5
  · rw [if_pos h5, if_pos h5]; decide
  rw [if_neg h5, if_neg h5]
  exact nI_toInt (by omega)
def AOK (A : Ar) : Prop := A 0 ≤ 99 ∧ A 1 ≤ 99 ∧ A 2 ≤ 4 ∧ A 3 ≤ 10 ∧ A 4 ≤ 5 ∧ A 5 ≤ 1199 ∧
  (∀ k, k < A 2 → 1 ≤ A (7 + k) ∧ A (7 + k) ≤ 5 ∧ A (11 + k) ≤ 9) ∧
  (∀ c, c < A 3 → A (15 + c) ≤ 5 ∧ A (25 + c) < A 2 ∧ 1 ≤ A (35 + c) ∧ A (35 + c) ≤ 9 ∧ A (45 + c) ≤ A 5 ∧ A (55 + c) ≤ 1) ∧
  (∀ d, d < A 4 → 1 ≤ A (65 + d) ∧ A (65 + d) ≤ 63 ∧ A (70 + d) ≤ 1 ∧ A (75 + d) ≤ d ∧ A (80 + d) ≤ 20)
/-- the white copies as bits -/
def wb (A : Ar) : Nat := bset (fun c => decide (A (55 + c) = 1)) (A 3)
def XA (F g0 g1 g2 g3 g4 g5 g6 g7 g8 g9 : Nat → Int32) (A : Ar) : Prop :=
  F 1 = nI (A 0) ∧ F 2 = nI (A 1) ∧ F 3 = nI (A 5) ∧ F 4 = nI (A 6) ∧ F 5 = nI (wb A) ∧ F 6 = nI (A 2) ∧ F 7 = nI (A 3) ∧ F 8 = nI (A 4) ∧
  (∀ k, k < A 2 → g0 k = nI (A (7 + k)) ∧ g1 k = nI (A (11 + k))) ∧
  (∀ c, c < A 3 → g2 c = nI (A (15 + c)) ∧ g3 c = nI (A (25 + c)) ∧ g4 c = nI (A (35 + c)) ∧ g5 c = nI (A (45 + c))) ∧
  (∀ d, d < A 4 → g6 d = nI (A (65 + d)) ∧ g7 d = nI (A (70 + d)) ∧ g8 d = nI (A (75 + d)) - 1 ∧ g9 d = nI (A (80 + d)))
abbrev XN (σ : Mem) (A : Ar) : Prop := XA (σ 13) (σ 14) (σ 15) (σ 16) (σ 17) (σ 18) (σ 19) (σ 20) (σ 21) (σ 22) (σ 23) A
abbrev X1i (σ : Mem) (A : Ar) : Prop := XA (σ 24) (σ 25) (σ 26) (σ 27) (σ 28) (σ 29) (σ 30) (σ 31) (σ 32) (σ 33) (σ 34) A
abbrev X2i (σ : Mem) (A : Ar) : Prop := XA (σ 35) (σ 36) (σ 37) (σ 38) (σ 39) (σ 40) (σ 41) (σ 42) (σ 43) (σ 44) (σ 45) A
abbrev XD (σ : Mem) (A : Ar) : Prop := XA (σ 48) (σ 49) (σ 50) (σ 51) (σ 52) (σ 53) (σ 54) (σ 55) (σ 56) (σ 57) (σ 58) A
def MA (v : Nat → Int32) (A : Ar) : Prop := ∀ i, i < 85 → v i = nI (A i)
/-- the kind of a copy's hand -/
abbrev kd (A : Ar) (c : Nat) : Nat := A (7 + A (25 + c))
def inLim (A : Ar) (y d c : Nat) : Bool := decide ((d : Int) - (A (45 + c) : Int) ≤ lim (kd A c) y)
def recs (A : Ar) (hs y : Nat) : Nat := bset (fun c => hs.testBit (A (25 + c)) && (!(wb A).testBit c && inLim A y (A 5) c)) (A 3)
def blk (A : Ar) (w : Nat) : Nat := orset (fun c => A (15 + c)) (fun c => !w.testBit c) (A 3)
def ownS (A : Ar) (b d : Nat) : Bool := if A (70 + d) = 1 then decide (A (65 + d) &&& b = A (65 + d)) else !decide (A (65 + d) &&& b = 0)
/-- the deeds that stand, such places being black -/
def stn (A : Ar) (b : Nat) : Nat → Nat
  | 0 => 0
  | d + 1 => stn A b d ||| (if (ownS A b d && (decide (A (75 + d) = 0) || (stn A b d).testBit (A (75 + d) - 1))) = true then 2 ^ d else 0)
def std (A : Ar) (b : Nat) : Nat := stn A b (A 4)
/-- copies that go white by themselves until a day -/
def rep (A : Ar) (d : Nat) : Nat := bset (fun c => decide (kd A c = 3) && decide (A 1 ≤ d - A (45 + c))) (A 3)
theorem wb_lt {A : Ar} (h : AOK A) : wb A < 1024 := bset_lt (m := 10) h.2.2.2.1
theorem recs_lt {A : Ar} (h : AOK A) (hs y : Nat) : recs A hs y < 1024 := bset_lt (m := 10) h.2.2.2.1
theorem rep_lt {A : Ar} (h : AOK A) (d : Nat) : rep A d < 1024 := bset_lt (m := 10) h.2.2.2.1
theorem blk_lt {A : Ar} (h : AOK A) (w : Nat) : blk A w < 64 := orset_lt (m := 6) (fun j hj _ => by have := (h.2.2.2.2.2.2.2.1 j hj).1; omega)
theorem stn_lt {A : Ar} {b : Nat} : ∀ {n : Nat}, stn A b n < 2 ^ n
  | 0 => Nat.one_pos
  | n + 1 => by
    unfold stn
    apply Nat.or_lt_two_pow
    · exact Nat.lt_of_lt_of_le (stn_lt (A := A) (b := b) (n := n)) (Nat.pow_le_pow_right (n := 2) (by decide) (by omega))
    · split
      · exact Nat.pow_lt_pow_right (a := 2) (by decide) (by omega)
      · exact Nat.two_pow_pos _
theorem std_lt {A : Ar} (h : AOK A) (b : Nat) : std A b < 32 := Nat.lt_of_lt_of_le (stn_lt (n := A 4)) (Nat.pow_le_pow_right (n := 2) (by decide) h.2.2.2.2.1)
theorem or_lt10 {a b : Nat} (ha : a < 1024) (hb : b < 1024) : a ||| b < 1024 := Nat.or_lt_two_pow (n := 10) ha hb
def bI (b : Bool) : Int32 := if b then 1 else 0
theorem bI_0 {b : Bool} : bI b = 0 ↔ b = false := by cases b <;> decide
theorem bI_1 {b : Bool} : bI b = 1 ↔ b = true := by cases b <;> decide
theorem bI_isB (b : Bool) : isB (bI b) = true := by cases b <;> decide
theorem bit_bI {a j : Nat} (ha : a < 2147483648) (h : j < 32) : (nI a >>> (nI j &&& 31)) &&& 1 = bI (a.testBit j) := by
  rw [nI_bit ha h]
  cases a.testBit j <;> rfl
theorem inB_n {j n : Nat} (h : j < n) (hn : n < 2147483648) : inB (nI j) n = true := inB_nI h hn
theorem cl_n {j : Nat} (h : j < 2147483648) : (nI j).toNatClampNeg = j := nI_clamp h
theorem le_n {a b : Nat} (ha : a < 2147483648) (hb : b < 2147483648) : (nI a ≤ nI b) = (a ≤ b) := propext (nI_leI ha hb)
theorem lt_n {a b : Nat} (ha : a < 2147483648) (hb : b < 2147483648) : (nI a < nI b) = (a < b) := propext (nI_ltI ha hb)
theorem eq_n {a b : Nat} (ha : a < 2147483648) (hb : b < 2147483648) : (nI a = nI b) = (a = b) := propext (nI_eq ha hb)
theorem i0 : (0 : Int32) = nI 0 := rfl
theorem i1 : (1 : Int32) = nI 1 := rfl
theorem a7 (c : Nat) : (7 : Int32) + nI c = nI (7 + c) := nI_add 7 c
theorem a11 (c : Nat) : (11 : Int32) + nI c = nI (11 + c) := nI_add 11 c
theorem a15 (c : Nat) : (15 : Int32) + nI c = nI (15 + c) := nI_add 15 c
theorem a25 (c : Nat) : (25 : Int32) + nI c = nI (25 + c) := nI_add 25 c
theorem a35 (c : Nat) : (35 : Int32) + nI c = nI (35 + c) := nI_add 35 c
theorem a45 (c : Nat) : (45 : Int32) + nI c = nI (45 + c) := nI_add 45 c
theorem a55 (c : Nat) : (55 : Int32) + nI c = nI (55 + c) := nI_add 55 c
theorem a65 (c : Nat) : (65 : Int32) + nI c = nI (65 + c) := nI_add 65 c
theorem a70 (c : Nat) : (70 : Int32) + nI c = nI (70 + c) := nI_add 70 c
theorem a75 (c : Nat) : (75 : Int32) + nI c = nI (75 + c) := nI_add 75 c
theorem a80 (c : Nat) : (80 : Int32) + nI c = nI (80 + c) := nI_add 80 c
theorem s1 (c : Nat) : nI c + 1 = nI (c + 1) := nI_1 c
theorem gB {α : Type} {j n : Nat} {k : Option α} (h : j < n) (hn : n < 2147483648) : gd (inB (nI j) n) k = k := gd_t (inB_nI h hn)
theorem gi {α : Type} {b : Bool} {k : Option α} : gd (isB (bI b)) k = k := gd_t (bI_isB b)
/-- signed: a difference of two days against a limit -/
theorem dl {a b k y : Nat} (ha : a < 100000) (hb : b < 100000) (hy : y ≤ 99) : (limI k y < nI a - nI b) = ¬ ((a : Int) - (b : Int) ≤ lim k y) := by
  apply propext
  rw [Int32.lt_iff_toInt_lt, limI_toInt hy, pk_sub_toInt (by omega) (by omega)]
  omega
