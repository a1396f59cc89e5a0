/-! numbers and bits -/
theorem nI_tb (n : Nat) : (nI n).toBitVec = BitVec.ofNat 32 n := rfl
theorem i32_ext {a b : Int32} (h : a.toBitVec = b.toBitVec) : a = b := Int32.toBitVec_inj.mp h
theorem nI_or (a b : Nat) : nI a ||| nI b = nI (a ||| b) := by
  apply i32_ext
  rw [Int32.toBitVec_or, nI_tb, nI_tb, nI_tb]
  apply BitVec.eq_of_getLsbD_eq
  intro i hi
  simp [BitVec.getLsbD_or, BitVec.getLsbD_ofNat, hi]
theorem nI_and (a b : Nat) : nI a &&& nI b = nI (a &&& b) := by
  apply i32_ext
  rw [Int32.toBitVec_and, nI_tb, nI_tb, nI_tb]
  apply BitVec.eq_of_getLsbD_eq
  intro i hi
  simp [BitVec.getLsbD_and, BitVec.getLsbD_ofNat, hi]
theorem nI_xor (a b : Nat) : nI a ^^^ nI b = nI (a ^^^ b) := by
  apply i32_ext
  rw [Int32.toBitVec_xor, nI_tb, nI_tb, nI_tb]
  apply BitVec.eq_of_getLsbD_eq
  intro i hi
  simp [BitVec.getLsbD_xor, BitVec.getLsbD_ofNat, hi]
theorem nI_sh (j : Nat) (h : j < 32) : ((nI j &&& 31).toBitVec.smod 32).toNat = j := by
  have : ∀ j : Fin 32, ((nI j.val &&& 31).toBitVec.smod 32).toNat = j.val := by decide +kernel
  exact this ⟨j, h⟩
theorem nI_shl1 {j : Nat} (h : j < 31) : (1 : Int32) <<< (nI j &&& 31) = nI (2 ^ j) := by
  have h2 : 2 ^ j < 2 ^ 31 := Nat.pow_lt_pow_right (by decide) h
  have := pk_shlN (n := 1) (nI j &&& 31) j (nI_sh j (by omega)) (by omega)
  rw [Nat.one_mul] at this
  exact this
theorem nI_shlv {a j : Nat} (h : j < 32) (ha : a * 2 ^ j < 2 ^ 32) : nI a <<< (nI j &&& 31) = nI (a * 2 ^ j) := pk_shlN (nI j &&& 31) j (nI_sh j h) ha
theorem nI_shr {a j : Nat} (ha : a < 2 ^ 31) (h : j < 32) : nI a >>> (nI j &&& 31) = nI (a / 2 ^ j) := pk_shrN ha (nI j &&& 31) j (nI_sh j h)
theorem nI_1' : (1 : Int32) = nI 1 := rfl
theorem nI_bit {a j : Nat} (ha : a < 2 ^ 31) (h : j < 32) : (nI a >>> (nI j &&& 31)) &&& 1 = nI (if a.testBit j then 1 else 0) := by
  rw [nI_shr ha h, nI_1', nI_and]
  congr 1
  rw [show (1 : Nat) = 2 ^ 1 - 1 from rfl, Nat.and_two_pow_sub_one_eq_mod]
  rw [Nat.testBit_eq_decide_div_mod_eq]
  have := Nat.mod_two_eq_zero_or_one (a / 2 ^ j)
  rcases this with h0 | h0 <;> simp [h0]
theorem nI_not {a b : Nat} (ha : a < 2 ^ 31) (hb : b < 2 ^ 31) : nI a &&& (nI b ^^^ (-1)) = nI (a ^^^ (a &&& b)) := by
  apply i32_ext
  rw [Int32.toBitVec_and, Int32.toBitVec_xor, nI_tb, nI_tb, nI_tb]
  apply BitVec.eq_of_getLsbD_eq
  intro i hi
  have hm : (-1 : Int32).toBitVec = BitVec.allOnes 32 := by decide
  rw [hm]
  simp only [BitVec.getLsbD_and, BitVec.getLsbD_xor, BitVec.getLsbD_ofNat, hi, decide_true, Bool.true_and, BitVec.getLsbD_allOnes, Nat.testBit_xor, Nat.testBit_and]
  cases a.testBit i <;> cases b.testBit i <;> rfl
/-- the set of the j below n of which p holds, as bits of 2 ^ g j -/
def orset (g : Nat → Nat) (p : Nat → Bool) : Nat → Nat
  | 0 => 0
  | n + 1 => orset g p n ||| (if p n then 2 ^ g n else 0)
abbrev bset (p : Nat → Bool) (n : Nat) : Nat := orset id p n
theorem orset_lt {g : Nat → Nat} {p : Nat → Bool} {m : Nat} : ∀ {n : Nat}, (∀ j, j < n → p j = true → g j < m) → orset g p n < 2 ^ m
  | 0, _ => Nat.two_pow_pos m
  | n + 1, h => by
    unfold orset
    apply Nat.or_lt_two_pow
    · exact orset_lt (fun j hj hp => h j (by omega) hp)
    · by_cases hp : p n = true
      · rw [if_pos hp]
        exact Nat.pow_lt_pow_right (by decide) (h n (by omega) hp)
      · rw [if_neg hp]
        exact Nat.two_pow_pos m
theorem orset_tb {g : Nat → Nat} {p : Nat → Bool} {i : Nat} : ∀ {n : Nat}, (orset g p n).testBit i = decide (∃ j, j < n ∧ p j = true ∧ g j = i)
  | 0 => by
    have : ¬ ∃ j, j < 0 ∧ p j = true ∧ g j = i := fun ⟨j, h, _⟩ => by omega
    simp [orset]
  | n + 1 => by
    unfold orset
    rw [Nat.testBit_or, orset_tb (n := n)]
    by_cases hp : p n = true
    · rw [if_pos hp, Nat.testBit_two_pow]
      by_cases hg : g n = i
      · have : ∃ j, j < n + 1 ∧ p j = true ∧ g j = i := ⟨n, by omega, hp, hg⟩
        simp [hg, this]
      · rw [decide_eq_false hg, Bool.or_false]
        apply decide_eq_decide.mpr
        constructor
        · exact fun ⟨j, h1, h2, h3⟩ => ⟨j, by omega, h2, h3⟩
        · exact fun ⟨j, h1, h2, h3⟩ => ⟨j, by
            rcases Nat.lt_succ_iff_lt_or_eq.mp h1 with h | h
            · exact h
            · subst h; exact absurd h3 hg, h2, h3⟩
    · rw [if_neg hp, Nat.zero_testBit, Bool.or_false]
      apply decide_eq_decide.mpr
      constructor
      · exact fun ⟨j, h1, h2, h3⟩ => ⟨j, by omega, h2, h3⟩
      · exact fun ⟨j, h1, h2, h3⟩ => ⟨j, by
          rcases Nat.lt_succ_iff_lt_or_eq.mp h1 with h | h
          · exact h
          · subst h; exact absurd h2 hp, h2, h3⟩
theorem bset_tb {p : Nat → Bool} {n i : Nat} : (bset p n).testBit i = (decide (i < n) && p i) := by
  unfold bset
  rw [orset_tb]
  by_cases h : i < n
  · by_cases hp : p i = true
    · rw [decide_eq_true h, hp]
      exact decide_eq_true ⟨i, h, hp, rfl⟩
    · have : ¬ ∃ j, j < n ∧ p j = true ∧ id j = i := fun ⟨j, h1, h2, h3⟩ => hp (by rw [← h3]; exact h2)
      rw [decide_eq_false this]
      simp [hp]
  · have : ¬ ∃ j, j < n ∧ p j = true ∧ id j = i := fun ⟨j, h1, h2, h3⟩ => h (by rw [← h3]; exact h1)
    rw [decide_eq_false this]
    simp [h]
theorem bset_lt {p : Nat → Bool} {n m : Nat} (h : n ≤ m) : bset p n < 2 ^ m := orset_lt (fun j hj _ => by show j < m; omega)
theorem orset_congr {g g' : Nat → Nat} {p p' : Nat → Bool} : ∀ {n : Nat}, (∀ j, j < n → p j = p' j ∧ (p j = true → g j = g' j)) → orset g p n = orset g' p' n
  | 0, _ => rfl
  | n + 1, h => by
    unfold orset
    rw [orset_congr (n := n) (fun j hj => h j (by omega))]
    obtain ⟨h1, h2⟩ := h n (by omega)
    rw [← h1]
    by_cases hp : p n = true
    · rw [if_pos hp, if_pos hp, h2 hp]
    · rw [if_neg hp, if_neg hp]
theorem bset_eq {p : Nat → Bool} {n w : Nat} (h : ∀ i, w.testBit i = (decide (i < n) && p i)) : w = bset p n := Nat.eq_of_testBit_eq (fun i => by rw [h, bset_tb])
theorem gd_t {α : Type} {c : Bool} {k : Option α} (h : c = true) : gd c k = k := by rw [h]; rfl
theorem inB_nI {j n : Nat} (h : j < n) (hn : n < 2 ^ 31) : inB (nI j) n = true := by
  unfold inB
  rw [decide_eq_true_eq]
  exact nI_in h hn
theorem lt1 {a b : Nat} (h : a < b) (hb : b < 2 ^ 31) : ¬ nI b ≤ nI a := nI_ge h hb
theorem if_t {α : Type} {c : Prop} [Decidable c] {a b : α} (h : c) : (if c then a else b) = a := if_pos h
theorem if_f {α : Type} {c : Prop} [Decidable c] {a b : α} (h : ¬ c) : (if c then a else b) = b := if_neg h
theorem nI_eq0 {a : Nat} (h : a < 2 ^ 31) : nI a = 0 ↔ a = 0 := nI_eq h (by decide)
theorem nI_eqL {a b : Nat} (ha : a < 2 ^ 31) (hb : b < 2 ^ 31) : nI a = nI b ↔ a = b := nI_eq ha hb
