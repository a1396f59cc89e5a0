/-! the order in which hands recall -/
def hat (H c k : Nat) : Nat := c / 2 ^ (2 * (H - 1 - k)) % 4
def pre (H c : Nat) : Nat → Nat
  | 0 => 0
  | k + 1 => pre H c k ||| 2 ^ hat H c k
def okk (H c : Nat) : Nat → Bool
  | 0 => true
  | k + 1 => okk H c k && (decide (hat H c k < H) && !(pre H c k).testBit (hat H c k))
def smm (A : Ar) (H c : Nat) : Nat → Nat
  | 0 => 0
  | k + 1 => smm A H c k + lsb A (pre H c (k + 1))
theorem ord_ok : ∀ H, H < 5 → ∀ c, c < 2 ^ (2 * H) → decide (pre H c H = 2 ^ H - 1) = okk H c H := by
  intro H hH c hc
  have : (List.range 5).all (fun H => (List.range (2 ^ (2 * H))).all (fun c => decide (decide (pre H c H = 2 ^ H - 1) = okk H c H))) = true := by decide +kernel
  exact of_decide_eq_true (List.all_eq_true.mp (List.all_eq_true.mp this H (List.mem_range.mpr hH)) c (List.mem_range.mpr hc))
theorem hat_lt (H c k : Nat) : hat H c k < 4 := Nat.mod_lt _ (by omega)
theorem pre_lt (H c : Nat) : ∀ k, pre H c k < 16
  | 0 => by show 0 < 16; omega
  | k + 1 => Nat.or_lt_two_pow (n := 4) (pre_lt H c k) (Nat.pow_lt_pow_right (a := 2) (by decide) (hat_lt H c k))
theorem pre_ok {H c : Nat} : ∀ {k : Nat}, okk H c k = true → pre H c k < 2 ^ H
  | 0, _ => Nat.two_pow_pos H
  | k + 1, h => by
    unfold okk at h
    simp only [Bool.and_eq_true, decide_eq_true_eq] at h
    exact Nat.or_lt_two_pow (pre_ok h.1) (p2_lt_p2 h.2.1)
theorem okk_mono {H c k : Nat} : ∀ {j : Nat}, okk H c (k + j) = true → okk H c k = true
  | 0, h => h
  | j + 1, h => by
    have h : (okk H c (k + j) && (decide (hat H c (k + j) < H) && !(pre H c (k + j)).testBit (hat H c (k + j)))) = true := h
    simp only [Bool.and_eq_true] at h
    exact okk_mono (j := j) h.1
section ORD
variable {σ μ : Mem} {A : Ar} {fuel : Nat}
theorem smm_le (hO : AOK A) {c : Nat} : ∀ k, smm A (A 2) c k ≤ 100 * k
  | 0 => Nat.le_refl _
  | k + 1 => by
    show smm A (A 2) c k + lsb A (pre (A 2) c (k + 1)) ≤ _
    have h1 := smm_le hO (c := c) k
    have h2 := lsb_le hO (pre (A 2) c (k + 1))
    omega
theorem hat_eq {H c k : Nat} (hH : H ≤ 4) (hk : k < H) (hc : c < 256) : ((nI c >>> ((2 * ((nI H - 1) - nI k)) &&& 31)) &&& 3 : Int32) = nI (hat H c k) := by
  rw [show (1 : Int32) = nI 1 from rfl, pk_sub (by omega), pk_sub (by omega), show (2 : Int32) = nI 2 from rfl, pk_mul, nI_shr (by omega) (by omega), show (3 : Int32) = nI 3 from rfl, nI_and]
  congr 1
  rw [show (3 : Nat) = 2 ^ 2 - 1 from rfl, Nat.and_two_pow_sub_one_eq_mod]
  rfl
theorem c256 {H c : Nat} (hH : H ≤ 4) (hc : c < 2 ^ (2 * H)) : c < 256 := Nat.lt_of_lt_of_le hc (Nat.pow_le_pow_right (n := 2) (i := 2 * H) (j := 8) (by decide) (by omega))
theorem sum_eq (hX : XN σ A) (hO : AOK A) (hF : 1000 ≤ fuel) (hL : ∀ s, s < 2 ^ A 2 → σ 63 s = nI (lsb A s)) {c : Nat} (hc : c < 256) : f_X3_sumOfOrder fuel σ (nI c) = some (if okk (A 2) c (A 2) = true then nI (smm A (A 2) c (A 2)) else -1) := by
  have hH := hO.2.2.1
  have key : ∀ j k n, k + j = A 2 → j < n → okk (A 2) c k = true → f_X3_sumOfOrder_8 fuel σ n (nI c) (nI (pre (A 2) c k)) (nI (smm A (A 2) c k)) (nI k) = some (if okk (A 2) c (A 2) = true then nI (smm A (A 2) c (A 2)) else -1) := by
    intro j
    induction j with
    | zero =>
      intro k n hk hn ho
      obtain ⟨m, rfl⟩ := suc_of hn
      obtain rfl : k = A 2 := by omega
      rw [f_X3_sumOfOrder_8, hX.2.2.2.2.2.1, if_pos (by rw [le_n (by omega) (by omega)]; omega), if_pos ho]
    | succ j ih =>
      intro k n hk hn ho
      obtain ⟨m, rfl⟩ := suc_of hn
      have hh := hat_lt (A 2) c k
      have hp := pre_lt (A 2) c k
      have hp1 := pre_lt (A 2) c (k + 1)
      rw [f_X3_sumOfOrder_8, hX.2.2.2.2.2.1, if_neg (by rw [le_n (by omega) (by omega)]; omega)]
      unfold f_X3_handInOrder f_X6_bitOf
      rw [hX.2.2.2.2.2.1, hat_eq hH (by omega) hc, bs, bit_bI (by omega) (by omega), bs, nI_shl1 (by omega), nI_or]
      show (if nI (A 2) ≤ nI (hat (A 2) c k) then _ else if bI _ = 1 then _ else gd (inB (nI (pre (A 2) c (k + 1))) 16) _) = _
      rw [gB (by omega) (by omega)]
      have eo : okk (A 2) c (k + 1) = (okk (A 2) c k && (decide (hat (A 2) c k < A 2) && !(pre (A 2) c k).testBit (hat (A 2) c k))) := rfl
      rw [ho, Bool.true_and] at eo
      have bad : okk (A 2) c (k + 1) = false → okk (A 2) c (A 2) = true → False := fun h1 h2 => by
        rw [show A 2 = (k + 1) + j by omega] at h2
        rw [show (k + 1) + j = A 2 by omega] at h2
        have h3 : okk (A 2) c ((k + 1) + j) = true := by rw [show (k + 1) + j = A 2 by omega]; exact h2
        rw [okk_mono h3] at h1
        exact absurd h1 (by decide)
      by_cases c1 : hat (A 2) c k < A 2
      · rw [if_neg (show ¬ nI (A 2) ≤ nI (hat (A 2) c k) by rw [le_n (by omega) (by omega)]; omega)]
        cases c2 : (pre (A 2) c k).testBit (hat (A 2) c k) with
        | true =>
          rw [c2, Bool.not_true, Bool.and_false] at eo
          rw [if_pos (show bI true = 1 from rfl), if_neg (fun q => bad eo q)]
        | false =>
          rw [c2, decide_eq_true c1] at eo
          have hlt := pre_ok (H := A 2) (c := c) (k := k + 1) eo
          rw [if_neg (show ¬ bI false = 1 by decide)]
          show f_X3_sumOfOrder_8 fuel σ m (nI c) (nI (pre (A 2) c (k + 1))) (nI (smm A (A 2) c k) + σ 63 ((nI (pre (A 2) c (k + 1))).toNatClampNeg)) (nI k + 1) = _
          rw [cl_n (by omega), hL _ hlt, nI_add, s1]
          exact ih (k + 1) m (by omega) (by omega) eo
      · rw [decide_eq_false c1, Bool.false_and] at eo
        rw [if_pos (show nI (A 2) ≤ nI (hat (A 2) c k) by rw [le_n (by omega) (by omega)]; omega), if_neg (fun q => bad eo q)]
  exact key (A 2) 0 fuel (by omega) (by omega) rfl
/-- best order and its sum, codes below n tried -/
def bo (A : Ar) : Nat → Nat × Int32
  | 0 => (0, -1)
  | c + 1 => if okk (A 2) c (A 2) = true ∧ ¬ nI (smm A (A 2) c (A 2)) ≤ (bo A c).2 then (c, nI (smm A (A 2) c (A 2))) else bo A c
theorem bo_inv (hO : AOK A) : ∀ n, ((bo A n).1 = 0 ∧ (bo A n).2 = -1 ∧ ∀ c, c < n → okk (A 2) c (A 2) = false) ∨ ((bo A n).1 < n ∧ okk (A 2) (bo A n).1 (A 2) = true ∧ (bo A n).2 = nI (smm A (A 2) (bo A n).1 (A 2)))
  | 0 => Or.inl ⟨rfl, rfl, fun c h => by omega⟩
  | n + 1 => by
    have hs := smm_le hO (c := n) (A 2)
    have hH := hO.2.2.1
    show ((if _ then _ else _ : Nat × Int32).1 = 0 ∧ (if _ then _ else _ : Nat × Int32).2 = -1 ∧ _) ∨ ((if _ then _ else _ : Nat × Int32).1 < n + 1 ∧ okk (A 2) (if _ then _ else _ : Nat × Int32).1 (A 2) = true ∧ (if _ then _ else _ : Nat × Int32).2 = nI (smm A (A 2) (if _ then _ else _ : Nat × Int32).1 (A 2)))
    by_cases h : okk (A 2) n (A 2) = true ∧ ¬ nI (smm A (A 2) n (A 2)) ≤ (bo A n).2
    · rw [if_pos h]
      exact Or.inr ⟨Nat.lt_succ_self n, h.1, rfl⟩
    · rw [if_neg h]
      rcases bo_inv hO n with ⟨h1, h2, h3⟩ | ⟨h1, h2, h3⟩
      · left
        refine ⟨h1, h2, fun c hc => ?_⟩
        rcases Nat.lt_succ_iff_lt_or_eq.mp hc with hc | rfl
        · exact h3 c hc
        · cases ho : okk (A 2) c (A 2) with
          | false => rfl
          | true =>
            exfalso
            apply h
            refine ⟨ho, ?_⟩
            rw [h2, Int32.le_iff_toInt_le, nI_toInt (by omega), show (-1 : Int32).toInt = -1 by decide]
            omega
      · exact Or.inr ⟨by omega, h2, h3⟩
theorem m1_le (hO : AOK A) (n : Nat) : (-1 : Int32) ≤ (bo A n).2 := by
  have hH := hO.2.2.1
  rcases bo_inv hO n with ⟨_, h2, _⟩ | ⟨_, _, h3⟩
  · rw [h2]; decide
  · have hs := smm_le hO (c := (bo A n).1) (A 2)
    rw [h3, Int32.le_iff_toInt_le, nI_toInt (by omega), show (-1 : Int32).toInt = -1 by decide]
    omega
theorem best_eq (hX : XN σ A) (hO : AOK A) (hF : 1000 ≤ fuel) (hL : ∀ s, s < 2 ^ A 2 → σ 63 s = nI (lsb A s)) : f_X3_bestOrder fuel σ = some (nI (bo A (2 ^ (2 * A 2))).1) := by
  have hH := hO.2.2.1
  have h256 : 2 ^ (2 * A 2) ≤ 256 := Nat.pow_le_pow_right (n := 2) (i := 2 * A 2) (j := 8) (by decide) (by omega)
  have key : ∀ j c n, c + j = 2 ^ (2 * A 2) → j < n → f_X3_bestOrder_7 fuel σ n (nI (bo A c).1) (bo A c).2 (nI c) = some (nI (bo A (2 ^ (2 * A 2))).1) := by
    intro j
    induction j with
    | zero =>
      intro c n hc hn
      obtain ⟨m, rfl⟩ := suc_of hn
      rw [f_X3_bestOrder_7, hX.2.2.2.2.2.1, show (2 : Int32) = nI 2 from rfl, pk_mul, nI_shl1 (by omega), if_pos (by rw [le_n (by omega) (by omega)]; omega), show c = 2 ^ (2 * A 2) by omega]
    | succ j ih =>
      intro c n hc hn
      obtain ⟨m, rfl⟩ := suc_of hn
      have ih := ih (c + 1) m (by omega) (by omega)
      rw [show bo A (c + 1) = if okk (A 2) c (A 2) = true ∧ ¬ nI (smm A (A 2) c (A 2)) ≤ (bo A c).2 then (c, nI (smm A (A 2) c (A 2))) else bo A c from rfl] at ih
      rw [f_X3_bestOrder_7, hX.2.2.2.2.2.1, show (2 : Int32) = nI 2 from rfl, pk_mul, nI_shl1 (by omega), if_neg (by rw [le_n (by omega) (by omega)]; omega), sum_eq hX hO hF hL (by omega), bs, s1]
      by_cases c1 : okk (A 2) c (A 2) = true
      · rw [if_pos c1]
        by_cases c2 : nI (smm A (A 2) c (A 2)) ≤ (bo A c).2
        · rw [if_neg (fun q => q.2 c2)] at ih
          rw [if_pos c2]; exact ih
        · rw [if_pos ⟨c1, c2⟩] at ih
          rw [if_neg c2]; exact ih
      · rw [if_neg (fun q => c1 q.1)] at ih
        rw [if_neg c1, if_pos (m1_le hO c)]; exact ih
  exact key (2 ^ (2 * A 2)) 0 fuel (by omega) (by omega)
theorem isOrd_eq (hM : MA (μ 5) A) (hO : AOK A) (hF : 1000 ≤ fuel) {c : Nat} (hc : c < 2 ^ (2 * A 2)) : f_X7_isOrder fuel μ (nI c) = some (bI (okk (A 2) c (A 2))) := by
  have hH := hO.2.2.1
  have h2 := c256 hH hc
  have key : ∀ j k n, k + j = A 2 → j < n → f_X7_isOrder_4 fuel μ n (nI c) (nI (pre (A 2) c k)) (nI k) = some (bI (okk (A 2) c (A 2))) := by
    intro j
    induction j with
    | zero =>
      intro k n hk hn
      obtain ⟨m, rfl⟩ := suc_of hn
      obtain rfl : k = A 2 := by omega
      have hp := pre_lt (A 2) c (A 2)
      have hq := p2_le hH
      have hpos := Nat.two_pow_pos (A 2)
      rw [f_X7_isOrder_4, hM 2 (by omega), if_pos (by rw [le_n (by omega) (by omega)]; omega), nI_shl1 (by omega), ← ord_ok (A 2) (by omega) c hc]
      have e : (nI (pre (A 2) c (A 2)) = nI (2 ^ A 2) - 1) = (pre (A 2) c (A 2) = 2 ^ A 2 - 1) := by rw [show (1 : Int32) = nI 1 from rfl, pk_sub (by omega), eq_n (by omega) (by omega)]
      simp only [e]
      by_cases e2 : pre (A 2) c (A 2) = 2 ^ A 2 - 1
      · rw [if_pos e2, decide_eq_true e2]; rfl
      · rw [if_neg e2, decide_eq_false e2]; rfl
    | succ j ih =>
      intro k n hk hn
      obtain ⟨m, rfl⟩ := suc_of hn
      have hh := hat_lt (A 2) c k
      rw [f_X7_isOrder_4, hM 2 (by omega), if_neg (by rw [le_n (by omega) (by omega)]; omega)]
      unfold f_X7_handAt
      rw [hM 2 (by omega), hat_eq hH (by omega) h2, bs, nI_shl1 (by omega), nI_or, s1]
      exact ih (k + 1) m (by omega) (by omega)
  exact key (A 2) 0 fuel (by omega) (by omega)
theorem q_order (hX : XN σ A) (hM : MA (μ 5) A) (hO : AOK A) (h5 : A 5 ≤ 999) (hF : 1000 ≤ fuel) (ht : μ 0 7 = σ 13 0) (x1 : Int32) : QX (f_X6_order fuel σ x1) (f_X7_order fuel μ x1) σ μ := by
  have hH := hO.2.2.1
  have h256 : 2 ^ (2 * A 2) ≤ 256 := Nat.pow_le_pow_right (n := 2) (i := 2 * A 2) (j := 8) (by decide) (by omega)
  unfold f_X6_order f_X7_order
  rw [ht]
  by_cases h0 : σ 13 0 = 0
  · rw [if_pos h0, if_pos h0]; exact ⟨_, _, _, rfl, rfl, E63.rf, E11.rf⟩
  rw [if_neg h0, if_neg h0, in_eq, bs]
  by_cases hr : (-1 : Int) ≤ x1.toInt ∧ x1.toInt ≤ 3
  · have hin : (decide ((-1 : Int64) ≤ x1.toInt64) && decide (x1.toInt64 ≤ 3)) = true := by
      rw [Bool.and_eq_true, decide_eq_true_iff, decide_eq_true_iff, Int64.le_iff_toInt_le, Int64.le_iff_toInt_le, i64_toInt, show (-1 : Int64).toInt = -1 by decide, show (3 : Int64).toInt = 3 by decide]
      exact hr
    rw [hin, if_neg (show ¬ bI true = 0 by decide), if_neg (show ¬ x1 < -1 by rw [Int32.lt_iff_toInt_lt, show (-1 : Int32).toInt = -1 by decide]; omega), if_pos (show x1 < 4 by rw [Int32.lt_iff_toInt_lt, show (4 : Int32).toInt = 4 by decide]; omega)]
    have mod : ∀ j c n τ, c + j = 2 ^ (2 * A 2) → j < n → E11 μ τ → ∃ μ', f_X7_order_34 fuel n τ x1 (bo A c).2 (nI (bo A c).1) (nI c) = (if 0 ≤ x1 then (if nI (A 2) ≤ x1 then some (-1000000, μ') else (f_X7_handAt μ' (nI (bo A (2 ^ (2 * A 2))).1) x1).bind fun v2 => some (v2, μ')) else some ((bo A (2 ^ (2 * A 2))).2, μ')) ∧ E11 μ μ' := by
      intro j
      induction j with
      | zero =>
        intro c n τ hc hn hx
        obtain ⟨m, rfl⟩ := suc_of hn
        obtain rfl : c = 2 ^ (2 * A 2) := by omega
        refine ⟨τ, ?_, hx⟩
        rw [f_X7_order_34, (hM.e11 hx) 2 (by omega), show (2 : Int32) = nI 2 from rfl, pk_mul, nI_shl1 (by omega), if_pos (show nI (2 ^ (2 * A 2)) ≤ nI (2 ^ (2 * A 2)) by rw [le_n (by omega) (by omega)]; omega)]
      | succ j ih =>
        intro c n τ hc hn hx
        obtain ⟨m, rfl⟩ := suc_of hn
        rw [f_X7_order_34, (hM.e11 hx) 2 (by omega), show (2 : Int32) = nI 2 from rfl, pk_mul, nI_shl1 (by omega), if_neg (show ¬ nI (2 ^ (2 * A 2)) ≤ nI c by rw [le_n (by omega) (by omega)]; omega), isOrd_eq (hM.e11 hx) hO hF (by omega), bs, s1]
        have eb : bo A (c + 1) = if okk (A 2) c (A 2) = true ∧ ¬ nI (smm A (A 2) c (A 2)) ≤ (bo A c).2 then (c, nI (smm A (A 2) c (A 2))) else bo A c := rfl
        cases c1 : okk (A 2) c (A 2) with
        | false =>
          rw [if_pos (show bI false = 0 from rfl)]
          rw [if_neg (fun q => by rw [c1] at q; exact absurd q.1 (by decide))] at eb
          have := ih (c + 1) m τ (by omega) (by omega) hx
          rw [eb] at this
          exact this
        | true =>
          rw [if_neg (show ¬ bI true = 0 by decide)]
          have inn : ∀ i k n2 τ, k + i = A 2 → i < n2 → E11 μ τ → ∃ τ', f_X7_order_67 fuel (f_X7_order_34 fuel m) n2 τ x1 (bo A c).2 (nI (bo A c).1) (nI c) (nI (pre (A 2) c k)) (nI (smm A (A 2) c k)) (nI k) = f_X7_order_34 fuel m τ' x1 (bo A (c + 1)).2 (nI (bo A (c + 1)).1) (nI (c + 1)) ∧ E11 μ τ' := by
            intro i
            induction i with
            | zero =>
              intro k n2 τ hk hn2 hx
              obtain ⟨m2, rfl⟩ := suc_of hn2
              obtain rfl : k = A 2 := by omega
              refine ⟨τ, ?_, hx⟩
              rw [f_X7_order_67, (hM.e11 hx) 2 (by omega), if_pos (show nI (A 2) ≤ nI (A 2) by rw [le_n (by omega) (by omega)]; omega)]
              unfold f_X7_order_122
              rw [s1]
              by_cases c2 : nI (smm A (A 2) c (A 2)) ≤ (bo A c).2
              · rw [if_neg (fun q => q.2 c2)] at eb
                rw [if_pos c2, if_pos c2, eb]
              · rw [if_pos ⟨c1, c2⟩] at eb
                rw [if_neg c2, if_neg c2, eb]
            | succ i ih2 =>
              intro k n2 τ hk hn2 hx
              obtain ⟨m2, rfl⟩ := suc_of hn2
              have hh := hat_lt (A 2) c k
              have hp1 := pre_lt (A 2) c (k + 1)
              obtain ⟨τ1, e1, y1⟩ := X7_lossBy_eq (hM.e11 hx) hO h5 (fuel := fuel) (by omega) hp1
              rw [f_X7_order_67, (hM.e11 hx) 2 (by omega), if_neg (show ¬ nI (A 2) ≤ nI k by rw [le_n (by omega) (by omega)]; omega)]
              unfold f_X7_handAt
              rw [(hM.e11 hx) 2 (by omega), hat_eq hH (by omega) (by omega), bs, nI_shl1 (by omega), nI_or]
              show ∃ τ', (f_X7_lossBy fuel τ (nI (pre (A 2) c (k + 1)))).bind _ = _ ∧ _
              rw [e1, bs]
              show ∃ τ', f_X7_order_67 fuel (f_X7_order_34 fuel m) m2 τ1 x1 (bo A c).2 (nI (bo A c).1) (nI c) (nI (pre (A 2) c (k + 1))) (nI (smm A (A 2) c k) + nI (lsb A (pre (A 2) c (k + 1)))) (nI k + 1) = _ ∧ _
              rw [nI_add, s1]
              exact ih2 (k + 1) m2 τ1 (by omega) (by omega) (hx.tr y1)
          obtain ⟨τ', e1, y1⟩ := inn (A 2) 0 fuel τ (by omega) (by omega) hx
          rw [show (0 : Int32) = nI 0 from rfl]
          rw [show f_X7_order_67 fuel (f_X7_order_34 fuel m) fuel τ x1 (bo A c).2 (nI (bo A c).1) (nI c) (nI 0) (nI 0) (nI 0) = _ from e1]
          exact ih (c + 1) m τ' (by omega) (by omega) y1
    obtain ⟨μ', g1, g2⟩ := mod (2 ^ (2 * A 2)) 0 fuel μ (by omega) (by omega) E11.rf
    have g1' : f_X7_order_34 fuel fuel μ x1 (-1) 0 0 = _ := g1
    rw [g1']
    have hM' := hM.e11 g2
    obtain ⟨σ', ew, xw, hL⟩ := weigh_eq hX hO hF
    have hX' := xw.xn hX
    have hbl : (bo A (2 ^ (2 * A 2))).1 < 256 := by
      rcases bo_inv hO (2 ^ (2 * A 2)) with ⟨h1, _, _⟩ | ⟨h1, _, _⟩ <;> omega
    rw [hX.2.2.2.2.2.1]
    by_cases c1 : 0 ≤ x1
    · have hj : isN x1 0 4 := by
        rw [isN_iff (by omega)]
        rw [Int32.le_iff_toInt_le, show (0 : Int32).toInt = 0 by decide] at c1
        omega
      obtain ⟨k, hk, rfl⟩ := isN_lt hj
      rw [if_pos c1]
      by_cases c2 : k < A 2
      · rw [if_pos (show nI k < nI (A 2) by rw [lt_n (by omega) (by omega)]; exact c2), if_neg (show ¬ nI (A 2) ≤ nI k by rw [le_n (by omega) (by omega)]; omega), ew, bs, best_eq hX' hO hF hL, bs, if_pos c1]
        unfold f_X3_handInOrder f_X7_handAt
        rw [hX'.2.2.2.2.2.1, hM' 2 (by omega)]
        exact ⟨_, σ', μ', rfl, rfl, xw, g2⟩
      · rw [if_neg (show ¬ nI k < nI (A 2) by rw [lt_n (by omega) (by omega)]; exact c2), if_pos (show nI (A 2) ≤ nI k by rw [le_n (by omega) (by omega)]; omega)]
        exact ⟨_, σ, μ', rfl, rfl, E63.rf, g2⟩
    · rw [if_neg c1, if_pos (show x1 < nI (A 2) by
        rw [Int32.le_iff_toInt_le, show (0 : Int32).toInt = 0 by decide] at c1
        rw [Int32.lt_iff_toInt_lt, nI_toInt (by omega)]
        omega), ew, bs, best_eq hX' hO hF hL, bs, if_neg c1, sum_eq hX' hO hF hL hbl, bs]
      refine ⟨_, σ', μ', rfl, ?_, xw, g2⟩
      congr 2
      rcases bo_inv hO (2 ^ (2 * A 2)) with ⟨h1, h2, h3⟩ | ⟨h1, h2, h3⟩
      · rw [h2, h1, if_neg (by rw [h3 0 (Nat.two_pow_pos _)]; decide)]
      · rw [h3, if_pos h2]
  · have hin : (decide ((-1 : Int64) ≤ x1.toInt64) && decide (x1.toInt64 ≤ 3)) = false := by
      cases e : (decide ((-1 : Int64) ≤ x1.toInt64) && decide (x1.toInt64 ≤ 3)) with
      | false => rfl
      | true =>
        rw [Bool.and_eq_true, decide_eq_true_iff, decide_eq_true_iff, Int64.le_iff_toInt_le, Int64.le_iff_toInt_le, i64_toInt, show (-1 : Int64).toInt = -1 by decide, show (3 : Int64).toInt = 3 by decide] at e
        exact absurd e hr
    rw [hin, if_pos (show bI false = 0 from rfl)]
    by_cases c1 : x1 < -1
    · rw [if_pos c1]; exact ⟨_, _, _, rfl, rfl, E63.rf, E11.rf⟩
    · rw [if_neg c1, if_neg (show ¬ x1 < 4 by
        rw [Int32.lt_iff_toInt_lt, show (-1 : Int32).toInt = -1 by decide] at c1
        rw [Int32.lt_iff_toInt_lt, show (4 : Int32).toInt = 4 by decide]
        omega)]
      exact ⟨_, _, _, rfl, rfl, E63.rf, E11.rf⟩
end ORD
