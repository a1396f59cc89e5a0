/-! foretold: falls, loss, ransom, ahead, first, safe, law, self -/
def fal (A : Ar) (hs : Nat) : Nat := std A (blk A (wb A)) ^^^ (std A (blk A (wb A)) &&& std A (blk A (wb A ||| recs A hs (A 0))))
/-- worth of the deeds below n that are in f -/
def los (A : Ar) (f : Nat) : Nat → Nat
  | 0 => 0
  | n + 1 => los A f n + (if f.testBit n then A (80 + n) else 0)
theorem los_le {A : Ar} {f : Nat} : ∀ {n : Nat}, (∀ d, d < n → A (80 + d) ≤ 20) → los A f n ≤ 20 * n
  | 0, _ => Nat.le_refl _
  | n + 1, h => by
    show los A f n + _ ≤ _
    have h1 := los_le (A := A) (f := f) (n := n) (fun d hd => h d (by omega))
    have h2 := h n (by omega)
    split <;> omega
theorem xor_lt32 {a b : Nat} (ha : a < 32) : a ^^^ (a &&& b) < 32 := Nat.xor_lt_two_pow (n := 5) ha (Nat.lt_of_le_of_lt Nat.and_le_left ha)
theorem fal_lt {A : Ar} (hO : AOK A) (hs : Nat) : fal A hs < 32 := xor_lt32 (std_lt hO _)
def lsb (A : Ar) (hs : Nat) : Nat := los A (fal A hs) (A 4)
theorem lsb_le {A : Ar} (hO : AOK A) (hs : Nat) : lsb A hs ≤ 100 := by
  have h := los_le (A := A) (f := fal A hs) (n := A 4) (fun d hd => (hO.2.2.2.2.2.2.2.2 d hd).2.2.2.2)
  have := hO.2.2.2.2.1
  unfold lsb
  omega
section F1
variable {σ μ : Mem} {A : Ar} {fuel : Nat}
theorem X3_fallenBy_eq (hX : XN σ A) (hO : AOK A) (hF : 100 ≤ fuel) {hs : Nat} (hs9 : hs < 16) : f_X3_fallenBy fuel σ (nI hs) = some (nI (fal A hs)) := by
  have hl1 := wb_lt hO
  have hl2 := recs_lt hO hs (A 0)
  have hs1 := std_lt hO (blk A (wb A))
  have hs2 := std_lt hO (blk A (wb A ||| recs A hs (A 0)))
  unfold f_X3_fallenBy
  rw [hX.1, X1_whiteAfter_eq hX hO hF hs9 hO.1, bs, X1_standingBy_eq hX hO hF (or_lt10 hl1 hl2), bs, hX.2.2.2.2.1, X1_standingBy_eq hX hO hF hl1, bs, nI_not (by omega) (by omega)]
  rfl
theorem X3_lossBy_eq (hX : XN σ A) (hO : AOK A) (hF : 100 ≤ fuel) {hs : Nat} (hs9 : hs < 16) : f_X3_lossBy fuel σ (nI hs) = some (nI (lsb A hs)) := by
  have hN9 := hO.2.2.2.2.1
  have hf := fal_lt hO hs
  obtain ⟨hY, hR, hD, hSp, hW, hH, hC, hN, hk, hcs, hds⟩ := id hX
  have key : ∀ k i n, i + k = A 4 → k < n → f_X3_lossBy_13 fuel σ n (nI (fal A hs)) (nI (los A (fal A hs) i)) (nI i) = some (nI (lsb A hs)) := by
    intro k
    induction k with
    | zero =>
      intro i n hi hn
      obtain ⟨m, rfl⟩ := suc_of hn
      rw [f_X3_lossBy_13, hN, if_pos (by rw [le_n (by omega) (by omega)]; omega), show i = A 4 by omega]
      rfl
    | succ k ih =>
      intro i n hi hn
      obtain ⟨m, rfl⟩ := suc_of hn
      have hil : i < A 4 := by omega
      have ih := ih (i + 1) m (by omega) (by omega)
      rw [f_X3_lossBy_13, hN, if_neg (by rw [le_n (by omega) (by omega)]; omega), gB (by omega) (by omega), cl_n (by omega), (hds i hil).2.2.2, nI_add, s1]
      unfold f_X6_bitOf
      rw [bit_bI (by omega) (by omega)]
      rw [show los A (fal A hs) (i + 1) = los A (fal A hs) i + (if (fal A hs).testBit i then A (80 + i) else 0) from rfl] at ih
      revert ih
      cases (fal A hs).testBit i <;> exact fun ih => ih
  unfold f_X3_lossBy
  rw [X3_fallenBy_eq hX hO hF hs9, bs]
  exact key (A 4) 0 fuel (by omega) (by omega)
theorem X7_fallsBy_eq (hM : MA (μ 5) A) (hO : AOK A) (h5 : A 5 ≤ 999) (hF : 100 ≤ fuel) {hs : Nat} (hs9 : hs < 16) : ∃ μ', f_X7_fallsBy fuel μ (nI hs) = some (nI (fal A hs), μ') ∧ E11 μ μ' := by
  obtain ⟨μ1, e1, x1, a1⟩ := ad_lay hM hO hF
  obtain ⟨μ2, e2, x2, a2⟩ := ad_rec a1 hO hO.1 (Nat.le_refl _) (by omega) hF hs9
  have hs1 := std_lt hO (blk A (wb A))
  have hs2 := std_lt hO (blk A (wb A ||| recs A hs (A 0)))
  refine ⟨μ2, ?_, x1.tr x2⟩
  unfold f_X7_fallsBy
  rw [e1, bs, e2, bs, X7_stand_n_eq (hM.e11 (x1.tr x2)) hO hF, bs, ad_stand a2 hO hO.1 (Nat.le_refl _) (by omega) hF, bs]
  show some (nI _ &&& (nI (std A (blk A (wb A ||| recs A hs (A 0)))) ^^^ (-1)), _) = _
  rw [nI_not (by omega) (by omega)]
  rfl
theorem X7_lossBy_eq (hM : MA (μ 5) A) (hO : AOK A) (h5 : A 5 ≤ 999) (hF : 100 ≤ fuel) {hs : Nat} (hs9 : hs < 16) : ∃ μ', f_X7_lossBy fuel μ (nI hs) = some (nI (lsb A hs), μ') ∧ E11 μ μ' := by
  obtain ⟨μ1, e1, x1⟩ := X7_fallsBy_eq hM hO h5 hF hs9
  have hM1 := hM.e11 x1
  have hN9 := hO.2.2.2.2.1
  have hf := fal_lt hO hs
  have key : ∀ k i n, i + k = A 4 → k < n → f_X7_lossBy_11 fuel n μ1 (nI (fal A hs)) (nI (los A (fal A hs) i)) (nI i) = some (nI (lsb A hs), μ1) := by
    intro k
    induction k with
    | zero =>
      intro i n hi hn
      obtain ⟨m, rfl⟩ := suc_of hn
      rw [f_X7_lossBy_11, hM1 4 (by omega), if_pos (by rw [le_n (by omega) (by omega)]; omega), show i = A 4 by omega]
      rfl
    | succ k ih =>
      intro i n hi hn
      obtain ⟨m, rfl⟩ := suc_of hn
      have hil : i < A 4 := by omega
      have ih := ih (i + 1) m (by omega) (by omega)
      rw [f_X7_lossBy_11, hM1 4 (by omega), if_neg (by rw [le_n (by omega) (by omega)]; omega), a80, gB (by omega) (by omega), cl_n (by omega), hM1 (80 + i) (by omega), bit_bI (by omega) (by omega), s1]
      rw [show los A (fal A hs) (i + 1) = los A (fal A hs) i + (if (fal A hs).testBit i then A (80 + i) else 0) from rfl] at ih
      revert ih
      cases (fal A hs).testBit i with
      | false =>
        intro ih
        rw [show bI false = nI 0 from rfl, pk_mul, Nat.zero_mul, nI_add]
        exact ih
      | true =>
        intro ih
        rw [show bI true = nI 1 from rfl, pk_mul, Nat.one_mul, nI_add]
        exact ih
  refine ⟨μ1, ?_, x1⟩
  unfold f_X7_lossBy
  rw [e1, bs]
  exact key (A 4) 0 fuel (by omega) (by omega)
theorem q_falls (hX : XN σ A) (hM : MA (μ 5) A) (hO : AOK A) (h5 : A 5 ≤ 999) (hF : 100 ≤ fuel) (ht : μ 0 7 = σ 13 0) (x1 x2 : Int32) : QM (f_X6_falls fuel σ x1 x2) (f_X7_falls fuel μ x1 x2) μ := by
  unfold f_X6_falls f_X7_falls
  rw [ht]
  by_cases h0 : σ 13 0 = 0
  · rw [if_pos h0, if_pos h0]; exact ⟨_, _, rfl, rfl, E11.rf⟩
  rw [if_neg h0, if_neg h0]
  by_cases h1 : isN x1 0 (2 ^ A 2)
  · obtain ⟨hs, hh, rfl⟩ := isN_lt h1
    have hs9 : hs < 16 := Nat.lt_of_lt_of_le hh (p2_le hO.2.2.1)
    rw [isHsX_t hX.2.2.2.2.2.1 hO hh, areHM_t hM hO hh, b1, b1, z1, z1, show (2 : Int32) = nI 2 from rfl]
    by_cases h2 : isN x2 0 2
    · obtain ⟨k, hk, rfl⟩ := isN_lt h2
      obtain ⟨m1, e1, y1⟩ := X7_fallsBy_eq hM hO h5 hF hs9
      obtain ⟨m2, e2, y2⟩ := X7_lossBy_eq hM hO h5 hF hs9
      rw [below_t hk (by omega), isTwo_t hk, b1, b1, z1, z1, X3_fallenBy_eq hX hO hF hs9, X3_lossBy_eq hX hO hF hs9, e1, e2]
      rcases (show k = 0 ∨ k = 1 by omega) with rfl | rfl
      · exact ⟨_, _, rfl, rfl, y1⟩
      · exact ⟨_, _, rfl, rfl, y2⟩
    · rw [below_f (by omega) h2, isTwo_f h2]; exact ⟨_, _, rfl, rfl, E11.rf⟩
  · rw [isHsX_f hX.2.2.2.2.2.1 hO h1, areHM_f hM hO h1]; exact ⟨_, _, rfl, rfl, E11.rf⟩
theorem p2_lt16 {h n : Nat} (hh : h < n) (hn : n ≤ 4) : 2 ^ h < 16 := Nat.lt_of_lt_of_le (Nat.pow_lt_pow_right (a := 2) (by decide) (show h < 4 by omega)) (by decide)
theorem q_ransom (hX : XN σ A) (hM : MA (μ 5) A) (hO : AOK A) (h5 : A 5 ≤ 999) (hF : 100 ≤ fuel) (x1 : Int32) : QM (f_X6_ransom fuel σ x1) (f_X7_ransom fuel μ x1) μ := by
  unfold f_X6_ransom f_X7_ransom
  have hH := hO.2.2.1
  by_cases h1 : isN x1 0 (A 2)
  · obtain ⟨h, hh, rfl⟩ := isN_lt h1
    have hs9 := p2_lt16 hh hH
    obtain ⟨m2, e2, y2⟩ := X7_lossBy_eq hM hO h5 hF hs9
    rw [isHandX_t hX.2.2.2.2.2.1 hO hh, isHandM_t hM hO hh, b1, b1, z1, z1, nI_shl1 (by omega), X3_lossBy_eq hX hO hF hs9, e2]
    exact ⟨_, _, rfl, rfl, y2⟩
  · rw [isHandX_f hX.2.2.2.2.2.1 hO h1, isHandM_f hM hO h1]; exact ⟨_, _, rfl, rfl, E11.rf⟩
/-- days go on aside: from d on k of them -/
theorem ad_days {W : Nat} : ∀ {k d : Nat}, W ||| rep A d = W → rep A d ||| rep A (d + k) = rep A (d + k) := fun {k d} _ => rep_sub (by omega)
theorem X6_ahead_neg {x : Int32} (h : ¬ isN x 0 201) : x < 0 ∨ (¬ x < 0 ∧ 200 < x) := by
  rw [isN_iff (by omega)] at h
  rw [Int32.lt_iff_toInt_lt, Int32.lt_iff_toInt_lt, show (0 : Int32).toInt = 0 by decide, show (200 : Int32).toInt = 200 by decide]
  omega
theorem rep_or {a b : Nat} (h : a ≤ b) (W : Nat) : (W ||| rep A a) ||| rep A b = W ||| rep A b := by rw [Nat.or_assoc, rep_sub h]
theorem q_ahead (hX : XN σ A) (hM : MA (μ 5) A) (hO : AOK A) (h5 : A 5 ≤ 999) (hP : RP A) (hF : 1000 ≤ fuel) (ht : μ 0 7 = σ 13 0) (x1 x2 : Int32) : QM (f_X6_ahead fuel σ x1 x2) (f_X7_ahead fuel μ x1 x2) μ := by
  unfold f_X6_ahead f_X7_ahead
  rw [ht]
  by_cases h0 : σ 13 0 = 0
  · rw [if_pos h0, if_pos h0]; exact ⟨_, _, rfl, rfl, E11.rf⟩
  rw [if_neg h0, if_neg h0]
  by_cases h1 : isN x1 0 201
  · obtain ⟨n, hn, rfl⟩ := isN_lt h1
    rw [if_neg (nI_pos (by omega)), if_neg (show ¬ (200 : Int32) < nI n by rw [show (200 : Int32) = nI 200 from rfl, lt_n (by omega) (by omega)]; omega), in_t (lo := 0) (n := 201) rfl rfl (by omega) h1, b1, z1, show (3 : Int32) = nI 3 from rfl]
    by_cases h2 : isN x2 0 3
    · obtain ⟨k, hk, rfl⟩ := isN_lt h2
      have hl1 := wb_lt hO
      have hl2 := rep_lt hO (A 5 + n)
      have hl := or_lt10 hl1 hl2
      obtain ⟨μ1, e1, y1, a1⟩ := ad_lay hM hO (fuel := fuel) (by omega)
      rw [below_t hk (by omega), in_t (lo := 0) (n := 3) rfl rfl (by omega) h2, b1, b1, z1, z1, hX.2.2.1, hX.2.2.2.2.1, nI_add, X1_whiteOn_eq hX hO (by omega) (by omega) (by omega), bs, X1_blackBy_eq hX hO (by omega) hl, X1_standingBy_eq hX hO (by omega) hl, e1, bs]
      have key : ∀ j i m τ, i + j = n → j < m → E11 μ τ → AD τ A (A 0) (A 5 + i) (wb A ||| rep A (A 5 + i)) → ∃ μ', f_X7_ahead_43 fuel m τ (nI n) (nI k) (nI i) = some (if k = 0 then nI (blk A (wb A ||| rep A (A 5 + n))) else if k = 1 then nI (std A (blk A (wb A ||| rep A (A 5 + n)))) else nI (wb A ||| rep A (A 5 + n)), μ') ∧ E11 μ μ' := by
        intro j
        induction j with
        | zero =>
          intro i m τ hi hm hx ha
          obtain ⟨m', rfl⟩ := suc_of hm
          obtain rfl : i = n := by omega
          rw [f_X7_ahead_43, if_pos (by rw [le_n (by omega) (by omega)]; omega), ad_black ha hO hO.1 (by omega) (by omega) (by omega), ad_stand ha hO hO.1 (by omega) (by omega) (by omega), ad_wset ha hO hO.1 (by omega) (by omega) (by omega)]
          rcases (show k = 0 ∨ k = 1 ∨ k = 2 by omega) with rfl | rfl | rfl <;> exact ⟨τ, rfl, hx⟩
        | succ j ih =>
          intro i m τ hi hm hx ha
          obtain ⟨m', rfl⟩ := suc_of hm
          obtain ⟨τ', e2, y2, a2⟩ := ad_day ha hO hO.1 (by omega) (by omega) (fuel := fuel) (by omega)
          rw [f_X7_ahead_43, if_neg (by rw [le_n (by omega) (by omega)]; omega), e2, bs, s1]
          rw [rep_or (by omega)] at a2
          exact ih (i + 1) m' τ' (by omega) (by omega) (hx.tr y2) a2
      obtain ⟨μ', e2, y2⟩ := key n 0 fuel μ1 (by omega) (by omega) y1 (by rw [Nat.add_zero, rep_now hP]; exact a1)
      simp only [bs]
      rw [show (0 : Int32) = nI 0 from rfl, e2]
      rcases (show k = 0 ∨ k = 1 ∨ k = 2 by omega) with rfl | rfl | rfl <;> exact ⟨_, μ', rfl, rfl, y2⟩
    · rw [below_f (by omega) h2, in_f (lo := 0) (n := 3) rfl rfl (by omega) h2]; exact ⟨_, _, rfl, rfl, E11.rf⟩
  · rw [in_f (lo := 0) (n := 201) rfl rfl (by omega) h1, b0, z0]
    rcases X6_ahead_neg h1 with h | ⟨h, h'⟩
    · rw [if_pos h]; exact ⟨_, _, rfl, rfl, E11.rf⟩
    · rw [if_neg h, if_pos h']; exact ⟨_, _, rfl, rfl, E11.rf⟩
theorem X6_first_neg {x : Int32} (h : ¬ isN x 1 201) : x < 1 ∨ (¬ x < 1 ∧ ¬ x ≤ 200) := by
  rw [isN_iff (by omega)] at h
  rw [Int32.lt_iff_toInt_lt, Int32.le_iff_toInt_le, show (1 : Int32).toInt = 1 by decide, show (200 : Int32).toInt = 200 by decide]
  omega
theorem q_first (hX : XN σ A) (hM : MA (μ 5) A) (hO : AOK A) (h5 : A 5 ≤ 999) (hP : RP A) (hF : 1000 ≤ fuel) (x1 x2 : Int32) : QM (f_X6_first fuel σ x1 x2) (f_X7_first fuel μ x1 x2) μ := by
  have hN9 := hO.2.2.2.2.1
  unfold f_X6_first f_X7_first
  by_cases h1 : isN x1 0 (A 4)
  · obtain ⟨e, he, rfl⟩ := isN_lt h1
    rw [isDeedX_t hX.2.2.2.2.2.2.2.1 hO he, isDeedM_t hM hO he, b1, b1, z1, z1]
    by_cases h2 : isN x2 1 201
    · obtain ⟨n, hn1, hn, rfl⟩ := id h2
      obtain ⟨μ1, e1, y1, a1⟩ := ad_lay hM hO (fuel := fuel) (by omega)
      rw [if_neg (show ¬ nI n < 1 by rw [i1, lt_n (by omega) (by omega)]; omega), if_pos (show nI n ≤ 200 by rw [show (200 : Int32) = nI 200 from rfl, le_n (by omega) (by omega)]; omega), in_t (lo := 1) (n := 201) rfl rfl (by omega) h2, b1, z1, e1, bs]
      unfold f_X3_firstFall
      have key : ∀ j i m m2 τ, i + j = n → j < m → j < m2 → E11 μ τ → AD τ A (A 0) (A 5 + i) (wb A ||| rep A (A 5 + i)) → QM (f_X3_firstFall_3 fuel σ m (nI e) (nI n) (nI i)) (f_X7_first_29 fuel m2 τ (nI e) (nI n) (nI i)) μ := by
        intro j
        induction j with
        | zero =>
          intro i m m2 τ hi hm hm2 hx ha
          obtain ⟨m', rfl⟩ := suc_of hm
          obtain ⟨m2', rfl⟩ := suc_of hm2
          rw [f_X3_firstFall_3, f_X7_first_29, if_pos (by rw [le_n (by omega) (by omega)]; omega), if_pos (by rw [le_n (by omega) (by omega)]; omega)]
          exact ⟨_, _, rfl, rfl, hx⟩
        | succ j ih =>
          intro i m m2 τ hi hm hm2 hx ha
          obtain ⟨m', rfl⟩ := suc_of hm
          obtain ⟨m2', rfl⟩ := suc_of hm2
          obtain ⟨τ', e2, y2, a2⟩ := ad_day ha hO hO.1 (by omega) (by omega) (fuel := fuel) (by omega)
          rw [rep_or (by omega)] at a2
          have hl := or_lt10 (wb_lt hO) (rep_lt hO (A 5 + i + 1))
          have hst := std_lt hO (blk A (wb A ||| rep A (A 5 + i + 1)))
          rw [f_X3_firstFall_3, f_X7_first_29, if_neg (by rw [le_n (by omega) (by omega)]; omega), if_neg (by rw [le_n (by omega) (by omega)]; omega), hX.2.2.1, hX.2.2.2.2.1, nI_add, s1, X1_whiteOn_eq hX hO (by omega) (by omega) (by omega), bs, X1_standingBy_eq hX hO (by omega) hl, bs, e2, bs, ad_stand a2 hO hO.1 (by omega) (by omega) (by omega), bs]
          unfold f_X6_bitOf
          rw [bit_bI (by omega) (by omega), bs, s1]
          cases (std A (blk A (wb A ||| rep A (A 5 + i + 1)))).testBit e with
          | false => exact ⟨_, _, rfl, rfl, hx.tr y2⟩
          | true => exact ih (i + 1) m' m2' τ' (by omega) (by omega) (by omega) (hx.tr y2) a2
      obtain ⟨r, μ', g1, g2, g3⟩ := key n 0 fuel fuel μ1 (by omega) (by omega) (by omega) y1 (by rw [Nat.add_zero, rep_now hP]; exact a1)
      rw [show (0 : Int32) = nI 0 from rfl, g1, g2]
      exact ⟨r, μ', rfl, rfl, g3⟩
    · rw [in_f (lo := 1) (n := 201) rfl rfl (by omega) h2, b0, z0]
      rcases X6_first_neg h2 with h | ⟨h, h'⟩
      · rw [if_pos h]; exact ⟨_, _, rfl, rfl, E11.rf⟩
      · rw [if_neg h, if_neg h']; exact ⟨_, _, rfl, rfl, E11.rf⟩
  · rw [isDeedX_f hX.2.2.2.2.2.2.2.1 hO h1, isDeedM_f hM hO h1]; exact ⟨_, _, rfl, rfl, E11.rf⟩
end F1
