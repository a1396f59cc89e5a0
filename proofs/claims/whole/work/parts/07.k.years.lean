/-! years by draws -/
theorem nI_l64 {n : Nat} (h : n < 2147483648) : (nI n).toInt64 = lN n := nI_l h
def nx (d : Nat) : Nat := d * 16807 % 2147483647
theorem nx_lt (d : Nat) : nx d < 2147483647 := Nat.mod_lt _ (by omega)
theorem nx_eq {d : Nat} (h : d < 2147483647) : lN d * 16807 - lN d * 16807 / 2147483647 * 2147483647 = lN (nx d) := by
  rw [show (16807 : Int64) = lN 16807 from rfl, lN_mul, show (2147483647 : Int64) = lN 2147483647 from rfl, pk_lRem (by omega) (by omega) (by omega)]
  rfl
theorem lrem_eq {a b : Nat} (ha : a < 2147483648) (hb : 0 < b) (hb2 : b < 2147483648) : lN a - lN a / lN b * lN b = lN (a % b) := pk_lRem (by omega) hb (by omega)
theorem lN0 {a : Nat} (h : a < 2147483648) : (lg_cmp (lN a) 0 = 0) = (a = 0) := by
  apply propext
  rw [lg_cmp_eq, show (0 : Int64) = lN 0 from rfl, lN_eq h (by omega)]
section YRS
variable {σ μ : Mem} {A : Ar} {fuel : Nat}
theorem rep_none (h : A 3 = 0) (d : Nat) : rep A d = 0 := by
  unfold rep
  rw [h]
  rfl
theorem q_years (hX : XN σ A) (hM : MA (μ 5) A) (hO : AOK A) (h5 : A 5 ≤ 999) (hF : 1000 ≤ fuel) (ht : μ 0 7 = σ 13 0) (x1 x2 x3 : Int32) : QM (f_X6_years fuel σ x1 x2 x3) (f_X7_years fuel μ x1 x2 x3) μ := by
  have hC9 := hO.2.2.2.1
  unfold f_X6_years f_X7_years
  rw [ht]
  by_cases h0 : σ 13 0 = 0
  · rw [if_pos h0, if_pos h0]; exact ⟨_, _, rfl, rfl, E11.rf⟩
  rw [if_neg h0, if_neg h0]
  by_cases h1 : isN x1 0 101
  · obtain ⟨n, hn, rfl⟩ := isN_lt h1
    rw [if_neg (nI_pos (by omega)), if_neg (show ¬ (100 : Int32) < nI n by rw [show (100 : Int32) = nI 100 from rfl, lt_n (by omega) (by omega)]; omega), in_t (lo := 0) (n := 101) rfl rfl (by omega) h1, b1, z1]
    by_cases h2 : isN x2 1 1000000
    · obtain ⟨sd, hs1, hs, rfl⟩ := id h2
      rw [if_neg (show ¬ nI sd < 1 by rw [i1, lt_n (by omega) (by omega)]; omega), if_neg (show ¬ (999999 : Int32) < nI sd by rw [show (999999 : Int32) = nI 999999 from rfl, lt_n (by omega) (by omega)]; omega), in_t (lo := 1) (n := 1000000) rfl rfl (by omega) h2, b1, z1, show (2 : Int32) = nI 2 from rfl]
      by_cases h3 : isN x3 0 2
      · obtain ⟨k, hk, rfl⟩ := isN_lt h3
        obtain ⟨μ1, e1, y1, a1⟩ := ad_lay hM hO (fuel := fuel) (by omega)
        rw [below_t hk (by omega), isTwo_t hk, b1, b1, z1, z1, e1, bs]
        unfold f_X3_byDraws
        rw [hX.2.2.2.2.1, nI_l64 (by omega)]
        have fin : ∀ W r, W < 1024 → f_X3_byDraws_116 fuel σ (nI k) (nI W) (nI r) = some (if k = 0 then nI r else nI (std A (blk A W))) := by
          intro W r hW
          unfold f_X3_byDraws_116
          rw [X1_standingBy_eq hX hO (by omega) hW]
          rcases (show k = 0 ∨ k = 1 by omega) with rfl | rfl <;> rfl
        have none : A 3 = 0 → ∀ j i m τ dr W r, i + j = n → j < m → W < 1024 → E11 μ τ → AD τ A (A 0) (A 5 + i) W → ∃ μ', f_X7_years_58 fuel m τ (nI n) (nI k) dr (nI r) (nI i) = some (if k = 0 then nI r else nI (std A (blk A W)), μ') ∧ E11 μ μ' := by
          intro hz j
          induction j with
          | zero =>
            intro i m τ dr W r hi hm hW hx ha
            obtain ⟨m', rfl⟩ := suc_of hm
            rw [f_X7_years_58, if_pos (by rw [le_n (by omega) (by omega)]; omega), ad_stand ha hO hO.1 (by omega) (by omega) (by omega)]
            rcases (show k = 0 ∨ k = 1 by omega) with rfl | rfl <;> exact ⟨τ, rfl, hx⟩
          | succ j ih =>
            intro i m τ dr W r hi hm hW hx ha
            obtain ⟨m', rfl⟩ := suc_of hm
            obtain ⟨τ', e2, y2, a2⟩ := ad_day ha hO hO.1 (by omega) (by omega) (fuel := fuel) (by omega)
            rw [rep_none hz, Nat.or_zero] at a2
            rw [f_X7_years_58, if_neg (by rw [le_n (by omega) (by omega)]; omega), ad_cop ha, hz, if_pos (show nI 0 ≤ 0 by decide), e2, bs, s1]
            exact ih (i + 1) m' τ' dr W r (by omega) (by omega) hW (hx.tr y2) a2
        have key : ∀ j i m m2 τ d W r, i + j = n → j < m → j < m2 → d < 2147483647 → W < 1024 → E11 μ τ → AD τ A (A 0) (A 5 + i) W → QM (f_X3_byDraws_16 fuel σ m (nI n) (nI k) (lN d) (nI W) (nI r) (nI i)) (f_X7_years_58 fuel m2 τ (nI n) (nI k) (lN d) (nI r) (nI i)) μ := by
          intro j
          induction j with
          | zero =>
            intro i m m2 τ d W r hi hm hm2 hd hW hx ha
            obtain ⟨m', rfl⟩ := suc_of hm
            obtain ⟨m2', rfl⟩ := suc_of hm2
            rw [f_X3_byDraws_16, f_X7_years_58, if_pos (by rw [le_n (by omega) (by omega)]; omega), if_pos (by rw [le_n (by omega) (by omega)]; omega), ad_stand ha hO hO.1 (by omega) (by omega) (by omega), fin W r hW]
            rcases (show k = 0 ∨ k = 1 by omega) with rfl | rfl <;> exact ⟨_, τ, rfl, rfl, hx⟩
          | succ j ih =>
            intro i m m2 τ d W r hi hm hm2 hd hW hx ha
            obtain ⟨m', rfl⟩ := suc_of hm
            by_cases hz : A 3 = 0
            · obtain ⟨μ', g1, g2⟩ := none hz (j + 1) i m2 τ (lN d) W r hi hm2 hW hx ha
              rw [g1, f_X3_byDraws_16, if_neg (by rw [le_n (by omega) (by omega)]; omega), hX.2.2.2.2.2.2.1, hz, if_pos (show nI 0 ≤ 0 by decide), fin W r hW]
              exact ⟨_, _, rfl, rfl, g2⟩
            · obtain ⟨m2', rfl⟩ := suc_of hm2
              have hnx := nx_lt d
              have hcl : nx d % A 3 < A 3 := Nat.mod_lt _ (by omega)
              have h7 : nx d % 7 < 7 := Nat.mod_lt _ (by omega)
              obtain ⟨τ', e2, y2, a2⟩ := ad_day ha hO hO.1 (by omega) (by omega) (fuel := fuel) (by omega)
              have ha1 := ad_one ha hO hcl
              obtain ⟨τ2, e3, y3, a3⟩ := ad_day ha1 hO hO.1 (by omega) (by omega) (fuel := fuel) (by omega)
              have hg : decide (¬ lN (A 3) = 0) = true := decide_eq_true (by rw [show (0 : Int64) = lN 0 from rfl, lN_eq (by omega) (by omega)]; exact hz)
              have hrl := rep_lt hO (A 5 + i + 1)
              have hpl : 2 ^ (nx d % A 3) < 1024 := Nat.lt_of_lt_of_le (Nat.pow_lt_pow_right (a := 2) (by decide) (show nx d % A 3 < 10 by omega)) (by decide)
              have hE1 : E11 τ (mst τ 11 (55 + nx d % A 3) 1) := fun q hq => mst_ne hq
              rw [f_X3_byDraws_16, f_X7_years_58, if_neg (show ¬ nI n ≤ nI i by rw [le_n (by omega) (by omega)]; omega), if_neg (show ¬ nI n ≤ nI i by rw [le_n (by omega) (by omega)]; omega), hX.2.2.2.2.2.2.1, ad_cop ha, if_neg (show ¬ nI (A 3) ≤ 0 by rw [i0, le_n (by omega) (by omega)]; omega), if_neg (show ¬ nI (A 3) ≤ 0 by rw [i0, le_n (by omega) (by omega)]; omega), nx_eq hd, nI_l64 (by omega), lrem_eq (a := nx d) (b := A 3) (by omega) (by omega) (by omega), show (7 : Int64) = lN 7 from rfl, lrem_eq (a := nx d) (b := 7) (by omega) (by omega) (by omega), lN_i, gd_t hg, gd_t hg, a55, gB (by omega) (by omega), cl_n (by omega), hX.2.2.1, nI_add, nI_shl1 (by omega), nI_or, X1_mayRecall_eq hX hO hcl hW (by omega), ad_may ha hO hO.1 (by omega) (by omega) hcl, bs, bs, e2, e3]
              unfold f_X3_byDraws_93
              rw [hX.2.2.1, nI_add, s1, X1_whiteOn_eq hX hO (by omega) (by omega) (by omega), X1_whiteOn_eq hX hO (by omega) (by omega) (by omega)]
              simp only [bs, lN0 (show nx d % 7 < 2147483648 by omega), s1]
              by_cases c7 : nx d % 7 = 0
              · rw [if_pos c7, if_pos c7]
                cases (!W.testBit (nx d % A 3) && inLim A (A 0) (A 5 + i) (nx d % A 3)) with
                | false => exact ih (i + 1) m' m2' τ' (nx d) _ r (by omega) (by omega) (by omega) hnx (or_lt10 hW hrl) (hx.tr y2) a2
                | true => exact ih (i + 1) m' m2' τ2 (nx d) _ (r + 1) (by omega) (by omega) (by omega) hnx (or_lt10 (or_lt10 hW hpl) hrl) ((hx.tr hE1).tr y3) a3
              · rw [if_neg c7, if_neg c7]
                exact ih (i + 1) m' m2' τ' (nx d) _ r (by omega) (by omega) (by omega) hnx (or_lt10 hW hrl) (hx.tr y2) a2
        obtain ⟨r, μ', g1, g2, g3⟩ := key n 0 fuel fuel μ1 sd (wb A) 0 (by omega) (by omega) (by omega) (by omega) (wb_lt hO) y1 a1
        rw [show (0 : Int32) = nI 0 from rfl, g1, g2]
        exact ⟨r, μ', rfl, rfl, g3⟩
      · rw [below_f (by omega) h3, isTwo_f h3]; exact ⟨_, _, rfl, rfl, E11.rf⟩
    · rw [in_f (lo := 1) (n := 1000000) rfl rfl (by omega) h2, b0, z0]
      have : nI n < 0 ∨ True := Or.inr trivial
      rw [isN_iff (by omega)] at h2
      by_cases c1 : x2 < 1
      · rw [if_pos c1]; exact ⟨_, _, rfl, rfl, E11.rf⟩
      · rw [if_neg c1, if_pos (show (999999 : Int32) < x2 by
          rw [Int32.lt_iff_toInt_lt] at c1 ⊢
          rw [show (1 : Int32).toInt = 1 by decide] at c1
          rw [show (999999 : Int32).toInt = 999999 by decide]
          omega)]
        exact ⟨_, _, rfl, rfl, E11.rf⟩
  · rw [in_f (lo := 0) (n := 101) rfl rfl (by omega) h1, b0, z0]
    rw [isN_iff (by omega)] at h1
    by_cases c1 : x1 < 0
    · rw [if_pos c1]; exact ⟨_, _, rfl, rfl, E11.rf⟩
    · rw [if_neg c1, if_pos (show (100 : Int32) < x1 by
        rw [Int32.lt_iff_toInt_lt] at c1 ⊢
        rw [show (0 : Int32).toInt = 0 by decide] at c1
        rw [show (100 : Int32).toInt = 100 by decide]
        omega)]
      exact ⟨_, _, rfl, rfl, E11.rf⟩
end YRS
