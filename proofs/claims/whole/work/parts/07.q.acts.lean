/-! acts: what is remembered -/
theorem Sim.acts {σ σ' μ μ' : Mem} (h : Sim σ μ) (r : ∀ q, (q < 13 ∨ (24 ≤ q ∧ q ≤ 58) ∨ 62 ≤ q) → σ' q = σ q) (m : ∀ q, q ≠ 0 → q ≠ 5 → q ≠ 6 → μ' q = μ q) (m0 : ∀ k, k ≠ 9 → μ' 0 k = μ 0 k) (hA : SA σ' μ') : Sim σ' μ' := by
  obtain ⟨h1, h2, h3, h4, h5, h6, h7⟩ := h
  refine ⟨SR_congr h1 (fun q hq => r q (by omega)) (m 1 (by omega) (by omega) (by omega)) (m 2 (by omega) (by omega) (by omega)) (m 3 (by omega) (by omega) (by omega)), ?_, ?_, ?_, hA, SI_congr h6 (fun q hq => r q (by omega)) (m 7 (by omega) (by omega) (by omega)) (m 8 (by omega) (by omega) (by omega)), ?_⟩
  · rw [r 0 (by omega), m0 3 (by omega)]; exact h2
  · rw [r 0 (by omega), m0 6 (by omega)]; exact h3
  · rw [r 46 (by omega), r 47 (by omega), m0 5 (by omega), m 4 (by omega) (by omega) (by omega)]; exact h4
  · rw [r 66 (by omega), r 67 (by omega), m0 13 (by omega), m 9 (by omega) (by omega) (by omega)]; exact h7
section ACT
variable {σ μ : Mem} {fuel : Nat} {A : Ar} {a : Nat} {B : Nat → Ar}
/-- what an act's keeping gives, on both sides -/
def KR (σ μ σ' μ' : Mem) (s : Int32) (A : Ar) : Prop := (∀ q, q ≠ 59 → q ≠ 60 → q ≠ 61 → σ' q = σ q) ∧ (∀ q, q ≠ 0 → q ≠ 6 → μ' q = μ q) ∧ (∀ k, k ≠ 9 → μ' 0 k = μ 0 k) ∧
  ∃ a, a < 24 ∧ σ' 59 2 = nI (a + 1) ∧ μ' 0 9 = nI (a + 1) ∧ ∀ A', Und s (nI (wb A)) A A' → ∃ B, HH (σ' 60) (σ' 61) (μ' 6) (a + 1) B ∧ B (a + 1) = A'
theorem kr45 (hF : 2100 ≤ fuel) (ha : a < 24) (hH : HH (σ 60) (σ 61) (μ 6) a B) (hB : B a = A) (h59 : σ 59 2 = nI a) (h9 : μ 0 9 = nI a) (hM : MA (μ 5) A) (hO : AOK A) (hD : A 5 ≤ 999) (hP : RP A) (s : Int32) : ∃ σ' μ', f_X0_keep_45 σ s (nI (wb A)) = some σ' ∧ f_X7_remember_49 fuel μ = some μ' ∧ KR σ μ σ' μ' s A := by
  unfold f_X0_keep_45 f_X7_remember_49
  rw [h59, h9, gB (by omega) (by omega), gB (by omega) (by omega), cl_n (by omega), show (85 : Int32) = nI 85 from rfl, pk_mul, s1]
  obtain ⟨μ1, e1, f1, v1, w1⟩ := X7_copies_5_6_eq (σ := μ) (fuel := fuel) (i := 0) (j := 85 * a) (by omega) (by omega) (by omega)
  rw [show f_X7_copies_5_6 fuel μ 0 (nI (85 * a)) = some μ1 from e1, bs, f1 0 (by omega), h9, s1]
  refine ⟨_, _, rfl, rfl, fun q q1 q2 q3 => ?_, fun q q1 q2 => ?_, fun k hk => ?_, a, ha, ?_, ?_, fun A' hU => ⟨fun j => if j = a + 1 then A' else B j, ⟨by omega, ?_⟩, if_pos rfl⟩⟩
  · rw [mst_ne q1, mst_ne q3, mst_ne q2]
  · rw [mst_ne q1, f1 q q2]
  · rw [mst_at, f1 0 (by omega)]; exact if_neg hk
  · rw [mst_at]; exact if_pos rfl
  · rw [mst_at]; exact if_pos rfl
  · intro j hj
    rw [mst_ne (show 60 ≠ 59 by omega), mst_ne (show 60 ≠ 61 by omega), mst_at, mst_ne (show 61 ≠ 59 by omega), mst_at, mst_ne (show 61 ≠ 60 by omega), mst_ne (show 6 ≠ 0 by omega)]
    by_cases e : j = a
    · subst e
      simp only [if_neg (show ¬ j = j + 1 by omega), if_pos (show j + 1 = j + 1 from rfl), hB]
      refine ⟨hO, hD, hP, fun i hi => ?_, ?_⟩
      · rw [v1 i hi, Nat.zero_add]; exact hM i hi
      · rw [show upd (σ 60) j s j = s from if_pos rfl, show upd (σ 61) j (nI (wb A)) j = nI (wb A) from if_pos rfl]; exact hU
    · obtain ⟨k1, k2, k3, k4, k5⟩ := hH.2 j (by omega)
      simp only [if_neg (show ¬ j = a + 1 by omega), if_neg (show ¬ j + 1 = a + 1 by omega)]
      refine ⟨k1, k2, k3, fun i hi => ?_, ?_⟩
      · rw [w1 _ (by omega)]; exact k4 i hi
      · rw [show upd (σ 60) a s j = σ 60 j from if_neg e, show upd (σ 61) a (nI (wb A)) j = σ 61 j from if_neg e]; exact k5
theorem shM (hF : 2100 ≤ fuel) : ∃ μ', f_X7_remember_11 fuel fuel μ 0 = f_X7_remember_49 fuel (mst μ' 0 9 (μ 0 9 - 1)) ∧ (∀ q, q ≠ 6 → μ' q = μ q) ∧ ∀ i, i < 1955 → μ' 6 i = μ 6 (i + 85) := by
  have key : ∀ k i n τ, i + k = 1955 → k < n → (∀ q, q ≠ 6 → τ q = μ q) → (∀ j, j < i → τ 6 j = μ 6 (j + 85)) → (∀ j, i ≤ j → τ 6 j = μ 6 j) → ∃ μ', f_X7_remember_11 fuel n τ (nI i) = f_X7_remember_49 fuel (mst μ' 0 9 (μ 0 9 - 1)) ∧ (∀ q, q ≠ 6 → μ' q = μ q) ∧ ∀ i, i < 1955 → μ' 6 i = μ 6 (i + 85) := by
    intro k
    induction k with
    | zero =>
      intro i n τ hi hn h1 h2 h3
      obtain ⟨m, rfl⟩ := suc_of hn
      rw [f_X7_remember_11, show (1955 : Int32) = nI 1955 from rfl, if_pos (show nI 1955 ≤ nI i by rw [le_n (by omega) (by omega)]; omega), h1 0 (by omega)]
      exact ⟨τ, rfl, h1, fun j hj => h2 j (by omega)⟩
    | succ k ih =>
      intro i n τ hi hn h1 h2 h3
      obtain ⟨m, rfl⟩ := suc_of hn
      rw [f_X7_remember_11, show (1955 : Int32) = nI 1955 from rfl, if_neg (show ¬ nI 1955 ≤ nI i by rw [le_n (by omega) (by omega)]; omega), show nI i + 85 = nI (i + 85) from nI_add i 85, gB (by omega) (by omega), gB (by omega) (by omega), cl_n (by omega), cl_n (by omega), s1]
      refine ih (i + 1) m _ (by omega) (by omega) (fun q hq => by rw [mst_ne hq]; exact h1 q hq) (fun j hj => ?_) (fun j hj => ?_)
      · rw [mst_at]
        unfold upd
        by_cases e : j = i
        · rw [if_pos e, e]; exact h3 _ (by omega)
        · rw [if_neg e]; exact h2 j (by omega)
      · rw [mst_at]
        unfold upd
        rw [if_neg (by omega)]; exact h3 j (by omega)
  exact key 1955 0 fuel μ (by omega) (by omega) (fun q _ => rfl) (fun j hj => by omega) (fun j _ => rfl)
theorem kr (hF : 2100 ≤ fuel) (hH : HH (σ 60) (σ 61) (μ 6) a B) (hB : B a = A) (h59 : σ 59 2 = nI a) (h9 : μ 0 9 = nI a) (hM : MA (μ 5) A) (hO : AOK A) (hD : A 5 ≤ 999) (hP : RP A) (s : Int32) : ∃ σ' μ', f_X0_keep σ s (nI (wb A)) = some σ' ∧ f_X7_remember fuel μ = some μ' ∧ KR σ μ σ' μ' s A := by
  have ha := hH.1
  unfold f_X0_keep f_X7_remember
  by_cases c : a < 24
  · rw [if_pos (show σ 59 2 < 24 by rw [h59, show (24 : Int32) = nI 24 from rfl, lt_n (by omega) (by omega)]; exact c), if_neg (show ¬ μ 0 9 = 24 by rw [h9, show (24 : Int32) = nI 24 from rfl, eq_n (by omega) (by omega)]; omega)]
    exact kr45 hF c hH hB h59 h9 hM hO hD hP s
  · obtain rfl : a = 24 := by omega
    rw [if_neg (show ¬ σ 59 2 < 24 by rw [h59]; decide), if_pos (show μ 0 9 = 24 from h9)]
    obtain ⟨μ1, e1, f1, v1⟩ := shM (μ := μ) hF
    rw [e1, gd_t (show cpB 1 0 23 24 24 = true by decide), gd_t (show cpB 1 0 23 24 24 = true by decide)]
    generalize hσ1 : (mst (mcpy (mcpy σ 60 60 (1 : Int32).toNatClampNeg (0 : Int32).toNatClampNeg (23 : Int32).toNatClampNeg) 61 61 (1 : Int32).toNatClampNeg (0 : Int32).toNatClampNeg (23 : Int32).toNatClampNeg) 59 2 23) = σ1
    have s60 : ∀ j, j < 23 → σ1 60 j = σ 60 (j + 1) := fun j hj => by
      rw [← hσ1, mst_ne (by omega)]
      unfold mcpy
      rw [mrow_ne _ (by omega), mrow_at]
      show (if 0 ≤ j ∧ j < 0 + 23 then σ 60 (1 + (j - 0)) else σ 60 j) = _
      rw [if_pos (by omega), Nat.sub_zero, Nat.add_comm]
    have s61 : ∀ j, j < 23 → σ1 61 j = σ 61 (j + 1) := fun j hj => by
      rw [← hσ1, mst_ne (by omega)]
      unfold mcpy
      rw [mrow_at, mrow_ne _ (show 61 ≠ 60 by omega)]
      show (if 0 ≤ j ∧ j < 0 + 23 then σ 61 (1 + (j - 0)) else σ 61 j) = _
      rw [if_pos (by omega), Nat.sub_zero, Nat.add_comm]
    have s59 : σ1 59 2 = nI 23 := by rw [← hσ1, mst_at]; rfl
    have sq : ∀ q, q ≠ 59 → q ≠ 60 → q ≠ 61 → σ1 q = σ q := fun q q1 q2 q3 => by
      rw [← hσ1, mst_ne q1]
      unfold mcpy
      rw [mrow_ne _ q3, mrow_ne _ q2]
    obtain ⟨σ', μ', k1, k2, k3, k4, k5, k6⟩ := kr45 (σ := σ1) (μ := mst μ1 0 9 (μ 0 9 - 1)) (a := 23) (B := fun j => B (j + 1)) (A := A) hF (by omega) (by
      refine ⟨by omega, fun j hj => ?_⟩
      obtain ⟨g1, g2, g3, g4, g5⟩ := hH.2 (j + 1) (by omega)
      rw [s60 j hj, s61 j hj, mst_ne (show 6 ≠ 0 by omega)]
      refine ⟨g1, g2, g3, fun i hi => ?_, g5⟩
      rw [v1 _ (by omega), show 85 * j + i + 85 = 85 * (j + 1) + i by omega]; exact g4 i hi) hB s59 (by rw [mst_at, h9]; rfl) (by rw [mst_ne (show 5 ≠ 0 by omega), f1 5 (by omega)]; exact hM) hO hD hP s
    refine ⟨σ', μ', k1, k2, fun q q1 q2 q3 => by rw [k3 q q1 q2 q3, sq q q1 q2 q3], fun q q1 q2 => by rw [k4 q q1 q2, mst_ne q1, f1 q q2], fun k hk => ?_, k6⟩
    rw [k5 k hk, mst_at, f1 0 (by omega)]; exact if_neg hk
/-- both keep, both do the act: the states agree again -/
theorem Sim.did {σ' μ' σ2 μ2 : Mem} {A' : Ar} {s : Int32} (h : Sim σ μ) (ht : μ 0 7 = σ 13 0) (hk : KR σ μ σ' μ' s A) (hU : Und s (nI (wb A)) A A') (hO : AOK A') (hD : A' 5 ≤ 999) (hP : RP A') (hX : XN σ2 A') (hM : MA (μ2 5) A') (h0 : σ2 13 0 = σ 13 0) (r : ∀ q, (q < 13 ∨ 24 ≤ q) → σ2 q = σ' q) (m : ∀ q, q ≠ 5 → μ2 q = μ' q) : Sim σ2 μ2 := by
  obtain ⟨k1, k2, k3, a, k4, k5, k6, k7⟩ := hk
  obtain ⟨B, hH, hB⟩ := k7 A' hU
  obtain ⟨-, -, -, -, ⟨-, -, -, -, -, -, -, -, t1, -⟩, -, -⟩ := id h
  refine Sim.acts h (fun q hq => by rw [r q (by omega), k1 q (by omega) (by omega) (by omega)]) (fun q q1 q2 q3 => by rw [m q q2, k2 q q1 q3]) (fun k hk => by rw [m 0 (by omega), k3 k hk]) ⟨A', a + 1, B, hO, hD, hP, hX, hM, ?_, ?_, ?_, ?_, ?_, hB⟩
  · rw [h0, r 24 (by omega), r 35 (by omega), k1 24 (by omega) (by omega) (by omega), k1 35 (by omega) (by omega) (by omega)]; exact t1
  · rw [h0, m 0 (by omega), k3 7 (by omega)]; exact ht
  · rw [r 59 (by omega)]; exact k5
  · rw [m 0 (by omega)]; exact k6
  · rw [r 60 (by omega), r 61 (by omega), m 6 (by omega)]; exact hH
end ACT
