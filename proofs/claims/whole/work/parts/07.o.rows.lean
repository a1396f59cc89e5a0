/-! rows, the tape, status -/
def SQ (fx fm : Option (Int32 × Mem)) : Prop := ∃ r σ' μ', fx = some (r, σ') ∧ fm = some (r, μ') ∧ Sim σ' μ'
theorem SA_congr {σ σ' μ μ' : Mem} (h : SA σ μ) (r : ∀ q, ((13 ≤ q ∧ q ≤ 24) ∨ q = 35 ∨ (59 ≤ q ∧ q ≤ 61)) → σ' q = σ q) (m5 : μ' 5 = μ 5) (m6 : μ' 6 = μ 6) (m7 : μ' 0 7 = μ 0 7) (m9 : μ' 0 9 = μ 0 9) : SA σ' μ' := by
  unfold SA XN at *
  rw [m5, m6, m7, m9, r 13 (by omega), r 14 (by omega), r 15 (by omega), r 16 (by omega), r 17 (by omega), r 18 (by omega), r 19 (by omega), r 20 (by omega), r 21 (by omega), r 22 (by omega), r 23 (by omega), r 24 (by omega), r 35 (by omega), r 59 (by omega), r 60 (by omega), r 61 (by omega)]
  exact h
theorem SI_congr {σ σ' μ μ' : Mem} (h : SI σ μ) (r : ∀ q, (24 ≤ q ∧ q ≤ 45) → σ' q = σ q) (m7 : μ' 7 = μ 7) (m8 : μ' 8 = μ 8) : SI σ' μ' := by
  unfold SI at *
  rw [m7, m8, r 24 (by omega), r 25 (by omega), r 26 (by omega), r 27 (by omega), r 28 (by omega), r 29 (by omega), r 30 (by omega), r 31 (by omega), r 32 (by omega), r 33 (by omega), r 34 (by omega), r 35 (by omega), r 36 (by omega), r 37 (by omega), r 38 (by omega), r 39 (by omega), r 40 (by omega), r 41 (by omega), r 42 (by omega), r 43 (by omega), r 44 (by omega), r 45 (by omega)]
  exact h
theorem SR_congr {σ σ' μ μ' : Mem} (h : SR σ μ) (r : ∀ q, (2 ≤ q ∧ q ≤ 12) → σ' q = σ q) (m1 : μ' 1 = μ 1) (m2 : μ' 2 = μ 2) (m3 : μ' 3 = μ 3) : SR σ' μ' := by
  unfold SR at *
  rw [m1, m2, m3, r 2 (by omega), r 3 (by omega)]
  exact RR_congr h (fun k hk => r (5 + k) (by omega))
theorem Sim.st {σ μ : Mem} (h : Sim σ μ) (x : Int32) : Sim (mst σ 0 9 x) (mst μ 0 3 x) := by
  obtain ⟨h1, h2, h3, h4, h5, h6, h7⟩ := h
  have r : ∀ q, q ≠ 0 → mst σ 0 9 x q = σ q := fun q hq => mst_ne hq
  have m : ∀ q, q ≠ 0 → mst μ 0 3 x q = μ q := fun q hq => mst_ne hq
  exact ⟨SR_congr h1 (fun q hq => r q (by omega)) (m 1 (by omega)) (m 2 (by omega)) (m 3 (by omega)), rfl, h3, h4, SA_congr h5 (fun q hq => r q (by omega)) (m 5 (by omega)) (m 6 (by omega)) rfl rfl, SI_congr h6 (fun q hq => r q (by omega)) (m 7 (by omega)) (m 8 (by omega)), h7⟩
/-- the rows alone have changed -/
theorem Sim.rows {σ σ' μ μ' : Mem} (h : Sim σ μ) (r : ∀ q, (q < 2 ∨ 13 ≤ q) → σ' q = σ q) (m : ∀ q, (q = 0 ∨ 4 ≤ q) → μ' q = μ q) (hR : SR σ' μ') : Sim σ' μ' := by
  obtain ⟨h1, h2, h3, h4, h5, h6, h7⟩ := h
  refine ⟨hR, ?_, ?_, ?_, SA_congr h5 (fun q hq => r q (by omega)) (m 5 (by omega)) (m 6 (by omega)) (by rw [m 0 (by omega)]) (by rw [m 0 (by omega)]), SI_congr h6 (fun q hq => r q (by omega)) (m 7 (by omega)) (m 8 (by omega)), ?_⟩
  · rw [r 0 (by omega), m 0 (by omega)]; exact h2
  · rw [r 0 (by omega), m 0 (by omega)]; exact h3
  · rw [r 46 (by omega), r 47 (by omega), m 0 (by omega), m 4 (by omega)]; exact h4
  · rw [r 66 (by omega), r 67 (by omega), m 0 (by omega), m 9 (by omega)]; exact h7
section RW
variable {σ μ : Mem} {fuel : Nat}
theorem fill_r_eq {r : Nat} (hF : 1000 ≤ fuel) : ∃ σ', f_J7_fill_r fuel r σ 0 = some σ' ∧ (∀ q, q ≠ 5 + r → σ' q = σ q) ∧ ∀ i, i < 40 → σ' (5 + r) i = 0 := by
  have key : ∀ k i n τ, i + k = 40 → k < n → (∀ q, q ≠ 5 + r → τ q = σ q) → (∀ j, j < i → τ (5 + r) j = 0) → ∃ σ', f_J7_fill_r_5 fuel r n τ 0 (nI i) 40 = some σ' ∧ (∀ q, q ≠ 5 + r → σ' q = σ q) ∧ ∀ i, i < 40 → σ' (5 + r) i = 0 := by
    intro k
    induction k with
    | zero =>
      intro i n τ hi hn h1 h2
      obtain ⟨m, rfl⟩ := suc_of hn
      rw [f_J7_fill_r_5, show (40 : Int32) = nI 40 from rfl, if_pos (by rw [le_n (by omega) (by omega)]; omega)]
      exact ⟨τ, rfl, h1, fun j hj => h2 j (by omega)⟩
    | succ k ih =>
      intro i n τ hi hn h1 h2
      obtain ⟨m, rfl⟩ := suc_of hn
      rw [f_J7_fill_r_5, show (40 : Int32) = nI 40 from rfl, if_neg (by rw [le_n (by omega) (by omega)]; omega), gB (by omega) (by omega), cl_n (by omega), s1]
      refine ih (i + 1) m _ (by omega) (by omega) (fun q hq => by rw [mst_ne hq]; exact h1 q hq) (fun j hj => ?_)
      rw [mst_at]
      unfold upd
      by_cases e : j = i
      · rw [if_pos e]
      · rw [if_neg e]; exact h2 j (by omega)
  exact key 40 0 fuel σ (by omega) (by omega) (fun q _ => rfl) (fun j hj => by omega)
theorem zeroM {r : Nat} (hr : r < 8) (hF : 1000 ≤ fuel) (v : Int32) : ∃ μ', f_X7_row_55 fuel fuel μ (nI r) v 0 = some (v, mst μ' 0 3 0) ∧ (∀ q, q ≠ 3 → μ' q = μ q) ∧ (∀ i, i < 40 → μ' 3 (40 * r + i) = 0) ∧ ∀ j, (j < 40 * r ∨ 40 * r + 40 ≤ j) → μ' 3 j = μ 3 j := by
  have key : ∀ k i n τ, i + k = 40 → k < n → (∀ q, q ≠ 3 → τ q = μ q) → (∀ j, j < i → τ 3 (40 * r + j) = 0) → (∀ j, (j < 40 * r ∨ 40 * r + 40 ≤ j) → τ 3 j = μ 3 j) → ∃ μ', f_X7_row_55 fuel n τ (nI r) v (nI i) = some (v, mst μ' 0 3 0) ∧ (∀ q, q ≠ 3 → μ' q = μ q) ∧ (∀ i, i < 40 → μ' 3 (40 * r + i) = 0) ∧ ∀ j, (j < 40 * r ∨ 40 * r + 40 ≤ j) → μ' 3 j = μ 3 j := by
    intro k
    induction k with
    | zero =>
      intro i n τ hi hn h1 h2 h3
      obtain ⟨m, rfl⟩ := suc_of hn
      rw [f_X7_row_55, show (40 : Int32) = nI 40 from rfl, if_pos (by rw [le_n (by omega) (by omega)]; omega)]
      exact ⟨τ, rfl, h1, fun j hj => h2 j (by omega), h3⟩
    | succ k ih =>
      intro i n τ hi hn h1 h2 h3
      obtain ⟨m, rfl⟩ := suc_of hn
      rw [f_X7_row_55, show (40 : Int32) = nI 40 from rfl, if_neg (by rw [le_n (by omega) (by omega)]; omega), pk_mul, nI_add, gB (by omega) (by omega), cl_n (by omega), s1]
      refine ih (i + 1) m _ (by omega) (by omega) (fun q hq => by rw [mst_ne hq]; exact h1 q hq) (fun j hj => ?_) (fun j hj => ?_)
      · rw [mst_at]
        unfold upd
        by_cases e : 40 * r + j = 40 * r + i
        · rw [if_pos e]
        · rw [if_neg e]; exact h2 j (by omega)
      · rw [mst_at]
        unfold upd
        rw [if_neg (by omega)]; exact h3 j hj
  exact key 40 0 fuel μ (by omega) (by omega) (fun q _ => rfl) (fun j hj => by omega) (fun j _ => rfl)
theorem s_row (h : Sim σ μ) (hF : 1000 ≤ fuel) (x1 x2 x3 : Int32) : SQ (f_X6_row fuel σ x1 x2 x3) (f_X7_row fuel μ x1 x2 x3) := by
  unfold f_X6_row f_X7_row
  by_cases h1 : isN x1 0 8
  · obtain ⟨r, hr, rfl⟩ := isN_lt h1
    rw [isRowX_t hr, isRowM_t hr, b1, b1, z1, z1, show (3 : Int32) = nI 3 from rfl]
    by_cases h2 : isN x2 0 3
    · obtain ⟨l, hl, rfl⟩ := isN_lt h2
      rw [below_t hl (by omega), in_t (lo := 0) (n := 3) rfl rfl (by omega) h2, b1, b1, z1, z1]
      by_cases c1 : x3 ≤ 40
      · rw [if_pos c1, if_pos c1]
        by_cases c2 : 0 ≤ x3
        · rw [if_pos c2, if_pos c2]
          obtain ⟨n, hn, rfl⟩ : ∃ n, n ≤ 40 ∧ x3 = nI n := by
            rw [Int32.le_iff_toInt_le] at c1 c2
            rw [show (40 : Int32).toInt = 40 by decide] at c1
            rw [show (0 : Int32).toInt = 0 by decide] at c2
            obtain ⟨j, _, hj, rfl⟩ := (isN_iff (x := x3) (lo := 0) (n := 41) (by omega)).mpr (by omega)
            exact ⟨j, by omega, rfl⟩
          unfold f_X5_lay
          rw [gB (by omega) (by omega), gB (by omega) (by omega), gB (by omega) (by omega), cl_n (by omega)]
          obtain ⟨σ', e1, f1, v1⟩ := fill_r_eq (σ := mst (mst σ 2 r (nI l)) 3 r (nI n)) (r := r) hF
          obtain ⟨μ', e2, f2, v2, v3⟩ := zeroM (μ := mst (mst μ 1 r (nI l)) 2 r (nI n)) hr hF (nI n)
          rw [e1, bs, bs, gB (by omega) (by omega), gB (by omega) (by omega), e2]
          refine ⟨nI n, mst σ' 0 9 0, mst μ' 0 3 0, rfl, rfl, Sim.st (Sim.rows h ?_ ?_ ?_) 0⟩
          · intro q hq
            rw [f1 q (by omega), mst_ne (by omega), mst_ne (by omega)]
          · intro q hq
            rw [f2 q (by omega), mst_ne (by omega), mst_ne (by omega)]
          · intro k hk
            have s2 : σ' 2 = upd (σ 2) r (nI l) := by rw [f1 2 (by omega), mst_ne (by omega), mst_at]
            have s3 : σ' 3 = upd (σ 3) r (nI n) := by rw [f1 3 (by omega), mst_at, mst_ne (by omega)]
            have m1 : μ' 1 = upd (μ 1) r (nI l) := by rw [f2 1 (by omega), mst_ne (by omega), mst_at]
            have m2 : μ' 2 = upd (μ 2) r (nI n) := by rw [f2 2 (by omega), mst_at, mst_ne (by omega)]
            rw [s2, s3, m1, m2]
            unfold upd
            by_cases e : k = r
            · subst e
              rw [if_pos rfl, if_pos rfl, if_pos rfl, if_pos rfl]
              refine Or.inr ⟨n, hn, ?_, rfl, rfl, rfl, fun i hi => ?_⟩
              · rcases (show l = 0 ∨ l = 1 ∨ l = 2 by omega) with rfl | rfl | rfl
                · exact Or.inl rfl
                · exact Or.inr (Or.inl rfl)
                · exact Or.inr (Or.inr rfl)
              · show σ' (5 + k) i = _
                rw [v1 i hi, v2 i hi]
            · simp only [e, if_false]
              rcases h.1 k hk with q | ⟨n', g1, g2, g3, g4, g5, g6⟩
              · exact Or.inl q
              · refine Or.inr ⟨n', g1, g2, g3, g4, g5, fun i hi => ?_⟩
                show σ' (5 + k) i = _
                rw [f1 (5 + k) (by omega), mst_ne (by omega), mst_ne (by omega), v3 (40 * k + i) (by omega), mst_ne (by omega), mst_ne (by omega)]
                exact g6 i hi
        · rw [if_neg c2, if_neg c2]
          exact ⟨_, _, _, rfl, rfl, h.st 4⟩
      · rw [if_neg c1, if_neg c1]; exact ⟨_, _, _, rfl, rfl, h⟩
    · rw [below_f (by omega) h2, in_f (lo := 0) (n := 3) rfl rfl (by omega) h2]; exact ⟨_, _, _, rfl, rfl, h⟩
  · rw [isRowX_f h1, isRowM_f h1]; exact ⟨_, _, _, rfl, rfl, h⟩
/-- a row is missing on both sides, or it is there on both -/
theorem miss_eq (h : SR σ μ) {r : Nat} (hr : r < 8) : (f_X5_isMissing σ (nI r) = some 1 ∧ μ 2 r = -1) ∨ (f_X5_isMissing σ (nI r) = some 0 ∧ ∃ n, n ≤ 40 ∧ (σ 2 r = 0 ∨ σ 2 r = 1 ∨ σ 2 r = 2) ∧ μ 1 r = σ 2 r ∧ σ 3 r = nI n ∧ μ 2 r = nI n ∧ ∀ i, i < 40 → σ (5 + r) i = μ 3 (40 * r + i)) := by
  unfold f_X5_isMissing
  rw [gB (by omega) (by omega), cl_n (by omega)]
  rcases h r hr with ⟨q1, q2⟩ | ⟨n, g1, g2, g3, g4, g5, g6⟩
  · rw [q1]; exact Or.inl ⟨rfl, q2⟩
  · refine Or.inr ⟨?_, n, g1, g2, g3, g4, g5, g6⟩
    rw [if_neg (by rcases g2 with e | e | e <;> rw [e] <;> decide)]
theorem has_eq {r n k : Nat} (hr : r < 8) (hn : n ≤ 40) (hk : k ≤ 40) (h3 : σ 3 r = nI n) (x : Int32) : f_X5_hasPlaces σ (nI r) x (nI k) = some (bI (decide (0 ≤ x.toInt ∧ x.toInt + k ≤ n))) := by
  unfold f_X5_hasPlaces
  rw [gB (by omega) (by omega), cl_n (by omega), h3, if_neg (show ¬ nI k < 0 from nI_pos (by omega))]
  by_cases c : x < 0
  · rw [if_pos c, decide_eq_false (by rw [Int32.lt_iff_toInt_lt, show (0 : Int32).toInt = 0 by decide] at c; omega)]; rfl
  · rw [if_neg c]
    have e : (nI n - nI k < x) = ((n : Int) - k < x.toInt) := by rw [Int32.lt_iff_toInt_lt, pk_sub_toInt (by omega) (by omega)]
    simp only [e]
    rw [Int32.lt_iff_toInt_lt, show (0 : Int32).toInt = 0 by decide] at c
    by_cases c2 : (n : Int) - k < x.toInt
    · rw [if_pos c2, decide_eq_false (by omega)]; rfl
    · rw [if_neg c2, decide_eq_true (by omega)]; rfl
theorem nI_nn {n : Nat} (h : n < 2147483648) : (0 : Int32) ≤ nI n := nI_pos' h
theorem s_drop (h : Sim σ μ) (x1 : Int32) : SQ (f_X6_drop σ x1) (f_X7_drop μ x1) := by
  unfold f_X6_drop f_X7_drop
  by_cases h1 : isN x1 0 8
  · obtain ⟨r, hr, rfl⟩ := isN_lt h1
    rw [isRowX_t hr, isRowM_t hr, b1, b1, z1, z1, gB (by omega) (by omega), gB (by omega) (by omega), gB (by omega) (by omega), gB (by omega) (by omega), cl_n (by omega)]
    rcases miss_eq h.1 hr with ⟨e1, e2⟩ | ⟨e1, n, g1, g2, g3, g4, g5, g6⟩
    · rw [e1, e2, gB (by omega) (by omega)]
      exact ⟨_, _, _, rfl, rfl, h.st 1⟩
    · rw [e1, g4, g5, gB (by omega) (by omega), if_pos (nI_nn (by omega))]
      refine ⟨nI n, _, _, rfl, rfl, Sim.st (Sim.rows (σ' := mst σ 2 r (-1)) (μ' := mst μ 2 r (-1)) h (fun q hq => mst_ne (by omega)) (fun q hq => mst_ne (by omega)) ?_) 0⟩
      intro k hk
      rw [mst_at, mst_at, mst_ne (show 3 ≠ 2 by omega), mst_ne (show 1 ≠ 2 by omega), mst_ne (show 3 ≠ 2 by omega)]
      unfold upd
      by_cases e : k = r
      · exact Or.inl ⟨if_pos e, if_pos e⟩
      · simp only [e, if_false]
        rcases h.1 k hk with q | ⟨n', a1, a2, a3, a4, a5, a6⟩
        · exact Or.inl q
        · refine Or.inr ⟨n', a1, a2, a3, a4, a5, fun i hi => ?_⟩
          show mst σ 2 r (-1) (5 + k) i = _
          rw [mst_ne (by omega)]
          exact a6 i hi
  · rw [isRowX_f h1, isRowM_f h1]; exact ⟨_, _, _, rfl, rfl, h⟩
/-- one item changes on both sides -/
theorem Sim.item {r i : Nat} (h : Sim σ μ) (hr : r < 8) (hi : i < 40) (v : Int32) : Sim (mst σ (5 + r) i v) (mst μ 3 (40 * r + i) v) := by
  refine Sim.rows (σ' := mst σ (5 + r) i v) (μ' := mst μ 3 (40 * r + i) v) h (fun q hq => mst_ne (by omega)) (fun q hq => mst_ne (by omega)) ?_
  intro k hk
  rw [mst_at, mst_ne (show 2 ≠ 5 + r by omega), mst_ne (show 3 ≠ 5 + r by omega), mst_ne (show 1 ≠ 3 by omega), mst_ne (show 2 ≠ 3 by omega)]
  rcases h.1 k hk with q | ⟨n', a1, a2, a3, a4, a5, a6⟩
  · exact Or.inl q
  · refine Or.inr ⟨n', a1, a2, a3, a4, a5, fun j hj => ?_⟩
    show mst σ (5 + r) i v (5 + k) j = upd (μ 3) (40 * r + i) v (40 * k + j)
    unfold upd
    by_cases e : k = r
    · subst e
      rw [mst_at]
      unfold upd
      by_cases e2 : j = i
      · rw [if_pos e2, if_pos (by omega)]
      · rw [if_neg e2, if_neg (by omega)]; exact a6 j hj
    · rw [mst_ne (by omega), if_neg (by omega)]; exact a6 j hj
theorem s_set (h : Sim σ μ) (x1 x2 x3 : Int32) : SQ (f_X6_set σ x1 x2 x3) (f_X7_set μ x1 x2 x3) := by
  unfold f_X6_set f_X7_set
  by_cases h1 : isN x1 0 8
  · obtain ⟨r, hr, rfl⟩ := isN_lt h1
    rw [isRowX_t hr, isRowM_t hr, b1, b1, z1, z1, gB (by omega) (by omega), gB (by omega) (by omega), cl_n (by omega)]
    rcases miss_eq h.1 hr with ⟨e1, e2⟩ | ⟨e1, n, g1, g2, g3, g4, g5, g6⟩
    · rw [e1, e2]
      exact ⟨_, _, _, rfl, rfl, h.st 1⟩
    · rw [e1, g5, if_pos (nI_nn (by omega)), b0, z0, show f_X5_hasPlaces σ (nI r) x2 1 = _ from has_eq (k := 1) hr g1 (by omega) g4 x2, bs]
      by_cases c : isN x2 0 n
      · obtain ⟨i, hi, rfl⟩ := isN_lt c
        rw [in_t (lo := 0) (n := n) rfl (cm1 (by omega)) (by omega) c, nI_toInt (by omega), decide_eq_true (show 0 ≤ (i : Int) ∧ (i : Int) + (1 : Nat) ≤ n by omega), if_neg (show ¬ bI true = 0 by decide), b1, z1, g3]
        unfold f_X5_put f_X7_set_89
        rw [gB (by omega) (by omega), gB (by omega) (by omega), gB (by omega) (by omega), gB (by omega) (by omega), gB (by omega) (by omega), gB (by omega) (by omega), gB (by omega) (by omega)]
        simp only [gB (show r < 8 by omega) (show 8 < 2147483648 by omega), gB (show i < 40 by omega) (show 40 < 2147483648 by omega), cl_n (show r < 2147483648 by omega), cl_n (show i < 2147483648 by omega), show (40 : Int32) * nI r + nI i = nI (40 * r + i) by rw [show (40 : Int32) = nI 40 from rfl, pk_mul, nI_add], gB (show 40 * r + i < 320 by omega) (show 320 < 2147483648 by omega), cl_n (show 40 * r + i < 2147483648 by omega), bs]
        have hi40 : i < 40 := by omega
        have rd : ∀ v : Int32, mst σ (5 + r) i v (5 + r) i = v := fun v => by rw [mst_at]; exact if_pos rfl
        have rm : ∀ v : Int32, mst μ 3 (40 * r + i) v 3 (40 * r + i) = v := fun v => by rw [mst_at]; exact if_pos rfl
        rcases g2 with e | e | e <;> rw [e]
        · rw [if_pos rfl, if_pos rfl, rd, rm]
          exact ⟨_, _, _, rfl, rfl, (h.item hr hi40 _).st 0⟩
        · rw [if_neg (show ¬ (1 : Int32) = 0 by decide), if_neg (show ¬ (1 : Int32) = 0 by decide), if_pos rfl, if_pos rfl, rd, rm]
          exact ⟨_, _, _, rfl, rfl, (h.item hr hi40 _).st 0⟩
        · rw [if_neg (show ¬ (2 : Int32) = 0 by decide), if_neg (show ¬ (2 : Int32) = 0 by decide), if_neg (show ¬ (2 : Int32) = 1 by decide), if_neg (show ¬ (2 : Int32) = 1 by decide), rd, rm]
          exact ⟨_, _, _, rfl, rfl, (h.item hr hi40 _).st 0⟩
      · rw [in_f (lo := 0) (n := n) rfl (cm1 (by omega)) (by omega) c, decide_eq_false (fun q => c ((isN_iff (by omega)).mpr (by omega)))]
        exact ⟨_, _, _, rfl, rfl, h.st 2⟩
  · rw [isRowX_f h1, isRowM_f h1]; exact ⟨_, _, _, rfl, rfl, h⟩
theorem s_feed (h : Sim σ μ) (x1 : Int32) : SQ (f_X6_feed σ x1) (f_X7_feed μ x1) := by
  unfold f_X6_feed f_X7_feed
  obtain ⟨h1, h2, h3, ⟨t, t1, t2, t3, t4⟩, h5, h6, h7⟩ := id h
  by_cases c : isN x1 0 256
  · obtain ⟨b, hb, rfl⟩ := isN_lt c
    rw [if_neg (nI_pos (by omega)), if_pos (show nI b ≤ 255 by rw [show (255 : Int32) = nI 255 from rfl, le_n (by omega) (by omega)]; omega), in_t (lo := 0) (n := 256) rfl rfl (by omega) c, b1, z1, t2, t3, show (140 : Int32) = nI 140 from rfl]
    by_cases ct : t < 140
    · unfold f_X4_append
      rw [if_pos (show nI t < nI 140 by rw [lt_n (by omega) (by omega)]; omega), if_neg (show ¬ nI t = nI 140 by rw [eq_n (by omega) (by omega)]; omega), t2, show (140 : Int32) = nI 140 from rfl, if_neg (show ¬ nI 140 ≤ nI t by rw [le_n (by omega) (by omega)]; omega), gB (by omega) (by omega), gB (by omega) (by omega), cl_n (by omega), s1]
      refine ⟨nI (t + 1), _, _, rfl, rfl, ?_⟩
      have r : ∀ q, q ≠ 47 → q ≠ 46 → mst (mst σ 47 t (nI b)) 46 2 (nI (t + 1)) q = σ q := fun q q1 q2 => by rw [mst_ne q2, mst_ne q1]
      have m : ∀ q, q ≠ 4 → q ≠ 0 → mst (mst μ 4 t (nI b)) 0 5 (nI (t + 1)) q = μ q := fun q q1 q2 => by rw [mst_ne q2, mst_ne q1]
      refine ⟨SR_congr h1 (fun q hq => r q (by omega) (by omega)) (m 1 (by omega) (by omega)) (m 2 (by omega) (by omega)) (m 3 (by omega) (by omega)), h2, h3, ⟨t + 1, by omega, rfl, rfl, fun i hi => ?_⟩, SA_congr h5 (fun q hq => r q (by omega) (by omega)) (m 5 (by omega) (by omega)) (m 6 (by omega) (by omega)) rfl rfl, SI_congr h6 (fun q hq => r q (by omega) (by omega)) (m 7 (by omega) (by omega)) (m 8 (by omega) (by omega)), h7⟩
      show ∃ b', b' < 256 ∧ mst (mst σ 47 t (nI b)) 46 2 (nI (t + 1)) 47 i = nI b' ∧ _ = nI b'
      rw [mst_ne (show 47 ≠ 46 by omega), mst_ne (show 4 ≠ 0 by omega), mst_at, mst_at]
      unfold upd
      by_cases e : i = t
      · rw [if_pos e, if_pos e]; exact ⟨b, hb, rfl, rfl⟩
      · rw [if_neg e, if_neg e]; exact t4 i (by omega)
    · rw [if_neg (by rw [lt_n (by omega) (by omega)]; omega), if_pos (by rw [eq_n (by omega) (by omega)]; omega)]
      exact ⟨_, _, _, rfl, rfl, h⟩
  · rw [in_f (lo := 0) (n := 256) rfl rfl (by omega) c, b0, z0]
    rw [isN_iff (by omega)] at c
    by_cases c1 : x1 < 0
    · rw [if_pos c1]; exact ⟨_, _, _, rfl, rfl, h⟩
    · rw [if_neg c1, if_neg (show ¬ x1 ≤ 255 by
        rw [Int32.lt_iff_toInt_lt, show (0 : Int32).toInt = 0 by decide] at c1
        rw [Int32.le_iff_toInt_le, show (255 : Int32).toInt = 255 by decide]
        omega)]
      exact ⟨_, _, _, rfl, rfl, h⟩
end RW
