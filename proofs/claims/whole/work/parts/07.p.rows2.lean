/-! copy, forged, kind, as, trace, count -/
theorem lgs (x y : Int32) : (x.toInt64 + y.toInt64).toInt = x.toInt + y.toInt := by
  have h1 := Int32.toInt_lt x
  have h2 := Int32.le_toInt x
  have h3 := Int32.toInt_lt y
  have h4 := Int32.le_toInt y
  rw [Int64.toInt_add, i64_toInt, i64_toInt]
  exact Int.bmod_eq_of_le (by omega) (by omega)
theorem lc_le (a c : Int64) : (lg_cmp a c ≤ 0) = (a.toInt ≤ c.toInt) := by
  apply propext
  unfold lg_cmp
  simp only [gt_iff_lt, Int64.lt_iff_toInt_lt, ← Int64.toInt_inj]
  split
  · exact ⟨fun h => absurd h (by decide), fun h => by omega⟩
  · split
    · exact ⟨fun h => by omega, fun h => by decide⟩
    · exact ⟨fun _ => by omega, fun _ => by decide⟩
theorem lc_gt (a c : Int64) : (0 < lg_cmp a c) = (c.toInt < a.toInt) := by
  apply propext
  unfold lg_cmp
  simp only [gt_iff_lt, Int64.lt_iff_toInt_lt, ← Int64.toInt_inj]
  split
  · exact ⟨fun h => by omega, fun h => by decide⟩
  · split
    · exact ⟨fun h => absurd h (by decide), fun h => by omega⟩
    · exact ⟨fun h => absurd h (by decide), fun h => by omega⟩
theorem of_nn {x : Int32} {n : Nat} (h1 : 0 ≤ x.toInt) (h2 : x.toInt ≤ n) (hn : n < 2147483647) : ∃ j, j ≤ n ∧ x = nI j := by
  obtain ⟨j, _, hj, rfl⟩ := (isN_iff (x := x) (lo := 0) (n := n + 1) (by omega)).mpr (by omega)
  exact ⟨j, by omega, rfl⟩
theorem lt0 (x : Int32) : (x < 0) = (x.toInt < 0) := by
  apply propext
  rw [Int32.lt_iff_toInt_lt, show (0 : Int32).toInt = 0 by decide]
section RW2
variable {σ μ : Mem} {fuel : Nat}
theorem has_gen {r n : Nat} (hr : r < 8) (hn : n ≤ 40) (h3 : σ 3 r = nI n) (x k : Int32) : f_X5_hasPlaces σ (nI r) x k = some (bI (decide (0 ≤ x.toInt ∧ 0 ≤ k.toInt ∧ x.toInt + k.toInt ≤ n))) := by
  unfold f_X5_hasPlaces
  rw [gB (by omega) (by omega), cl_n (by omega), h3]
  simp only [lt0]
  by_cases c : x.toInt < 0
  · rw [if_pos c, decide_eq_false (by omega)]; rfl
  rw [if_neg c]
  by_cases c1 : k.toInt < 0
  · rw [if_pos c1, decide_eq_false (by omega)]; rfl
  rw [if_neg c1]
  have e : (nI n - k < x) = ((n : Int) - k.toInt < x.toInt) := by
    apply propext
    have h1 := Int32.toInt_lt k
    rw [Int32.lt_iff_toInt_lt, Int32.toInt_sub, nI_toInt (by omega), Int.bmod_eq_of_le (by omega) (by omega)]
  simp only [e]
  by_cases c2 : (n : Int) - k.toInt < x.toInt
  · rw [if_pos c2, decide_eq_false (by omega)]; rfl
  · rw [if_neg c2, decide_eq_true (by omega)]; rfl
/-- the reference's loop, one way or the other -/
theorem cpM {r s i j m : Nat} (hr : r < 8) (hs : s < 8) (hi : i + m ≤ 40) (hj : j + m ≤ 40) (hF : 1000 ≤ fuel) : ∃ μ', f_X7_copy_120 fuel fuel μ (nI r) (nI i) (nI s) (nI j) (nI m) 0 = some (nI m, mst μ' 0 3 0) ∧ (∀ q, q ≠ 3 → μ' q = μ q) ∧ (∀ t, t < m → μ' 3 (40 * s + j + t) = μ 3 (40 * r + i + t)) ∧ ∀ q, (q < 40 * s + j ∨ 40 * s + j + m ≤ q) → μ' 3 q = μ 3 q := by
  have key : ∀ k p n τ, p + k = m → k < n → (∀ q, q ≠ 3 → τ q = μ q) →
      ((j ≤ i ∧ (∀ t, t < p → τ 3 (40 * s + j + t) = μ 3 (40 * r + i + t)) ∧ (∀ q, (q < 40 * s + j ∨ 40 * s + j + p ≤ q) → τ 3 q = μ 3 q)) ∨
       (¬ j ≤ i ∧ (∀ t, m - p ≤ t → t < m → τ 3 (40 * s + j + t) = μ 3 (40 * r + i + t)) ∧ (∀ q, (q < 40 * s + j + (m - p) ∨ 40 * s + j + m ≤ q) → τ 3 q = μ 3 q))) →
      ∃ μ', f_X7_copy_120 fuel n τ (nI r) (nI i) (nI s) (nI j) (nI m) (nI p) = some (nI m, mst μ' 0 3 0) ∧ (∀ q, q ≠ 3 → μ' q = μ q) ∧ (∀ t, t < m → μ' 3 (40 * s + j + t) = μ 3 (40 * r + i + t)) ∧ ∀ q, (q < 40 * s + j ∨ 40 * s + j + m ≤ q) → μ' 3 q = μ 3 q := by
    intro k
    induction k with
    | zero =>
      intro p n τ hp hn h1 h2
      obtain ⟨n, rfl⟩ := suc_of hn
      rw [f_X7_copy_120, if_pos (by rw [le_n (by omega) (by omega)]; omega)]
      refine ⟨τ, rfl, h1, ?_, ?_⟩
      · rcases h2 with ⟨_, a, _⟩ | ⟨_, a, _⟩
        · exact fun t ht => a t (by omega)
        · exact fun t ht => a t (by omega) ht
      · rcases h2 with ⟨_, _, a⟩ | ⟨_, _, a⟩
        · exact fun q hq => a q (by omega)
        · exact fun q hq => a q (by omega)
    | succ k ih =>
      intro p n τ hp hn h1 h2
      obtain ⟨n, rfl⟩ := suc_of hn
      rw [f_X7_copy_120, if_neg (show ¬ nI m ≤ nI p by rw [le_n (by omega) (by omega)]; omega)]
      have ix : ∀ a b y : Nat, (40 : Int32) * nI a + nI b + nI y = nI (40 * a + b + y) := fun a b y => by rw [show (40 : Int32) = nI 40 from rfl, pk_mul, nI_add, nI_add]
      rcases h2 with ⟨c, a, b⟩ | ⟨c, a, b⟩
      · rw [if_pos (by rw [le_n (by omega) (by omega)]; omega)]
        unfold f_X7_copy_145
        rw [ix, ix, gB (by omega) (by omega), gB (by omega) (by omega), cl_n (by omega), cl_n (by omega), s1]
        refine ih (p + 1) n _ (by omega) (by omega) (fun q hq => by rw [mst_ne hq]; exact h1 q hq) (Or.inl ⟨c, ?_, ?_⟩)
        · intro t ht
          rw [mst_at]
          unfold upd
          by_cases e : t = p
          · rw [e, if_pos rfl]; exact b _ (by omega)
          · rw [if_neg (by omega)]; exact a t (by omega)
        · intro q hq
          rw [mst_at]
          unfold upd
          rw [if_neg (by omega)]; exact b q (by omega)
      · rw [if_neg (by rw [le_n (by omega) (by omega)]; omega), show (1 : Int32) = nI 1 from rfl, pk_sub (by omega), pk_sub (by omega)]
        unfold f_X7_copy_145
        rw [ix, ix, gB (by omega) (by omega), gB (by omega) (by omega), cl_n (by omega), cl_n (by omega), s1]
        refine ih (p + 1) n _ (by omega) (by omega) (fun q hq => by rw [mst_ne hq]; exact h1 q hq) (Or.inr ⟨c, ?_, ?_⟩)
        · intro t ht1 ht
          rw [mst_at]
          unfold upd
          by_cases e : t = m - 1 - p
          · rw [e, if_pos rfl]; exact b _ (by omega)
          · rw [if_neg (by omega)]; exact a t (by omega) ht
        · intro q hq
          rw [mst_at]
          unfold upd
          rw [if_neg (by omega)]; exact b q (by omega)
  refine key m 0 fuel μ (by omega) (by omega) (fun q _ => rfl) ?_
  by_cases c : j ≤ i
  · exact Or.inl ⟨c, fun t ht => by omega, fun q _ => rfl⟩
  · exact Or.inr ⟨c, fun t h1 h2 => by omega, fun q _ => rfl⟩
theorem s_copy (h : Sim σ μ) (hF : 1000 ≤ fuel) (x1 x2 x3 x4 x5 : Int32) : SQ (f_X6_copy σ x1 x2 x3 x4 x5) (f_X7_copy fuel μ x1 x2 x3 x4 x5) := by
  unfold f_X6_copy f_X7_copy
  by_cases h1 : isN x1 0 8
  case neg => rw [isRowX_f h1, isRowM_f h1]; exact ⟨_, _, _, rfl, rfl, h⟩
  obtain ⟨r, hr, rfl⟩ := isN_lt h1
  rw [isRowX_t hr, isRowM_t hr, b1, b1, z1, z1]
  by_cases h3 : isN x3 0 8
  case neg => rw [isRowX_f h3, isRowM_f h3]; exact ⟨_, _, _, rfl, rfl, h⟩
  obtain ⟨s, hs, rfl⟩ := isN_lt h3
  rw [isRowX_t hs, isRowM_t hs, b1, b1, z1, z1]
  simp only [gB hr (show 8 < 2147483648 by omega), gB hs (show 8 < 2147483648 by omega), cl_n (show r < 2147483648 by omega), cl_n (show s < 2147483648 by omega)]
  rcases miss_eq h.1 hr with ⟨e1, e2⟩ | ⟨e1, n, g1, g2, g3, g4, g5, g6⟩
  · rw [e1, e2]; exact ⟨_, _, _, rfl, rfl, h.st 1⟩
  rw [e1, g5, if_neg (show ¬ nI n < 0 from nI_pos (by omega)), b0, z0]
  rcases miss_eq h.1 hs with ⟨e3, e4⟩ | ⟨e3, n', k1, k2, k3, k4, k5, k6⟩
  · rw [e3, e4]; exact ⟨_, _, _, rfl, rfl, h.st 1⟩
  rw [e3, k5, if_pos (nI_nn (by omega)), b0, z0, g3, k3]
  by_cases cl : σ 2 r = σ 2 s
  case neg => rw [if_neg cl, if_neg cl]; exact ⟨_, _, _, rfl, rfl, h.st 5⟩
  rw [if_pos cl, if_pos cl, has_gen hr g1 g4, has_gen hs k1 k4, bs]
  simp only [lt0, lc_le, lc_gt, lgs, i64_toInt, nI_toInt (show n < 2147483648 by omega), nI_toInt (show n' < 2147483648 by omega)]
  have bad : SQ ((f_X6_found σ 2).bind fun v => some (v.1, v.2)) ((f_X7_found μ 2).bind fun v => some (v.1, v.2)) := ⟨_, _, _, rfl, rfl, h.st 2⟩
  by_cases d1 : 0 ≤ x2.toInt ∧ 0 ≤ x5.toInt ∧ x2.toInt + x5.toInt ≤ n
  case neg =>
    rw [decide_eq_false d1, if_pos (show bI false = 0 from rfl)]
    by_cases q1 : x2.toInt < 0
    · rw [if_pos q1]; exact bad
    rw [if_neg q1]
    by_cases q2 : x4.toInt < 0
    · rw [if_pos q2]; exact bad
    rw [if_neg q2]
    by_cases q3 : x5.toInt < 0
    · rw [if_pos q3]; exact bad
    rw [if_neg q3, if_pos (by omega)]; exact bad
  rw [decide_eq_true d1, if_neg (show ¬ bI true = 0 by decide), bs, if_neg (show ¬ x2.toInt < 0 by omega)]
  by_cases d2 : 0 ≤ x4.toInt ∧ 0 ≤ x5.toInt ∧ x4.toInt + x5.toInt ≤ n'
  case neg =>
    rw [decide_eq_false d2, if_pos (show bI false = 0 from rfl)]
    by_cases q2 : x4.toInt < 0
    · rw [if_pos q2]; exact bad
    rw [if_neg q2, if_neg (show ¬ x5.toInt < 0 by omega), if_neg (by omega), if_neg (by omega)]; exact bad
  rw [decide_eq_true d2, if_neg (show ¬ bI true = 0 by decide), if_neg (show ¬ x4.toInt < 0 by omega), if_neg (show ¬ x5.toInt < 0 by omega), if_neg (by omega), if_pos (by omega)]
  obtain ⟨i, hi, rfl⟩ := of_nn (x := x2) (n := n) (by omega) (by omega) (by omega)
  obtain ⟨j, hj, rfl⟩ := of_nn (x := x4) (n := n') (by omega) (by omega) (by omega)
  obtain ⟨m, hm, rfl⟩ := of_nn (x := x5) (n := n) (by omega) (by omega) (by omega)
  rw [nI_toInt (by omega), nI_toInt (by omega)] at d1 d2
  rw [gd_t (show cpB (nI i) (nI j) (nI m) 40 40 = true from decide_eq_true ⟨nI_pos (by omega), nI_pos (by omega), nI_pos (by omega), by rw [cl_n (by omega), cl_n (by omega)]; omega, by rw [cl_n (by omega), cl_n (by omega)]; omega⟩), cl_n (by omega), cl_n (by omega), cl_n (by omega)]
  obtain ⟨μ', e, f1, f2, f3⟩ := cpM (μ := μ) hr hs (show i + m ≤ 40 by omega) (show j + m ≤ 40 by omega) hF
  rw [e]
  refine ⟨nI m, _, _, rfl, rfl, Sim.st (Sim.rows (σ' := mcpy σ (5 + r) (5 + s) i j m) (μ' := μ') h (fun q hq => mrow_ne _ (by omega)) (fun q hq => f1 q (by omega)) ?_) 0⟩
  intro k hk
  rw [f1 1 (by omega), f1 2 (by omega), show mcpy σ (5 + r) (5 + s) i j m 2 = σ 2 from mrow_ne _ (by omega), show mcpy σ (5 + r) (5 + s) i j m 3 = σ 3 from mrow_ne _ (by omega)]
  rcases h.1 k hk with q | ⟨n1, a1, a2, a3, a4, a5, a6⟩
  · exact Or.inl q
  · refine Or.inr ⟨n1, a1, a2, a3, a4, a5, fun t ht => ?_⟩
    show mcpy σ (5 + r) (5 + s) i j m (5 + k) t = _
    by_cases ek : k = s
    · subst ek
      rw [show mcpy σ (5 + r) (5 + k) i j m (5 + k) = _ from mrow_at _ _ _]
      unfold va_cpy
      by_cases et : j ≤ t ∧ t < j + m
      · rw [if_pos et, show 40 * k + t = 40 * k + j + (t - j) by omega, f2 (t - j) (by omega)]
        rw [g6 _ (by omega), Nat.add_assoc]
      · rw [if_neg et, f3 _ (by omega)]; exact a6 t ht
    · rw [show mcpy σ (5 + r) (5 + s) i j m (5 + k) = _ from mrow_ne _ (by omega), f3 _ (by omega)]; exact a6 t ht
/-- could a copy stand recalled on a told day -/
theorem can_eq {A : Ar} (hX : XN σ A) (hM : MA (μ 5) A) (hO : AOK A) {c : Nat} (hc : c < A 3) (v : Int32) (hv : ¬ v = -1) : f_X7_canBe μ (nI c) v = f_X3_couldWhiten σ (nI c) v ∧ ∃ b : Bool, f_X7_canBe μ (nI c) v = some (bI b) := by
  have ok := hO.2.2.2.2.2.2.2.1 c hc
  have hC := hO.2.2.2.1
  have hD := hO.2.2.2.2.2.1
  have hH := hO.2.2.1
  have okh := hO.2.2.2.2.2.2.1 (A (25 + c)) ok.2.1
  have hA1 := hO.2.1
  obtain ⟨-, h2, h3, -, -, -, -, -, -, hcs, -⟩ := id hX
  have hcs := hcs c hc
  unfold f_X7_canBe f_X3_couldWhiten
  simp only [gB (show c < 10 by omega) (show 10 < 2147483648 by omega)]
  rw [a25, gB (by omega) (by omega), cl_n (by omega), hM _ (by omega), a7, gB (by omega) (by omega), cl_n (by omega), hM _ (by omega), cl_n (by omega), hcs.2.1, hcs.2.2.2, h3, h2, X1_isDrunk_eq hX hO ok.2.1]
  have d1 : ∀ y x : Int32, f_X7_canBe_108 μ (nI c) x = (if limI (kd A c) (A 0) < x then some 0 else some 1) := fun y x => by
    unfold f_X7_canBe_108
    rw [a25, gB (by omega) (by omega), cl_n (by omega), hM _ (by omega), X7_limit_n_eq hM hO ok.2.1]
    rfl
  haveI : Decidable (isN v (A (45 + c)) (A 5 + 1)) := Classical.propDecidable _
  have d2 : ∀ y : Int32, f_X7_canBe_26 μ (nI c) v y = (if isN v (A (45 + c)) (A 5 + 1) then (if y = 0 then (if limI (kd A c) (A 0) < v - nI (A (45 + c)) then some 0 else some 1) else if v - nI (A (45 + c)) < nI (A 1) then (if limI (kd A c) (A 0) < v - nI (A (45 + c)) then some 0 else some 1) else if v - nI (A (45 + c)) = nI (A 1) then some 1 else some 0) else some 0) := fun y => by
    unfold f_X7_canBe_26
    rw [if_neg hv, a45, gB (by omega) (by omega), gB (by omega) (by omega), cl_n (by omega), hM _ (by omega), hM 5 (by omega), hM 1 (by omega), d1 y]
    by_cases q : isN v (A (45 + c)) (A 5 + 1)
    · rw [in_t (by rw [i64_toInt, nI_toInt (by omega)]) (by rw [i64_toInt, nI_toInt (by omega)]; omega) (by omega) q, if_pos q]; rfl
    · rw [in_f (by rw [i64_toInt, nI_toInt (by omega)]) (by rw [i64_toInt, nI_toInt (by omega)]; omega) (by omega) q, if_neg q]; rfl
  have e3 : ∀ a b : Option Int32, (if nI (A (7 + A (25 + c))) = 3 then a else b) = if A (7 + A (25 + c)) = 3 then a else b := fun a b => by
    by_cases q : A (7 + A (25 + c)) = 3
    · rw [if_pos q, if_pos (show nI (A (7 + A (25 + c))) = 3 by rw [q]; rfl)]
    · rw [if_neg q, if_neg (show ¬ nI (A (7 + A (25 + c))) = 3 by rw [show (3 : Int32) = nI 3 from rfl, eq_n (by omega) (by omega)]; exact q)]
  rw [e3, d2, d2]
  by_cases q : isN v (A (45 + c)) (A 5 + 1)
  case neg =>
    rw [if_neg q, if_neg q, ite_self]
    rw [isN_iff (by omega)] at q
    refine ⟨?_, false, rfl⟩
    by_cases c1 : v < nI (A (45 + c))
    · rw [if_pos c1]
    · rw [if_neg c1, if_neg (show ¬ v ≤ nI (A 5) by
        rw [Int32.lt_iff_toInt_lt, nI_toInt (by omega)] at c1
        rw [Int32.le_iff_toInt_le, nI_toInt (by omega)]
        omega)]
  obtain ⟨u, hu1, hu2, rfl⟩ := id q
  rw [if_pos q, if_pos q, if_neg (show ¬ nI u < nI (A (45 + c)) by rw [lt_n (by omega) (by omega)]; omega), if_pos (show nI u ≤ nI (A 5) by rw [le_n (by omega) (by omega)]; omega), X1_isInLimit_eq hX hO hc (by omega), bs, bs]
  simp only [dl (a := u) (b := A (45 + c)) (k := kd A c) (y := A 0) (by omega) (by omega) hO.1, if_pos trivial]
  unfold inLim
  rw [pk_sub (by omega)]
  simp only [lt_n (show u - A (45 + c) < 2147483648 by omega) (show A 1 < 2147483648 by omega), eq_n (show u - A (45 + c) < 2147483648 by omega) (show A 1 < 2147483648 by omega), le_n (show A 1 < 2147483648 by omega) (show u - A (45 + c) < 2147483648 by omega)]
  by_cases k3 : A (7 + A (25 + c)) = 3
  · rw [if_pos k3, decide_eq_true k3, if_neg (show ¬ bI true = 0 by decide), if_neg (show ¬ (1 : Int32) = 0 by decide)]
    by_cases c1 : u - A (45 + c) < A 1
    · rw [if_pos c1, if_neg (show ¬ u - A (45 + c) = A 1 by omega), if_neg (show ¬ A 1 ≤ u - A (45 + c) by omega)]
      by_cases hp : (u : Int) - (A (45 + c) : Int) ≤ lim (kd A c) (A 0)
      · rw [decide_eq_true hp, if_neg (show ¬ ¬ (u : Int) - (A (45 + c) : Int) ≤ lim (kd A c) (A 0) from fun q => q hp), if_neg (show ¬ bI true = 0 by decide)]; exact ⟨rfl, true, rfl⟩
      · rw [decide_eq_false hp, if_pos hp]; exact ⟨rfl, false, rfl⟩
    · rw [if_neg c1]
      by_cases c2 : u - A (45 + c) = A 1
      · rw [if_pos c2, if_pos c2]; exact ⟨rfl, true, rfl⟩
      · rw [if_neg c2, if_neg c2, if_pos (show A 1 ≤ u - A (45 + c) by omega)]; exact ⟨rfl, false, rfl⟩
  · rw [if_neg k3, decide_eq_false k3, if_pos (show bI false = 0 from rfl), gi]
    by_cases hp : (u : Int) - (A (45 + c) : Int) ≤ lim (kd A c) (A 0)
    · rw [decide_eq_true hp, if_neg (show ¬ ¬ (u : Int) - (A (45 + c) : Int) ≤ lim (kd A c) (A 0) from fun q => q hp)]; exact ⟨rfl, true, rfl⟩
    · rw [decide_eq_false hp, if_pos hp]; exact ⟨rfl, false, rfl⟩
theorem s_forged (h : Sim σ μ) (hF : 1000 ≤ fuel) (x1 x2 : Int32) : SQ (f_X6_forged fuel σ x1 x2) (f_X7_forged fuel μ x1 x2) := by
  obtain ⟨hR, h2, h3, h4, ⟨A, a, B, hO, hD, hP, hX, hM, t1, t2, t3, t4, hH, hB⟩, h6, h7⟩ := id h
  unfold f_X6_forged f_X7_forged
  rw [t2]
  by_cases h0 : σ 13 0 = 0
  · rw [if_pos h0, if_pos h0]; exact ⟨_, _, _, rfl, rfl, h⟩
  rw [if_neg h0, if_neg h0]
  by_cases h1 : isN x1 0 8
  case neg => rw [isRowX_f h1, isRowM_f h1]; exact ⟨_, _, _, rfl, rfl, h⟩
  obtain ⟨r, hr, rfl⟩ := isN_lt h1
  rw [isRowX_t hr, isRowM_t hr, b1, b1, z1, z1]
  simp only [gB hr (show 8 < 2147483648 by omega), cl_n (show r < 2147483648 by omega)]
  rcases miss_eq h.1 hr with ⟨e1, e2⟩ | ⟨e1, n, g1, g2, g3, g4, g5, g6⟩
  · rw [e1, e2]; exact ⟨_, _, _, rfl, rfl, h.st 1⟩
  have hC := hO.2.2.2.1
  have h7' := hX.2.2.2.2.2.2.1
  rw [e1, g5, if_pos (nI_nn (by omega)), b0, z0, h7', hM 3 (by omega), has_gen hr g1 g4, bs]
  simp only [lt0, lc_le, lgs, i64_toInt, nI_toInt (show n < 2147483648 by omega), nI_toInt (show A 3 < 2147483648 by omega)]
  have bad : SQ ((f_X6_found σ 2).bind fun v => some (v.1, v.2)) ((f_X7_found μ 2).bind fun v => some (v.1, v.2)) := ⟨_, _, _, rfl, rfl, h.st 2⟩
  by_cases d1 : 0 ≤ x2.toInt ∧ (0 : Int) ≤ A 3 ∧ x2.toInt + A 3 ≤ n
  case neg =>
    rw [decide_eq_false d1, if_pos (show bI false = 0 from rfl)]
    by_cases q1 : x2.toInt < 0
    · rw [if_pos q1]; exact bad
    rw [if_neg q1, if_neg (by omega)]; exact bad
  rw [decide_eq_true d1, if_neg (show ¬ bI true = 0 by decide), if_neg (show ¬ x2.toInt < 0 by omega), if_pos (by omega)]
  obtain ⟨i, hi, rfl⟩ := of_nn (x := x2) (n := n) (by omega) (by omega) (by omega)
  rw [nI_toInt (by omega)] at d1
  have key : ∀ k p m m' x, p + k = A 3 → k < m → k < m' → ∃ z, f_X3_forgedBy_6 fuel σ r m (nI i) x (nI p) = some z ∧ f_X7_forged_71 fuel m' μ (nI r) (nI i) x (nI p) = some (z, mst μ 0 3 0) := by
    intro k
    induction k with
    | zero =>
      intro p m m' x hp hm hm'
      obtain ⟨m, rfl⟩ := suc_of hm
      obtain ⟨m', rfl⟩ := suc_of hm'
      rw [f_X3_forgedBy_6, f_X7_forged_71, h7', hM 3 (by omega), if_pos (by rw [le_n (by omega) (by omega)]; omega), if_pos (by rw [le_n (by omega) (by omega)]; omega)]
      exact ⟨x, rfl, rfl⟩
    | succ k ih =>
      intro p m m' x hp hm hm'
      obtain ⟨m, rfl⟩ := suc_of hm
      obtain ⟨m', rfl⟩ := suc_of hm'
      rw [f_X3_forgedBy_6, f_X7_forged_71, h7', hM 3 (by omega), if_neg (show ¬ nI (A 3) ≤ nI p by rw [le_n (by omega) (by omega)]; omega), if_neg (show ¬ nI (A 3) ≤ nI p by rw [le_n (by omega) (by omega)]; omega), nI_add, show (40 : Int32) = nI 40 from rfl, if_neg (show ¬ nI 40 ≤ nI (i + p) by rw [le_n (by omega) (by omega)]; omega), gB (by omega) (by omega), pk_mul, nI_add, nI_add, gB (by omega) (by omega), cl_n (by omega), cl_n (by omega), show 40 * r + i + p = 40 * r + (i + p) by omega, ← g6 (i + p) (by omega), s1]
      by_cases ev : σ (5 + r) (i + p) = -1
      · rw [if_pos ev, ev]
        have : f_X7_canBe μ (nI p) (-1) = some 1 := by
          have ok := hO.2.2.2.2.2.2.2.1 p (by omega)
          unfold f_X7_canBe f_X7_canBe_26
          rw [a25, gB (by omega) (by omega), cl_n (by omega), hM _ (by omega), a7, gB (by have := hO.2.2.1; omega) (by omega)]
          split <;> rfl
        rw [this, bs, if_neg (show ¬ (1 : Int32) = 0 by decide), show x ||| 0 = x by rw [Int32.or_zero]]
        exact ih (p + 1) m m' x (by omega) (by omega) (by omega)
      · rw [if_neg ev]
        obtain ⟨e5, b, e6⟩ := can_eq hX hM hO (show p < A 3 by omega) _ ev
        rw [← e5, e6, bs, bs]
        cases b
        · rw [if_pos (show bI false = 0 from rfl), if_pos (show bI false = 0 from rfl)]
          exact ih (p + 1) m m' _ (by omega) (by omega) (by omega)
        · rw [if_neg (show ¬ bI true = 0 by decide), if_neg (show ¬ bI true = 0 by decide), show x ||| 0 = x by rw [Int32.or_zero]]
          exact ih (p + 1) m m' x (by omega) (by omega) (by omega)
  obtain ⟨z, e8, e9⟩ := key (A 3) 0 fuel fuel 0 (by omega) (by omega) (by omega)
  unfold f_X3_forgedBy
  rw [show f_X3_forgedBy_6 fuel σ r fuel (nI i) 0 0 = some z from e8, show f_X7_forged_71 fuel fuel μ (nI r) (nI i) 0 0 = some (z, mst μ 0 3 0) from e9]
  exact ⟨_, _, _, rfl, rfl, h.st 0⟩
theorem q_kind {A : Ar} (hX : XN σ A) (hM : MA (μ 5) A) (hO : AOK A) (x1 : Int32) : QP (f_X6_kind σ x1) (f_X7_kind μ x1) := by
  unfold f_X6_kind f_X7_kind
  have hH := hO.2.2.1
  obtain ⟨hY, -, -, -, -, h6, -, -, hk, -, -⟩ := id hX
  by_cases h1 : isN x1 0 (A 2)
  · obtain ⟨h, hh, rfl⟩ := isN_lt h1
    rw [isHandX_t h6 hO hh, isHandM_t hM hO hh, b1, b1, z1, z1, gB (by omega) (by omega), cl_n (by omega), (hk h hh).1, a7, gB (by omega) (by omega), cl_n (by omega), hM _ (by omega)]
    exact ⟨_, rfl, rfl⟩
  · rw [isHandX_f h6 hO h1, isHandM_f hM hO h1]
    exact ⟨_, rfl, rfl⟩
theorem ko_eq {a b : Nat} (ha : a < 6) (hb : b < 6) (hF : 1000 ≤ fuel) : ∃ v : Bool, f_X2_isKindOf fuel σ (nI a) (nI b) = some (bI v) ∧ f_X7_isOf (nI a) (nI b) = some (bI v) := by
  obtain ⟨n, rfl⟩ : ∃ n, fuel = n + 10 := ⟨fuel - 10, by omega⟩
  unfold f_X2_isKindOf
  rcases (show a = 0 ∨ a = 1 ∨ a = 2 ∨ a = 3 ∨ a = 4 ∨ a = 5 by omega) with rfl | rfl | rfl | rfl | rfl | rfl <;> rcases (show b = 0 ∨ b = 1 ∨ b = 2 ∨ b = 3 ∨ b = 4 ∨ b = 5 by omega) with rfl | rfl | rfl | rfl | rfl | rfl <;> first | exact ⟨true, rfl, rfl⟩ | exact ⟨false, rfl, rfl⟩
theorem s_as (h : Sim σ μ) (hF : 1000 ≤ fuel) (x1 x2 : Int32) : SQ (f_X6_as fuel σ x1 x2) (f_X7_as μ x1 x2) := by
  obtain ⟨hR, h2, h3, h4, ⟨A, a, B, hO, hD, hP, hX, hM, t1, t2, t3, t4, hH, hB⟩, h6, h7⟩ := id h
  unfold f_X6_as f_X7_as
  have hH := hO.2.2.1
  obtain ⟨hY, -, -, -, -, h6, -, -, hk, -, -⟩ := id hX
  by_cases h1 : isN x1 0 (A 2)
  case neg => rw [isHandX_f h6 hO h1, isHandM_f hM hO h1]; exact ⟨_, _, _, rfl, rfl, h⟩
  obtain ⟨j, hh, rfl⟩ := isN_lt h1
  have ok := hO.2.2.2.2.2.2.1 j hh
  rw [isHandX_t h6 hO hh, isHandM_t hM hO hh, b1, b1, z1, z1, show (6 : Int32) = nI 6 from rfl]
  by_cases h2 : isN x2 0 6
  case neg => rw [below_f (by omega) h2, in_f (lo := 0) (n := 6) rfl rfl (by omega) h2]; exact ⟨_, _, _, rfl, rfl, h⟩
  obtain ⟨k, hk6, rfl⟩ := isN_lt h2
  obtain ⟨v, e1, e2⟩ := ko_eq (σ := σ) (a := A (7 + j)) (b := k) (by omega) hk6 hF
  rw [below_t hk6 (by omega), in_t (lo := 0) (n := 6) rfl rfl (by omega) h2, b1, b1, z1, z1, gB (by omega) (by omega), cl_n (by omega), (hk j hh).1, a7, gB (by omega) (by omega), cl_n (by omega), hM _ (by omega), e1, e2, bs, bs]
  cases v
  · exact ⟨_, _, _, rfl, rfl, h.st 3⟩
  · exact ⟨_, _, _, rfl, rfl, h.st 0⟩
theorem q_trace (h : Sim σ μ) (x1 : Int32) : QP (f_X6_trace σ x1) (f_X7_trace μ x1) := by
  obtain ⟨-, -, -, -, -, -, ⟨t, t1, t2, t3, t4⟩⟩ := h
  unfold f_X6_trace f_X7_trace
  rw [t2, t3]
  by_cases h1 : isN x1 0 t
  · obtain ⟨j, hj, rfl⟩ := isN_lt h1
    rw [below_t hj (by omega), in_t (lo := 0) (n := t) rfl (cm1 (by omega)) (by omega) h1, b1, b1, z1, z1, gB (by omega) (by omega), gB (by omega) (by omega), cl_n (by omega), t4 j hj]
    exact ⟨_, rfl, rfl⟩
  · rw [below_f (by omega) h1, in_f (lo := 0) (n := t) rfl (cm1 (by omega)) (by omega) h1]; exact ⟨_, rfl, rfl⟩
theorem q_count (h : Sim σ μ) (hF : 1000 ≤ fuel) (x1 : Int32) : QP (f_X6_count fuel σ x1) (f_X7_count fuel μ x1) := by
  obtain ⟨hR, h2, h3, ⟨t, tt1, tt2, tt3, tt4⟩, ⟨A, a, B, hO, hD, hP, hX, hM, t1, t2, t3, t4, hH, hB⟩, h6, h7⟩ := id h
  have key : ∀ k p m m' x, p + k = 8 → k < m → k < m' → ∃ z n', f_X5_present_4 fuel σ m x (nI p) = some z ∧ f_X7_count_4 fuel μ m' x1 x (nI p) = f_X7_count_4 fuel μ (n' + 1) x1 z 8 := by
    intro k
    induction k with
    | zero =>
      intro p m m' x hp hm hm'
      obtain ⟨m, rfl⟩ := suc_of hm
      obtain ⟨m', rfl⟩ := suc_of hm'
      obtain rfl : p = 8 := by omega
      exact ⟨x, m', rfl, rfl⟩
    | succ k ih =>
      intro p m m' x hp hm hm'
      obtain ⟨m, rfl⟩ := suc_of hm
      obtain ⟨m', rfl⟩ := suc_of hm'
      rw [f_X5_present_4, show (8 : Int32) = nI 8 from rfl, if_neg (show ¬ nI 8 ≤ nI p by rw [le_n (by omega) (by omega)]; omega)]
      have em : f_X7_count_4 fuel μ (m' + 1) x1 x (nI p) = if 0 ≤ μ 2 p then f_X7_count_4 fuel μ m' x1 (x + 1) (nI (p + 1)) else f_X7_count_4 fuel μ m' x1 (x + 0) (nI (p + 1)) := by
        rw [f_X7_count_4, if_neg (show ¬ (8 : Int32) ≤ nI p by rw [show (8 : Int32) = nI 8 from rfl, le_n (by omega) (by omega)]; omega), gB (by omega) (by omega), cl_n (by omega), s1]
      rw [em, s1]
      rcases miss_eq hR (show p < 8 by omega) with ⟨e1, e2⟩ | ⟨e1, n, g1, g2, g3, g4, g5, g6⟩
      · rw [e1, e2, b1, z1, if_neg (by decide), show x + 0 = x from Int32.add_zero x]
        exact ih (p + 1) m m' x (by omega) (by omega) (by omega)
      · rw [e1, g5, b0, z0, if_pos (nI_nn (by omega))]
        exact ih (p + 1) m m' (x + 1) (by omega) (by omega) (by omega)
  obtain ⟨z, n', e1, e2⟩ := key 8 0 fuel fuel 0 (by omega) (by omega) (by omega)
  unfold f_X6_count f_X7_count f_X5_present
  rw [show f_X7_count_4 fuel μ fuel x1 0 0 = f_X7_count_4 fuel μ (n' + 1) x1 z 8 from e2, show f_X5_present_4 fuel σ fuel 0 0 = some z from e1, f_X7_count_4, if_pos (show (8 : Int32) ≤ 8 by decide)]
  obtain ⟨q1, q2, q3, q4, q5, q6, q7, q8, -, -, -⟩ := id hX
  rw [q6, q7, q8, q3, q4, q5, t3, t4, tt2, tt3, bitCount_eq (wb_lt hO), X7_whites_eq hM hO (by omega)]
  by_cases c : isN x1 0 9
  · obtain ⟨k, hk, rfl⟩ := isN_lt c
    have gg : ∀ i, i < 85 → ∀ v, (gd (inB (nI i) 85) (some (μ 5 (nI i).toNatClampNeg)) = some v) = (nI (A i) = v) := fun i hi v => by rw [gB hi (by omega), cl_n (by omega), hM i hi]; simp
    rcases (show k = 0 ∨ k = 1 ∨ k = 2 ∨ k = 3 ∨ k = 4 ∨ k = 5 ∨ k = 6 ∨ k = 7 ∨ k = 8 by omega) with rfl | rfl | rfl | rfl | rfl | rfl | rfl | rfl | rfl
    · exact ⟨_, rfl, rfl⟩
    · exact ⟨nI (A 2), rfl, by rw [← hM 2 (by omega)]; rfl⟩
    · exact ⟨nI (A 3), rfl, by rw [← hM 3 (by omega)]; rfl⟩
    · exact ⟨nI (A 4), rfl, by rw [← hM 4 (by omega)]; rfl⟩
    · exact ⟨nI (A 5), rfl, by rw [← hM 5 (by omega)]; rfl⟩
    · exact ⟨nI (A 6), rfl, by rw [← hM 6 (by omega)]; rfl⟩
    · exact ⟨_, rfl, rfl⟩
    · exact ⟨_, rfl, rfl⟩
    · exact ⟨_, rfl, rfl⟩
  · refine ⟨-1000001, ?_, ?_⟩ <;> simp only [if_neg (show ¬ x1 = 0 from no_n c (k := 0) (by omega)), if_neg (show ¬ x1 = 1 from no_n c (k := 1) (by omega)), if_neg (show ¬ x1 = 2 from no_n c (k := 2) (by omega)), if_neg (show ¬ x1 = 3 from no_n c (k := 3) (by omega)), if_neg (show ¬ x1 = 4 from no_n c (k := 4) (by omega)), if_neg (show ¬ x1 = 5 from no_n c (k := 5) (by omega)), if_neg (show ¬ x1 = 6 from no_n c (k := 6) (by omega)), if_neg (show ¬ x1 = 7 from no_n c (k := 7) (by omega)), if_neg (show ¬ x1 = 8 from no_n c (k := 8) (by omega))]
end RW2
