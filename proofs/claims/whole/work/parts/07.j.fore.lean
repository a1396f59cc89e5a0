/-! foretold: safe, law, self, doubles, years -/
section F2
variable {σ μ : Mem} {A : Ar} {fuel : Nat}
theorem q_safe (hX : XN σ A) (hM : MA (μ 5) A) (hO : AOK A) (x1 : Int32) : QP (f_X6_safe σ x1) (f_X7_safe μ x1) := by
  have hC := hO.2.2.2.1
  have hH := hO.2.2.1
  unfold f_X6_safe f_X7_safe
  by_cases h1 : isN x1 0 (A 3)
  · obtain ⟨c, hc, rfl⟩ := isN_lt h1
    have ok := hO.2.2.2.2.2.2.2.1 c hc
    have okk := hO.2.2.2.2.2.2.1 (A (25 + c)) ok.2.1
    obtain ⟨hY, -, hD, -, hW, -, h7, -, -, hcs, -⟩ := id hX
    have hcs := hcs c hc
    have hwl := wb_lt hO
    rw [isCopyX_t h7 hO hc, isCopyM_t hM hO hc, b1, b1, z1, z1]
    unfold f_X3_safeFrom f_X6_bitOf
    rw [gB (by omega) (by omega), hW, bit_bI (by omega) (by omega), wb_tb hc, bs, cl_n (by omega), hcs.2.1, X1_isDrunk_eq hX hO ok.2.1, bs, gB (by omega) (by omega), hY, X1_limitOf_eq hX hO ok.2.1 hO.1, bs, hcs.2.2.2, hD]
    rw [a25, a55, a45, gB (by omega) (by omega), gB (by omega) (by omega), cl_n (by omega), cl_n (by omega), cl_n (by omega), hM (55 + c) (by omega), hM (25 + c) (by omega), hM (45 + c) (by omega), a7, gB (by omega) (by omega), cl_n (by omega), hM (7 + A (25 + c)) (by omega), gB (by omega) (by omega), X7_limit_n_eq hM hO ok.2.1, bs, hM 5 (by omega)]
    have e55 : (nI (A (55 + c)) = 1) = (A (55 + c) = 1) := eq_n (b := 1) (by omega) (by omega)
    have e7 : (nI (A (7 + A (25 + c))) = 3) = (A (7 + A (25 + c)) = 3) := eq_n (b := 3) (by omega) (by omega)
    simp only [e55, e7]
    rcases (show A (55 + c) = 0 ∨ A (55 + c) = 1 by omega) with e | e
    · rw [e]
      by_cases e2 : A (7 + A (25 + c)) = 3
      · rw [e2]; exact ⟨_, rfl, rfl⟩
      · rw [if_neg (show ¬ (0 : Nat) = 1 by omega), if_neg e2, decide_eq_false e2]
        show QP (some (jmax _ _)) _
        unfold jmax
        by_cases e3 : nI (A (45 + c)) + limI (A (7 + A (25 + c))) (A 0) + 1 ≤ nI (A 5)
        · rw [if_pos e3, if_neg (Int32.not_lt.mpr e3)]; exact ⟨_, rfl, rfl⟩
        · rw [if_neg e3, if_pos (Int32.not_le.mp e3)]; exact ⟨_, rfl, rfl⟩
    · rw [e]; exact ⟨_, rfl, rfl⟩
  · rw [isCopyX_f hX.2.2.2.2.2.2.1 hO h1, isCopyM_f hM hO h1]; exact ⟨_, rfl, rfl⟩
theorem q_law (hX : XN σ A) (hM : MA (μ 5) A) (hO : AOK A) (h5 : A 5 ≤ 999) (hF : 1000 ≤ fuel) (x1 x2 : Int32) : QM (f_X6_law fuel σ x1 x2) (f_X7_law fuel μ x1 x2) μ := by
  have hN9 := hO.2.2.2.2.1
  unfold f_X6_law f_X7_law
  by_cases h1 : isN x1 0 (A 4)
  · obtain ⟨e, he, rfl⟩ := isN_lt h1
    rw [isDeedX_t hX.2.2.2.2.2.2.2.1 hO he, isDeedM_t hM hO he, b1, b1, z1, z1]
    by_cases h2 : isN x2 0 (2 ^ A 2)
    · obtain ⟨hs, hh, rfl⟩ := isN_lt h2
      have hs9 : hs < 16 := Nat.lt_of_lt_of_le hh (p2_le hO.2.2.1)
      rw [isHsX_t hX.2.2.2.2.2.1 hO hh, areHM_t hM hO hh, b1, b1, z1, z1]
      unfold f_X3_leastYear
      have key : ∀ j i m m2 τ, i + j = 100 → 1 ≤ i → j < m → j < m2 → E11 μ τ → QM (f_X3_leastYear_3 fuel σ m (nI e) (nI hs) (nI i)) (f_X7_law_21 fuel m2 τ (nI e) (nI hs) (nI i)) μ := by
        intro j
        induction j with
        | zero =>
          intro i m m2 τ hi h1i hm hm2 hx
          obtain ⟨m', rfl⟩ := suc_of hm
          obtain ⟨m2', rfl⟩ := suc_of hm2
          rw [f_X3_leastYear_3, f_X7_law_21, if_pos (show (99 : Int32) < nI i by rw [show (99 : Int32) = nI 99 from rfl, lt_n (by omega) (by omega)]; omega), if_pos (show (100 : Int32) ≤ nI i by rw [show (100 : Int32) = nI 100 from rfl, le_n (by omega) (by omega)]; omega)]
          exact ⟨_, _, rfl, rfl, hx⟩
        | succ j ih =>
          intro i m m2 τ hi h1i hm hm2 hx
          obtain ⟨m', rfl⟩ := suc_of hm
          obtain ⟨m2', rfl⟩ := suc_of hm2
          obtain ⟨μ1, e1, y1, a1⟩ := ad_lay (hM.e11 hx) hO (fuel := fuel) (by omega)
          have a2 := ad_year a1 i
          obtain ⟨μ2, e2, y2, a3⟩ := ad_rec a2 hO (by omega) (Nat.le_refl _) (by omega) (fuel := fuel) (by omega) hs9
          have hl := or_lt10 (wb_lt hO) (recs_lt hO hs i)
          have hst := std_lt hO (blk A (wb A ||| recs A hs i))
          have hE : E11 μ1 (mst μ1 11 0 (nI i)) := fun q hq => mst_ne hq
          rw [f_X3_leastYear_3, f_X7_law_21, if_neg (show ¬ (99 : Int32) < nI i by rw [show (99 : Int32) = nI 99 from rfl, lt_n (by omega) (by omega)]; omega), if_neg (show ¬ (100 : Int32) ≤ nI i by rw [show (100 : Int32) = nI 100 from rfl, le_n (by omega) (by omega)]; omega), X1_whiteAfter_eq hX hO (by omega) hs9 (by omega), bs, X1_standingBy_eq hX hO (by omega) hl, bs, e1, bs, e2, bs, ad_stand a3 hO (by omega) (Nat.le_refl _) (by omega) (by omega), bs]
          unfold f_X6_bitOf
          rw [bit_bI (by omega) (by omega), bs, s1]
          show QM (if bI ((std A (blk A (wb A ||| recs A hs i))).testBit e) = 0 then _ else _) (if (nI (std A (blk A (wb A ||| recs A hs i))) >>> (nI e &&& 31)) &&& 1 = 0 then _ else _) μ
          rw [bit_bI (by omega) (by omega)]
          cases (std A (blk A (wb A ||| recs A hs i))).testBit e with
          | false => exact ⟨_, _, rfl, rfl, ((hx.tr y1).tr hE).tr y2⟩
          | true => exact ih (i + 1) m' m2' μ2 (by omega) (by omega) (by omega) (by omega) (((hx.tr y1).tr hE).tr y2)
      obtain ⟨r, μ', g1, g2, g3⟩ := key 99 1 fuel fuel μ (by omega) (by omega) (by omega) (by omega) E11.rf
      rw [show (1 : Int32) = nI 1 from rfl, g1, g2]
      exact ⟨r, μ', rfl, rfl, g3⟩
    · rw [isHsX_f hX.2.2.2.2.2.1 hO h2, areHM_f hM hO h2]; exact ⟨_, _, rfl, rfl, E11.rf⟩
  · rw [isDeedX_f hX.2.2.2.2.2.2.2.1 hO h1, isDeedM_f hM hO h1]; exact ⟨_, _, rfl, rfl, E11.rf⟩
theorem q_itself (hX : XN σ A) (hM : MA (μ 5) A) (hO : AOK A) (hF : 100 ≤ fuel) (x1 x2 x3 : Int32) : QP (f_X6_itself fuel σ x1 x2 x3) (f_X7_itself fuel μ x1 x2 x3) := by
  have hN9 := hO.2.2.2.2.1
  unfold f_X6_itself f_X7_itself
  by_cases h1 : isN x1 0 (A 4)
  · obtain ⟨e, he, rfl⟩ := isN_lt h1
    rw [isDeedX_t hX.2.2.2.2.2.2.2.1 hO he, isDeedM_t hM hO he, b1, b1, z1, z1, show (6 : Int32) = nI 6 from rfl, show (2 : Int32) = nI 2 from rfl]
    by_cases h2 : isN x2 0 6
    · obtain ⟨p, hp, rfl⟩ := isN_lt h2
      rw [below_t hp (by omega), in_t (lo := 0) (n := 6) rfl rfl (by omega) h2, b1, b1, z1, z1]
      by_cases h3 : isN x3 0 2
      · obtain ⟨k, hk, rfl⟩ := isN_lt h3
        have hb := blk_lt hO (wb A)
        have hp2 : 2 ^ p < 2 ^ 6 := Nat.pow_lt_pow_right (by decide) hp
        have hb2 : blk A (wb A) ^^^ (blk A (wb A) &&& 2 ^ p) < 64 := Nat.xor_lt_two_pow (n := 6) hb (Nat.lt_of_le_of_lt Nat.and_le_left hb)
        have hs1 := std_lt hO (blk A (wb A) ^^^ (blk A (wb A) &&& 2 ^ p))
        have hs2 := std_lt hO (blk A (wb A))
        rw [below_t hk (by omega), isTwo_t hk, b1, b1, z1, z1]
        unfold f_X3_selfOf f_X6_bitOf f_X3_selfOf_35 f_X7_itself_67 f_X6_bitOf
        rw [hX.2.2.2.2.1, X1_blackBy_eq hX hO hF (wb_lt hO), X7_black_n_eq hM hO hF, bs, bs, nI_shl1 (by omega), nI_not (by omega) (by omega), X1_standingOn_eq hX hO hF hb2, X7_standBy_n_eq hM hO hF hb2, bs, bs, bit_bI (by omega) (by omega), bs]
        simp only [X1_standingOn_eq hX hO hF hb, X7_standBy_n_eq hM hO hF hb, bs, bit_bI (show std A (blk A (wb A)) < 2147483648 by omega) (show e < 32 by omega), bit_bI (show std A (blk A (wb A) ^^^ (blk A (wb A) &&& 2 ^ p)) < 2147483648 by omega) (show e < 32 by omega)]
        rcases (show k = 0 ∨ k = 1 by omega) with rfl | rfl <;> cases (std A (blk A (wb A) ^^^ (blk A (wb A) &&& 2 ^ p))).testBit e <;> cases (std A (blk A (wb A))).testBit e <;> exact ⟨_, rfl, rfl⟩
      · rw [below_f (by omega) h3, isTwo_f h3]; exact ⟨_, rfl, rfl⟩
    · rw [below_f (by omega) h2, in_f (lo := 0) (n := 6) rfl rfl (by omega) h2]; exact ⟨_, rfl, rfl⟩
  · rw [isDeedX_f hX.2.2.2.2.2.2.2.1 hO h1, isDeedM_f hM hO h1]; exact ⟨_, rfl, rfl⟩
theorem pc64 : ∀ a, a < 64 → (pc a = 0 → a = 0) ∧ (¬ a = 0 → a &&& (a - 1) < 64 ∧ pc a = pc (a &&& (a - 1)) + 1) ∧ pc a ≤ 6 := by
  intro a h
  have : (List.range 64).all (fun a => decide ((pc a = 0 → a = 0) ∧ (¬ a = 0 → a &&& (a - 1) < 64 ∧ pc a = pc (a &&& (a - 1)) + 1) ∧ pc a ≤ 6)) = true := by decide +kernel
  exact of_decide_eq_true (List.all_eq_true.mp this a (List.mem_range.mpr h))
theorem bits_eq (hF : 100 ≤ fuel) {a : Nat} (h : a < 64) : f_X7_bits fuel (nI a) = some (nI (pc a)) := by
  have key : ∀ m a k n, a < 64 → pc a = m → m < n → f_X7_bits_4 fuel n (nI k) (nI a) = some (nI (k + m)) := by
    intro m
    induction m with
    | zero =>
      intro a k n ha hp hn
      obtain ⟨n', rfl⟩ := suc_of hn
      obtain rfl := (pc64 a ha).1 hp
      rfl
    | succ m ih =>
      intro a k n ha hp hn
      obtain ⟨n', rfl⟩ := suc_of hn
      have h0 : ¬ a = 0 := fun e => by subst e; exact absurd hp (by rw [show pc 0 = 0 from rfl]; omega)
      obtain ⟨h1, h2⟩ := (pc64 a ha).2.1 h0
      rw [f_X7_bits_4, if_neg (show ¬ nI a = 0 by rw [i0, eq_n (by omega) (by omega)]; exact h0), s1, i1, pk_sub (by omega), nI_and, ih _ _ _ h1 (by omega) (by omega)]
      congr 2
      omega
  unfold f_X7_bits
  have := (pc64 a h).2.2
  rw [i0, key (pc a) a 0 fuel h rfl (by omega), Nat.zero_add]
/-- the fewest places, sets below s tried -/
def few (A : Ar) (b e : Nat) : Nat → Nat
  | 0 => 63
  | s + 1 => if pc s < pc (few A b e s) ∧ (std A (b ||| s)).testBit e = true then s else few A b e s
theorem few_lt {b e : Nat} : ∀ {s : Nat}, s ≤ 64 → few A b e s < 64
  | 0, _ => by show 63 < 64; omega
  | s + 1, h => by
    show (if _ then s else few A b e s) < 64
    have := few_lt (b := b) (e := e) (s := s) (by omega)
    split <;> omega
theorem or64 {a b : Nat} (ha : a < 64) (hb : b < 64) : a ||| b < 64 := Nat.or_lt_two_pow (n := 6) ha hb
theorem X3_fewest_eq (hX : XN σ A) (hO : AOK A) (hF : 100 ≤ fuel) {e b : Nat} (he : e < 5) (hb : b < 64) : f_X3_fewestPlaces fuel σ (nI e) (nI b) = some (nI (few A b e 64)) := by
  have key : ∀ k i n, i + k = 64 → k < n → f_X3_fewestPlaces_7 fuel σ n (nI e) (nI b) (nI (few A b e i)) (nI i) = some (nI (few A b e 64)) := by
    intro k
    induction k with
    | zero =>
      intro i n hi hn
      obtain ⟨m, rfl⟩ := suc_of hn
      rw [f_X3_fewestPlaces_7, show (64 : Int32) = nI 64 from rfl, if_pos (by rw [le_n (by omega) (by omega)]; omega), show i = 64 by omega]
    | succ k ih =>
      intro i n hi hn
      obtain ⟨m, rfl⟩ := suc_of hn
      have ih := ih (i + 1) m (by omega) (by omega)
      have hf : few A b e i < 64 := few_lt (by omega)
      have h1 := (pc64 i (by omega)).2.2
      have h2 := (pc64 _ hf).2.2
      have hst := std_lt hO (b ||| i)
      rw [f_X3_fewestPlaces_7, show (64 : Int32) = nI 64 from rfl, if_neg (by rw [le_n (by omega) (by omega)]; omega), bitCount_eq (by omega), bitCount_eq (by omega), bs, bs]
      unfold f_X3_fewestPlaces_32 f_X6_bitOf
      rw [nI_or, X1_standingOn_eq hX hO hF (or64 hb (by omega)), bs, bit_bI (by omega) (by omega), bs, s1]
      simp only [le_n (show pc (few A b e i) < 2147483648 by omega) (show pc i < 2147483648 by omega)]
      rw [show few A b e (i + 1) = if pc i < pc (few A b e i) ∧ (std A (b ||| i)).testBit e = true then i else few A b e i from rfl] at ih
      by_cases c1 : pc (few A b e i) ≤ pc i
      · rw [if_neg (fun q => by omega)] at ih
        rw [if_pos c1]
        exact ih
      · rw [if_neg c1]
        cases c2 : (std A (b ||| i)).testBit e with
        | true => rw [if_pos ⟨by omega, c2⟩] at ih; exact ih
        | false => rw [if_neg (fun q => by rw [c2] at q; exact absurd q.2 (by decide))] at ih; exact ih
  exact key 64 0 fuel (by omega) (by omega)
/-- the cheapest hand beside a set, hands below n tried -/
def chp (A : Ar) (hs : Nat) : Nat → Option Nat
  | 0 => none
  | h + 1 => if (!hs.testBit h && !decide (A (7 + h) = 3)) = true then (match chp A hs h with
    | none => some (A (11 + h))
    | some v => if A (11 + h) < v then some (A (11 + h)) else some v) else chp A hs h
theorem chp_f {hs h : Nat} (c : (!hs.testBit h && !decide (A (7 + h) = 3)) = false) : chp A hs (h + 1) = chp A hs h := by
  show (if _ then _ else _) = _
  rw [if_neg (by rw [c]; decide)]
theorem chp_n {hs h : Nat} (c : (!hs.testBit h && !decide (A (7 + h) = 3)) = true) (e : chp A hs h = none) : chp A hs (h + 1) = some (A (11 + h)) := by
  show (if _ then _ else _) = _
  rw [if_pos c, e]
theorem chp_s {hs h v : Nat} (c : (!hs.testBit h && !decide (A (7 + h) = 3)) = true) (e : chp A hs h = some v) : chp A hs (h + 1) = some (if A (11 + h) < v then A (11 + h) else v) := by
  show (if _ then _ else _) = _
  rw [if_pos c, e]
  show (if _ then _ else _) = _
  split <;> rfl
def cX (o : Option Nat) : Int32 := match o with
  | none => -1000000
  | some v => nI v
def cM (o : Option Nat) : Int32 := match o with
  | none => 1000000
  | some v => nI v
theorem chp_le (hO : AOK A) {hs : Nat} : ∀ {n v : Nat}, n ≤ A 2 → chp A hs n = some v → v ≤ 9
  | 0, _, _, h => by cases h
  | n + 1, v, hn, h => by
    have ok := hO.2.2.2.2.2.2.1 n (by omega)
    unfold chp at h
    by_cases c : (!hs.testBit n && !decide (A (7 + n) = 3)) = true
    · rw [if_pos c] at h
      cases hc : chp A hs n with
      | none => rw [hc] at h; cases h; exact ok.2.2
      | some w =>
        rw [hc] at h
        have := chp_le hO (n := n) (by omega) hc
        revert h
        show (if A (11 + n) < w then some (A (11 + n)) else some w) = some v → _
        split <;> intro h <;> cases h <;> omega
    · rw [if_neg c] at h
      exact chp_le hO (n := n) (by omega) h
theorem X3_cheapest_eq (hX : XN σ A) (hO : AOK A) (hF : 100 ≤ fuel) {hs : Nat} (hs9 : hs < 16) : f_X3_cheapestBeside fuel σ (nI hs) = some (cX (chp A hs (A 2))) := by
  have hH9 := hO.2.2.1
  obtain ⟨hY, hR, hD, hSp, hW, hH, hC, hN, hk, hcs, hds⟩ := id hX
  have key : ∀ k i n, i + k = A 2 → k < n → f_X3_cheapestBeside_6 fuel σ n (nI hs) (cX (chp A hs i)) (nI i) = some (cX (chp A hs (A 2))) := by
    intro k
    induction k with
    | zero =>
      intro i n hi hn
      obtain ⟨m, rfl⟩ := suc_of hn
      rw [f_X3_cheapestBeside_6, hH, if_pos (by rw [le_n (by omega) (by omega)]; omega), show i = A 2 by omega]
    | succ k ih =>
      intro i n hi hn
      obtain ⟨m, rfl⟩ := suc_of hn
      have hil : i < A 2 := by omega
      have ok := hO.2.2.2.2.2.2.1 i hil
      have ih := ih (i + 1) m (by omega) (by omega)
      rw [f_X3_cheapestBeside_6, hH, if_neg (by rw [le_n (by omega) (by omega)]; omega)]
      unfold f_X6_bitOf f_X3_cheapestBeside_38
      rw [bit_bI (by omega) (by omega), X1_isDrunk_eq hX hO hil, bs, bs, gB (by omega) (by omega), gB (by omega) (by omega), cl_n (by omega), (hk i hil).2, s1]
      cases c1 : hs.testBit i with
      | true =>
        rw [chp_f (by rw [c1]; rfl)] at ih
        exact ih
      | false =>
        by_cases c2 : A (7 + i) = 3
        · rw [chp_f (by rw [decide_eq_true c2, Bool.not_true, Bool.and_false])] at ih
          rw [decide_eq_true c2]
          exact ih
        · have ct : (!hs.testBit i && !decide (A (7 + i) = 3)) = true := by rw [c1, decide_eq_false c2]; rfl
          rw [decide_eq_false c2]
          cases hc : chp A hs i with
          | none => rw [chp_n ct hc] at ih; exact ih
          | some v =>
            rw [chp_s ct hc] at ih
            have hv := chp_le hO (by omega) hc
            show (if nI v = -1000000 then _ else if nI v ≤ nI (A (11 + i)) then _ else _) = _
            rw [if_neg (show ¬ nI v = -1000000 by
              intro q
              have := congrArg Int32.toInt q
              rw [nI_toInt (by omega), show (-1000000 : Int32).toInt = -1000000 by decide] at this
              omega)]
            simp only [le_n (show v < 2147483648 by omega) (show A (11 + i) < 2147483648 by omega)]
            by_cases c3 : A (11 + i) < v
            · rw [if_neg (by omega)]
              rw [if_pos c3] at ih
              exact ih
            · rw [if_pos (by omega)]
              rw [if_neg c3] at ih
              exact ih
  exact key (A 2) 0 fuel (by omega) (by omega)
theorem q_doubles (hX : XN σ A) (hM : MA (μ 5) A) (hO : AOK A) (h5 : A 5 ≤ 999) (hF : 1000 ≤ fuel) (x1 x2 x3 : Int32) : QM (f_X6_doubles fuel σ x1 x2 x3) (f_X7_doubles fuel μ x1 x2 x3) μ := by
  have hN9 := hO.2.2.2.2.1
  have hH9 := hO.2.2.1
  unfold f_X6_doubles f_X7_doubles
  by_cases h1 : isN x1 0 (A 4)
  · obtain ⟨e, he, rfl⟩ := isN_lt h1
    rw [isDeedX_t hX.2.2.2.2.2.2.2.1 hO he, isDeedM_t hM hO he, b1, b1, z1, z1]
    by_cases h2 : isN x2 0 (2 ^ A 2)
    · obtain ⟨hs, hh, rfl⟩ := isN_lt h2
      have hs9 : hs < 16 := Nat.lt_of_lt_of_le hh (p2_le hO.2.2.1)
      rw [isHsX_t hX.2.2.2.2.2.1 hO hh, areHM_t hM hO hh, b1, b1, z1, z1, show (3 : Int32) = nI 3 from rfl]
      by_cases h3 : isN x3 0 3
      · obtain ⟨k, hk, rfl⟩ := isN_lt h3
        obtain ⟨μ1, e1, y1, a1⟩ := ad_lay hM hO (fuel := fuel) (by omega)
        obtain ⟨μ2, e2, y2, a2⟩ := ad_rec a1 hO hO.1 (Nat.le_refl _) (by omega) (fuel := fuel) (by omega) hs9
        have hl := or_lt10 (wb_lt hO) (recs_lt hO hs (A 0))
        have hb := blk_lt hO (wb A ||| recs A hs (A 0))
        have hM2 := hM.e11 (y1.tr y2)
        rw [below_t hk (by omega), in_t (lo := 0) (n := 3) rfl rfl (by omega) h3, b1, b1, z1, z1, e1, bs, e2, bs]
        rw [ad_black a2 hO hO.1 (Nat.le_refl _) (by omega) (by omega), bs]
        unfold f_X3_doublesFor
        rw [hX.1, X1_whiteAfter_eq hX hO (by omega) hs9 hO.1, bs, X1_blackBy_eq hX hO (by omega) hl, bs, X3_fewest_eq hX hO (by omega) (by omega) hb, bs, X3_cheapest_eq hX hO (by omega) hs9, bs]
        show QM _ (f_X7_doubles_59 fuel fuel μ2 (nI e) (nI hs) (nI k) (nI (blk A (wb A ||| recs A hs (A 0)))) 63 0) μ
        generalize blk A (wb A ||| recs A hs (A 0)) = b at hb ⊢
        have hf : few A b e 64 < 64 := few_lt (by omega)
        have hpf := (pc64 _ hf).2.2
        have k2 : ∀ j i n, i + j = A 2 → j < n → f_X7_doubles_133 fuel n μ2 (nI hs) (nI k) (nI (few A b e 64)) (cM (chp A hs i)) (nI i) = some (if few A b e 64 = 0 then 0 else (match chp A hs (A 2) with
          | none => -1000000
          | some v => if k = 0 then nI (pc (few A b e 64)) else if k = 1 then nI (v * pc (few A b e 64)) else nI (few A b e 64)), μ2) := by
          intro j
          induction j with
          | zero =>
            intro i n hi hn
            obtain ⟨m, rfl⟩ := suc_of hn
            obtain rfl : i = A 2 := by omega
            rw [f_X7_doubles_133, hM2 2 (by omega), if_pos (by rw [le_n (by omega) (by omega)]; omega), bits_eq (by omega) hf, bs, bs]
            have ef : (nI (few A b e 64) = 0) = (few A b e 64 = 0) := eq_n (b := 0) (by omega) (by omega)
            simp only [ef]
            by_cases c1 : few A b e 64 = 0
            · rw [if_pos c1, if_pos c1]
            · rw [if_neg c1, if_neg c1]
              cases hc : chp A hs (A 2) with
              | none => rfl
              | some v =>
                have hv := chp_le hO (Nat.le_refl _) hc
                show (if nI v = 1000000 then _ else _) = _
                rw [if_neg (show ¬ nI v = 1000000 by rw [show (1000000 : Int32) = nI 1000000 from rfl, eq_n (by omega) (by omega)]; omega)]
                show (if nI k = 0 then _ else if nI k = 1 then some (nI v * nI _, _) else _) = _
                rw [pk_mul]
                rcases (show k = 0 ∨ k = 1 ∨ k = 2 by omega) with rfl | rfl | rfl <;> rfl
          | succ j ih =>
            intro i n hi hn
            obtain ⟨m, rfl⟩ := suc_of hn
            have hil : i < A 2 := by omega
            have ok := hO.2.2.2.2.2.2.1 i hil
            have ih := ih (i + 1) m (by omega) (by omega)
            rw [f_X7_doubles_133, hM2 2 (by omega), if_neg (by rw [le_n (by omega) (by omega)]; omega)]
            unfold f_X7_doubles_172
            rw [a7, a11, gB (j := 7 + i) (by omega) (by omega), gB (j := 11 + i) (by omega) (by omega), gB (j := 11 + i) (by omega) (by omega), cl_n (show 7 + i < 2147483648 by omega), cl_n (show 11 + i < 2147483648 by omega), hM2 (7 + i) (by omega), hM2 (11 + i) (by omega), bit_bI (show hs < 2147483648 by omega) (show i < 32 by omega), s1]
            have e3 : (nI (A (7 + i)) = 3) = (A (7 + i) = 3) := eq_n (b := 3) (by omega) (by omega)
            simp only [e3]
            cases c1 : hs.testBit i with
            | true =>
              rw [chp_f (by rw [c1]; rfl)] at ih
              exact ih
            | false =>
              by_cases c2 : A (7 + i) = 3
              · rw [chp_f (by rw [decide_eq_true c2, Bool.not_true, Bool.and_false])] at ih
                rw [if_pos (show bI false = 0 from rfl), if_pos c2]
                exact ih
              · have ct : (!hs.testBit i && !decide (A (7 + i) = 3)) = true := by rw [c1, decide_eq_false c2]; rfl
                rw [if_pos (show bI false = 0 from rfl), if_neg c2, if_neg (show ¬ (1 : Int32) = 0 by decide)]
                cases hc : chp A hs i with
                | none =>
                  rw [chp_n ct hc] at ih
                  show (if 1000000 ≤ nI (A (11 + i)) then _ else _) = _
                  rw [if_neg (show ¬ (1000000 : Int32) ≤ nI (A (11 + i)) by rw [show (1000000 : Int32) = nI 1000000 from rfl, le_n (by omega) (by omega)]; omega)]
                  exact ih
                | some v =>
                  rw [chp_s ct hc] at ih
                  have hv := chp_le hO (by omega) hc
                  show (if nI v ≤ nI (A (11 + i)) then _ else _) = _
                  simp only [le_n (show v < 2147483648 by omega) (show A (11 + i) < 2147483648 by omega)]
                  by_cases c3 : A (11 + i) < v
                  · rw [if_neg (by omega)]
                    rw [if_pos c3] at ih
                    exact ih
                  · rw [if_pos (by omega)]
                    rw [if_neg c3] at ih
                    exact ih
        have k1 : ∀ j i n, i + j = 64 → j < n → f_X7_doubles_59 fuel n μ2 (nI e) (nI hs) (nI k) (nI b) (nI (few A b e i)) (nI i) = some (if few A b e 64 = 0 then 0 else (match chp A hs (A 2) with
          | none => -1000000
          | some v => if k = 0 then nI (pc (few A b e 64)) else if k = 1 then nI (v * pc (few A b e 64)) else nI (few A b e 64)), μ2) := by
          intro j
          induction j with
          | zero =>
            intro i n hi hn
            obtain ⟨m, rfl⟩ := suc_of hn
            obtain rfl : i = 64 := by omega
            rw [f_X7_doubles_59, if_pos (show (64 : Int32) ≤ nI 64 by decide)]
            exact k2 (A 2) 0 fuel (by omega) (by omega)
          | succ j ih =>
            intro i n hi hn
            obtain ⟨m, rfl⟩ := suc_of hn
            have ih := ih (i + 1) m (by omega) (by omega)
            have hf : few A b e i < 64 := few_lt (by omega)
            have p1 := (pc64 i (by omega)).2.2
            have p2 := (pc64 _ hf).2.2
            have hst := std_lt hO (b ||| i)
            rw [f_X7_doubles_59, show (64 : Int32) = nI 64 from rfl, if_neg (by rw [le_n (by omega) (by omega)]; omega), nI_or, ad_standBy a2 hO hO.1 (Nat.le_refl _) (by omega) (by omega) (or64 hb (by omega)), bs, bit_bI (by omega) (by omega)]
            unfold f_X7_doubles_91
            rw [bits_eq (by omega) (show i < 64 by omega), bits_eq (by omega) hf, bs, bs, s1]
            simp only [le_n (show pc (few A b e i) < 2147483648 by omega) (show pc i < 2147483648 by omega)]
            rw [show few A b e (i + 1) = if pc i < pc (few A b e i) ∧ (std A (b ||| i)).testBit e = true then i else few A b e i from rfl] at ih
            cases c2 : (std A (b ||| i)).testBit e with
            | false => rw [if_neg (fun q => by rw [c2] at q; exact absurd q.2 (by decide))] at ih; exact ih
            | true =>
              rw [if_pos (show bI true = 1 from rfl), if_neg (show ¬ (1 : Int32) = 0 by decide)]
              by_cases c1 : pc (few A b e i) ≤ pc i
              · rw [if_neg (fun q => by omega)] at ih
                rw [if_pos c1]
                exact ih
              · rw [if_pos ⟨by omega, c2⟩] at ih
                rw [if_neg c1]
                exact ih
        rw [show (63 : Int32) = nI (few A b e 0) from rfl, show (0 : Int32) = nI 0 from rfl, k1 64 0 fuel (by omega) (by omega)]
        refine ⟨_, μ2, ?_, rfl, y1.tr y2⟩
        have ef : (nI (few A b e 64) = nI 0) = (few A b e 64 = 0) := eq_n (by omega) (by omega)
        simp only [ef]
        by_cases c1 : few A b e 64 = 0
        · rw [if_pos c1, if_pos c1]; rfl
        · rw [if_neg c1, if_neg c1]
          cases hc : chp A hs (A 2) with
          | none => rfl
          | some v =>
            have hv := chp_le hO (Nat.le_refl _) hc
            show ((if nI v = -1000000 then _ else _) : Option Int32).bind _ = _
            rw [if_neg (show ¬ nI v = -1000000 by
              intro q
              have := congrArg Int32.toInt q
              rw [nI_toInt (by omega), show (-1000000 : Int32).toInt = -1000000 by decide] at this
              omega), bitCount_eq (by omega)]
            show ((if nI k = nI 0 then _ else if nI k = 1 then some (nI _ * nI v) else _) : Option Int32).bind _ = _
            rw [pk_mul, Nat.mul_comm]
            rcases (show k = 0 ∨ k = 1 ∨ k = 2 by omega) with rfl | rfl | rfl <;> rfl
      · rw [below_f (by omega) h3, in_f (lo := 0) (n := 3) rfl rfl (by omega) h3]; exact ⟨_, _, rfl, rfl, E11.rf⟩
    · rw [isHsX_f hX.2.2.2.2.2.1 hO h2, areHM_f hM hO h2]; exact ⟨_, _, rfl, rfl, E11.rf⟩
  · rw [isDeedX_f hX.2.2.2.2.2.2.2.1 hO h1, isDeedM_f hM hO h1]; exact ⟨_, _, rfl, rfl, E11.rf⟩
end F2
