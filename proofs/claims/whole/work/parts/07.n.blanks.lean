/-! blanks by their width -/
theorem cnt_add {q : Nat → Bool} {a : Nat} : ∀ {b : Nat}, cnt q (a + b) = cnt q a + cnt (fun i => q (a + i)) b
  | 0 => rfl
  | b + 1 => by
    show cnt q (a + b) + (if q (a + b) = true then 1 else 0) = cnt q a + (cnt (fun i => q (a + i)) b + (if q (a + b) = true then 1 else 0))
    rw [cnt_add (b := b)]
    omega
theorem cnt_0 {q : Nat → Bool} : ∀ {n : Nat}, (∀ i, i < n → q i = false) → cnt q n = 0
  | 0, _ => rfl
  | n + 1, h => by
    show cnt q n + _ = 0
    rw [cnt_0 (n := n) (fun i hi => h i (by omega)), h n (by omega)]
    rfl
/-- the first below n of which q holds -/
def fst' (q : Nat → Bool) : Nat → Option Nat
  | 0 => none
  | n + 1 => match fst' q n with
    | some x => some x
    | none => if q n then some n else none
theorem fst_t {q : Nat → Bool} {n x : Nat} (h : fst' q n = some x) : fst' q (n + 1) = some x := by
  show (match fst' q n with | some x => some x | none => if q n then some n else none) = _
  rw [h]
theorem fst_n {q : Nat → Bool} {n : Nat} (h : fst' q n = none) : fst' q (n + 1) = if q n then some n else none := by
  show (match fst' q n with | some x => some x | none => if q n then some n else none) = _
  rw [h]
theorem fst_congr {p q : Nat → Bool} : ∀ {n : Nat}, (∀ i, i < n → p i = q i) → fst' p n = fst' q n
  | 0, _ => rfl
  | n + 1, h => by
    show (match fst' p n with | some x => some x | none => if p n then some n else none) = (match fst' q n with | some x => some x | none => if q n then some n else none)
    rw [fst_congr (n := n) (fun i hi => h i (by omega)), h n (by omega)]
theorem fst_lt {q : Nat → Bool} : ∀ {n x : Nat}, fst' q n = some x → x < n
  | 0, _, h => by cases h
  | n + 1, x, h => by
    cases e : fst' q n with
    | some y =>
      rw [fst_t e] at h
      cases h
      have := fst_lt e
      omega
    | none =>
      rw [fst_n e] at h
      revert h
      split
      · intro h; cases h; omega
      · intro h; cases h
theorem fst_add_some {q : Nat → Bool} {a x : Nat} (h : fst' q a = some x) : ∀ {b : Nat}, fst' q (a + b) = some x
  | 0 => h
  | b + 1 => fst_t (fst_add_some h (b := b))
theorem fst_add_none {q : Nat → Bool} {a : Nat} (h : fst' q a = none) : ∀ {b : Nat}, fst' q (a + b) = (fst' (fun i => q (a + i)) b).map (fun y => a + y)
  | 0 => h
  | b + 1 => by
    have ih := fst_add_none h (b := b)
    cases e : fst' (fun i => q (a + i)) b with
    | some y =>
      rw [e] at ih
      rw [fst_t e]
      exact fst_t ih
    | none =>
      rw [e] at ih
      rw [fst_n e]
      show fst' q ((a + b) + 1) = _
      rw [fst_n ih]
      split <;> rfl
theorem cnt_fst {q : Nat → Bool} : ∀ {n : Nat}, (cnt q n = 0 ↔ fst' q n = none)
  | 0 => ⟨fun _ => rfl, fun _ => rfl⟩
  | n + 1 => by
    have ih := cnt_fst (q := q) (n := n)
    have ec : cnt q (n + 1) = cnt q n + (if q n = true then 1 else 0) := rfl
    cases e : fst' q n with
    | some y =>
      rw [fst_t e]
      have h0 : ¬ cnt q n = 0 := fun h => by rw [ih.mp h] at e; cases e
      constructor
      · intro h; exfalso; omega
      · intro h; cases h
    | none =>
      rw [fst_n e, ec, ih.mpr e]
      cases q n
      · exact ⟨fun _ => rfl, fun _ => rfl⟩
      · exact ⟨fun h => absurd h (by decide), fun h => by cases h⟩
/-- a set S of copies below n: all of them free; their widths together -/
def sub (p : Nat → Bool) (S : Nat) : Nat → Bool
  | 0 => true
  | n + 1 => sub p S n && (!S.testBit n || p n)
def wsm (A : Ar) (S : Nat) : Nat → Nat
  | 0 => 0
  | n + 1 => wsm A S n + (if S.testBit n then A (35 + n) else 0)
theorem sub_congr {p : Nat → Bool} {S T : Nat} : ∀ {n : Nat}, (∀ i, i < n → S.testBit i = T.testBit i) → sub p S n = sub p T n
  | 0, _ => rfl
  | n + 1, h => by
    show (sub p S n && _) = (sub p T n && _)
    rw [sub_congr (n := n) (fun i hi => h i (by omega)), h n (by omega)]
theorem wsm_congr {A : Ar} {S T : Nat} : ∀ {n : Nat}, (∀ i, i < n → S.testBit i = T.testBit i) → wsm A S n = wsm A T n
  | 0, _ => rfl
  | n + 1, h => by
    show wsm A S n + _ = wsm A T n + _
    rw [wsm_congr (n := n) (fun i hi => h i (by omega)), h n (by omega)]
def qs (A : Ar) (p : Nat → Bool) (n w S : Nat) : Bool := sub p S n && decide (wsm A S n = w)
def nS (A : Ar) (p : Nat → Bool) (n w : Nat) : Nat := cnt (qs A p n w) (2 ^ n)
def lS (A : Ar) (p : Nat → Bool) (n w : Nat) : Option Nat := fst' (qs A p n w) (2 ^ n)
theorem tb_lt {S n : Nat} (h : S < 2 ^ n) : S.testBit n = false := Nat.testBit_lt_two_pow h
theorem qs_lo {A : Ar} {p : Nat → Bool} {n w S : Nat} (h : S < 2 ^ n) : qs A p (n + 1) w S = qs A p n w S := by
  unfold qs
  show ((sub p S n && (!S.testBit n || p n)) && decide (wsm A S n + (if S.testBit n then A (35 + n) else 0) = w)) = _
  rw [tb_lt h]
  simp
theorem qs_hi {A : Ar} {p : Nat → Bool} {n w S : Nat} (h : S < 2 ^ n) : qs A p (n + 1) w (2 ^ n + S) = (p n && (decide (A (35 + n) ≤ w) && qs A p n (w - A (35 + n)) S)) := by
  unfold qs
  show ((sub p (2 ^ n + S) n && (!(2 ^ n + S).testBit n || p n)) && decide (wsm A (2 ^ n + S) n + (if (2 ^ n + S).testBit n then A (35 + n) else 0) = w)) = _
  rw [Nat.testBit_two_pow_add_eq, tb_lt h, sub_congr (T := S) (fun i hi => Nat.testBit_two_pow_add_gt hi S), wsm_congr (T := S) (fun i hi => Nat.testBit_two_pow_add_gt hi S)]
  simp only [Bool.not_false, Bool.not_true, Bool.false_or, if_true]
  by_cases e : A (35 + n) ≤ w
  · rw [decide_eq_true e, show decide (wsm A S n + A (35 + n) = w) = decide (wsm A S n = w - A (35 + n)) from decide_eq_decide.mpr (by omega)]
    cases sub p S n <;> cases p n <;> cases decide (wsm A S n = w - A (35 + n)) <;> rfl
  · rw [decide_eq_false e, decide_eq_false (show ¬ wsm A S n + A (35 + n) = w by omega)]
    cases sub p S n <;> cases p n <;> rfl
theorem nS_no {A : Ar} {p : Nat → Bool} {n w : Nat} (h : (p n && decide (A (35 + n) ≤ w)) = false) : nS A p (n + 1) w = nS A p n w ∧ lS A p (n + 1) w = lS A p n w := by
  unfold nS lS
  have hz : ∀ i, i < 2 ^ n → qs A p (n + 1) w (2 ^ n + i) = false := fun i hi => by
    rw [qs_hi hi, ← Bool.and_assoc, h]
    rfl
  have hf : fst' (fun i => qs A p (n + 1) w (2 ^ n + i)) (2 ^ n) = none := cnt_fst.mp (cnt_0 hz)
  rw [show 2 ^ (n + 1) = 2 ^ n + 2 ^ n by rw [Nat.pow_succ]; omega, cnt_add, cnt_0 hz, cnt_congr (fun i hi => qs_lo hi)]
  refine ⟨rfl, ?_⟩
  rw [← fst_congr (p := qs A p (n + 1) w) (q := qs A p n w) (fun i hi => qs_lo hi)]
  cases e : fst' (qs A p (n + 1) w) (2 ^ n) with
  | some x => exact fst_add_some e
  | none => rw [fst_add_none e, hf]; rfl
theorem nS_yes {A : Ar} {p : Nat → Bool} {n w : Nat} (hp : p n = true) (hw : A (35 + n) ≤ w) : nS A p (n + 1) w = nS A p n w + nS A p n (w - A (35 + n)) ∧ lS A p (n + 1) w = (match lS A p n w with
    | some x => some x
    | none => (lS A p n (w - A (35 + n))).map (fun y => 2 ^ n + y)) := by
  unfold nS lS
  have hz : ∀ i, i < 2 ^ n → qs A p (n + 1) w (2 ^ n + i) = qs A p n (w - A (35 + n)) i := fun i hi => by
    rw [qs_hi hi, hp, decide_eq_true hw]
    rfl
  rw [show 2 ^ (n + 1) = 2 ^ n + 2 ^ n by rw [Nat.pow_succ]; omega, cnt_add, cnt_congr (n := 2 ^ n) (p := fun i => qs A p (n + 1) w (2 ^ n + i)) hz, cnt_congr (n := 2 ^ n) (p := qs A p (n + 1) w) (q := qs A p n w) (fun i hi => qs_lo hi)]
  refine ⟨rfl, ?_⟩
  rw [← fst_congr (p := qs A p (n + 1) w) (q := qs A p n w) (fun i hi => qs_lo hi)]
  cases e : fst' (qs A p (n + 1) w) (2 ^ n) with
  | some x => exact fst_add_some e
  | none => rw [fst_add_none e, fst_congr hz]
theorem nS_le (A : Ar) (p : Nat → Bool) {n : Nat} (hn : n ≤ 10) (w : Nat) : nS A p n w ≤ 1024 := Nat.le_trans cnt_le (Nat.pow_le_pow_right (n := 2) (i := n) (j := 10) (by decide) hn)
theorem lS_lt {A : Ar} {p : Nat → Bool} {n w x : Nat} (h : lS A p n w = some x) : x < 2 ^ n := fst_lt h

theorem fill_64_eq {σ : Mem} {fuel : Nat} (hF : 1000 ≤ fuel) : ∃ σ', f_J7_fill_64 fuel σ 0 = some σ' ∧ (∀ q, q ≠ 64 → σ' q = σ q) ∧ ∀ i, i < 91 → σ' 64 i = 0 := by
  have key : ∀ k i n τ, i + k = 91 → k < n → (∀ q, q ≠ 64 → τ q = σ q) → (∀ j, j < i → τ 64 j = 0) → ∃ σ', f_J7_fill_64_5 fuel n τ 0 (nI i) 91 = some σ' ∧ (∀ q, q ≠ 64 → σ' q = σ q) ∧ ∀ i, i < 91 → σ' 64 i = 0 := by
    intro k
    induction k with
    | zero =>
      intro i n τ hi hn h1 h2
      obtain ⟨m, rfl⟩ := suc_of hn
      rw [f_J7_fill_64_5, show (91 : Int32) = nI 91 from rfl, if_pos (by rw [le_n (by omega) (by omega)]; omega)]
      exact ⟨τ, rfl, h1, fun j hj => h2 j (by omega)⟩
    | succ k ih =>
      intro i n τ hi hn h1 h2
      obtain ⟨m, rfl⟩ := suc_of hn
      rw [f_J7_fill_64_5, show (91 : Int32) = nI 91 from rfl, if_neg (by rw [le_n (by omega) (by omega)]; omega), gB (by omega) (by omega), cl_n (by omega), s1]
      refine ih (i + 1) m _ (by omega) (by omega) (fun q hq => by rw [mst_ne hq]; exact h1 q hq) (fun j hj => ?_)
      rw [mst_at]
      unfold upd
      by_cases e : j = i
      · rw [if_pos e]
      · rw [if_neg e]; exact h2 j (by omega)
  exact key 91 0 fuel σ (by omega) (by omega) (fun q _ => rfl) (fun j hj => by omega)
theorem fill_65_eq {σ : Mem} {fuel : Nat} (hF : 1000 ≤ fuel) : ∃ σ', f_J7_fill_65 fuel σ 0 = some σ' ∧ (∀ q, q ≠ 65 → σ' q = σ q) ∧ ∀ i, i < 91 → σ' 65 i = 0 := by
  have key : ∀ k i n τ, i + k = 91 → k < n → (∀ q, q ≠ 65 → τ q = σ q) → (∀ j, j < i → τ 65 j = 0) → ∃ σ', f_J7_fill_65_5 fuel n τ 0 (nI i) 91 = some σ' ∧ (∀ q, q ≠ 65 → σ' q = σ q) ∧ ∀ i, i < 91 → σ' 65 i = 0 := by
    intro k
    induction k with
    | zero =>
      intro i n τ hi hn h1 h2
      obtain ⟨m, rfl⟩ := suc_of hn
      rw [f_J7_fill_65_5, show (91 : Int32) = nI 91 from rfl, if_pos (by rw [le_n (by omega) (by omega)]; omega)]
      exact ⟨τ, rfl, h1, fun j hj => h2 j (by omega)⟩
    | succ k ih =>
      intro i n τ hi hn h1 h2
      obtain ⟨m, rfl⟩ := suc_of hn
      rw [f_J7_fill_65_5, show (91 : Int32) = nI 91 from rfl, if_neg (by rw [le_n (by omega) (by omega)]; omega), gB (by omega) (by omega), cl_n (by omega), s1]
      refine ih (i + 1) m _ (by omega) (by omega) (fun q hq => by rw [mst_ne hq]; exact h1 q hq) (fun j hj => ?_)
      rw [mst_at]
      unfold upd
      by_cases e : j = i
      · rw [if_pos e]
      · rw [if_neg e]; exact h2 j (by omega)
  exact key 91 0 fuel σ (by omega) (by omega) (fun q _ => rfl) (fun j hj => by omega)
section BL
variable {σ μ : Mem} {A : Ar} {fuel : Nat}
/-- the rows of ways and of least sets, n copies tried, up to the width W -/
def DP (A : Ar) (p : Nat → Bool) (W n : Nat) (wy ls : Nat → Int32) : Prop := ∀ w, w ≤ W → wy w = nI (nS A p n w) ∧ ∀ x, lS A p n w = some x → ls w = nI x
theorem lS_none {p : Nat → Bool} {n w : Nat} : nS A p n w = 0 ↔ lS A p n w = none := cnt_fst
theorem widen_eq (hX : XN σ A) (hO : AOK A) (hF : 1000 ≤ fuel) {p : Nat → Bool} {W c : Nat} (hW : W ≤ 90) (hc : c < A 3) (hp : p c = true) (hD : DP A p W c (σ 64) (σ 65)) : ∃ σ', f_X3_widenBy fuel σ (nI c) (nI W) = some σ' ∧ E63 σ σ' ∧ DP A p W (c + 1) (σ' 64) (σ' 65) := by
  have hC := hO.2.2.2.1
  have ok := hO.2.2.2.2.2.2.2.1 c hc
  obtain ⟨own, hown⟩ : ∃ own, own = A (35 + c) := ⟨_, rfl⟩
  have hpc : 2 ^ c < 2 ^ 10 := Nat.pow_lt_pow_right (by decide) (by omega)
  -- v: the widest that is still to come
  have key : ∀ v n τ, v ≤ W → v < n → E63 σ τ → (∀ w, w ≤ W → (v < w → τ 64 w = nI (nS A p (c + 1) w) ∧ ∀ x, lS A p (c + 1) w = some x → τ 65 w = nI x) ∧ (w ≤ v → τ 64 w = nI (nS A p c w) ∧ ∀ x, lS A p c w = some x → τ 65 w = nI x)) → ∃ σ', f_X3_widenBy_11 fuel n τ (nI c) (nI own) (nI v) = some σ' ∧ E63 σ σ' ∧ DP A p W (c + 1) (σ' 64) (σ' 65) := by
    intro v
    induction v with
    | zero =>
      intro n τ hv hn hx hI
      obtain ⟨m, rfl⟩ := suc_of hn
      rw [f_X3_widenBy_11, if_pos (by rw [lt_n (by omega) (by omega)]; omega)]
      refine ⟨τ, rfl, hx, fun w hw => ?_⟩
      by_cases e : 0 < w
      · exact (hI w hw).1 e
      · obtain ⟨q1, q2⟩ := (hI w hw).2 (by omega)
        obtain ⟨g1, g2⟩ := nS_no (A := A) (p := p) (n := c) (w := w) (by rw [decide_eq_false (by omega), Bool.and_false])
        rw [g1, g2]
        exact ⟨q1, q2⟩
    | succ v ih =>
      intro n τ hv hn hx hI
      obtain ⟨m, rfl⟩ := suc_of hn
      by_cases e : v + 1 < own
      · rw [f_X3_widenBy_11, if_pos (by rw [lt_n (by omega) (by omega)]; omega)]
        refine ⟨τ, rfl, hx, fun w hw => ?_⟩
        by_cases e2 : v + 1 < w
        · exact (hI w hw).1 e2
        · obtain ⟨q1, q2⟩ := (hI w hw).2 (by omega)
          obtain ⟨g1, g2⟩ := nS_no (A := A) (p := p) (n := c) (w := w) (by rw [decide_eq_false (by omega), Bool.and_false])
          rw [g1, g2]
          exact ⟨q1, q2⟩
      · obtain ⟨w1, l1⟩ := (hI (v + 1) hv).2 (by omega)
        obtain ⟨w2, l2⟩ := (hI (v + 1 - own) (by omega)).2 (by omega)
        obtain ⟨y1, y2⟩ := nS_yes (A := A) (p := p) (n := c) (w := v + 1) hp (by omega)
        rw [← hown] at y1 y2
        have b1 := nS_le A p (n := c) (by omega) (v + 1)
        have b2 := nS_le A p (n := c) (by omega) (v + 1 - own)
        -- the step behind the least set
        have step : ∀ τ2 : Mem, E63 σ τ2 → (∀ w, τ2 64 w = τ 64 w) → (∀ w, w ≠ v + 1 → τ2 65 w = τ 65 w) → (∀ x, lS A p (c + 1) (v + 1) = some x → τ2 65 (v + 1) = nI x) → ∃ σ', f_X3_widenBy_62 fuel (f_X3_widenBy_11 fuel m) τ2 (nI c) (nI own) (nI (v + 1)) = some σ' ∧ E63 σ σ' ∧ DP A p W (c + 1) (σ' 64) (σ' 65) := by
          intro τ2 hx2 h64 h65 hls
          unfold f_X3_widenBy_62
          rw [gB (by omega) (by omega), pk_sub (by omega), gB (by omega) (by omega), gB (by omega) (by omega), cl_n (by omega), cl_n (by omega), h64, h64, w1, w2, nI_add, pk_m1]
          refine ih m _ (by omega) (by omega) (hx2.tr (fun q _ h _ => mst_ne h)) (fun w hw => ⟨fun hlt => ?_, fun hle => ?_⟩)
          · rw [mst_at, mst_ne (show 65 ≠ 64 by omega)]
            unfold upd
            by_cases e3 : w = v + 1
            · rw [if_pos e3, e3, y1]
              exact ⟨rfl, hls⟩
            · rw [if_neg e3, h64, h65 w e3]
              exact (hI w hw).1 (by omega)
          · rw [mst_at, mst_ne (show 65 ≠ 64 by omega)]
            unfold upd
            rw [if_neg (by omega), h64, h65 w (by omega)]
            exact (hI w hw).2 (by omega)
        rw [f_X3_widenBy_11, if_neg (by rw [lt_n (by omega) (by omega)]; omega), gB (by omega) (by omega), pk_sub (by omega), gB (by omega) (by omega), gB (by omega) (by omega), gB (by omega) (by omega), cl_n (by omega), cl_n (by omega), w1, w2, nI_shl1 (by omega)]
        have e0 : (nI (nS A p c (v + 1)) = 0) = (nS A p c (v + 1) = 0) := eq_n (b := 0) (by omega) (by omega)
        have e1 : (nI (nS A p c (v + 1 - own)) ≤ 0) = (nS A p c (v + 1 - own) = 0) := by
          rw [show (nI (nS A p c (v + 1 - own)) ≤ 0) = (nS A p c (v + 1 - own) ≤ 0) from le_n (b := 0) (by omega) (by omega)]
          exact propext ⟨fun h => by omega, fun h => by omega⟩
        simp only [e0, e1]
        by_cases c1 : nS A p c (v + 1) = 0
        · rw [if_pos c1]
          have n1 := lS_none.mp c1
          rw [n1] at y2
          by_cases c2 : nS A p c (v + 1 - own) = 0
          · rw [if_pos c2]
            rw [lS_none.mp c2] at y2
            exact step τ hx (fun _ => rfl) (fun _ _ => rfl) (fun x h => by rw [y2] at h; cases h)
          · rw [if_neg c2]
            cases e4 : lS A p c (v + 1 - own) with
            | none => exact absurd (lS_none.mpr e4) c2
            | some y =>
              rw [e4] at y2
              have hy := lS_lt e4
              have y2 : lS A p (c + 1) (v + 1) = some (2 ^ c + y) := y2
              rw [l2 y e4, nI_or]
              refine step _ (hx.tr (fun q _ _ h => mst_ne h)) (fun w => by rw [mst_ne (show 64 ≠ 65 by omega)]) (fun w hw => ?_) (fun x h => ?_)
              · rw [mst_at]
                unfold upd
                rw [if_neg hw]
              · rw [y2] at h
                cases h
                rw [mst_at]
                unfold upd
                rw [if_pos rfl]
                congr 1
                have := Nat.two_pow_add_eq_or_of_lt hy 1
                rw [Nat.mul_one] at this
                rw [this, Nat.or_comm]
        · rw [if_neg c1]
          cases e4 : lS A p c (v + 1) with
          | none => exact absurd (lS_none.mpr e4) c1
          | some y =>
            rw [e4] at y2
            exact step τ hx (fun _ => rfl) (fun _ _ => rfl) (fun x h => by
              have y2 : lS A p (c + 1) (v + 1) = some y := y2
              rw [y2] at h
              cases h
              exact l1 _ e4)
  unfold f_X3_widenBy
  rw [gB (by omega) (by omega), cl_n (by omega), ((hX.2.2.2.2.2.2.2.2.2.1) c hc).2.2.1, ← hown]
  exact key W fuel σ (Nat.le_refl _) (by omega) E63.rf (fun w hw => ⟨fun h => by omega, fun _ => hD w hw⟩)
/-- copies that their hands may recall now -/
def frc (A : Ar) (c : Nat) : Bool := decide (A (55 + c) = 0) && inLim A (A 0) (A 5) c
theorem recs15 (hO : AOK A) {c : Nat} (hc : c < A 3) : (recs A 15 (A 0)).testBit c = frc A c := by
  have ok := hO.2.2.2.2.2.2.2.1 c hc
  have hH := hO.2.2.1
  unfold recs frc
  rw [bset_tb, decide_eq_true hc, Bool.true_and, wb_tb hc]
  have h15 : (15 : Nat).testBit (A (25 + c)) = true := by
    rcases (show A (25 + c) = 0 ∨ A (25 + c) = 1 ∨ A (25 + c) = 2 ∨ A (25 + c) = 3 by omega) with e | e | e | e <;> rw [e] <;> decide
  rw [h15, Bool.true_and]
  rcases (show A (55 + c) = 0 ∨ A (55 + c) = 1 by omega) with e | e <;> rw [e] <;> rfl
def lI (o : Option Nat) : Int32 := match o with
  | none => -1000000
  | some x => nI x
theorem X3_blanks_eq (hX : XN σ A) (hO : AOK A) (hF : 1000 ≤ fuel) {W k : Nat} (hW : W ≤ 90) (hk : k < 2) : ∃ σ', f_X3_blanksOf fuel σ (nI W) (nI k) = some (if k = 0 then nI (nS A (frc A) (A 3) W) else lI (lS A (frc A) (A 3) W), σ') ∧ E63 σ σ' := by
  have hC := hO.2.2.2.1
  obtain ⟨s1', e1, f1, v1⟩ := fill_64_eq (σ := σ) hF
  obtain ⟨s2', e2, f2, v2⟩ := fill_65_eq (σ := s1') hF
  have x2 : E63 σ s2' := fun q h1 h2 h3 => by rw [f2 q h3, f1 q h2]
  have x3 : E63 σ (mst s2' 64 0 1) := x2.tr (fun q _ h _ => mst_ne h)
  have key : ∀ j c n τ, c + j = A 3 → j < n → E63 σ τ → DP A (frc A) W c (τ 64) (τ 65) → ∃ σ', f_X3_blanksOf_38 fuel n τ (nI W) (nI k) (nI (recs A 15 (A 0))) (nI c) = some (if k = 0 then nI (nS A (frc A) (A 3) W) else lI (lS A (frc A) (A 3) W), σ') ∧ E63 σ σ' := by
    intro j
    induction j with
    | zero =>
      intro c n τ hc hn hx hD
      obtain ⟨m, rfl⟩ := suc_of hn
      obtain rfl : c = A 3 := by omega
      obtain ⟨w1, l1⟩ := hD W (Nat.le_refl _)
      have b1 := nS_le A (frc A) hC W
      rw [f_X3_blanksOf_38, (hx.xn hX).2.2.2.2.2.2.1, if_pos (show nI (A 3) ≤ nI (A 3) by rw [le_n (by omega) (by omega)]; omega), gB (by omega) (by omega), gB (by omega) (by omega), gB (by omega) (by omega), cl_n (by omega), w1]
      refine ⟨τ, ?_, hx⟩
      rcases (show k = 0 ∨ k = 1 by omega) with rfl | rfl
      · rfl
      · show (if nI (nS A (frc A) (A 3) W) ≤ 0 then some (-1000000, τ) else some (τ 65 W, τ)) = some (lI _, τ)
        simp only [show (nI (nS A (frc A) (A 3) W) ≤ 0) = (nS A (frc A) (A 3) W ≤ 0) from le_n (b := 0) (by omega) (by omega)]
        cases e : lS A (frc A) (A 3) W with
        | none => rw [if_pos (by rw [lS_none.mpr e]; exact Nat.le_refl 0)]; rfl
        | some x => rw [if_neg (fun h => by rw [lS_none.mp (by omega)] at e; cases e), l1 x e]; rfl
    | succ j ih =>
      intro c n τ hc hn hx hD
      obtain ⟨m, rfl⟩ := suc_of hn
      have hcl : c < A 3 := by omega
      have hr := recs_lt hO 15 (A 0)
      rw [f_X3_blanksOf_38, (hx.xn hX).2.2.2.2.2.2.1, if_neg (show ¬ nI (A 3) ≤ nI c by rw [le_n (by omega) (by omega)]; omega)]
      unfold f_X6_bitOf
      rw [bit_bI (by omega) (by omega), bs, recs15 hO hcl, s1]
      cases e : frc A c with
      | true =>
        obtain ⟨τ', e3, x3', d3⟩ := widen_eq (hx.xn hX) hO hF hW hcl e hD
        rw [if_pos (show bI true = 1 from rfl), e3, bs]
        exact ih (c + 1) m τ' (by omega) (by omega) (hx.tr x3') d3
      | false =>
        rw [if_neg (show ¬ bI false = 1 by decide)]
        refine ih (c + 1) m τ (by omega) (by omega) hx (fun w hw => ?_)
        obtain ⟨g1, g2⟩ := nS_no (A := A) (p := frc A) (n := c) (w := w) (by rw [e]; rfl)
        rw [g1, g2]
        exact hD w hw
  unfold f_X3_blanksOf
  rw [e1, bs, e2, bs, show s2' 13 1 = nI (A 0) by rw [x2 13 (by omega) (by omega) (by omega)]; exact hX.1, show (15 : Int32) = nI 15 from rfl, X1_recallableBy_eq (x3.xn hX) hO (by omega) (by omega) hO.1, bs]
  refine key (A 3) 0 fuel _ (by omega) (by omega) x3 (fun w hw => ?_)
  rw [mst_at, mst_ne (show 65 ≠ 64 by omega)]
  unfold upd
  by_cases ew : w = 0
  · rw [if_pos ew, ew]
    refine ⟨rfl, fun x h => ?_⟩
    cases h
    exact v2 0 (by omega)
  · rw [if_neg ew, f2 64 (by omega), v1 w (by omega)]
    have q0 : qs A (frc A) 0 w 0 = false := by
      show (true && decide (0 = w)) = false
      rw [decide_eq_false (fun h => ew h.symm)]
      rfl
    have n0 : nS A (frc A) 0 w = 0 := by
      show 0 + (if qs A (frc A) 0 w 0 = true then 1 else 0) = 0
      rw [q0]
      rfl
    exact ⟨by rw [n0]; rfl, fun x h => by rw [lS_none.mp n0] at h; cases h⟩
theorem X7_blanks_eq (hM : MA (μ 5) A) (hO : AOK A) (hF : 2000 ≤ fuel) {W k : Nat} (hW0 : 1 ≤ W) (hW : W ≤ 90) (hk : k < 2) : f_X7_blanks_41 fuel μ fuel (nI W) (nI k) 0 (-1000000) 1 = some (if k = 0 then nI (nS A (frc A) (A 3) W) else lI (lS A (frc A) (A 3) W)) := by
  have hC := hO.2.2.2.1
  have hpC : 2 ^ A 3 ≤ 1024 := Nat.pow_le_pow_right (n := 2) (i := A 3) (j := 10) (by decide) hC
  have key : ∀ j S n, S + j = 2 ^ A 3 → j < n → f_X7_blanks_41 fuel μ n (nI W) (nI k) (nI (cnt (qs A (frc A) (A 3) W) S)) (lI (fst' (qs A (frc A) (A 3) W) S)) (nI S) = some (if k = 0 then nI (nS A (frc A) (A 3) W) else lI (lS A (frc A) (A 3) W)) := by
    intro j
    induction j with
    | zero =>
      intro S n hS hn
      obtain ⟨m, rfl⟩ := suc_of hn
      obtain rfl : S = 2 ^ A 3 := by omega
      rw [f_X7_blanks_41, hM 3 (by omega), nI_shl1 (by omega), if_pos (by rw [le_n (by omega) (by omega)]; omega)]
      rcases (show k = 0 ∨ k = 1 by omega) with rfl | rfl <;> rfl
    | succ j ih =>
      intro S n hS hn
      obtain ⟨m, rfl⟩ := suc_of hn
      have ih := ih (S + 1) m (by omega) (by omega)
      have wl : ∀ c, c ≤ A 3 → wsm A S c ≤ 9 * c := by
        intro c
        induction c with
        | zero => intro _; exact Nat.le_refl 0
        | succ c ih3 =>
          intro hc
          have ok := hO.2.2.2.2.2.2.2.1 c (by omega)
          have := ih3 (by omega)
          show wsm A S c + _ ≤ _
          split <;> omega
      have inn : ∀ i c n2, c + i = A 3 → i < n2 → f_X7_blanks_63 fuel μ (f_X7_blanks_41 fuel μ m) n2 (nI W) (nI k) (nI (cnt (qs A (frc A) (A 3) W) S)) (lI (fst' (qs A (frc A) (A 3) W) S)) (nI S) (nI (wsm A S c)) (bI (sub (frc A) S c)) (nI c) = f_X7_blanks_41 fuel μ m (nI W) (nI k) (nI (cnt (qs A (frc A) (A 3) W) (S + 1))) (lI (fst' (qs A (frc A) (A 3) W) (S + 1))) (nI (S + 1)) := by
        intro i
        induction i with
        | zero =>
          intro c n2 hc hn2
          obtain ⟨m2, rfl⟩ := suc_of hn2
          obtain rfl : c = A 3 := by omega
          have hw := wl (A 3) (Nat.le_refl _)
          rw [f_X7_blanks_63, hM 3 (by omega), if_pos (show nI (A 3) ≤ nI (A 3) by rw [le_n (by omega) (by omega)]; omega), s1, s1]
          have ew : (nI (wsm A S (A 3)) = nI W) = (wsm A S (A 3) = W) := eq_n (by omega) (by omega)
          simp only [ew]
          have eq : qs A (frc A) (A 3) W S = (sub (frc A) S (A 3) && decide (wsm A S (A 3) = W)) := rfl
          have ec : cnt (qs A (frc A) (A 3) W) (S + 1) = cnt (qs A (frc A) (A 3) W) S + (if qs A (frc A) (A 3) W S = true then 1 else 0) := rfl
          cases c1 : sub (frc A) S (A 3) with
          | false =>
            rw [c1, Bool.false_and] at eq
            rw [ec, eq, if_pos (show bI false = 0 from rfl)]
            cases e5 : fst' (qs A (frc A) (A 3) W) S with
            | none => rw [fst_n e5, eq]; rfl
            | some x => rw [fst_t e5]; rfl
          | true =>
            rw [if_neg (show ¬ bI true = 0 by decide)]
            by_cases c2 : wsm A S (A 3) = W
            · rw [c1, decide_eq_true c2] at eq
              rw [if_pos c2, ec, eq]
              cases e5 : fst' (qs A (frc A) (A 3) W) S with
              | none => rw [fst_n e5, eq, if_pos (show lI none = -1000000 from rfl)]; rfl
              | some x =>
                have := fst_lt e5
                rw [fst_t e5, if_neg (show ¬ lI (some x) = -1000000 from nI_ne_none (by omega))]; rfl
            · rw [c1, decide_eq_false c2] at eq
              rw [if_neg c2, ec, eq]
              cases e5 : fst' (qs A (frc A) (A 3) W) S with
              | none => rw [fst_n e5, eq]; rfl
              | some x => rw [fst_t e5]; rfl
        | succ i ih2 =>
          intro c n2 hc hn2
          obtain ⟨m2, rfl⟩ := suc_of hn2
          have hcl : c < A 3 := by omega
          have ih2 := ih2 (c + 1) m2 (by omega) (by omega)
          rw [f_X7_blanks_63, hM 3 (by omega), if_neg (show ¬ nI (A 3) ≤ nI c by rw [le_n (by omega) (by omega)]; omega), bit_bI (by omega) (by omega)]
          unfold f_X7_blanks_90 f_X7_blanks_113
          rw [a35, gB (by omega) (by omega), cl_n (by omega), hM (35 + c) (by omega), X7_mayRecall_n_eq hM hO hcl, bs, s1]
          rw [show wsm A S (c + 1) = wsm A S c + (if S.testBit c then A (35 + c) else 0) from rfl, show sub (frc A) S (c + 1) = (sub (frc A) S c && (!S.testBit c || frc A c)) from rfl] at ih2
          revert ih2
          show _ → (if bI (S.testBit c) = 1 then _ else _) = _
          have ef : (decide (A (55 + c) = 0) && inLim A (A 0) (A 5) c) = frc A c := rfl
          rw [ef]
          cases S.testBit c with
          | false =>
            intro ih2
            rw [if_neg (show ¬ bI false = 1 by decide), if_pos (show (0 : Int32) = 0 from rfl), show nI (wsm A S c) + 0 = nI (wsm A S c + 0) from nI_add _ 0]
            revert ih2
            cases sub (frc A) S c <;> exact fun h => h
          | true =>
            intro ih2
            rw [if_pos (show bI true = 1 from rfl), if_neg (show ¬ (1 : Int32) = 0 by decide), nI_add]
            revert ih2
            cases sub (frc A) S c <;> cases frc A c <;> exact fun h => h
      rw [f_X7_blanks_41, hM 3 (by omega), nI_shl1 (by omega), if_neg (show ¬ nI (2 ^ A 3) ≤ nI S by rw [le_n (by omega) (by omega)]; omega)]
      have := inn (A 3) 0 fuel (by omega) (by omega)
      rw [show f_X7_blanks_63 fuel μ (f_X7_blanks_41 fuel μ m) fuel (nI W) (nI k) (nI (cnt (qs A (frc A) (A 3) W) S)) (lI (fst' (qs A (frc A) (A 3) W) S)) (nI S) 0 1 0 = _ from this]
      exact ih
  have z : qs A (frc A) (A 3) W 0 = false := by
    unfold qs
    have : wsm A 0 (A 3) = 0 := by
      have : ∀ n, wsm A 0 n = 0 := by
        intro n
        induction n with
        | zero => rfl
        | succ n ih =>
          show wsm A 0 n + (if Nat.testBit 0 n then A (35 + n) else 0) = 0
          rw [ih, Nat.zero_testBit]
          rfl
      exact this _
    rw [this, decide_eq_false (by omega), Bool.and_false]
  have hpos := Nat.two_pow_pos (A 3)
  have := key (2 ^ A 3 - 1) 1 fuel (by omega) (by omega)
  rw [show cnt (qs A (frc A) (A 3) W) 1 = 0 by show 0 + (if qs A (frc A) (A 3) W 0 = true then 1 else 0) = 0; rw [z]; rfl, show fst' (qs A (frc A) (A 3) W) 1 = none by rw [fst_n rfl, z]; rfl] at this
  exact this
theorem q_blanks (hX : XN σ A) (hM : MA (μ 5) A) (hO : AOK A) (hF : 2000 ≤ fuel) (ht : μ 0 7 = σ 13 0) (x1 x2 : Int32) : ∃ r σ', f_X6_blanks fuel σ x1 x2 = some (r, σ') ∧ f_X7_blanks fuel μ x1 x2 = some r ∧ E63 σ σ' := by
  unfold f_X6_blanks f_X7_blanks
  rw [ht]
  by_cases h0 : σ 13 0 = 0
  · rw [if_pos h0, if_pos h0]; exact ⟨_, _, rfl, rfl, E63.rf⟩
  rw [if_neg h0, if_neg h0]
  by_cases h1 : isN x1 1 91
  · obtain ⟨W, hW1, hW, rfl⟩ := id h1
    rw [if_neg (show ¬ nI W < 1 by rw [i1, lt_n (by omega) (by omega)]; omega), if_neg (show ¬ (90 : Int32) < nI W by rw [show (90 : Int32) = nI 90 from rfl, lt_n (by omega) (by omega)]; omega), in_t (lo := 1) (n := 91) rfl rfl (by omega) h1, b1, z1, show (2 : Int32) = nI 2 from rfl]
    by_cases h2 : isN x2 0 2
    · obtain ⟨k, hk, rfl⟩ := isN_lt h2
      obtain ⟨σ', e1, x1⟩ := X3_blanks_eq hX hO (fuel := fuel) (by omega) (show W ≤ 90 by omega) hk
      rw [below_t hk (by omega), isTwo_t hk, b1, b1, z1, z1, e1, bs, X7_blanks_eq hM hO hF hW1 (by omega) hk]
      exact ⟨_, σ', rfl, rfl, x1⟩
    · rw [below_f (by omega) h2, isTwo_f h2]; exact ⟨_, _, rfl, rfl, E63.rf⟩
  · rw [in_f (lo := 1) (n := 91) rfl rfl (by omega) h1, b0, z0]
    rw [isN_iff (by omega)] at h1
    by_cases c1 : x1 < 1
    · rw [if_pos c1]; exact ⟨_, _, rfl, rfl, E63.rf⟩
    · rw [if_neg c1, if_pos (show (90 : Int32) < x1 by
        rw [Int32.lt_iff_toInt_lt] at c1 ⊢
        rw [show (1 : Int32).toInt = 1 by decide] at c1
        rw [show (90 : Int32).toInt = 90 by decide]
        omega)]
      exact ⟨_, _, rfl, rfl, E63.rf⟩
end BL
