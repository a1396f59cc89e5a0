/-! ask: bodies that ask again -/
def rbN (fuel : Nat) : Nat → Mem → Int32 → Int32 → Int32 → Option (Int32 × Mem)
  | 0 => fun _ _ _ _ => none
  | e + 1 => f_X2_runBody fuel (rbN fuel e)
theorem c_rb {D : va_G} {cs : ClassId × ClassId × ClassId} {ad : Nat → Nat} {ts : Nat × Nat × Nat} (fuel : Nat) : ∀ (e : Nat) (l : Launch) (σ : Mem) (a b c : Int32) (z : Int32 × Mem), rbN fuel e σ a b c = some z → CtI l (xW D cs ad ts) (5 * e) yX2_runBody cX2_runBody 6 (some .int) [.ref (ad 66), .ref (ad 13), .int a, .int b, .int c] σ z.1 z.2
  | 0, l, σ, a, b, c, z, h => by cases h
  | e + 1, l, σ, a, b, c, z, h => c_X2_runBody σ fuel (rbN fuel e) (5 * e) (c_rb fuel e) a b c h
def TX (σ : Mem) (l : List Int32) : Prop := σ 66 1 = nI l.length ∧ ∀ i, i < l.length → l[i]? = some (σ 67 i)
def TM (μ : Mem) (l : List Int32) : Prop := μ 0 13 = nI l.length ∧ ∀ i, i < l.length → l[i]? = some (μ 9 i)
def E67 (σ σ' : Mem) : Prop := ∀ q, q ≠ 66 → q ≠ 67 → σ' q = σ q
def E9 (μ μ' : Mem) : Prop := (∀ q, q ≠ 0 → q ≠ 9 → μ' q = μ q) ∧ ∀ k, k ≠ 13 → μ' 0 k = μ 0 k
theorem E67.tr {a b c : Mem} (h : E67 a b) (h2 : E67 b c) : E67 a c := fun q q1 q2 => (h2 q q1 q2).trans (h q q1 q2)
theorem E9.tr {a b c : Mem} (h : E9 a b) (h2 : E9 b c) : E9 a c := ⟨fun q q1 q2 => (h2.1 q q1 q2).trans (h.1 q q1 q2), fun k hk => (h2.2 k hk).trans (h.2 k hk)⟩
theorem E67.xn {σ σ' : Mem} {A : Ar} (h : E67 σ σ') (hX : XN σ A) : XN σ' A := by
  unfold XN at *
  rw [h 13 (by omega) (by omega), h 14 (by omega) (by omega), h 15 (by omega) (by omega), h 16 (by omega) (by omega), h 17 (by omega) (by omega), h 18 (by omega) (by omega), h 19 (by omega) (by omega), h 20 (by omega) (by omega), h 21 (by omega) (by omega), h 22 (by omega) (by omega), h 23 (by omega) (by omega)]
  exact hX
theorem Sim.asked {σ σ' μ μ' : Mem} (h : Sim σ μ) (r : E67 σ σ') (m : E9 μ μ') {l : List Int32} (hl : l.length ≤ 16) (h1 : TX σ' l) (h2 : TM μ' l) : Sim σ' μ' := by
  obtain ⟨g1, g2, g3, g4, g5, g6, g7⟩ := h
  refine ⟨SR_congr g1 (fun q hq => r q (by omega) (by omega)) (m.1 1 (by omega) (by omega)) (m.1 2 (by omega) (by omega)) (m.1 3 (by omega) (by omega)), ?_, ?_, ?_, SA_congr g5 (fun q hq => r q (by omega) (by omega)) (m.1 5 (by omega) (by omega)) (m.1 6 (by omega) (by omega)) (m.2 7 (by omega)) (m.2 9 (by omega)), SI_congr g6 (fun q hq => r q (by omega) (by omega)) (m.1 7 (by omega) (by omega)) (m.1 8 (by omega) (by omega)), ⟨l.length, hl, h1.1, h2.1, fun i hi => ?_⟩⟩
  · rw [r 0 (by omega) (by omega), m.2 3 (by omega)]; exact g2
  · rw [r 0 (by omega) (by omega), m.2 6 (by omega)]; exact g3
  · rw [r 46 (by omega) (by omega), r 47 (by omega) (by omega), m.2 5 (by omega), m.1 4 (by omega) (by omega)]; exact g4
  · have := h1.2 i hi
    rw [h2.2 i hi] at this
    exact (Option.some.inj this).symm
theorem cat_at {l : List Int32} {x : Int32} {f g : Nat → Int32} (h : ∀ i, i < l.length → l[i]? = some (f i)) (h1 : ∀ i, i < l.length → g i = f i) (h2 : g l.length = x) : ∀ i, i < (l ++ [x]).length → (l ++ [x])[i]? = some (g i) := by
  intro i hi
  rw [List.length_append, List.length_singleton] at hi
  by_cases e : i = l.length
  · subst e
    rw [List.getElem?_concat_length, h2]
  · rw [List.getElem?_append_left (by omega), h i (by omega), h1 i (by omega)]
theorem leaveX {σ : Mem} {l : List Int32} (h : TX σ l) (hl : l.length < 16) (x : Int32) : ∃ σ', f_X2_leave σ x = some σ' ∧ E67 σ σ' ∧ TX σ' (l ++ [x]) := by
  unfold f_X2_leave
  rw [h.1, show (16 : Int32) = nI 16 from rfl, if_neg (show ¬ nI 16 ≤ nI l.length by rw [le_n (by omega) (by omega)]; omega), gB (by omega) (by omega), cl_n (by omega), s1]
  refine ⟨_, rfl, fun q q1 q2 => by rw [mst_ne q1, mst_ne q2], ?_, ?_⟩
  · rw [mst_at, List.length_append, List.length_singleton]; rfl
  · rw [mst_ne (show 67 ≠ 66 by omega), mst_at]
    exact cat_at h.2 (fun i hi => if_neg (by omega)) (if_pos rfl)
theorem lv24 {fuel n : Nat} {μ : Mem} {l : List Int32} {x3 x5 : Int64} (h : TM μ l) (hl : l.length < 16) (h0 : ¬ lg_cmp x3 0 ≤ 0) (h1 : ¬ x3 = 0) : ∃ μ', f_X7_leave_24 fuel (n + 1) μ x3 x5 = f_X7_leave_24 fuel n μ' (x3 / 100) (x5 - x5 / x3 * x3) ∧ E9 μ μ' ∧ TM μ' (l ++ [(x5 / x3).toInt32]) := by
  rw [f_X7_leave_24, if_neg h0, gd_t (decide_eq_true h1), gd_t (decide_eq_true h1), h.1, gB (by omega) (by omega), cl_n (by omega), s1]
  refine ⟨_, rfl, ⟨fun q q1 q2 => by rw [mst_ne q1, mst_ne q2], fun k hk => ?_⟩, ?_, ?_⟩
  · rw [mst_at, mst_ne (show 0 ≠ 9 by omega)]; exact if_neg hk
  · rw [mst_at, List.length_append, List.length_singleton]; rfl
  · rw [mst_ne (show 9 ≠ 0 by omega), mst_at]
    exact cat_at h.2 (fun i hi => if_neg (by omega)) (if_pos rfl)
theorem leaveM2 {fuel : Nat} (hF : 1000 ≤ fuel) {y : Int64} {a b : Int32} {μ : Mem} {l : List Int32} (h : TM μ l) (hl : l.length + 2 ≤ 16) (h1 : ¬ 0 < lg_cmp (1 * 100) y) (h2 : 0 < lg_cmp (1 * 100 * 100) y) (ha : (y / (1 * 100)).toInt32 = a) (hb : ((y - y / (1 * 100) * (1 * 100)) / (1 * 100 / 100)).toInt32 = b) : ∃ μ', f_X7_leave fuel μ y = some μ' ∧ E9 μ μ' ∧ TM μ' (l ++ [a, b]) := by
  obtain ⟨n, rfl⟩ : ∃ n, fuel = n + 4 := ⟨fuel - 4, by omega⟩
  unfold f_X7_leave
  rw [f_X7_leave_2, if_neg h1, f_X7_leave_2, if_pos h2]
  obtain ⟨μ1, e1, f1, g1⟩ := lv24 (fuel := n + 4) (n := n + 3) (x3 := 1 * 100) (x5 := y) h (by omega) (by decide) (by decide)
  rw [ha] at g1
  obtain ⟨μ2, e2, f2, g2⟩ := lv24 (fuel := n + 4) (n := n + 2) (x3 := 1 * 100 / 100) (x5 := y - y / (1 * 100) * (1 * 100)) g1 (by rw [List.length_append, List.length_singleton]; omega) (by decide) (by decide)
  rw [hb, List.append_assoc] at g2
  rw [e1, e2, f_X7_leave_24, if_pos (by decide)]
  exact ⟨μ2, rfl, f1.tr f2, g2⟩
theorem leaveM3 {fuel : Nat} (hF : 1000 ≤ fuel) {y : Int64} {a b c : Int32} {μ : Mem} {l : List Int32} (h : TM μ l) (hl : l.length + 3 ≤ 16) (h1 : ¬ 0 < lg_cmp (1 * 100) y) (h2 : ¬ 0 < lg_cmp (1 * 100 * 100) y) (h3 : 0 < lg_cmp (1 * 100 * 100 * 100) y) (ha : (y / (1 * 100 * 100)).toInt32 = a) (hb : ((y - y / (1 * 100 * 100) * (1 * 100 * 100)) / (1 * 100 * 100 / 100)).toInt32 = b) (hc : (((y - y / (1 * 100 * 100) * (1 * 100 * 100)) - (y - y / (1 * 100 * 100) * (1 * 100 * 100)) / (1 * 100 * 100 / 100) * (1 * 100 * 100 / 100)) / (1 * 100 * 100 / 100 / 100)).toInt32 = c) : ∃ μ', f_X7_leave fuel μ y = some μ' ∧ E9 μ μ' ∧ TM μ' (l ++ [a, b, c]) := by
  obtain ⟨n, rfl⟩ : ∃ n, fuel = n + 4 := ⟨fuel - 4, by omega⟩
  unfold f_X7_leave
  rw [f_X7_leave_2, if_neg h1, f_X7_leave_2, if_neg h2, f_X7_leave_2, if_pos h3]
  obtain ⟨μ1, e1, f1, g1⟩ := lv24 (fuel := n + 4) (n := n + 3) (x3 := 1 * 100 * 100) (x5 := y) h (by omega) (by decide) (by decide)
  rw [ha] at g1
  obtain ⟨μ2, e2, f2, g2⟩ := lv24 (fuel := n + 4) (n := n + 2) (x3 := 1 * 100 * 100 / 100) (x5 := y - y / (1 * 100 * 100) * (1 * 100 * 100)) g1 (by rw [List.length_append, List.length_singleton]; omega) (by decide) (by decide)
  rw [hb, List.append_assoc] at g2
  obtain ⟨μ3, e3, f3, g3⟩ := lv24 (fuel := n + 4) (n := n + 1) (x3 := 1 * 100 * 100 / 100 / 100) (x5 := (y - y / (1 * 100 * 100) * (1 * 100 * 100)) - (y - y / (1 * 100 * 100) * (1 * 100 * 100)) / (1 * 100 * 100 / 100) * (1 * 100 * 100 / 100)) g2 (by simp only [List.length_append, List.length_singleton]; omega) (by decide) (by decide)
  rw [hc, List.append_assoc] at g3
  rw [e1, e2, e3, f_X7_leave_24, if_pos (by decide)]
  exact ⟨μ3, rfl, (f1.tr f2).tr f3, g3⟩
section ASK
variable {σ μ : Mem} {fuel e : Nat} {A : Ar} {h : Nat}
/-- copies of a hand that aren't white -/
def unw (A : Ar) (h : Nat) : Nat := pc (bset (fun c => decide (A (25 + c) = h)) (A 3) ^^^ (bset (fun c => decide (A (25 + c) = h)) (A 3) &&& wb A))
theorem unw_cnt (hO : AOK A) : unw A h = cnt (fun c => decide (A (25 + c) = h) && decide (A (55 + c) = 0)) (A 3) := by
  have hC := hO.2.2.2.1
  unfold unw
  rw [← pc_bset hC]
  congr 1
  apply bset_eq
  intro i
  rw [Nat.testBit_xor, Nat.testBit_and, bset_tb]
  by_cases hi : i < A 3
  · have ok := hO.2.2.2.2.2.2.2.1 i hi
    rw [decide_eq_true hi, wb_tb hi]
    rcases (show A (55 + i) = 0 ∨ A (55 + i) = 1 by omega) with e | e <;> rw [e] <;> cases decide (A (25 + i) = h) <;> rfl
  · rw [decide_eq_false hi]; rfl
theorem blackOf_eq (hM : MA (μ 5) A) (hO : AOK A) (hF : 100 ≤ fuel) (hh : h < 100) : f_X7_blackOf fuel μ (nI h) = some (nI (unw A h)) := by
  have hC := hO.2.2.2.1
  have hH := hO.2.2.1
  rw [unw_cnt hO]
  have key : ∀ k i n, i + k = A 3 → k < n → f_X7_blackOf_4 fuel μ n (nI h) (nI (cnt (fun c => decide (A (25 + c) = h) && decide (A (55 + c) = 0)) i)) (nI i) = some (nI (cnt (fun c => decide (A (25 + c) = h) && decide (A (55 + c) = 0)) (A 3))) := by
    intro k
    induction k with
    | zero =>
      intro i n hi hn
      obtain ⟨m, rfl⟩ := suc_of hn
      rw [f_X7_blackOf_4, hM 3 (by omega), if_pos (by rw [le_n (by omega) (by omega)]; omega), show i = A 3 by omega]
    | succ k ih =>
      intro i n hi hn
      obtain ⟨m, rfl⟩ := suc_of hn
      have hil : i < A 3 := by omega
      have ok := hO.2.2.2.2.2.2.2.1 i hil
      have ih := ih (i + 1) m (by omega) (by omega)
      rw [f_X7_blackOf_4, hM 3 (by omega), if_neg (show ¬ nI (A 3) ≤ nI i by rw [le_n (by omega) (by omega)]; omega), a25, gB (by omega) (by omega), cl_n (by omega), hM (25 + i) (by omega), a55, gB (by omega) (by omega), cl_n (by omega), hM (55 + i) (by omega), s1, s1]
      simp only [eq_n (show A (25 + i) < 2147483648 by omega) (show h < 2147483648 by omega), show (nI (A (55 + i)) = 0) = (A (55 + i) = 0) from eq_n (b := 0) (by omega) (by omega)]
      have e : cnt (fun c => decide (A (25 + c) = h) && decide (A (55 + c) = 0)) (i + 1) = cnt (fun c => decide (A (25 + c) = h) && decide (A (55 + c) = 0)) i + (if (decide (A (25 + i) = h) && decide (A (55 + i) = 0)) = true then 1 else 0) := rfl
      rw [e] at ih
      by_cases c1 : A (25 + i) = h
      · rw [if_pos c1]
        by_cases c2 : A (55 + i) = 0
        · rw [if_pos c2]
          rw [decide_eq_true c1, decide_eq_true c2] at ih
          exact ih
        · rw [if_neg c2]
          rw [decide_eq_true c1, decide_eq_false c2] at ih
          rw [show (nI _ + 0 : Int32) = nI _ from Int32.add_zero _]
          exact ih
      · rw [if_neg c1]
        rw [decide_eq_false c1] at ih
        rw [show (nI _ + 0 : Int32) = nI _ from Int32.add_zero _]
        exact ih
  exact key (A 3) 0 fuel (by omega) (by omega)
def RB (fuel e : Nat) (c : Int32) (A : Ar) (h : Nat) (res : Int32) (codes : List Int32) : Prop := ∀ σ l d, XN σ A → TX σ l → l.length + codes.length ≤ 16 → d + e ≤ 21 → ∃ σ', rbN fuel e σ c (nI h) (nI d) = some (res, σ') ∧ E67 σ σ' ∧ TX σ' (l ++ codes)
def RA (fuel e : Nat) (k : Int32) (A : Ar) (h : Nat) (res : Int32) (codes : List Int32) : Prop := ∀ σ l d, XN σ A → TX σ l → l.length + codes.length ≤ 16 → d + e ≤ 21 → ∃ σ', f_X2_askAnew fuel (rbN fuel e) σ (nI h) k (nI d) = some (res, σ') ∧ E67 σ σ' ∧ TX σ' (l ++ codes)
/-- the head of a body: it leaves its number -/
theorem rb_head {c : Int32} {d : Nat} {l : List Int32} (hT : TX σ l) (hl : l.length < 16) (hd : d ≤ 20) : ∃ σ1, f_X2_leave σ c = some σ1 ∧ E67 σ σ1 ∧ TX σ1 (l ++ [c]) ∧ nI d ≤ 20 := by
  obtain ⟨σ1, e1, e2, e3⟩ := leaveX hT hl c
  exact ⟨σ1, e1, e2, e3, by rw [show (20 : Int32) = nI 20 from rfl, le_n (by omega) (by omega)]; omega⟩
theorem r10 (hO : AOK A) (hh : h < A 2) : RB fuel (e + 1) 10 A h (nI (A (11 + h))) [10] := by
  intro σ l d hX hT hl hd
  have hH := hO.2.2.1
  obtain ⟨σ1, e1, e2, e3, e4⟩ := rb_head (c := 10) hT (by simp at hl; omega) (d := d) (by omega)
  refine ⟨σ1, ?_, e2, e3⟩
  rw [rbN, f_X2_runBody, if_pos e4, e1, bs, if_pos rfl, gB (by omega) (by omega), cl_n (by omega), ((e2.xn hX).2.2.2.2.2.2.2.2.1 h hh).2]
theorem r20 : RB fuel (e + 1) 20 A h (nI h) [20] := by
  intro σ l d hX hT hl hd
  obtain ⟨σ1, e1, e2, e3, e4⟩ := rb_head (c := 20) hT (by simp at hl; omega) (d := d) (by omega)
  refine ⟨σ1, ?_, e2, e3⟩
  rw [rbN, f_X2_runBody, if_pos e4, e1, bs]
  rfl
theorem r13 {v : Int32} {cs : List Int32} (r : RB fuel e 10 A h v cs) : RB fuel (e + 1) 13 A h (v - 100) (13 :: cs) := by
  intro σ l d hX hT hl hd
  rw [List.length_cons] at hl
  obtain ⟨σ1, e1, e2, e3, e4⟩ := rb_head (c := 13) hT (by omega) (d := d) (by omega)
  obtain ⟨σ2, g1, g2, g3⟩ := r σ1 _ (d + 1) (e2.xn hX) e3 (by rw [List.length_append, List.length_singleton]; omega) (by omega)
  refine ⟨σ2, ?_, e2.tr g2, by rw [List.append_assoc] at g3; exact g3⟩
  rw [rbN, f_X2_runBody, if_pos e4, e1, bs, s1]
  show (rbN fuel e σ1 10 (nI h) (nI (d + 1))).bind _ = _
  rw [g1]; rfl
theorem r14 {v : Int32} {cs : List Int32} (r : RB fuel e 13 A h v cs) : RB fuel (e + 1) 14 A h (2 * v) (14 :: cs) := by
  intro σ l d hX hT hl hd
  rw [List.length_cons] at hl
  obtain ⟨σ1, e1, e2, e3, e4⟩ := rb_head (c := 14) hT (by omega) (d := d) (by omega)
  obtain ⟨σ2, g1, g2, g3⟩ := r σ1 _ (d + 1) (e2.xn hX) e3 (by rw [List.length_append, List.length_singleton]; omega) (by omega)
  refine ⟨σ2, ?_, e2.tr g2, by rw [List.append_assoc] at g3; exact g3⟩
  rw [rbN, f_X2_runBody, if_pos e4, e1, bs, s1]
  show (rbN fuel e σ1 13 (nI h) (nI (d + 1))).bind _ = _
  rw [g1]; rfl
theorem r22 {v : Int32} {cs : List Int32} (r : RB fuel e 21 A h v cs) : RB fuel (e + 1) 22 A h (v - 1000) (22 :: cs) := by
  intro σ l d hX hT hl hd
  rw [List.length_cons] at hl
  obtain ⟨σ1, e1, e2, e3, e4⟩ := rb_head (c := 22) hT (by omega) (d := d) (by omega)
  obtain ⟨σ2, g1, g2, g3⟩ := r σ1 _ (d + 1) (e2.xn hX) e3 (by rw [List.length_append, List.length_singleton]; omega) (by omega)
  refine ⟨σ2, ?_, e2.tr g2, by rw [List.append_assoc] at g3; exact g3⟩
  rw [rbN, f_X2_runBody, if_pos e4, e1, bs, s1]
  show (rbN fuel e σ1 21 (nI h) (nI (d + 1))).bind _ = _
  rw [g1]; rfl
theorem r24 {v : Int32} {cs : List Int32} (r : RB fuel e 21 A h v cs) : RB fuel (e + 1) 24 A h (2 * v) (24 :: cs) := by
  intro σ l d hX hT hl hd
  rw [List.length_cons] at hl
  obtain ⟨σ1, e1, e2, e3, e4⟩ := rb_head (c := 24) hT (by omega) (d := d) (by omega)
  obtain ⟨σ2, g1, g2, g3⟩ := r σ1 _ (d + 1) (e2.xn hX) e3 (by rw [List.length_append, List.length_singleton]; omega) (by omega)
  refine ⟨σ2, ?_, e2.tr g2, by rw [List.append_assoc] at g3; exact g3⟩
  rw [rbN, f_X2_runBody, if_pos e4, e1, bs, s1]
  show (rbN fuel e σ1 21 (nI h) (nI (d + 1))).bind _ = _
  rw [g1]; rfl
theorem r12 {v : Int32} {cs : List Int32} (r : RB fuel e 11 A h v cs) : RB fuel (e + 1) 12 A h (-v) (12 :: cs) := by
  intro σ l d hX hT hl hd
  rw [List.length_cons] at hl
  obtain ⟨σ1, e1, e2, e3, e4⟩ := rb_head (c := 12) hT (by omega) (d := d) (by omega)
  obtain ⟨σ2, g1, g2, g3⟩ := r σ1 _ (d + 1) (e2.xn hX) e3 (by rw [List.length_append, List.length_singleton]; omega) (by omega)
  refine ⟨σ2, ?_, e2.tr g2, by rw [List.append_assoc] at g3; exact g3⟩
  rw [rbN, f_X2_runBody, if_pos e4, e1, bs, s1]
  show (rbN fuel e σ1 11 (nI h) (nI (d + 1))).bind _ = _
  rw [g1]; rfl
theorem r21 (hO : AOK A) (hF : 100 ≤ fuel) (hh : h < A 2) {v : Int32} {cs : List Int32} (r : RB fuel e 20 A h v cs) : RB fuel (e + 1) 21 A h (v + nI (unw A h)) (21 :: cs) := by
  intro σ l d hX hT hl hd
  rw [List.length_cons] at hl
  have hH := hO.2.2.1
  obtain ⟨σ1, e1, e2, e3, e4⟩ := rb_head (c := 21) hT (by omega) (d := d) (by omega)
  obtain ⟨σ2, g1, g2, g3⟩ := r σ1 _ (d + 1) (e2.xn hX) e3 (by rw [List.length_append, List.length_singleton]; omega) (by omega)
  refine ⟨σ2, ?_, e2.tr g2, by rw [List.append_assoc] at g3; exact g3⟩
  rw [rbN, f_X2_runBody, if_pos e4, e1, bs, s1]
  show (rbN fuel e σ1 20 (nI h) (nI (d + 1))).bind _ = _
  rw [g1, bs]
  show (f_X1_unwhiteBy fuel σ2 (nI h)).bind _ = _
  rw [X1_unwhiteBy_eq (g2.xn (e2.xn hX)) hO hF (by omega)]
  rfl
theorem r11 {v w : Int32} {cs cs' : List Int32} (r : RB fuel e 10 A h v cs) (r2 : RA fuel e 1 A h w cs') : RB fuel (e + 1) 11 A h (v + w) (11 :: (cs ++ cs')) := by
  intro σ l d hX hT hl hd
  rw [List.length_cons, List.length_append] at hl
  obtain ⟨σ1, e1, e2, e3, e4⟩ := rb_head (c := 11) hT (by omega) (d := d) (by omega)
  obtain ⟨σ2, g1, g2, g3⟩ := r σ1 _ (d + 1) (e2.xn hX) e3 (by rw [List.length_append, List.length_singleton]; omega) (by omega)
  obtain ⟨σ3, k1, k2, k3⟩ := r2 σ2 _ (d + 1) (g2.xn (e2.xn hX)) g3 (by rw [List.length_append, List.length_append, List.length_singleton]; omega) (by omega)
  refine ⟨σ3, ?_, (e2.tr g2).tr k2, by rw [List.append_assoc, List.append_assoc] at k3; exact k3⟩
  rw [rbN, f_X2_runBody, if_pos e4, e1, bs, s1]
  show (rbN fuel e σ1 10 (nI h) (nI (d + 1))).bind _ = _
  rw [g1, bs]
  show (f_X2_askAnew fuel (rbN fuel e) σ2 (nI h) 1 (nI (d + 1))).bind _ = _
  rw [k1]; rfl
theorem r23 {v w : Int32} {cs cs' : List Int32} (r : RB fuel e 20 A h v cs) (r2 : RA fuel e 0 A h w cs') : RB fuel (e + 1) 23 A h (v - w) (23 :: (cs ++ cs')) := by
  intro σ l d hX hT hl hd
  rw [List.length_cons, List.length_append] at hl
  obtain ⟨σ1, e1, e2, e3, e4⟩ := rb_head (c := 23) hT (by omega) (d := d) (by omega)
  obtain ⟨σ2, g1, g2, g3⟩ := r σ1 _ (d + 1) (e2.xn hX) e3 (by rw [List.length_append, List.length_singleton]; omega) (by omega)
  obtain ⟨σ3, k1, k2, k3⟩ := r2 σ2 _ (d + 1) (g2.xn (e2.xn hX)) g3 (by rw [List.length_append, List.length_append, List.length_singleton]; omega) (by omega)
  refine ⟨σ3, ?_, (e2.tr g2).tr k2, by rw [List.append_assoc, List.append_assoc] at k3; exact k3⟩
  rw [rbN, f_X2_runBody, if_pos e4, e1, bs, s1]
  show (rbN fuel e σ1 20 (nI h) (nI (d + 1))).bind _ = _
  rw [g1, bs]
  show (f_X2_askAnew fuel (rbN fuel e) σ2 (nI h) 0 (nI (d + 1))).bind _ = _
  rw [k1]; rfl
theorem raS (hO : AOK A) (hh : h < A 2) {c v : Int32} {cs : List Int32} (hc : ∀ σ, f_X2_nearest_S fuel σ (nI (A (7 + h))) = some c) (r : RB fuel e c A h v cs) : RA fuel e 0 A h v cs := by
  intro σ l d hX hT hl hd
  have hH := hO.2.2.1
  obtain ⟨σ2, g1, g2, g3⟩ := r σ l d hX hT hl hd
  refine ⟨σ2, ?_, g2, g3⟩
  unfold f_X2_askAnew
  rw [if_pos rfl, gB (by omega) (by omega), cl_n (by omega), (hX.2.2.2.2.2.2.2.2.1 h hh).1, hc, bs, g1]; rfl
theorem raM (hO : AOK A) (hh : h < A 2) {c v : Int32} {cs : List Int32} (hc : ∀ σ, f_X2_nearest_M fuel σ (nI (A (7 + h))) = some c) (r : RB fuel e c A h v cs) : RA fuel e 1 A h v cs := by
  intro σ l d hX hT hl hd
  have hH := hO.2.2.1
  obtain ⟨σ2, g1, g2, g3⟩ := r σ l d hX hT hl hd
  refine ⟨σ2, ?_, g2, g3⟩
  unfold f_X2_askAnew
  rw [if_neg (by decide), gB (by omega) (by omega), cl_n (by omega), (hX.2.2.2.2.2.2.2.2.1 h hh).1, hc, bs, g1]; rfl
theorem nearS (hF : 1000 ≤ fuel) {k : Nat} (hk : 1 ≤ k ∧ k ≤ 5) : f_X2_nearest_S fuel σ (nI k) = some (if k = 2 then 12 else if k = 4 then 13 else if k = 5 then 14 else 11) := by
  obtain ⟨n, rfl⟩ : ∃ n, fuel = n + 10 := ⟨fuel - 10, by omega⟩
  rcases (show k = 1 ∨ k = 2 ∨ k = 3 ∨ k = 4 ∨ k = 5 by omega) with rfl | rfl | rfl | rfl | rfl <;> rfl
theorem nearM (hF : 1000 ≤ fuel) {k : Nat} (hk : 1 ≤ k ∧ k ≤ 5) : f_X2_nearest_M fuel σ (nI k) = some (if k = 2 then 24 else if k = 3 then 22 else if k = 4 ∨ k = 5 then 23 else 21) := by
  obtain ⟨n, rfl⟩ : ∃ n, fuel = n + 10 := ⟨fuel - 10, by omega⟩
  rcases (show k = 1 ∨ k = 2 ∨ k = 3 ∨ k = 4 ∨ k = 5 by omega) with rfl | rfl | rfl | rfl | rfl <;> rfl
end ASK
