/-! the two states side by side -/
def RR (lx sx : Nat → Int32) (it : Nat → Nat → Int32) (lm sm im : Nat → Int32) : Prop :=
  ∀ r, r < 8 → (lx r = -1 ∧ sm r = -1) ∨ (∃ n, n ≤ 40 ∧ (lx r = 0 ∨ lx r = 1 ∨ lx r = 2) ∧ lm r = lx r ∧ sx r = nI n ∧ sm r = nI n ∧ ∀ i, i < 40 → it r i = im (40 * r + i))
def TT (tx : Int32) (bx : Nat → Int32) (tm : Int32) (bm : Nat → Int32) : Prop :=
  ∃ t, t ≤ 140 ∧ tx = nI t ∧ tm = nI t ∧ ∀ i, i < t → ∃ b, b < 256 ∧ bx i = nI b ∧ bm i = nI b
/-- what repents has repented; the law is told where there are hands -/
def RP (A : Ar) : Prop := (∀ c, c < A 3 → kd A c = 3 → A 1 ≤ A 5 - A (45 + c) → A (55 + c) = 1) ∧ (0 < A 2 → 1 ≤ A 1)
def EqA (B N : Ar) : Prop := B 0 = N 0 ∧ B 1 = N 1 ∧ B 2 = N 2 ∧ B 4 = N 4 ∧ (∀ k, k < B 2 → B (7 + k) = N (7 + k) ∧ B (11 + k) = N (11 + k)) ∧
  (∀ c, c < B 3 → B (15 + c) = N (15 + c) ∧ B (25 + c) = N (25 + c) ∧ B (35 + c) = N (35 + c) ∧ B (45 + c) = N (45 + c)) ∧
  (∀ d, d < B 4 → B (65 + d) = N (65 + d) ∧ B (70 + d) = N (70 + d) ∧ B (75 + d) = N (75 + d) ∧ B (80 + d) = N (80 + d))
/-- an act of a sort, w white ahead of it, makes N of B -/
def Und (s w : Int32) (B N : Ar) : Prop := EqA B N ∧ w = nI (wb B) ∧
  ((s = 0 ∧ N 3 = B 3 + 1 ∧ N 5 = B 5 ∧ N 6 = B 6 + N (11 + N (25 + B 3))) ∨ (s = 1 ∧ N 3 = B 3 ∧ N 5 = B 5 ∧ N 6 = B 6) ∨ (s = 2 ∧ N 3 = B 3 ∧ N 5 = B 5 + 1 ∧ N 6 = B 6))
def HH (so wh bf : Nat → Int32) (a : Nat) (B : Nat → Ar) : Prop :=
  a ≤ 24 ∧ ∀ j, j < a → AOK (B j) ∧ B j 5 ≤ 999 ∧ RP (B j) ∧ (∀ i, i < 85 → bf (85 * j + i) = nI (B j i)) ∧ Und (so j) (wh j) (B j) (B (j + 1))
def SA (σ μ : Mem) : Prop := ∃ (A : Ar) (a : Nat) (B : Nat → Ar), AOK A ∧ A 5 ≤ 999 ∧ RP A ∧ XN σ A ∧ MA (μ 5) A ∧ (σ 13 0 = 0 ∧ σ 24 0 = 0 ∧ σ 35 0 = 0 ∨ σ 13 0 = 1) ∧ μ 0 7 = σ 13 0 ∧ σ 59 2 = nI a ∧ μ 0 9 = nI a ∧ HH (σ 60) (σ 61) (μ 6) a B ∧ B a = A
def IM (told kept : Int32) (F g0 g1 g2 g3 g4 g5 g6 g7 g8 g9 : Nat → Int32) (im : Nat → Int32) (o : Nat) : Prop :=
  kept = told ∧ (told = 0 ∨ (told = 1 ∧ ∃ A : Ar, AOK A ∧ A 5 ≤ 999 ∧ RP A ∧ XA F g0 g1 g2 g3 g4 g5 g6 g7 g8 g9 A ∧ ∀ i, i < 85 → im (o + i) = nI (A i)))
def KK (lx : Int32) (tx : Nat → Int32) (lm : Int32) (tm : Nat → Int32) : Prop := ∃ t, t ≤ 16 ∧ lx = nI t ∧ lm = nI t ∧ ∀ i, i < t → tx i = tm i
def SR (σ μ : Mem) : Prop := RR (σ 2) (σ 3) (fun r => σ (5 + r)) (μ 1) (μ 2) (μ 3)
def SI (σ μ : Mem) : Prop := IM (σ 24 0) (μ 8 0) (σ 24) (σ 25) (σ 26) (σ 27) (σ 28) (σ 29) (σ 30) (σ 31) (σ 32) (σ 33) (σ 34) (μ 7) 0 ∧ IM (σ 35 0) (μ 8 1) (σ 35) (σ 36) (σ 37) (σ 38) (σ 39) (σ 40) (σ 41) (σ 42) (σ 43) (σ 44) (σ 45) (μ 7) 85
def Sim (σ μ : Mem) : Prop := SR σ μ ∧ σ 0 9 = μ 0 3 ∧ σ 0 8 = μ 0 6 ∧ TT (σ 46 2) (σ 47) (μ 0 5) (μ 4) ∧ SA σ μ ∧ SI σ μ ∧ KK (σ 66 1) (σ 67) (μ 0 13) (μ 9)
/-- what the reference may change beside: its row laid aside -/
def E11 (μ μ' : Mem) : Prop := ∀ q, q ≠ 11 → μ' q = μ q
theorem E11.rf {μ : Mem} : E11 μ μ := fun _ _ => rfl
theorem E11.tr {a b c : Mem} (h : E11 a b) (h2 : E11 b c) : E11 a c := fun q hq => (h2 q hq).trans (h q hq)
theorem Sim.e11 {σ μ μ' : Mem} (h : Sim σ μ) (e : E11 μ μ') : Sim σ μ' := by
  unfold Sim SR SA SI at *
  rw [e 0 (by omega), e 1 (by omega), e 2 (by omega), e 3 (by omega), e 4 (by omega), e 5 (by omega), e 6 (by omega), e 7 (by omega), e 8 (by omega), e 9 (by omega)]
  exact h
theorem MA.e11 {μ μ' : Mem} {A : Ar} (h : MA (μ 5) A) (e : E11 μ μ') : MA (μ' 5) A := by rw [e 5 (by omega)]; exact h
/-- a question: both answer alike -/
def QP (fx fm : Option Int32) : Prop := ∃ r, fx = some r ∧ fm = some r
def QM (fx : Option Int32) (fm : Option (Int32 × Mem)) (μ : Mem) : Prop := ∃ r μ', fx = some r ∧ fm = some (r, μ') ∧ E11 μ μ'
theorem b0 {α : Type} {f : Int32 → Option α} : (some (0 : Int32)).bind f = f 0 := rfl
theorem b1 {α : Type} {f : Int32 → Option α} : (some (1 : Int32)).bind f = f 1 := rfl
theorem bs {α β : Type} {a : α} {f : α → Option β} : (some a).bind f = f a := rfl
theorem z0 {α : Type} {a b : α} : (if (0 : Int32) = 0 then a else b) = a := if_pos rfl
theorem z1 {α : Type} {a b : α} : (if (1 : Int32) = 0 then a else b) = b := if_neg (by decide)
theorem isN_lt {x : Int32} {n : Nat} (h : isN x 0 n) : ∃ j, j < n ∧ x = nI j := by
  obtain ⟨j, _, h1, h2⟩ := h
  exact ⟨j, h1, h2⟩
theorem no_n {x : Int32} {n k : Nat} (h : ¬ isN x 0 n) (hk : k < n) : ¬ x = nI k := fun e => h ⟨k, by omega, hk, e⟩
section Q1
variable {σ μ : Mem} {A : Ar} {fuel : Nat}
theorem q_copyOf (hX : XN σ A) (hM : MA (μ 5) A) (hO : AOK A) (x1 x2 : Int32) : QP (f_X6_copyOf σ x1 x2) (f_X7_copyOf μ x1 x2) := by
  have hC := hO.2.2.2.1
  unfold f_X6_copyOf f_X7_copyOf
  by_cases h1 : isN x1 0 (A 3)
  · obtain ⟨c, hc, rfl⟩ := isN_lt h1
    have ok := hO.2.2.2.2.2.2.2.1 c hc
    obtain ⟨-, -, -, -, hW, -, h7, -, -, hcs, -⟩ := id hX
    have hcs := hcs c hc
    have hwl := wb_lt hO
    rw [isCopyX_t h7 hO hc, isCopyM_t hM hO hc, b1, b1, z1, z1, gB (by omega) (by omega), gB (by omega) (by omega), gB (by omega) (by omega), gB (by omega) (by omega), cl_n (by omega), hcs.1, hcs.2.1, hcs.2.2.1, hcs.2.2.2, hW, X1_mayRecallNow_eq hX hO hc, X7_mayRecall_n_eq hM hO hc]
    unfold f_X6_bitOf
    rw [bit_bI (by omega) (by omega), wb_tb hc]
    by_cases h2 : isN x2 0 6
    · obtain ⟨k, hk, rfl⟩ := isN_lt h2
      rw [in_t (lo := 0) (n := 6) rfl rfl (by omega) h2]
      have m : ∀ o, o < 30 → inB (nI (15 + o + c)) 85 = true ∧ μ 5 (15 + o + c) = nI (A (15 + o + c)) := fun o ho => ⟨inB_nI (by omega) (by omega), hM _ (by omega)⟩
      rcases (show k = 0 ∨ k = 1 ∨ k = 2 ∨ k = 3 ∨ k = 4 ∨ k = 5 by omega) with rfl | rfl | rfl | rfl | rfl | rfl
      · refine ⟨nI (A (15 + c)), rfl, ?_⟩
        show gd (inB ((15 : Int32) + nI c) 85) (some (μ 5 ((15 : Int32) + nI c).toNatClampNeg)) = _
        rw [a15, gB (by omega) (by omega), cl_n (by omega), hM _ (by omega)]
      · refine ⟨nI (A (25 + c)), rfl, ?_⟩
        show gd (inB ((25 : Int32) + nI c) 85) (some (μ 5 ((25 : Int32) + nI c).toNatClampNeg)) = _
        rw [a25, gB (by omega) (by omega), cl_n (by omega), hM _ (by omega)]
      · refine ⟨nI (A (35 + c)), rfl, ?_⟩
        show gd (inB ((35 : Int32) + nI c) 85) (some (μ 5 ((35 : Int32) + nI c).toNatClampNeg)) = _
        rw [a35, gB (by omega) (by omega), cl_n (by omega), hM _ (by omega)]
      · refine ⟨nI (A (45 + c)), rfl, ?_⟩
        show gd (inB ((45 : Int32) + nI c) 85) (some (μ 5 ((45 : Int32) + nI c).toNatClampNeg)) = _
        rw [a45, gB (by omega) (by omega), cl_n (by omega), hM _ (by omega)]
      · refine ⟨bI (decide (A (55 + c) = 1)), rfl, ?_⟩
        show gd (inB ((55 : Int32) + nI c) 85) (some (μ 5 ((55 : Int32) + nI c).toNatClampNeg)) = _
        rw [a55, gB (by omega) (by omega), cl_n (by omega), hM _ (by omega)]
        rcases (show A (55 + c) = 0 ∨ A (55 + c) = 1 by omega) with e | e <;> rw [e] <;> rfl
      · refine ⟨bI (decide (A (55 + c) = 0) && inLim A (A 0) (A 5) c), ?_, ?_⟩
        · show (if bI _ = 0 then some 0 else some 1) = _
          rw [show (!decide (A (55 + c) = 1)) = decide (A (55 + c) = 0) by rcases (show A (55 + c) = 0 ∨ A (55 + c) = 1 by omega) with e | e <;> rw [e] <;> rfl]
          cases (decide (A (55 + c) = 0) && inLim A (A 0) (A 5) c) <;> rfl
        · show (if bI _ = 0 then some 0 else some 1) = _
          cases (decide (A (55 + c) = 0) && inLim A (A 0) (A 5) c) <;> rfl
    · rw [in_f (lo := 0) (n := 6) rfl rfl (by omega) h2, b0, z0]
      refine ⟨-1000001, ?_, rfl⟩
      rw [if_neg (show ¬ x2 = 0 from no_n h2 (k := 0) (by omega)), if_neg (show ¬ x2 = 1 from no_n h2 (k := 1) (by omega)), if_neg (show ¬ x2 = 2 from no_n h2 (k := 2) (by omega)), if_neg (show ¬ x2 = 3 from no_n h2 (k := 3) (by omega)), if_neg (show ¬ x2 = 4 from no_n h2 (k := 4) (by omega)), if_neg (show ¬ x2 = 5 from no_n h2 (k := 5) (by omega))]
  · rw [isCopyX_f hX.2.2.2.2.2.2.1 hO h1, isCopyM_f hM hO h1]
    exact ⟨_, rfl, rfl⟩
theorem q_hand (hX : XN σ A) (hM : MA (μ 5) A) (hO : AOK A) (hF : 100 ≤ fuel) (x1 x2 : Int32) : QP (f_X6_hand fuel σ x1 x2) (f_X7_hand fuel μ x1 x2) := by
  have hH := hO.2.2.1
  unfold f_X6_hand f_X7_hand
  by_cases h1 : isN x1 0 (A 2)
  · obtain ⟨h, hh, rfl⟩ := isN_lt h1
    have ok := hO.2.2.2.2.2.2.1 h hh
    obtain ⟨hY, -, -, -, -, h6, -, -, hk, -, -⟩ := id hX
    rw [isHandX_t h6 hO hh, isHandM_t hM hO hh, b1, b1, z1, z1, gB (by omega) (by omega), cl_n (by omega), (hk h hh).2, hY, X1_limitOf_eq hX hO hh hO.1, X1_copiesBy_eq hX hO hF (by omega), a11, gB (by omega) (by omega), cl_n (by omega), hM (11 + h) (by omega), X7_limit_n_eq hM hO hh, show (25 : Int32) = nI 25 from rfl, X7_copiesOf_eq hM hO hF (by omega) (by omega) (fun c hc => by have := (hO.2.2.2.2.2.2.2.1 c hc).2.1; omega)]
    by_cases h2 : isN x2 0 3
    · obtain ⟨k, hk, rfl⟩ := isN_lt h2
      rw [in_t (lo := 0) (n := 3) rfl rfl (by omega) h2]
      rcases (show k = 0 ∨ k = 1 ∨ k = 2 by omega) with rfl | rfl | rfl <;> exact ⟨_, rfl, rfl⟩
    · rw [in_f (lo := 0) (n := 3) rfl rfl (by omega) h2, b0, z0]
      refine ⟨-1000001, ?_, rfl⟩
      rw [if_neg (show ¬ x2 = 0 from no_n h2 (k := 0) (by omega)), if_neg (show ¬ x2 = 1 from no_n h2 (k := 1) (by omega)), if_neg (show ¬ x2 = 2 from no_n h2 (k := 2) (by omega))]
  · rw [isHandX_f hX.2.2.2.2.2.1 hO h1, isHandM_f hM hO h1]
    exact ⟨_, rfl, rfl⟩
theorem q_deed (hX : XN σ A) (hM : MA (μ 5) A) (hO : AOK A) (hF : 100 ≤ fuel) (x1 x2 : Int32) : QP (f_X6_deed fuel σ x1 x2) (f_X7_deed fuel μ x1 x2) := by
  have hN := hO.2.2.2.2.1
  unfold f_X6_deed f_X7_deed
  by_cases h1 : isN x1 0 (A 4)
  · obtain ⟨d, hd, rfl⟩ := isN_lt h1
    have ok := hO.2.2.2.2.2.2.2.2 d hd
    obtain ⟨-, -, -, -, hW, -, -, h8, -, -, hds⟩ := id hX
    have hds := hds d hd
    rw [isDeedX_t h8 hO hd, isDeedM_t hM hO hd, b1, b1, z1, z1, gB (by omega) (by omega), gB (by omega) (by omega), gB (by omega) (by omega), gB (by omega) (by omega), gB (by omega) (by omega), cl_n (by omega), hds.1, hds.2.1, hds.2.2.1, hds.2.2.2, hW, X1_standingBy_eq hX hO hF (wb_lt hO), X7_stand_n_eq hM hO hF, a75, gB (by omega) (by omega), gB (by omega) (by omega), cl_n (by omega), hM (75 + d) (by omega)]
    by_cases h2 : isN x2 0 5
    · obtain ⟨k, hk, rfl⟩ := isN_lt h2
      rw [in_t (lo := 0) (n := 5) rfl rfl (by omega) h2]
      rcases (show k = 0 ∨ k = 1 ∨ k = 2 ∨ k = 3 ∨ k = 4 by omega) with rfl | rfl | rfl | rfl | rfl
      · refine ⟨nI (A (65 + d)), rfl, ?_⟩
        show gd (inB ((65 : Int32) + nI d) 85) (some (μ 5 ((65 : Int32) + nI d).toNatClampNeg)) = _
        rw [a65, gB (by omega) (by omega), cl_n (by omega), hM _ (by omega)]
      · refine ⟨nI (A (70 + d)), rfl, ?_⟩
        show gd (inB ((70 : Int32) + nI d) 85) (some (μ 5 ((70 : Int32) + nI d).toNatClampNeg)) = _
        rw [a70, gB (by omega) (by omega), cl_n (by omega), hM _ (by omega)]
      · show QP (if nI (A (75 + d)) - 1 < 0 then some (-1000000) else some (nI (A (75 + d)) - 1)) (if nI (A (75 + d)) = 0 then some (-1000000) else some (nI (A (75 + d)) - 1))
        by_cases e : A (75 + d) = 0
        · rw [e]; exact ⟨_, rfl, rfl⟩
        · rw [if_neg (show ¬ nI (A (75 + d)) = 0 by rw [i0, eq_n (by omega) (by omega)]; exact e), if_neg (show ¬ nI (A (75 + d)) - 1 < 0 by rw [i1, pk_sub (by omega), i0, lt_n (by omega) (by omega)]; omega)]
          exact ⟨_, rfl, rfl⟩
      · refine ⟨nI (A (80 + d)), rfl, ?_⟩
        show gd (inB ((80 : Int32) + nI d) 85) (some (μ 5 ((80 : Int32) + nI d).toNatClampNeg)) = _
        rw [a80, gB (by omega) (by omega), cl_n (by omega), hM _ (by omega)]
      · exact ⟨_, rfl, rfl⟩
    · rw [in_f (lo := 0) (n := 5) rfl rfl (by omega) h2, b0, z0]
      refine ⟨-1000001, ?_, rfl⟩
      rw [if_neg (show ¬ x2 = 0 from no_n h2 (k := 0) (by omega)), if_neg (show ¬ x2 = 1 from no_n h2 (k := 1) (by omega)), if_neg (show ¬ x2 = 2 from no_n h2 (k := 2) (by omega)), if_neg (show ¬ x2 = 3 from no_n h2 (k := 3) (by omega)), if_neg (show ¬ x2 = 4 from no_n h2 (k := 4) (by omega))]
  · rw [isDeedX_f hX.2.2.2.2.2.2.2.1 hO h1, isDeedM_f hM hO h1]
    exact ⟨_, rfl, rfl⟩
theorem q_place (hX : XN σ A) (hM : MA (μ 5) A) (hO : AOK A) (hF : 100 ≤ fuel) (ht : μ 0 7 = σ 13 0) (x1 x2 : Int32) : QP (f_X6_place fuel σ x1 x2) (f_X7_place fuel μ x1 x2) := by
  unfold f_X6_place f_X7_place
  rw [ht]
  by_cases h0 : σ 13 0 = 0
  · rw [if_pos h0, if_pos h0]; exact ⟨_, rfl, rfl⟩
  rw [if_neg h0, if_neg h0, show (6 : Int32) = nI 6 from rfl, show (2 : Int32) = nI 2 from rfl]
  by_cases h1 : isN x1 0 6
  · obtain ⟨p, hp, rfl⟩ := isN_lt h1
    rw [below_t hp (by omega), in_t (lo := 0) (n := 6) rfl rfl (by omega) h1, b1, b1, z1, z1]
    by_cases h2 : isN x2 0 2
    · obtain ⟨k, hk, rfl⟩ := isN_lt h2
      have hb := blk_lt hO (wb A)
      rw [below_t hk (by omega), isTwo_t hk, b1, b1, z1, z1, X1_copiesAt_eq hX hO hF (by omega), hX.2.2.2.2.1, X1_blackBy_eq hX hO hF (wb_lt hO), show (15 : Int32) = nI 15 from rfl, X7_copiesOf_eq hM hO hF (by omega) (by omega) (fun c hc => by have := (hO.2.2.2.2.2.2.2.1 c hc).1; omega), X7_black_n_eq hM hO hF]
      rcases (show k = 0 ∨ k = 1 by omega) with rfl | rfl <;> exact ⟨_, rfl, rfl⟩
    · rw [below_f (by omega) h2, isTwo_f h2]; exact ⟨_, rfl, rfl⟩
  · rw [below_f (by omega) h1, in_f (lo := 0) (n := 6) rfl rfl (by omega) h1]; exact ⟨_, rfl, rfl⟩
end Q1
