/-! the archive's text: signs and numbers, on both sides -/
def Dg (x : Nat) : Prop := 48 ≤ x ∧ x ≤ 57
def Run (b : Nat → Nat) (t p n : Nat) : Prop := p + n ≤ t ∧ (∀ i, p ≤ i → i < p + n → Dg (b i)) ∧ (p + n = t ∨ ¬ Dg (b (p + n)))
def vl (b : Nat → Nat) (p m : Nat) : Nat := if m = 0 then 0 else if m = 1 then b p - 48 else 10 * (b p - 48) + (b (p + 1) - 48)
theorem run_ex (b : Nat → Nat) {t : Nat} : ∀ (k p : Nat), p + k = t → ∃ n, Run b t p n
  | 0, p, h => ⟨0, by omega, fun i h1 h2 => by omega, Or.inl (by omega)⟩
  | k + 1, p, h => by
    by_cases c : 48 ≤ b p ∧ b p ≤ 57
    · obtain ⟨n, h1, h2, h3⟩ := run_ex b (t := t) k (p + 1) (by omega)
      refine ⟨n + 1, by omega, fun i g1 g2 => ?_, ?_⟩
      · by_cases e : i = p
        · subst e; exact c
        · exact h2 i (by omega) (by omega)
      · rw [show p + (n + 1) = p + 1 + n by omega]; exact h3
    · exact ⟨0, by omega, fun i h1 h2 => by omega, Or.inr c⟩
def PX (b : Nat → Nat) (t p : Nat) (σ : Mem) : Prop := t ≤ 140 ∧ p ≤ t ∧ (∀ i, i < t → b i < 256) ∧ σ 46 2 = nI t ∧ σ 46 3 = nI p ∧ (∀ i, i < t → σ 47 i = nI (b i))
def PM (b : Nat → Nat) (t p : Nat) (μ : Mem) : Prop := t ≤ 140 ∧ p ≤ t ∧ (∀ i, i < t → b i < 256) ∧ μ 0 19 = nI t ∧ μ 0 15 = nI p ∧ (∀ i, i < t → μ 4 i = nI (b i))
def ET (μ μ' : Mem) : Prop := (∀ q, q ≠ 0 → μ' q = μ q) ∧ ∀ k, k < 15 ∨ 19 ≤ k → μ' 0 k = μ 0 k
theorem ET.rf {μ : Mem} : ET μ μ := ⟨fun _ _ => rfl, fun _ _ => rfl⟩
theorem ET.tr {a b c : Mem} (h : ET a b) (h2 : ET b c) : ET a c := ⟨fun q hq => (h2.1 q hq).trans (h.1 q hq), fun k hk => (h2.2 k hk).trans (h.2 k hk)⟩
def Tok (b : Nat → Nat) (t p k v n : Nat) : Prop :=
  (p = t ∧ k = 0 ∧ n = 0) ∨ (p < t ∧ (97 ≤ b p ∧ b p ≤ 122) ∧ k = 1 ∧ v = b p ∧ n = 1) ∨ (p < t ∧ b p = 44 ∧ k = 3 ∧ n = 1) ∨ (p < t ∧ b p = 59 ∧ k = 4 ∧ n = 1) ∨
  (p < t ∧ Dg (b p) ∧ Run b t p n ∧ ((n ≤ 2 ∧ k = 2 ∧ v = vl b p n) ∨ (2 < n ∧ k = 5))) ∨ (p < t ∧ ¬ (97 ≤ b p ∧ b p ≤ 122) ∧ ¬ b p = 44 ∧ ¬ b p = 59 ∧ ¬ Dg (b p) ∧ k = 5 ∧ n = 1)
section LEX
variable {b : Nat → Nat} {t p : Nat} {σ μ : Mem} {fuel : Nat}
theorem nextX (h : PX b t p σ) : f_X4_next σ = some (if p < t then nI (b p) else -1) := by
  obtain ⟨h1, h2, h3, h4, h5, h6⟩ := h
  unfold f_X4_next
  rw [h4, h5]
  by_cases c : p < t
  · rw [if_neg (show ¬ nI t ≤ nI p by rw [le_n (by omega) (by omega)]; omega), if_pos c, gB (by omega) (by omega), cl_n (by omega), h6 p c]
  · rw [if_pos (show nI t ≤ nI p by rw [le_n (by omega) (by omega)]; omega), if_neg c]
theorem isFigM {x : Nat} (hx : x < 256) : (Dg x → f_X7_isFigure (nI x) = some 1) ∧ (¬ Dg x → f_X7_isFigure (nI x) = some 0) := by
  unfold f_X7_isFigure Dg
  refine ⟨fun h => ?_, fun h => ?_⟩
  · rw [in_t (lo := 48) (n := 58) rfl rfl (by omega) ⟨x, by omega, by omega, rfl⟩]; rfl
  · rw [in_f (lo := 48) (n := 58) rfl rfl (by omega) (fun ⟨j, h1, h2, h3⟩ => by rw [eq_n (by omega) (by omega)] at h3; omega)]; rfl
/-- the reference's loop over figures -/
theorem figs (hF : 1000 ≤ fuel) {n : Nat} (hR : Run b t p n) (hp : p < t) (ht : t ≤ 140) (hb : ∀ i, i < t → b i < 256) : ∀ k m N τ, m + k = n → k < N → (∀ q, q ≠ 0 → τ q = μ q) → (∀ j, j ≠ 15 → j ≠ 18 → τ 0 j = μ 0 j) → μ 0 19 = nI t → (∀ i, i < t → μ 4 i = nI (b i)) → μ 0 17 = 2 → μ 0 16 = nI p → τ 0 15 = nI (p + m) → τ 0 18 = nI (vl b p m) → ∃ μ', f_X7_next_141 fuel N τ = some μ' ∧ (∀ q, q ≠ 0 → μ' q = μ q) ∧ (∀ j, j ≠ 15 → j ≠ 18 → j ≠ 17 → μ' 0 j = μ 0 j) ∧ μ' 0 15 = nI (p + n) ∧ μ' 0 18 = nI (vl b p n) ∧ μ' 0 17 = if n ≤ 2 then 2 else 5 := by
  obtain ⟨r1, r2, r3⟩ := hR
  intro k
  induction k with
  | zero =>
    intro m N τ hm hN f1 f2 g1 g2 g3 g4 g5 g6
    obtain ⟨N, rfl⟩ := suc_of hN
    obtain rfl : m = n := by omega
    have e : f_X7_next_141 fuel (N + 1) τ = f_X7_next_232 fuel τ := by
      rw [f_X7_next_141, f2 17 (by omega) (by omega), g3, if_pos rfl, f2 19 (by omega) (by omega), g1, g5]
      rcases r3 with r3 | r3
      · rw [if_pos (by rw [le_n (by omega) (by omega)]; omega)]
      · by_cases c : p + m < t
        · rw [if_neg (show ¬ nI t ≤ nI (p + m) by rw [le_n (by omega) (by omega)]; omega), gB (by omega) (by omega), cl_n (by omega), f1 4 (by omega), g2 _ c, (isFigM (hb _ c)).2 r3, bs, if_pos rfl]
        · rw [if_pos (show nI t ≤ nI (p + m) by rw [le_n (by omega) (by omega)]; omega)]
    rw [e]
    unfold f_X7_next_232
    rw [f2 17 (by omega) (by omega), g3, if_pos rfl, g5, f2 16 (by omega) (by omega), g4, pk_sub (by omega), show p + m - p = m by omega, show (2 : Int32) = nI 2 from rfl]
    by_cases c : m ≤ 2
    · rw [if_pos (show nI m ≤ nI 2 by rw [le_n (by omega) (by omega)]; omega)]
      refine ⟨_, rfl, fun q hq => by rw [mst_ne hq, f1 q hq], fun j h1 h2 h3 => by rw [mst_at]; exact (if_neg h3).trans (f2 j h1 h2), by rw [mst_at]; exact g5, by rw [mst_at]; exact g6, by rw [mst_at, if_pos c]; rfl⟩
    · rw [if_neg (show ¬ nI m ≤ nI 2 by rw [le_n (by omega) (by omega)]; omega)]
      refine ⟨_, rfl, fun q hq => by rw [mst_ne hq, f1 q hq], fun j h1 h2 h3 => by rw [mst_at]; exact (if_neg h3).trans (f2 j h1 h2), by rw [mst_at]; exact g5, by rw [mst_at]; exact g6, by rw [mst_at, if_neg c]; rfl⟩
  | succ k ih =>
    intro m N τ hm hN f1 f2 g1 g2 g3 g4 g5 g6
    obtain ⟨N, rfl⟩ := suc_of hN
    have hd := r2 (p + m) (by omega) (by omega)
    have hbb := hb (p + m) (by omega)
    rw [f_X7_next_141, f2 17 (by omega) (by omega), g3, if_pos rfl, f2 19 (by omega) (by omega), g1, g5, if_neg (show ¬ nI t ≤ nI (p + m) by rw [le_n (by omega) (by omega)]; omega), gB (by omega) (by omega), gB (by omega) (by omega), cl_n (by omega), f1 4 (by omega), g2 _ (by omega), (isFigM hbb).1 hd, bs, if_neg (show ¬ (1 : Int32) = 0 by decide), f2 16 (by omega) (by omega), g4, pk_sub (by omega), show p + m - p = m by omega]
    have v : ∀ y : Int32, y = nI (vl b p (m + 1)) → ∃ μ', f_X7_next_216 fuel (f_X7_next_141 fuel N) τ y = some μ' ∧ (∀ q, q ≠ 0 → μ' q = μ q) ∧ (∀ j, j ≠ 15 → j ≠ 18 → j ≠ 17 → μ' 0 j = μ 0 j) ∧ μ' 0 15 = nI (p + n) ∧ μ' 0 18 = nI (vl b p n) ∧ μ' 0 17 = if n ≤ 2 then 2 else 5 := by
      intro y hy
      unfold f_X7_next_216
      rw [g5, s1, hy]
      exact ih (m + 1) N _ (by omega) (by omega) (fun q hq => by rw [mst_ne hq, mst_ne hq, f1 q hq]) (fun j h1 h2 => by rw [mst_at, mst_at]; exact (if_neg h1).trans ((if_neg h2).trans (f2 j h1 h2))) g1 g2 g3 g4 (by rw [mst_at]; rfl) (by rw [mst_at, mst_at]; rfl)
    unfold Dg at hd
    by_cases c : 2 ≤ m
    · rw [if_pos (show 2 ≤ nI m by rw [show (2 : Int32) = nI 2 from rfl, le_n (by omega) (by omega)]; omega)]
      apply v
      rw [g6]
      unfold vl
      rw [if_neg (by omega), if_neg (by omega), if_neg (by omega), if_neg (by omega)]
    · rw [if_neg (show ¬ 2 ≤ nI m by rw [show (2 : Int32) = nI 2 from rfl, le_n (by omega) (by omega)]; omega)]
      apply v
      rw [g6, show (10 : Int32) = nI 10 from rfl, pk_mul, nI_add, show (48 : Int32) = nI 48 from rfl, pk_sub (by omega)]
      congr 1
      unfold vl
      rcases (show m = 0 ∨ m = 1 by omega) with rfl | rfl
      · rw [if_pos rfl, if_neg (by omega), if_pos rfl]
        show 10 * 0 + b (p + 0) - 48 = b p - 48
        rw [Nat.add_zero]; omega
      · rw [if_neg (by omega), if_pos rfl, if_neg (by omega), if_neg (by omega)]
        omega
theorem nextM (hF : 1000 ≤ fuel) (h : PM b t p μ) : ∃ μ' k v n, f_X7_next fuel μ = some μ' ∧ ET μ μ' ∧ PM b t (p + n) μ' ∧ μ' 0 16 = nI p ∧ μ' 0 17 = nI k ∧ k < 6 ∧ v < 1000 ∧ μ' 0 18 = nI v ∧ Tok b t p k v n := by
  obtain ⟨h1, h2, h3, h4, h5, h6⟩ := id h
  -- what isn't a number
  have easy : ∀ (x : Int32) (y : Int32) (k v n : Nat), k < 6 → ¬ k = 2 → v < 1000 → p + n ≤ t → n = (if k = 0 then 0 else 1) → y = nI v → Tok b t p k v n → f_X7_next_109 fuel (mst (mst μ 0 16 (nI p)) 0 17 (nI k)) y = some (mst (mst (mst (mst (mst μ 0 16 (nI p)) 0 17 (nI k)) 0 18 y) 0 15 (nI (p + n))) 0 17 (nI k)) ∧ ∃ μ' k' v' n', some (mst (mst (mst (mst (mst μ 0 16 (nI p)) 0 17 (nI k)) 0 18 y) 0 15 (nI (p + n))) 0 17 (nI k)) = some μ' ∧ ET μ μ' ∧ PM b t (p + n') μ' ∧ μ' 0 16 = nI p ∧ μ' 0 17 = nI k' ∧ k' < 6 ∧ v' < 1000 ∧ μ' 0 18 = nI v' ∧ Tok b t p k' v' n' := by
    intro x y k v n hk hk2 hv hn hn2 hy hT
    obtain ⟨N, rfl⟩ : ∃ N, fuel = N + 1 := ⟨fuel - 1, by omega⟩
    refine ⟨?_, _, k, v, n, rfl, ⟨fun q hq => by rw [mst_ne hq, mst_ne hq, mst_ne hq, mst_ne hq, mst_ne hq], fun j hj => ?_⟩, ⟨h1, hn, h3, ?_, ?_, ?_⟩, ?_, ?_, hk, hv, ?_, hT⟩
    · unfold f_X7_next_109
      have e17 : mst (mst μ 0 16 (nI p)) 0 17 (nI k) 0 17 = nI k := by rw [mst_at]; rfl
      have e15 : mst (mst μ 0 16 (nI p)) 0 17 (nI k) 0 15 = nI p := by rw [mst_at, mst_at]; exact h5
      rw [e17, e15]
      have fin : ∀ a : Nat, f_X7_next_141 (N + 1) (N + 1) (mst (mst (mst (mst μ 0 16 (nI p)) 0 17 (nI k)) 0 18 y) 0 15 (nI a)) = some (mst (mst (mst (mst (mst μ 0 16 (nI p)) 0 17 (nI k)) 0 18 y) 0 15 (nI a)) 0 17 (nI k)) := fun a => by
        have e : mst (mst (mst (mst μ 0 16 (nI p)) 0 17 (nI k)) 0 18 y) 0 15 (nI a) 0 17 = nI k := by rw [mst_at, mst_at, mst_at]; rfl
        have n2 : ¬ nI k = 2 := by rw [show (2 : Int32) = nI 2 from rfl, eq_n (by omega) (by omega)]; exact hk2
        rw [f_X7_next_141, e, if_neg n2]
        unfold f_X7_next_232
        rw [e, if_neg n2]
      by_cases c0 : k = 0
      · rw [if_pos (show nI k ≤ 0 by rw [c0]; decide), show nI p + 0 = nI p from Int32.add_zero _, fin p, hn2, if_pos c0]
        rfl
      · rw [if_neg (show ¬ nI k ≤ 0 by rw [show (0 : Int32) = nI 0 from rfl, le_n (by omega) (by omega)]; omega), if_neg (show ¬ nI k = 2 by rw [show (2 : Int32) = nI 2 from rfl, eq_n (by omega) (by omega)]; exact hk2), s1, fin (p + 1), hn2, if_neg c0]
    · rw [mst_at, mst_at, mst_at, mst_at, mst_at]
      exact (if_neg (by omega)).trans ((if_neg (by omega)).trans ((if_neg (by omega)).trans ((if_neg (by omega)).trans (if_neg (by omega)))))
    · rw [mst_at, mst_at, mst_at, mst_at, mst_at]; exact h4
    · rw [mst_at, mst_at]; rfl
    · rw [mst_ne (by omega), mst_ne (by omega), mst_ne (by omega), mst_ne (by omega), mst_ne (by omega)]; exact h6
    · rw [mst_at, mst_at, mst_at, mst_at, mst_at]; rfl
    · rw [mst_at]; rfl
    · rw [mst_at, mst_at, mst_at, hy]; rfl
  unfold f_X7_next
  rw [h4, h5]
  by_cases cp : p < t
  case neg =>
    rw [if_pos (show nI t ≤ nI p by rw [le_n (by omega) (by omega)]; omega)]
    have e : f_X7_next_32 fuel (mst μ 0 16 (nI p)) (-1) = f_X7_next_109 fuel (mst (mst μ 0 16 (nI p)) 0 17 (nI 0)) 0 := rfl
    obtain ⟨e1, e2⟩ := easy 0 0 0 0 0 (by omega) (by omega) (by omega) (by omega) rfl rfl (Or.inl ⟨by omega, rfl, rfl⟩)
    rw [e, e1]; exact e2
  rw [if_neg (show ¬ nI t ≤ nI p by rw [le_n (by omega) (by omega)]; omega), gB (by omega) (by omega), cl_n (by omega), h6 p cp]
  have hbp := h3 p cp
  unfold f_X7_next_32
  rw [if_pos (nI_nn (by omega))]
  by_cases c1 : 97 ≤ b p ∧ b p ≤ 122
  · rw [in_t (lo := 97) (n := 123) rfl rfl (by omega) ⟨b p, by omega, by omega, rfl⟩, b1, z1]
    obtain ⟨e1, e2⟩ := easy 0 (nI (b p)) 1 (b p) 1 (by omega) (by omega) (by omega) (by omega) rfl rfl (Or.inr (Or.inl ⟨cp, c1, rfl, rfl, rfl⟩))
    rw [show f_X7_next_92 fuel (mst μ 0 16 (nI p)) (nI (b p)) 1 = f_X7_next_109 fuel (mst (mst μ 0 16 (nI p)) 0 17 (nI 1)) (nI (b p)) from rfl, e1]; exact e2
  rw [in_f (lo := 97) (n := 123) rfl rfl (by omega) (fun ⟨j, q1, q2, q3⟩ => by rw [eq_n (by omega) (by omega)] at q3; omega), b0, z0]
  by_cases c2 : Dg (b p)
  · rw [(isFigM hbp).1 c2, b1, z1]
    obtain ⟨n, hR⟩ := run_ex b (t := t) (t - p) p (by omega)
    have hn1 : 1 ≤ n := by
      rcases Nat.eq_zero_or_pos n with e | e
      · subst e
        rcases hR.2.2 with q | q
        · omega
        · exact absurd c2 (by rw [Nat.add_zero] at q; exact q)
      · exact e
    have e : f_X7_next_92 fuel (mst μ 0 16 (nI p)) (nI (b p)) 2 = f_X7_next_141 fuel fuel (mst (mst (mst (mst μ 0 16 (nI p)) 0 17 2) 0 18 0) 0 15 (nI p + 0)) := by
      unfold f_X7_next_92 f_X7_next_109
      rw [if_neg (show ¬ (2 : Int32) = 1 by decide), show mst (mst μ 0 16 (nI p)) 0 17 2 0 17 = 2 by rw [mst_at]; rfl, if_neg (show ¬ (2 : Int32) ≤ 0 by decide), if_pos rfl, show mst (mst μ 0 16 (nI p)) 0 17 2 0 15 = nI p by rw [mst_at, mst_at]; exact h5]
    rw [e, show nI p + 0 = nI p from Int32.add_zero _]
    obtain ⟨μ', f0, f1, f2, f3, f4, f5⟩ := figs (μ := mst (mst (mst (mst μ 0 16 (nI p)) 0 17 2) 0 18 0) 0 15 (nI p)) hF hR cp h1 h3 n 0 fuel (mst (mst (mst (mst μ 0 16 (nI p)) 0 17 2) 0 18 0) 0 15 (nI p)) (by omega) (by have := hR.1; omega) (fun _ _ => rfl) (fun _ _ _ => rfl) (by rw [mst_at, mst_at, mst_at, mst_at]; exact h4) (by rw [mst_ne (by omega), mst_ne (by omega), mst_ne (by omega), mst_ne (by omega)]; exact h6) (by rw [mst_at, mst_at, mst_at, mst_at]; rfl) (by rw [mst_at, mst_at, mst_at, mst_at]; rfl) (by rw [mst_at]; rfl) (by rw [mst_at, mst_at]; rfl)
    have vlt : vl b p n < 1000 := by
      unfold vl
      have q1 := c2.1
      have q2 := c2.2
      have q3 : 2 ≤ n → b (p + 1) < 256 := fun q => h3 _ (by have := hR.1; omega)
      split
      · omega
      · split
        · omega
        · have := q3 (by omega); omega
    refine ⟨μ', (if n ≤ 2 then 2 else 5), vl b p n, n, f0, ⟨fun q hq => by rw [f1 q hq, mst_ne hq, mst_ne hq, mst_ne hq, mst_ne hq], fun j hj => ?_⟩, ⟨h1, hR.1, h3, ?_, f3, ?_⟩, ?_, ?_, by split <;> omega, vlt, f4, ?_⟩
    · rw [f2 j (by omega) (by omega) (by omega), mst_at, mst_at, mst_at, mst_at]
      exact (if_neg (by omega)).trans ((if_neg (by omega)).trans ((if_neg (by omega)).trans (if_neg (by omega))))
    · rw [f2 19 (by omega) (by omega) (by omega), mst_at, mst_at, mst_at, mst_at]; exact h4
    · rw [f1 4 (by omega), mst_ne (by omega), mst_ne (by omega), mst_ne (by omega), mst_ne (by omega)]; exact h6
    · rw [f2 16 (by omega) (by omega) (by omega), mst_at, mst_at, mst_at, mst_at]; rfl
    · rw [f5]; split <;> rfl
    · refine Or.inr (Or.inr (Or.inr (Or.inr (Or.inl ⟨cp, c2, hR, ?_⟩))))
      by_cases c : n ≤ 2
      · rw [if_pos c]; exact Or.inl ⟨c, rfl, rfl⟩
      · rw [if_neg c]; exact Or.inr ⟨by omega, rfl⟩
  rw [(isFigM hbp).2 c2, b0, z0, show (44 : Int32) = nI 44 from rfl, show (59 : Int32) = nI 59 from rfl]
  have go : ∀ k : Nat, k = 3 ∨ k = 4 ∨ k = 5 → Tok b t p k 0 1 → ∃ μ' k' v n, f_X7_next_92 fuel (mst μ 0 16 (nI p)) (nI (b p)) (nI k) = some μ' ∧ ET μ μ' ∧ PM b t (p + n) μ' ∧ μ' 0 16 = nI p ∧ μ' 0 17 = nI k' ∧ k' < 6 ∧ v < 1000 ∧ μ' 0 18 = nI v ∧ Tok b t p k' v n := by
    intro k hk hT
    obtain ⟨e1, e2⟩ := easy 0 0 k 0 1 (by omega) (by omega) (by omega) (by omega) (by rw [if_neg (by omega)]) rfl hT
    have e : f_X7_next_92 fuel (mst μ 0 16 (nI p)) (nI (b p)) (nI k) = f_X7_next_109 fuel (mst (mst μ 0 16 (nI p)) 0 17 (nI k)) 0 := by
      unfold f_X7_next_92
      rw [if_neg (show ¬ nI k = 1 by rw [show (1 : Int32) = nI 1 from rfl, eq_n (by omega) (by omega)]; omega)]
    rw [e, e1]; exact e2
  by_cases c3 : b p = 44
  · rw [if_pos (by rw [c3])]; exact go 3 (by omega) (Or.inr (Or.inr (Or.inl ⟨cp, c3, rfl, rfl⟩)))
  rw [if_neg (by rw [eq_n (by omega) (by omega)]; exact c3)]
  by_cases c4 : b p = 59
  · rw [if_pos (by rw [c4])]; exact go 4 (by omega) (Or.inr (Or.inr (Or.inr (Or.inl ⟨cp, c4, rfl, rfl⟩))))
  rw [if_neg (by rw [eq_n (by omega) (by omega)]; exact c4)]
  exact go 5 (by omega) (Or.inr (Or.inr (Or.inr (Or.inr (Or.inr ⟨cp, c1, c3, c4, c2, rfl, rfl⟩)))))
end LEX
