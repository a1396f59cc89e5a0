/-! two hands together; the order -/
def E63 (σ σ' : Mem) : Prop := ∀ q, q ≠ 63 → q ≠ 64 → q ≠ 65 → σ' q = σ q
theorem E63.xn {σ σ' : Mem} {A : Ar} (e : E63 σ σ') (h : XN σ A) : XN σ' A := by
  unfold XN
  rw [e 13 (by omega) (by omega) (by omega), e 14 (by omega) (by omega) (by omega), e 15 (by omega) (by omega) (by omega), e 16 (by omega) (by omega) (by omega), e 17 (by omega) (by omega) (by omega), e 18 (by omega) (by omega) (by omega), e 19 (by omega) (by omega) (by omega), e 20 (by omega) (by omega) (by omega), e 21 (by omega) (by omega) (by omega), e 22 (by omega) (by omega) (by omega), e 23 (by omega) (by omega) (by omega)]
  exact h
theorem E63.rf {σ : Mem} : E63 σ σ := fun _ _ _ _ => rfl
theorem E63.tr {a b c : Mem} (h : E63 a b) (h2 : E63 b c) : E63 a c := fun q h1 h3 h4 => (h2 q h1 h3 h4).trans (h q h1 h3 h4)
theorem RR_congr {lx sx lm sm im : Nat → Int32} {it it' : Nat → Nat → Int32} (h : RR lx sx it lm sm im) (e : ∀ r, r < 8 → it' r = it r) : RR lx sx it' lm sm im := fun r hr => by
  rcases h r hr with q | ⟨n, h1, h2, h3, h4, h5, h6⟩
  · exact Or.inl q
  · exact Or.inr ⟨n, h1, h2, h3, h4, h5, fun i hi => by rw [e r hr]; exact h6 i hi⟩
theorem Sim.x {σ σ' μ : Mem} (h : Sim σ μ) (r : ∀ q, (q < 46 ∨ q = 47 ∨ (59 ≤ q ∧ q ≤ 61) ∨ 66 ≤ q) → σ' q = σ q) (r46 : σ' 46 2 = σ 46 2) : Sim σ' μ := by
  unfold Sim SR SA SI XN at *
  obtain ⟨h1, h2, h3, h4, h5, h6, h7⟩ := h
  rw [r46, r 0 (by omega), r 2 (by omega), r 3 (by omega), r 47 (by omega), r 66 (by omega), r 67 (by omega), r 13 (by omega), r 14 (by omega), r 15 (by omega), r 16 (by omega), r 17 (by omega), r 18 (by omega), r 19 (by omega), r 20 (by omega), r 21 (by omega), r 22 (by omega), r 23 (by omega), r 24 (by omega), r 25 (by omega), r 26 (by omega), r 27 (by omega), r 28 (by omega), r 29 (by omega), r 30 (by omega), r 31 (by omega), r 32 (by omega), r 33 (by omega), r 34 (by omega), r 35 (by omega), r 36 (by omega), r 37 (by omega), r 38 (by omega), r 39 (by omega), r 40 (by omega), r 41 (by omega), r 42 (by omega), r 43 (by omega), r 44 (by omega), r 45 (by omega), r 59 (by omega), r 60 (by omega), r 61 (by omega)]
  exact ⟨RR_congr h1 (fun k hk => r (5 + k) (by omega)), h2, h3, h4, h5, h6, h7⟩
theorem Sim.e63 {σ σ' μ : Mem} (h : Sim σ μ) (e : E63 σ σ') : Sim σ' μ := h.x (fun q hq => e q (by omega) (by omega) (by omega)) (by rw [e 46 (by omega) (by omega) (by omega)])
/-- both answer alike, each changing but what it lays aside -/
def QX (fx : Option (Int32 × Mem)) (fm : Option (Int32 × Mem)) (σ μ : Mem) : Prop := ∃ r σ' μ', fx = some (r, σ') ∧ fm = some (r, μ') ∧ E63 σ σ' ∧ E11 μ μ'
section PO
variable {σ μ : Mem} {A : Ar} {fuel : Nat}
theorem weigh_eq (hX : XN σ A) (hO : AOK A) (hF : 1000 ≤ fuel) : ∃ σ', f_X3_weighAll fuel σ = some σ' ∧ E63 σ σ' ∧ ∀ s, s < 2 ^ A 2 → σ' 63 s = nI (lsb A s) := by
  have hp := p2_le hO.2.2.1
  have hH := hO.2.2.1
  have key : ∀ k i n τ, i + k = 2 ^ A 2 → k < n → E63 σ τ → (∀ s, s < i → τ 63 s = nI (lsb A s)) → ∃ σ', f_X3_weighAll_2 fuel n τ (nI i) = some σ' ∧ E63 σ σ' ∧ ∀ s, s < 2 ^ A 2 → σ' 63 s = nI (lsb A s) := by
    intro k
    induction k with
    | zero =>
      intro i n τ hi hn hx hs
      obtain ⟨m, rfl⟩ := suc_of hn
      rw [f_X3_weighAll_2, (hx.xn hX).2.2.2.2.2.1, nI_shl1 (by omega), if_pos (by rw [le_n (by omega) (by omega)]; omega)]
      exact ⟨τ, rfl, hx, fun s h => hs s (by omega)⟩
    | succ k ih =>
      intro i n τ hi hn hx hs
      obtain ⟨m, rfl⟩ := suc_of hn
      rw [f_X3_weighAll_2, (hx.xn hX).2.2.2.2.2.1, nI_shl1 (by omega), if_neg (by rw [le_n (by omega) (by omega)]; omega), X3_lossBy_eq (hx.xn hX) hO (by omega) (show i < 16 by omega), bs, gB (by omega) (by omega), cl_n (by omega), s1]
      refine ih (i + 1) m _ (by omega) (by omega) (hx.tr (fun q h1 _ _ => mst_ne h1)) (fun s h => ?_)
      rw [mst_at]
      unfold upd
      by_cases e : s = i
      · rw [if_pos e, e]
      · rw [if_neg e]; exact hs s (by omega)
  exact key (2 ^ A 2) 0 fuel σ (by omega) (by omega) E63.rf (fun s h => by omega)
def gI (A : Ar) (a b : Nat) : Int32 := (nI (lsb A (2 ^ a ||| 2 ^ b)) - nI (lsb A (2 ^ a))) - nI (lsb A (2 ^ b))
theorem gI_int (hO : AOK A) (a b : Nat) : (gI A a b).toInt = (lsb A (2 ^ a ||| 2 ^ b) : Int) - lsb A (2 ^ a) - lsb A (2 ^ b) := by
  have h1 := lsb_le hO (2 ^ a ||| 2 ^ b)
  have h2 := lsb_le hO (2 ^ a)
  have h3 := lsb_le hO (2 ^ b)
  unfold gI
  rw [Int32.toInt_sub, pk_sub_toInt (by omega) (by omega), nI_toInt (by omega)]
  have : ((lsb A (2 ^ a ||| 2 ^ b) : Int) - lsb A (2 ^ a) - lsb A (2 ^ b)).bmod (2 ^ 32) = (lsb A (2 ^ a ||| 2 ^ b) : Int) - lsb A (2 ^ a) - lsb A (2 ^ b) := by
    apply Int.bmod_eq_of_le <;> omega
  exact this
theorem gI_big (hO : AOK A) (a b : Nat) : ¬ gI A a b ≤ -1000000 := by
  rw [Int32.le_iff_toInt_le, gI_int hO, show (-1000000 : Int32).toInt = -1000000 by decide]
  have h2 := lsb_le hO (2 ^ a)
  have h3 := lsb_le hO (2 ^ b)
  omega
theorem p2_lt_p2 {a H : Nat} (h : a < H) : 2 ^ a < 2 ^ H := Nat.pow_lt_pow_right (by decide) h
theorem p2or_lt {a b H : Nat} (ha : a < H) (hb : b < H) : 2 ^ a ||| 2 ^ b < 2 ^ H := Nat.or_lt_two_pow (p2_lt_p2 ha) (p2_lt_p2 hb)
theorem gain_eq (hO : AOK A) (hL : ∀ s, s < 2 ^ A 2 → σ 63 s = nI (lsb A s)) {a b : Nat} (ha : a < A 2) (hb : b < A 2) : f_X3_gainOf σ (nI a) (nI b) = some (gI A a b) := by
  have hp := p2_le hO.2.2.1
  have hH := hO.2.2.1
  have q1 := p2_lt_p2 ha
  have q2 := p2_lt_p2 hb
  have q3 := p2or_lt ha hb
  unfold f_X3_gainOf gI
  rw [nI_shl1 (by omega), nI_shl1 (by omega), nI_or, gB (by omega) (by omega), gB (by omega) (by omega), gB (by omega) (by omega), cl_n (by omega), cl_n (by omega), cl_n (by omega), hL _ q3, hL _ q1, hL _ q2]
/-- best and most so far, on both sides -/
def PR (A : Ar) (b m mM : Int32) : Prop := (b = -1000000 ∧ mM = -1000000) ∨ ∃ p q, p < A 2 ∧ q < A 2 ∧ b = nI (4 * p + q) ∧ m = gI A p q ∧ mM = m
def PD (A : Ar) (k : Nat) (μ : Mem) (fx : Option Int32) (fm : Option (Int32 × Mem)) : Prop := ∃ b m mM μ', fx = some b ∧ fm = some (if k = 0 then b else if b = -1000000 then b else mM, μ') ∧ E11 μ μ' ∧ PR A b m mM
theorem nI_ne_none {v : Nat} (h : v < 100000) : ¬ nI v = -1000000 := by
  intro q
  have := congrArg Int32.toInt q
  rw [nI_toInt (by omega), show (-1000000 : Int32).toInt = -1000000 by decide] at this
  omega
theorem pair_in (hX : XN σ A) (hO : AOK A) (hM : MA (μ 5) A) (h5 : A 5 ≤ 999) (hF : 1000 ≤ fuel) (hL : ∀ s, s < 2 ^ A 2 → σ 63 s = nI (lsb A s)) {k a : Nat} (ha : a < A 2) (K8 : Int32 → Int32 → Int32 → Option Int32) (K29 : Mem → Int32 → Int32 → Int32 → Int32 → Option (Int32 × Mem))
    (hK : ∀ b m mM τ, PR A b m mM → E11 μ τ → PD A k μ (K8 b m (nI (a + 1))) (K29 τ (nI k) mM b (nI (a + 1)))) :
    ∀ j i n n2 τ b m mM, i + j = A 2 → j < n → j < n2 → PR A b m mM → E11 μ τ → PD A k μ (f_X3_bestPair_23 fuel σ K8 n b m (nI a) (nI i)) (f_X7_pair_46 fuel K29 n2 τ (nI k) mM b (nI a) (nI i)) := by
  have hH := hO.2.2.1
  have hp := p2_le hH
  intro j
  induction j with
  | zero =>
    intro i n n2 τ b m mM hi hn hn2 hr hx
    obtain ⟨n', rfl⟩ := suc_of hn
    obtain ⟨n2', rfl⟩ := suc_of hn2
    rw [f_X3_bestPair_23, f_X7_pair_46, hX.2.2.2.2.2.1, (hM.e11 hx) 2 (by omega), if_pos (show nI (A 2) ≤ nI i by rw [le_n (by omega) (by omega)]; omega), if_pos (show nI (A 2) ≤ nI i by rw [le_n (by omega) (by omega)]; omega), s1]
    exact hK b m mM τ hr hx
  | succ j ih =>
    intro i n n2 τ b m mM hi hn hn2 hr hx
    obtain ⟨n', rfl⟩ := suc_of hn
    obtain ⟨n2', rfl⟩ := suc_of hn2
    have hil : i < A 2 := by omega
    have q3 := p2or_lt ha hil
    have q1 := p2_lt_p2 ha
    have q2 := p2_lt_p2 hil
    obtain ⟨τ1, e1, y1⟩ := X7_lossBy_eq (hM.e11 hx) hO h5 (fuel := fuel) (by omega) (show 2 ^ a ||| 2 ^ i < 16 by omega)
    obtain ⟨τ2, e2, y2⟩ := X7_lossBy_eq (hM.e11 (hx.tr y1)) hO h5 (fuel := fuel) (by omega) (show 2 ^ a < 16 by omega)
    obtain ⟨τ3, e3, y3⟩ := X7_lossBy_eq (hM.e11 ((hx.tr y1).tr y2)) hO h5 (fuel := fuel) (by omega) (show 2 ^ i < 16 by omega)
    have hx3 := ((hx.tr y1).tr y2).tr y3
    rw [f_X3_bestPair_23, f_X7_pair_46, hX.2.2.2.2.2.1, (hM.e11 hx) 2 (by omega), if_neg (show ¬ nI (A 2) ≤ nI i by rw [le_n (by omega) (by omega)]; omega), if_neg (show ¬ nI (A 2) ≤ nI i by rw [le_n (by omega) (by omega)]; omega), gain_eq hO hL ha hil, bs, nI_shl1 (by omega), nI_shl1 (by omega), nI_or, e1, bs, e2, bs, e3, bs]
    unfold f_X3_bestPair_54 f_X7_pair_107
    show PD A k μ _ (if gI A a i ≤ mM then (if gI A a i ≤ mM then _ else _) else (if gI A a i ≤ mM then _ else _))
    have en : (4 : Int32) * nI a + nI i = nI (4 * a + i) := by rw [show (4 : Int32) = nI 4 from rfl, pk_mul, nI_add]
    rw [en, s1]
    have new : PR A (nI (4 * a + i)) (gI A a i) (gI A a i) := Or.inr ⟨a, i, ha, hil, rfl, rfl, rfl⟩
    rcases hr with ⟨rfl, rfl⟩ | ⟨p, q, hp1, hq1, rfl, rfl, rfl⟩
    · rw [if_pos rfl, if_neg (gI_big hO a i), if_neg (gI_big hO a i)]
      exact ih (i + 1) n' n2' τ3 _ _ _ (by omega) (by omega) (by omega) new hx3
    · rw [if_neg (nI_ne_none (by omega))]
      by_cases c : gI A a i ≤ gI A p q
      · rw [if_pos c, if_pos c, if_pos c]
        exact ih (i + 1) n' n2' τ3 _ _ _ (by omega) (by omega) (by omega) (Or.inr ⟨p, q, hp1, hq1, rfl, rfl, rfl⟩) hx3
      · rw [if_neg c, if_neg c, if_neg c]
        exact ih (i + 1) n' n2' τ3 _ _ _ (by omega) (by omega) (by omega) new hx3
theorem q_pair (hX : XN σ A) (hM : MA (μ 5) A) (hO : AOK A) (h5 : A 5 ≤ 999) (hF : 1000 ≤ fuel) (ht : μ 0 7 = σ 13 0) (x1 : Int32) : QX (f_X6_pair fuel σ x1) (f_X7_pair fuel μ x1) σ μ := by
  have hH := hO.2.2.1
  unfold f_X6_pair f_X7_pair
  rw [ht]
  by_cases h0 : σ 13 0 = 0
  · rw [if_pos h0, if_pos h0]; exact ⟨_, _, _, rfl, rfl, E63.rf, E11.rf⟩
  rw [if_neg h0, if_neg h0, show (2 : Int32) = nI 2 from rfl]
  by_cases h1 : isN x1 0 2
  · obtain ⟨k, hk, rfl⟩ := isN_lt h1
    obtain ⟨σ', ew, xw, hL⟩ := weigh_eq hX hO hF
    have hX' := xw.xn hX
    rw [below_t hk (by omega), isTwo_t hk, b1, b1, z1, z1, ew, bs]
    have key : ∀ j a n n2 τ b m mM, a + j = A 2 → j < n → j < n2 → PR A b m mM → E11 μ τ → PD A k μ (f_X3_bestPair_8 fuel σ' n b m (nI a)) (f_X7_pair_29 fuel n2 τ (nI k) mM b (nI a)) := by
      intro j
      induction j with
      | zero =>
        intro a n n2 τ b m mM hi hn hn2 hr hx
        obtain ⟨n', rfl⟩ := suc_of hn
        obtain ⟨n2', rfl⟩ := suc_of hn2
        rw [f_X3_bestPair_8, f_X7_pair_29, hX'.2.2.2.2.2.1, (hM.e11 hx) 2 (by omega), if_pos (show nI (A 2) ≤ nI a by rw [le_n (by omega) (by omega)]; omega), if_pos (show nI (A 2) ≤ nI a by rw [le_n (by omega) (by omega)]; omega)]
        refine ⟨b, m, mM, τ, rfl, ?_, hx, hr⟩
        rcases (show k = 0 ∨ k = 1 by omega) with rfl | rfl
        · rfl
        · show (if b = -1000000 then some (b, τ) else some (mM, τ)) = some (if b = -1000000 then b else mM, τ)
          split <;> rfl
      | succ j ih =>
        intro a n n2 τ b m mM hi hn hn2 hr hx
        obtain ⟨n', rfl⟩ := suc_of hn
        obtain ⟨n2', rfl⟩ := suc_of hn2
        rw [f_X3_bestPair_8, f_X7_pair_29, hX'.2.2.2.2.2.1, (hM.e11 hx) 2 (by omega), if_neg (show ¬ nI (A 2) ≤ nI a by rw [le_n (by omega) (by omega)]; omega), if_neg (show ¬ nI (A 2) ≤ nI a by rw [le_n (by omega) (by omega)]; omega), s1]
        exact pair_in hX' hO hM h5 hF hL (by omega) _ _ (fun b m mM τ hr hx => ih (a + 1) n' n2' τ b m mM (by omega) (by omega) (by omega) hr hx) (A 2 - (a + 1)) (a + 1) fuel fuel τ b m mM (by omega) (by omega) (by omega) hr hx
    obtain ⟨b, m, mM, μ', g1, g2, g3, g4⟩ := key (A 2) 0 fuel fuel μ (-1000000) 0 (-1000000) (by omega) (by omega) (by omega) (Or.inl ⟨rfl, rfl⟩) E11.rf
    unfold f_X3_bestPair
    rw [show (0 : Int32) = nI 0 from rfl] at g1 ⊢
    rw [g1, bs, g2]
    rcases (show k = 0 ∨ k = 1 by omega) with rfl | rfl
    · exact ⟨_, σ', μ', rfl, rfl, xw, g3⟩
    · show QX (if b = -1000000 then some (b, σ') else _) (some (if b = -1000000 then b else mM, μ')) σ μ
      rcases g4 with ⟨rfl, rfl⟩ | ⟨p, q, hp1, hq1, rfl, rfl, rfl⟩
      · exact ⟨_, σ', μ', rfl, rfl, xw, g3⟩
      · rw [if_neg (nI_ne_none (by omega)), if_neg (nI_ne_none (by omega)), show (4 : Int32) = nI 4 from rfl, pk_rem (by omega) (by omega) (by omega), pk_div (by omega) (by omega) (by omega), show (4 * p + q) / 4 = p by omega, show (4 * p + q) % 4 = q by omega, gain_eq hO hL hp1 hq1]
        exact ⟨_, σ', μ', rfl, rfl, xw, g3⟩
  · rw [below_f (by omega) h1, isTwo_f h1]; exact ⟨_, _, _, rfl, rfl, E63.rf, E11.rf⟩
end PO
