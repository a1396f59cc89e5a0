/-! archive -/
section AR2
variable {σ μ : Mem} {fuel : Nat}
theorem zero10 (hF : 1000 ≤ fuel) : ∃ μ', f_X7_reads_2 fuel fuel μ 0 = ((f_X7_readsLaw fuel (mst μ' 0 15 0)).bind fun v1 => if v1.1 = 0 then some (0, v1.2) else (f_X7_next fuel v1.2).bind fun v2 => f_X7_reads_39 fuel fuel v2) ∧ (∀ q, q ≠ 10 → μ' q = μ q) ∧ ∀ i, i < 85 → μ' 10 i = 0 := by
  have key : ∀ k i n τ, i + k = 85 → k < n → (∀ q, q ≠ 10 → τ q = μ q) → (∀ j, j < i → τ 10 j = 0) → ∃ μ', f_X7_reads_2 fuel n τ (nI i) = ((f_X7_readsLaw fuel (mst μ' 0 15 0)).bind fun v1 => if v1.1 = 0 then some (0, v1.2) else (f_X7_next fuel v1.2).bind fun v2 => f_X7_reads_39 fuel fuel v2) ∧ (∀ q, q ≠ 10 → μ' q = μ q) ∧ ∀ i, i < 85 → μ' 10 i = 0 := by
    intro k
    induction k with
    | zero =>
      intro i n τ hi hn h1 h2
      obtain ⟨m, rfl⟩ := suc_of hn
      rw [f_X7_reads_2, show (85 : Int32) = nI 85 from rfl, if_pos (show nI 85 ≤ nI i by rw [le_n (by omega) (by omega)]; omega)]
      exact ⟨τ, rfl, h1, fun j hj => h2 j (by omega)⟩
    | succ k ih =>
      intro i n τ hi hn h1 h2
      obtain ⟨m, rfl⟩ := suc_of hn
      rw [f_X7_reads_2, show (85 : Int32) = nI 85 from rfl, if_neg (show ¬ nI 85 ≤ nI i by rw [le_n (by omega) (by omega)]; omega), gB (by omega) (by omega), cl_n (by omega), s1]
      refine ih (i + 1) m _ (by omega) (by omega) (fun q hq => by rw [mst_ne hq]; exact h1 q hq) (fun j hj => ?_)
      rw [mst_at]
      unfold upd
      by_cases e : j = i
      · rw [if_pos e]
      · rw [if_neg e]; exact h2 j (by omega)
  exact key 85 0 fuel μ (by omega) (by omega) (fun q _ => rfl) (fun j hj => by omega)
theorem s_archive (h : Sim σ μ) (hF : 1000 ≤ fuel) : SQ (f_X6_archive fuel σ) (f_X7_archive fuel μ) := by
  obtain ⟨hR, h2, h3, ⟨t, tt1, tt2, tt3, tt4⟩, h5, h6, h7⟩ := id h
  have hb : ∃ b : Nat → Nat, ∀ i, i < t → b i < 256 ∧ σ 47 i = nI (b i) ∧ μ 4 i = nI (b i) := by
    refine ⟨fun i => if hi : i < t then Classical.choose (tt4 i hi) else 0, fun i hi => ?_⟩
    show (if hi : i < t then Classical.choose (tt4 i hi) else 0) < 256 ∧ σ 47 i = nI (if hi : i < t then Classical.choose (tt4 i hi) else 0) ∧ μ 4 i = nI (if hi : i < t then Classical.choose (tt4 i hi) else 0)
    rw [dif_pos hi]
    exact Classical.choose_spec (tt4 i hi)
  obtain ⟨b, hb⟩ := hb
  -- the two readings
  have hrd : LpR σ (mst (mst μ 0 19 (μ 0 5)) 0 5 0) (f_X4_readTape fuel σ) (f_X7_reads fuel (mst (mst μ 0 19 (μ 0 5)) 0 5 0)) := by
    obtain ⟨μ1, z1', z2, z3⟩ := zero10 (μ := mst (mst μ 0 19 (μ 0 5)) 0 5 0) hF
    unfold f_X7_reads
    rw [z1']
    have eX : f_X4_readTape fuel σ = (f_X4_readLaw fuel (mst (mst (mst (mst (mst (mst (mst (mst (mst σ 46 3 0) 46 4 0) 48 0 1) 48 3 0) 48 4 0) 48 5 0) 48 6 0) 48 7 0) 48 8 0)).bind fun v2 => if v2.1 = 0 then some (0, v2.2) else kH fuel v2.2 := rfl
    rw [eX]
    generalize hσ1 : mst (mst (mst (mst (mst (mst (mst (mst (mst σ 46 3 0) 46 4 0) 48 0 1) 48 3 0) 48 4 0) 48 5 0) 48 6 0) 48 7 0) 48 8 0 = σ1
    have q48 : ∀ k, σ1 48 k = if k = 8 then 0 else if k = 7 then 0 else if k = 6 then 0 else if k = 5 then 0 else if k = 4 then 0 else if k = 3 then 0 else if k = 0 then 1 else σ 48 k := fun k => by
      rw [← hσ1, mst_at, mst_at, mst_at, mst_at, mst_at, mst_at, mst_at, mst_ne (show 48 ≠ 46 by omega), mst_ne (show 48 ≠ 46 by omega)]; rfl
    have q46 : σ1 46 = upd (upd (σ 46) 3 0) 4 0 := by
      rw [← hσ1, mst_ne (by omega), mst_ne (by omega), mst_ne (by omega), mst_ne (by omega), mst_ne (by omega), mst_ne (by omega), mst_ne (by omega), mst_at, mst_at]
    have qq : ∀ q, q ≠ 46 → q ≠ 48 → σ1 q = σ q := fun q q1 q2 => by
      rw [← hσ1, mst_ne q2, mst_ne q2, mst_ne q2, mst_ne q2, mst_ne q2, mst_ne q2, mst_ne q2, mst_ne q1, mst_ne q1]
    have hx : PX b t 0 σ1 := ⟨tt1, Nat.zero_le _, fun i hi => (hb i hi).1, by rw [q46]; exact tt2, by rw [q46]; rfl, fun i hi => by rw [qq 47 (by omega) (by omega)]; exact (hb i hi).2.1⟩
    have hm : PM b t 0 (mst μ1 0 15 0) := ⟨tt1, Nat.zero_le _, fun i hi => (hb i hi).1, by rw [mst_at, z2 0 (by omega), mst_at, mst_at]; exact tt3, by rw [mst_at]; rfl, fun i hi => by rw [mst_ne (by omega), z2 4 (by omega), mst_ne (by omega), mst_ne (by omega)]; exact (hb i hi).2.2⟩
    have fx0 : FX σ σ1 := fun q q1 q2 => qq q q1 (by omega)
    have fm0 : FM (mst (mst μ 0 19 (μ 0 5)) 0 5 0) (mst μ1 0 15 0) := ⟨fun q q1 q2 => by rw [mst_ne q1, z2 q q2], fun k k1 k2 => by rw [mst_at, z2 0 (by omega)]; exact if_neg (by omega)⟩
    rcases st_law hF hx hm (by rw [q48]; rfl) (by rw [q48]; rfl) (by rw [q48]; rfl) (by rw [q48]; rfl) (by rw [q48]; rfl) (by rw [q48]; rfl) (by rw [q48]; rfl) (fun i hi => by rw [mst_ne (by omega), z3 i hi]; rfl) with ⟨σ', μ', g1, g2, g3⟩ | ⟨σ', μ', p', A', g1, g2, g3, g4, g5, g6, g7, g8, g9, g10, g11⟩
    · rw [g1, g2]
      exact Or.inl ⟨σ', μ', rfl, rfl, Fl.tr fx0 fm0 g3⟩
    · rw [g1, g2]
      show LpR σ _ (if (1 : Int32) = 0 then some ((0 : Int32), σ') else kH fuel σ') (if (1 : Int32) = 0 then some ((0 : Int32), μ') else (f_X7_next fuel μ').bind fun v2 => f_X7_reads_39 fuel fuel v2)
      rw [if_neg (by decide), if_neg (by decide)]
      have := lpH hF 5 p' fuel fuel σ' μ' A' (by omega) (by omega) (by omega) g6 g7 g8 g10 g11
      rw [g9] at this
      refine LpR.tr (fx0.tr g3) (fm0.tr g4) (g5.trans ?_) this
      rw [mst_at, z2 0 (by omega)]; rfl
  unfold f_X6_archive f_X7_archive
  rcases hrd with ⟨σ', μ', g1, g2, g3, g4, pp, ff, g5, g6, g7, g8⟩ | ⟨σ', μ', A, g1, g2, g3, g4, g5, ⟨hO, i5, i6, i1, iz, hX, i0, hM⟩, g7⟩
  · rw [g1, g2]
    show SQ (some ((-1000100) - (σ' 46 3), mst (mst σ' 46 2 0) 0 8 (σ' 46 4))) (some ((-1000100) - (μ' 0 16), μ'))
    rw [g5, g6, g7]
    have r : ∀ q, q ≠ 0 → q ≠ 46 → (q < 48 ∨ 58 < q) → mst (mst σ' 46 2 0) 0 8 ff q = σ q := fun q q1 q2 q3 => by rw [mst_ne q1, mst_ne q2, g3 q q2 q3]
    have m : ∀ q, q ≠ 0 → q ≠ 10 → μ' q = μ q := fun q q1 q2 => by rw [g4.1 q q1 q2, mst_ne q1, mst_ne q1]
    have m0 : ∀ k, k ≠ 6 → k ≠ 5 → k < 15 → μ' 0 k = μ 0 k := fun k k1 k2 k3 => by rw [g4.2 k k1 (by omega), mst_at, mst_at]; exact (if_neg k2).trans (if_neg (by omega))
    refine ⟨_, _, _, rfl, rfl, SR_congr hR (fun q hq => r q (by omega) (by omega) (by omega)) (m 1 (by omega) (by omega)) (m 2 (by omega) (by omega)) (m 3 (by omega) (by omega)), ?_, ?_, ⟨0, by omega, ?_, ?_, fun i hi => by omega⟩, SA_congr h5 (fun q hq => r q (by omega) (by omega) (by omega)) (m 5 (by omega) (by omega)) (m 6 (by omega) (by omega)) (m0 7 (by omega) (by omega) (by omega)) (m0 9 (by omega) (by omega) (by omega)), SI_congr h6 (fun q hq => r q (by omega) (by omega) (by omega)) (m 7 (by omega) (by omega)) (m 8 (by omega) (by omega)), ?_⟩
    · rw [m0 3 (by omega) (by omega) (by omega), mst_at, mst_ne (by omega), g3 0 (by omega) (by omega)]; exact h2
    · rw [mst_at, g8]; rfl
    · rw [mst_ne (by omega), mst_at]; rfl
    · rw [g4.2 5 (by omega) (by omega), mst_at]; rfl
    · rw [r 66 (by omega) (by omega) (by omega), r 67 (by omega) (by omega) (by omega), m0 13 (by omega) (by omega) (by omega), m 9 (by omega) (by omega)]; exact h7
  · rw [g1, g2]
    show SQ (if (1 : Int32) = 0 then some ((-1000100) - (σ' 46 3), mst (mst σ' 46 2 0) 0 8 (σ' 46 4)) else (f_X1_become_13_48 (mst σ' 46 2 0)).bind fun v2 => (f_X0_forget v2).bind fun v3 => some (v3 13 6, v3)) (if (1 : Int32) = 0 then some ((-1000100) - (μ' 0 16), μ') else (f_X7_copies_10_5 fuel (mst (mst μ' 0 7 1) 0 9 0) 0 0).bind fun v2 => some (v2 5 2, v2))
    rw [if_neg (by decide), if_neg (by decide)]
    obtain ⟨σ1, j1, j2, j3, j4⟩ := bec_13_48 (σ := mst σ' 46 2 0) (isB_01 (Or.inr (by rw [mst_ne (by omega)]; exact i0)))
    obtain ⟨μ1, e1, f1, v1, w1⟩ := X7_copies_10_5_eq (σ := mst (mst μ' 0 7 1) 0 9 0) (fuel := fuel) (i := 0) (j := 0) (by omega) (by omega) (by omega)
    have hXd : XD (mst σ' 46 2 0) A := by
      unfold XD at *
      rw [mst_ne (show 48 ≠ 46 by omega), mst_ne (show 49 ≠ 46 by omega), mst_ne (show 50 ≠ 46 by omega), mst_ne (show 51 ≠ 46 by omega), mst_ne (show 52 ≠ 46 by omega), mst_ne (show 53 ≠ 46 by omega), mst_ne (show 54 ≠ 46 by omega), mst_ne (show 55 ≠ 46 by omega), mst_ne (show 56 ≠ 46 by omega), mst_ne (show 57 ≠ 46 by omega), mst_ne (show 58 ≠ 46 by omega)]
      exact hX
    have hXn := j4 A hO hXd
    have hMn : MA (μ1 5) A := fun i hi => by
      have := v1 i hi
      rw [Nat.zero_add, mst_ne (show 10 ≠ 0 by omega), mst_ne (show 10 ≠ 0 by omega)] at this
      rw [this]; exact hM i hi
    rw [j1, bs, show f_X7_copies_10_5 fuel (mst (mst μ' 0 7 1) 0 9 0) 0 0 = some μ1 from e1, bs, hMn 2 (by omega)]
    show SQ (some (mst σ1 59 2 0 13 6, mst σ1 59 2 0)) _
    rw [show mst σ1 59 2 0 13 6 = nI (A 2) by rw [mst_ne (by omega)]; exact hXn.2.2.2.2.2.1]
    have r2 : ∀ q, q ≠ 59 → mst σ1 59 2 0 q = σ1 q := fun q hq => mst_ne hq
    have r : ∀ q, q ≠ 59 → q ≠ 46 → (q < 13 ∨ (24 ≤ q ∧ q < 48) ∨ 58 < q) → mst σ1 59 2 0 q = σ q := fun q q1 q2 q3 => by rw [mst_ne q1, j2 q (by omega), mst_ne q2, g3 q q2 (by omega)]
    have m : ∀ q, q ≠ 0 → q ≠ 10 → q ≠ 5 → μ1 q = μ q := fun q q1 q2 q3 => by rw [f1 q q3, mst_ne q1, mst_ne q1, g4.1 q q1 q2, mst_ne q1, mst_ne q1]
    have m0 : ∀ k, k ≠ 5 → k ≠ 7 → k ≠ 9 → k < 15 → μ1 0 k = μ 0 k := fun k k1 k2 k3 k4 => by
      rw [f1 0 (by omega), mst_at, mst_at]
      refine (if_neg k3).trans ((if_neg k2).trans ?_)
      by_cases e6 : k = 6
      · subst e6
        rw [g5, mst_at, mst_at]; rfl
      · rw [g4.2 k e6 (by omega), mst_at, mst_at]; exact (if_neg k1).trans (if_neg (by omega))
    refine ⟨nI (A 2), _, _, rfl, rfl, SR_congr hR (fun q hq => r q (by omega) (by omega) (by omega)) (m 1 (by omega) (by omega) (by omega)) (m 2 (by omega) (by omega) (by omega)) (m 3 (by omega) (by omega) (by omega)), ?_, ?_, ⟨0, by omega, ?_, ?_, fun i hi => by omega⟩, ⟨A, 0, fun _ => A, hO, by omega, ⟨fun c hc k3 k4 => by have := (iz c (by have := hO.2.2.2.1; omega)).1; omega, fun _ => i1⟩, ?_, hMn, Or.inr ?_, ?_, ?_, ?_, ⟨by omega, fun j hj => by omega⟩, rfl⟩, SI_congr h6 (fun q hq => r q (by omega) (by omega) (by omega)) (m 7 (by omega) (by omega) (by omega)) (m 8 (by omega) (by omega) (by omega)), ?_⟩
    · rw [r 0 (by omega) (by omega) (by omega), m0 3 (by omega) (by omega) (by omega) (by omega)]; exact h2
    · rw [r 0 (by omega) (by omega) (by omega), m0 6 (by omega) (by omega) (by omega) (by omega)]; exact h3
    · rw [r2 46 (by omega), j2 46 (by omega), mst_at]; rfl
    · rw [f1 0 (by omega), mst_at, mst_at]
      show μ' 0 5 = nI 0
      rw [g4.2 5 (by omega) (by omega), mst_at]; rfl
    · unfold XN
      rw [r2 13 (by omega), r2 14 (by omega), r2 15 (by omega), r2 16 (by omega), r2 17 (by omega), r2 18 (by omega), r2 19 (by omega), r2 20 (by omega), r2 21 (by omega), r2 22 (by omega), r2 23 (by omega)]
      exact hXn
    · rw [r2 13 (by omega), j3, mst_ne (by omega)]; exact i0
    · rw [r2 13 (by omega), j3, mst_ne (by omega), f1 0 (by omega), mst_at, mst_at, i0]; rfl
    · rw [mst_at]; rfl
    · rw [f1 0 (by omega), mst_at]; rfl
    · rw [r 66 (by omega) (by omega) (by omega), r 67 (by omega) (by omega) (by omega), m0 13 (by omega) (by omega) (by omega) (by omega), m 9 (by omega) (by omega) (by omega)]; exact h7
end AR2
