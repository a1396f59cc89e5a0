/-! the archive read: hands, then copies, then deeds -/
def kE (σ : Mem) : Option (Int32 × Mem) := if σ 46 3 = σ 46 2 then some (1, σ) else (f_X4_fail σ 1).bind fun v6 => if v6.1 = 0 then some (0, v6.2) else some (1, v6.2)
def kD (fuel : Nat) (σ : Mem) : Option (Int32 × Mem) := (f_X4_readDeeds fuel σ).bind fun v5 => if v5.1 = 0 then some (0, v5.2) else kE v5.2
def kC (fuel : Nat) (σ : Mem) : Option (Int32 × Mem) := (f_X4_readCopies fuel σ).bind fun v4 => if v4.1 = 0 then some (0, v4.2) else kD fuel v4.2
def kH (fuel : Nat) (σ : Mem) : Option (Int32 × Mem) := (f_X4_readHands fuel σ).bind fun v3 => if v3.1 = 0 then some (0, v3.2) else kC fuel v3.2
def LpR (σ μ : Mem) (rx rm : Option (Int32 × Mem)) : Prop :=
  (∃ σ' μ', rx = some (0, σ') ∧ rm = some (0, μ') ∧ Fl σ μ σ' μ') ∨
  (∃ σ' μ' A', rx = some (1, σ') ∧ rm = some (1, μ') ∧ FX σ σ' ∧ FM μ μ' ∧ μ' 0 6 = μ 0 6 ∧ PI σ' μ' A' ∧ 0 < A' 2)
theorem LpR.tr {a b σ μ : Mem} {rx rm : Option (Int32 × Mem)} (h : FX a σ) (h2 : FM b μ) (h6 : μ 0 6 = b 0 6) (h3 : LpR σ μ rx rm) : LpR a b rx rm := by
  rcases h3 with ⟨σ', μ', e1, e2, e3⟩ | ⟨σ', μ', A', e1, e2, e3, e4, e5, e6, e7⟩
  · exact Or.inl ⟨σ', μ', e1, e2, Fl.tr h h2 e3⟩
  · exact Or.inr ⟨σ', μ', A', e1, e2, h.tr e3, h2.tr e4, e5.trans h6, e6, e7⟩
theorem PI.et {σ μ μ' : Mem} {A : Ar} (h : PI σ μ A) (e : ET μ μ') : PI σ μ' A := by
  obtain ⟨h1, h2, h3, h4, h5, h6, h7, h8⟩ := h
  exact ⟨h1, h2, h3, h4, h5, h6, h7, by rw [e.1 10 (by omega)]; exact h8⟩
section LP
variable {b : Nat → Nat} {t : Nat} {fuel : Nat}
/-- the token at a place: what both sides see of it -/
theorem see (hF : 1000 ≤ fuel) {p : Nat} {σ μ : Mem} (hx : PX b t p σ) (hm : PM b t p μ) : ∃ μ1 kk, f_X7_next fuel μ = some μ1 ∧ ET μ μ1 ∧ μ1 0 16 = nI p ∧ (p = t → μ1 0 17 = 0) ∧ (p < t → ¬ μ1 0 17 = 0) ∧ (∀ x, 97 ≤ x → x ≤ 122 → f_X7_isLetter μ1 (nI x) = some (bI (decide (p < t ∧ b p = x)))) ∧ (p < t → 97 ≤ b p → b p ≤ 122 → PM b t (p + 1) μ1) ∧ (f_X4_kindOfSort (if p < t then nI (b p) else -1) = some (nI kk)) ∧ f_X7_readsOne fuel μ1 = f_X7_readsOne_19 fuel μ1 (nI kk) ∧ kk ≤ 5 ∧ (kk = 0 ∨ (p < t ∧ 97 < b p ∧ b p < 119)) := by
  obtain ⟨μ1, k, v, n, e1, e2, e3, e4, e5, e6, e7, e8, hT, hl, hl2⟩ := letM hF hm
  have hpt := hx.2.1
  by_cases c : p < t
  · have hb := hx.2.2.1 p c
    obtain ⟨kk, s1', s2', s3', s4'⟩ := sort_eq hb
    have ho : f_X7_readsOne fuel μ1 = f_X7_readsOne_19 fuel μ1 (nI kk) := by
      unfold f_X7_readsOne
      rw [e5, e6, show (1 : Int32) = nI 1 from rfl]
      simp only [eq_n (show k < 2147483648 by omega) (show 1 < 2147483648 by omega)]
      by_cases ck : k = 1
      · have : v = b p := by
          unfold Tok Dg at hT
          rcases hT with r | r | r | r | r | r <;> omega
        rw [if_pos ck, this, s2']; rfl
      · rw [if_neg ck]
        have : kk = 0 := by
          rcases s4' with q | q
          · exact q
          · exfalso
            have := (hl2 (b p) (by omega) (by omega) c rfl).2.1
            exact ck this
        rw [this]; rfl
    refine ⟨μ1, kk, e1, e2, e4, fun q => by omega, fun _ => ?_, hl, fun _ h1 h2 => ?_, by rw [if_pos c]; exact s1', ho, s3', s4'.imp id (fun q => ⟨c, q.1, q.2⟩)⟩
    · rw [e5, show (0 : Int32) = nI 0 from rfl, eq_n (by omega) (by omega)]
      unfold Tok Dg at hT
      rcases hT with r | r | r | r | r | r <;> omega
    · obtain ⟨rfl, -, -⟩ := hl2 (b p) h1 h2 c rfl
      exact e3
  · have hk : k = 0 := by
      unfold Tok Dg at hT
      rcases hT with r | r | r | r | r | r <;> omega
    refine ⟨μ1, 0, e1, e2, e4, fun _ => by rw [e5, hk]; rfl, fun q => absurd q c, hl, fun q => absurd q c, by rw [if_neg c]; rfl, ?_, by omega, Or.inl rfl⟩
    unfold f_X7_readsOne
    rw [e5, hk, if_neg (by decide)]; rfl
theorem lpD (hF : 1000 ≤ fuel) : ∀ (k p N M : Nat) (σ μ : Mem) (A : Ar), A 4 + k = 6 → k < N → k < M → PX b t p σ → PM b t p μ → PI σ μ A → 0 < A 2 → (0 < A 4 ∨ (¬ (p < t ∧ b p = 119) ∧ (f_X4_kindOfSort (if p < t then nI (b p) else -1) = some 0 ∨ 0 < A 3))) →
    LpR σ μ ((f_X4_readDeeds_2 fuel N σ (nI (A 4))).bind fun v5 => if v5.1 = 0 then some (0, v5.2) else kE v5.2) ((f_X7_next fuel μ).bind fun v6 => f_X7_reads_39 fuel M v6) := by
  intro k
  induction k with
  | zero =>
    intro p N M σ μ A hk hN hM hx hm hI
    have := hI.1.2.2.2.2.1
    omega
  | succ k ih =>
    intro p N M σ μ A hk hN hM hx hm hI h2 hc
    obtain ⟨N, rfl⟩ := suc_of hN
    obtain ⟨M, rfl⟩ := suc_of hM
    obtain ⟨μ1, kk, e1, e2, e3, e4, e5, e6, e7, e8, e9, e10, e11⟩ := see hF hx hm
    have hI1 := hI.et e2
    obtain ⟨hO, i5, i6, i1, iz, hX, i0, hMA⟩ := id hI1
    have hpt := hx.2.1
    have ht := hx.1
    have hA2 := hO.2.2.1
    have hA3 := hO.2.2.2.1
    have hA4 := hO.2.2.2.2.1
    rw [e1, bs, f_X4_readDeeds_2, f_X7_reads_39, show (5 : Int32) = nI 5 from rfl, if_neg (show ¬ nI 5 < nI (A 4) by rw [lt_n (by omega) (by omega)]; omega), nextX hx, bs, bs]
    by_cases ca : p < t ∧ (b p = 97 ∨ b p = 121)
    · have hbp := hx.2.2.1 p ca.1
      have k0 : kk = 0 := by omega
      have hD : f_X7_readsOne fuel μ1 = (f_X7_readsDeed fuel μ1).bind fun v13 => gd (isB v13.1) (some (v13.1, v13.2)) := by
        rw [e9, k0]
        unfold f_X7_readsOne_19
        rw [if_pos (by decide)]
        unfold f_X7_readsOne_48
        rw [show (119 : Int32) = nI 119 from rfl, e6 119 (by omega) (by omega), decide_eq_false (show ¬ (p < t ∧ b p = 119) by omega), bs, if_pos (show bI false = 0 from rfl)]
        unfold f_X7_readsOne_80
        have h98 : f_X7_readsOne_98 fuel μ1 = (f_X7_readsDeed fuel μ1).bind fun v13 => gd (isB v13.1) (some (v13.1, v13.2)) := by
          unfold f_X7_readsOne_98
          rw [hMA 2 (by omega), if_neg (show ¬ nI (A 2) ≤ 0 by rw [show (0 : Int32) = nI 0 from rfl, le_n (by omega) (by omega)]; omega)]
        rw [show (97 : Int32) = nI 97 from rfl, show (121 : Int32) = nI 121 from rfl, e6 97 (by omega) (by omega), e6 121 (by omega) (by omega), bs, bs, h98]
        by_cases c7 : b p = 97
        · rw [decide_eq_true ⟨ca.1, c7⟩, if_neg (show ¬ bI true = 0 by decide)]
        · rw [decide_eq_false (fun q => c7 q.2), if_pos (show bI false = 0 from rfl), decide_eq_true (show p < t ∧ b p = 121 by omega), if_neg (show ¬ bI true = 0 by decide)]
      have hX' : (if (if p < t then nI (b p) else -1) = 97 then (f_X4_readDeed fuel σ).bind fun v2 => if v2.1 = 0 then some (0, v2.2) else f_X4_readDeeds_2 fuel N v2.2 (nI (A 4) + 1) else if (if p < t then nI (b p) else -1) = 121 then (f_X4_readDeed fuel σ).bind fun v4 => if v4.1 = 0 then some (0, v4.2) else f_X4_readDeeds_2 fuel N v4.2 (nI (A 4) + 1) else some (1, σ)) = (f_X4_readDeed fuel σ).bind fun v2 => if v2.1 = 0 then some (0, v2.2) else f_X4_readDeeds_2 fuel N v2.2 (nI (A 4) + 1) := by
        rw [if_pos ca.1]
        rcases ca.2 with q | q
        · rw [q, if_pos (show nI 97 = 97 from rfl)]
        · rw [q, if_neg (show ¬ nI 121 = 97 by decide), if_pos (show nI 121 = 121 from rfl)]
      rw [if_neg (e5 ca.1), hD, hX']
      rcases st_deed hF hx hI1 ca.1 (e7 ca.1 (by omega) (by omega)) e3 (e6 97 (by omega) (by omega)) with ⟨σ', μ', g1, g2, g3⟩ | ⟨σ', μ', p', A', g1, g2, g3, g4, g5, g6, g7, g8, g9, g10⟩
      · rw [g1, g2]
        exact Or.inl ⟨σ', μ', rfl, rfl, Fl.tr (fun _ _ _ => rfl) e2.fm g3⟩
      · rw [g1, g2]
        show LpR σ μ ((if (1 : Int32) = 0 then some ((0 : Int32), σ') else f_X4_readDeeds_2 fuel N σ' (nI (A 4) + 1)).bind fun v5 => if v5.1 = 0 then some (0, v5.2) else kE v5.2) (if (1 : Int32) = 0 then some ((0 : Int32), μ') else (f_X7_next fuel μ').bind fun v6 => f_X7_reads_39 fuel M v6)
        rw [if_neg (by decide), if_neg (by decide), s1, ← g10]
        exact LpR.tr g3 (e2.fm.tr g4) (g5.trans (e2.2 6 (by omega))) (ih p' N M σ' μ' A' (by omega) (by omega) (by omega) g6 g7 g8 (by omega) (Or.inl (by omega)))
    · have nx : ¬ (if p < t then nI (b p) else -1) = 97 ∧ ¬ (if p < t then nI (b p) else -1) = 121 := by
        by_cases c1 : p < t
        · have hbp := hx.2.2.1 p c1
          rw [if_pos c1, show (97 : Int32) = nI 97 from rfl, show (121 : Int32) = nI 121 from rfl, eq_n (by omega) (by omega), eq_n (by omega) (by omega)]
          omega
        · rw [if_neg c1]; decide
      rw [if_neg nx.1, if_neg nx.2]
      show LpR σ μ (if (1 : Int32) = 0 then some ((0 : Int32), σ) else kE σ) _
      rw [if_neg (by decide)]
      unfold kE
      rw [hx.2.2.2.1, hx.2.2.2.2.1]
      by_cases cp : p = t
      · rw [if_pos (by rw [cp]), if_pos (e4 cp), hMA 2 (by omega), if_pos (show 0 < nI (A 2) by rw [show (0 : Int32) = nI 0 from rfl, lt_n (by omega) (by omega)]; omega)]
        exact Or.inr ⟨σ, μ1, A, rfl, rfl, fun _ _ _ => rfl, e2.fm, e2.2 6 (by omega), hI1, h2⟩
      · have hf : f_X7_readsOne fuel μ1 = some (0, mst μ1 0 6 1) := by
          have h80 : f_X7_readsOne_80 fuel μ1 = some (0, mst μ1 0 6 1) := by
            unfold f_X7_readsOne_80
            rw [show (97 : Int32) = nI 97 from rfl, show (121 : Int32) = nI 121 from rfl, e6 97 (by omega) (by omega), e6 121 (by omega) (by omega), bs, bs, decide_eq_false (fun q => ca ⟨q.1, Or.inl q.2⟩), decide_eq_false (fun q => ca ⟨q.1, Or.inr q.2⟩)]
            rfl
          have h48 : f_X7_readsOne_48 fuel μ1 = some (0, mst μ1 0 6 1) := by
            unfold f_X7_readsOne_48
            rw [show (119 : Int32) = nI 119 from rfl, e6 119 (by omega) (by omega), bs, h80]
            by_cases c9 : p < t ∧ b p = 119
            · have h4 : 0 < A 4 := by
                rcases hc with q | q
                · exact q
                · exact absurd c9 q.1
              rw [decide_eq_true c9, if_neg (show ¬ bI true = 0 by decide), hMA 2 (by omega), if_neg (show ¬ nI (A 2) ≤ 0 by rw [show (0 : Int32) = nI 0 from rfl, le_n (by omega) (by omega)]; omega), hMA 4 (by omega), if_neg (show ¬ nI (A 4) = 0 by rw [show (0 : Int32) = nI 0 from rfl, eq_n (by omega) (by omega)]; omega)]
            · rw [decide_eq_false c9, if_pos (show bI false = 0 from rfl)]
          rw [e9]
          unfold f_X7_readsOne_19
          rw [h48, hMA 3 (by omega), hMA 4 (by omega)]
          by_cases ck : kk = 0
          · rw [ck, if_pos (show nI 0 ≤ 0 by decide)]
          · rw [if_neg (show ¬ nI kk ≤ 0 by rw [show (0 : Int32) = nI 0 from rfl, le_n (by omega) (by omega)]; omega)]
            by_cases c3 : A 3 = 0
            · have h4 : 0 < A 4 := by
                rcases hc with q | q
                · exact q
                · rcases q.2 with r | r
                  · rw [e8] at r
                    exact absurd ((eq_n (b := 0) (by omega) (by omega)).mp (Option.some.inj r)) ck
                  · omega
              rw [c3, if_pos (show nI 0 = 0 from rfl), if_neg (show ¬ nI (A 4) = 0 by rw [show (0 : Int32) = nI 0 from rfl, eq_n (by omega) (by omega)]; omega)]
            · rw [if_neg (show ¬ nI (A 3) = 0 by rw [show (0 : Int32) = nI 0 from rfl, eq_n (by omega) (by omega)]; exact c3)]
        rw [if_neg (show ¬ nI p = nI t by rw [eq_n (by omega) (by omega)]; exact cp), if_neg (e5 (by omega)), hf]
        exact Or.inl ⟨_, _, rfl, rfl, fl_mk hx.2.2.2.2.1 e2 e3⟩
theorem lpC (hF : 1000 ≤ fuel) : ∀ (k p N M : Nat) (σ μ : Mem) (A : Ar), A 3 + k = 11 → k < N → k + 20 < M → PX b t p σ → PM b t p μ → PI σ μ A → 0 < A 2 → A 4 = 0 → (f_X4_kindOfSort (if p < t then nI (b p) else -1) = some 0 ∨ 0 < A 3) →
    LpR σ μ ((f_X4_readCopies_2 fuel N σ (nI (A 3))).bind fun v4 => if v4.1 = 0 then some (0, v4.2) else kD fuel v4.2) ((f_X7_next fuel μ).bind fun v6 => f_X7_reads_39 fuel M v6) := by
  intro k
  induction k with
  | zero =>
    intro p N M σ μ A hk hN hM hx hm hI
    have := hI.1.2.2.2.1
    omega
  | succ k ih =>
    intro p N M σ μ A hk hN hM hx hm hI h2 h4 hc
    obtain ⟨N, rfl⟩ := suc_of hN
    have hA3 := hI.1.2.2.2.1
    have hpt := hx.2.1
    have ht := hx.1
    rw [f_X4_readCopies_2, show (10 : Int32) = nI 10 from rfl, if_neg (show ¬ nI 10 < nI (A 3) by rw [lt_n (by omega) (by omega)]; omega), nextX hx, bs]
    by_cases ca : p < t ∧ b p = 119
    · obtain ⟨M, rfl⟩ := suc_of hM
      obtain ⟨μ1, kk, e1, e2, e3, e4, e5, e6, e7, e8, e9, e10, e11⟩ := see hF hx hm
      have hI1 := hI.et e2
      obtain ⟨hO, i5, i6, i1, iz, hX, i0, hMA⟩ := id hI1
      have hA2 := hO.2.2.1
      have k0 : kk = 0 := by omega
      have hD : f_X7_readsOne fuel μ1 = (f_X7_readsCopy fuel μ1).bind fun v5 => gd (isB v5.1) (some (v5.1, v5.2)) := by
        rw [e9, k0]
        unfold f_X7_readsOne_19
        rw [if_pos (by decide)]
        unfold f_X7_readsOne_48
        rw [show (119 : Int32) = nI 119 from rfl, e6 119 (by omega) (by omega), decide_eq_true ca, bs, if_neg (show ¬ bI true = 0 by decide), hMA 2 (by omega), if_neg (show ¬ nI (A 2) ≤ 0 by rw [show (0 : Int32) = nI 0 from rfl, le_n (by omega) (by omega)]; omega), hMA 4 (by omega), h4, if_pos (show nI 0 = 0 from rfl)]
      rw [e1, bs, f_X7_reads_39, if_neg (e5 ca.1), hD, if_pos ca.1, ca.2, if_pos (show nI 119 = 119 from rfl)]
      rcases st_copy hF hx hI1 ca.1 (e7 ca.1 (by omega) (by omega)) e3 h2 h4 with ⟨σ', μ', g1, g2, g3⟩ | ⟨σ', μ', p', A', g1, g2, g3, g4, g5, g6, g7, g8, g9, g10, g11⟩
      · rw [g1, g2]
        exact Or.inl ⟨σ', μ', rfl, rfl, Fl.tr (fun _ _ _ => rfl) e2.fm g3⟩
      · rw [g1, g2]
        show LpR σ μ ((if (1 : Int32) = 0 then some ((0 : Int32), σ') else f_X4_readCopies_2 fuel N σ' (nI (A 3) + 1)).bind fun v5 => if v5.1 = 0 then some (0, v5.2) else kD fuel v5.2) (if (1 : Int32) = 0 then some ((0 : Int32), μ') else (f_X7_next fuel μ').bind fun v6 => f_X7_reads_39 fuel M v6)
        rw [if_neg (by decide), if_neg (by decide), s1, ← g10]
        exact LpR.tr g3 (e2.fm.tr g4) (g5.trans (e2.2 6 (by omega))) (ih p' N M σ' μ' A' (by omega) (by omega) (by omega) g6 g7 g8 (by omega) g11 (Or.inr (by omega)))
    · have nx : ¬ (if p < t then nI (b p) else -1) = 119 := by
        by_cases c1 : p < t
        · have hbp := hx.2.2.1 p c1
          rw [if_pos c1, show (119 : Int32) = nI 119 from rfl, eq_n (by omega) (by omega)]
          exact fun q => ca ⟨c1, q⟩
        · rw [if_neg c1]; decide
      rw [if_neg nx]
      show LpR σ μ (if (1 : Int32) = 0 then some ((0 : Int32), σ) else kD fuel σ) _
      rw [if_neg (by decide)]
      have := lpD hF 6 p fuel M σ μ A (by omega) (by omega) (by omega) hx hm hI h2 (Or.inr ⟨ca, hc⟩)
      rw [h4] at this
      exact this
theorem lpH (hF : 1000 ≤ fuel) : ∀ (k p N M : Nat) (σ μ : Mem) (A : Ar), A 2 + k = 5 → k < N → k + 40 < M → PX b t p σ → PM b t p μ → PI σ μ A → A 3 = 0 → A 4 = 0 →
    LpR σ μ ((f_X4_readHands_2 fuel N σ (nI (A 2))).bind fun v3 => if v3.1 = 0 then some (0, v3.2) else kC fuel v3.2) ((f_X7_next fuel μ).bind fun v6 => f_X7_reads_39 fuel M v6) := by
  intro k
  induction k with
  | zero =>
    intro p N M σ μ A hk hN hM hx hm hI
    have := hI.1.2.2.1
    omega
  | succ k ih =>
    intro p N M σ μ A hk hN hM hx hm hI h3 h4
    obtain ⟨N, rfl⟩ := suc_of hN
    have hA2 := hI.1.2.2.1
    have hpt := hx.2.1
    have ht := hx.1
    obtain ⟨μ1, kk, e1, e2, e3, e4, e5, e6, e7, e8, e9, e10, e11⟩ := see hF hx hm
    have hI1 := hI.et e2
    obtain ⟨hO, i5, i6, i1, iz, hX, i0, hMA⟩ := id hI1
    rw [f_X4_readHands_2, show (4 : Int32) = nI 4 from rfl, if_neg (show ¬ nI 4 < nI (A 2) by rw [lt_n (by omega) (by omega)]; omega), nextX hx, bs, e8, bs]
    by_cases ck : kk = 0
    · rw [ck, if_pos (show nI 0 = 0 from rfl)]
      unfold f_X4_readHands_32
      rw [hX.2.2.2.2.2.1]
      by_cases c2 : A 2 = 0
      · rw [c2, if_neg (show ¬ 0 < nI 0 by decide)]
        obtain ⟨M, rfl⟩ := suc_of hM
        have hf : ¬ μ1 0 17 = 0 → f_X7_readsOne fuel μ1 = some (0, mst μ1 0 6 1) := fun _ => by
          have h98 : f_X7_readsOne_98 fuel μ1 = some (0, mst μ1 0 6 1) := by
            unfold f_X7_readsOne_98
            rw [hMA 2 (by omega), c2, if_pos (show nI 0 ≤ 0 by decide)]; rfl
          have h80 : f_X7_readsOne_80 fuel μ1 = some (0, mst μ1 0 6 1) := by
            unfold f_X7_readsOne_80
            rw [show (97 : Int32) = nI 97 from rfl, show (121 : Int32) = nI 121 from rfl, e6 97 (by omega) (by omega), e6 121 (by omega) (by omega), bs, bs, h98]
            split
            · split
              · rfl
              · rfl
            · rfl
          have h48 : f_X7_readsOne_48 fuel μ1 = some (0, mst μ1 0 6 1) := by
            unfold f_X7_readsOne_48
            rw [show (119 : Int32) = nI 119 from rfl, e6 119 (by omega) (by omega), bs, h80, hMA 2 (by omega), c2, if_pos (show nI 0 ≤ 0 by decide), ite_self]
          rw [e9, ck]
          unfold f_X7_readsOne_19
          rw [if_pos (show nI 0 ≤ 0 by decide), h48]
        rw [e1, bs, f_X7_reads_39, hMA 2 (by omega), c2]
        refine Or.inl ⟨mst σ 46 4 1, mst μ1 0 6 1, rfl, ?_, fl_mk hx.2.2.2.2.1 e2 e3⟩
        by_cases cp : μ1 0 17 = 0
        · rw [if_pos cp, if_neg (show ¬ 0 < nI 0 by decide)]; rfl
        · rw [if_neg cp, hf cp]; rfl
      · rw [if_pos (show 0 < nI (A 2) by rw [show (0 : Int32) = nI 0 from rfl, lt_n (by omega) (by omega)]; omega)]
        show LpR σ μ (if (1 : Int32) = 0 then some ((0 : Int32), σ) else kC fuel σ) _
        rw [if_neg (by decide)]
        have := lpC hF 11 p fuel M σ μ A (by omega) (by omega) (by omega) hx hm hI (by omega) h4 (Or.inl (by rw [e8, ck]; rfl))
        rw [h3] at this
        exact this
    · obtain ⟨M, rfl⟩ := suc_of hM
      have hp : p < t ∧ 97 < b p ∧ b p < 119 := e11.resolve_left ck
      have hD : f_X7_readsOne fuel μ1 = (f_X7_readsHand fuel μ1 (nI kk)).bind fun v5 => gd (isB v5.1) (some (v5.1, v5.2)) := by
        rw [e9]
        unfold f_X7_readsOne_19
        rw [if_neg (show ¬ nI kk ≤ 0 by rw [show (0 : Int32) = nI 0 from rfl, le_n (by omega) (by omega)]; omega), hMA 3 (by omega), hMA 4 (by omega), h3, h4, if_pos (show nI 0 = 0 from rfl), if_pos (show nI 0 = 0 from rfl)]
      rw [if_pos hp.1] at e8
      rw [if_neg (show ¬ nI kk = 0 by rw [show (0 : Int32) = nI 0 from rfl, eq_n (by omega) (by omega)]; exact ck), e1, bs, f_X7_reads_39, if_neg (e5 hp.1), hD]
      rcases st_hand hF hx hI1 hp.1 (e7 hp.1 (by omega) (by omega)) e3 h3 h4 (show 1 ≤ kk by omega) e10 e8 with ⟨σ', μ', g1, g2, g3⟩ | ⟨σ', μ', p', A', g1, g2, g3, g4, g5, g6, g7, g8, g9, g10, g11⟩
      · rw [g1, g2]
        exact Or.inl ⟨σ', μ', rfl, rfl, Fl.tr (fun _ _ _ => rfl) e2.fm g3⟩
      · rw [g1, g2]
        show LpR σ μ ((if (1 : Int32) = 0 then some ((0 : Int32), σ') else f_X4_readHands_2 fuel N σ' (nI (A 2) + 1)).bind fun v5 => if v5.1 = 0 then some (0, v5.2) else kC fuel v5.2) (if (1 : Int32) = 0 then some ((0 : Int32), μ') else (f_X7_next fuel μ').bind fun v6 => f_X7_reads_39 fuel M v6)
        rw [if_neg (by decide), if_neg (by decide), s1, ← g9]
        exact LpR.tr g3 (e2.fm.tr g4) (g5.trans (e2.2 6 (by omega))) (ih p' N M σ' μ' A' (by omega) (by omega) (by omega) g6 g7 g8 g10 g11)
end LP
