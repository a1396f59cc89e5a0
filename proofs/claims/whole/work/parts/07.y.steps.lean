/-! law, hand, copy, deed, on both sides -/
def PI (σ μ : Mem) (A : Ar) : Prop := AOK A ∧ A 5 = 0 ∧ A 6 = 0 ∧ 1 ≤ A 1 ∧ (∀ c, c < 10 → A (45 + c) = 0 ∧ A (55 + c) = 0) ∧ XD σ A ∧ σ 48 0 = 1 ∧ MA (μ 10) A
theorem wb0 {A : Ar} (hO : A 3 ≤ 10) (h : ∀ c, c < 10 → A (45 + c) = 0 ∧ A (55 + c) = 0) : wb A = 0 := by
  symm
  apply bset_eq
  intro i
  rw [Nat.zero_testBit]
  by_cases hi : i < A 3
  · rw [(h i (by omega)).2]; simp
  · simp [hi]
def StR (b : Nat → Nat) (t : Nat) (σ μ : Mem) (R : Ar → Prop) (rx rm : Option (Int32 × Mem)) : Prop :=
  (∃ σ' μ', rx = some (0, σ') ∧ rm = some (0, μ') ∧ Fl σ μ σ' μ') ∨
  (∃ σ' μ' p' A', rx = some (1, σ') ∧ rm = some (1, μ') ∧ FX σ σ' ∧ FM μ μ' ∧ μ' 0 6 = μ 0 6 ∧ PX b t p' σ' ∧ PM b t p' μ' ∧ PI σ' μ' A' ∧ R A')
theorem eql {a b c : Nat} (h : a = b) (h2 : b ≤ c) : a ≤ c := h ▸ h2
section STP
variable {b : Nat → Nat} {t p : Nat} {σ μ : Mem} {fuel : Nat} {A : Ar}
theorem ns2 (hF : 1000 ≤ fuel) (hx : PX b t p σ) (hm : PM b t p μ) {lo hi s x k : Nat} (hhi : hi < 1000) (hlo : lo < 1000) (hs : s < 85) (hk : (x = 44 ∧ k = 3) ∨ (x = 59 ∧ k = 4)) :
    (∃ σ' μ', f_X4_readNumberAndSign fuel σ (nI lo) (nI hi) (nI x) = some (-1, σ') ∧ Fl σ μ σ' μ' ∧ ∀ K : Mem → Option (Int32 × Mem), ((f_X7_number fuel μ (nI s) (nI lo) (nI hi)).bind fun v3 => if v3.1 = 0 then some (0, v3.2) else (f_X7_sign fuel v3.2 (nI k)).bind fun v4 => if v4.1 = 0 then some (0, v4.2) else K v4.2) = some (0, μ')) ∨
    (∃ v p' σ' μ', lo ≤ v ∧ v ≤ hi ∧ f_X4_readNumberAndSign fuel σ (nI lo) (nI hi) (nI x) = some (nI v, σ') ∧ (∀ q, q ≠ 46 → σ' q = σ q) ∧ PX b t p' σ' ∧ PM b t p' μ' ∧ μ' 10 = upd (μ 10) s (nI v) ∧ FM μ μ' ∧ μ' 0 6 = μ 0 6 ∧ ∀ K : Mem → Option (Int32 × Mem), ((f_X7_number fuel μ (nI s) (nI lo) (nI hi)).bind fun v3 => if v3.1 = 0 then some (0, v3.2) else (f_X7_sign fuel v3.2 (nI k)).bind fun v4 => if v4.1 = 0 then some (0, v4.2) else K v4.2) = K μ') := by
  rcases ns hF hx hm hhi hlo hs hk with h | ⟨v, p', μ', v1, v2, e1, e2, e3, e4, e5⟩
  · exact Or.inl h
  · refine Or.inr ⟨v, p', _, μ', v1, v2, e1, fun q hq => by rw [mst_ne hq, mst_ne hq], PX.mv (PX.mv hx (by omega)) e2, e3, ?_, ⟨fun q q1 q2 => ?_, fun k k1 k2 => ?_⟩, ?_, e5⟩
    · rw [e4.1 10 (by omega), mst_at]
    · rw [e4.1 q q1, mst_ne q2]
    · rw [e4.2 k k2, mst_ne (by omega)]
    · rw [e4.2 6 (by omega), mst_ne (by omega)]
theorem fx_of {σ' : Mem} (h : ∀ q, q ≠ 46 → σ' q = σ q) : FX σ σ' := fun q q1 _ => h q q1
theorem letM (hF : 1000 ≤ fuel) (h : PM b t p μ) : ∃ μ' k v n, f_X7_next fuel μ = some μ' ∧ ET μ μ' ∧ PM b t (p + n) μ' ∧ μ' 0 16 = nI p ∧ μ' 0 17 = nI k ∧ μ' 0 18 = nI v ∧ k < 6 ∧ v < 1000 ∧ Tok b t p k v n ∧ (∀ x, 97 ≤ x → x ≤ 122 → f_X7_isLetter μ' (nI x) = some (bI (decide (p < t ∧ b p = x)))) ∧ ∀ x, 97 ≤ x → x ≤ 122 → p < t → b p = x → n = 1 ∧ k = 1 ∧ v = x := by
  obtain ⟨μ', k, v, n, e1, e2, e3, e4, e5, e6, e7, e8, hT⟩ := nextM hF h
  refine ⟨μ', k, v, n, e1, e2, e3, e4, e5, e8, e6, e7, hT, fun x hx1 hx2 => ?_, fun x hx1 hx2 h1 h2 => ?_⟩
  · unfold f_X7_isLetter
    rw [e5, e8, show (1 : Int32) = nI 1 from rfl]
    simp only [eq_n (show k < 2147483648 by omega) (show 1 < 2147483648 by omega), eq_n (show v < 2147483648 by omega) (show x < 2147483648 by omega)]
    by_cases c : p < t ∧ b p = x
    · have : k = 1 ∧ v = x := by
        obtain ⟨c1, rfl⟩ := c
        unfold Tok Dg at hT
        rcases hT with r | r | r | r | r | r <;> omega
      rw [if_pos this.1, if_pos this.2, decide_eq_true c]; rfl
    · rw [decide_eq_false c]
      by_cases c1 : k = 1
      · rw [if_pos c1, if_neg]
        · rfl
        · rintro rfl
          apply c
          unfold Tok Dg at hT
          rcases hT with r | r | r | r | r | r <;> omega
      · rw [if_neg c1]; rfl
  · subst h2
    unfold Tok Dg at hT
    rcases hT with r | r | r | r | r | r <;> omega
def kL2 (fuel : Nat) (m : Mem) : Option (Int32 × Mem) := (f_X7_number fuel m (nI 1) (nI 1) (nI 99)).bind fun v5 => if v5.1 = 0 then some (0, v5.2) else (f_X7_sign fuel v5.2 (nI 4)).bind fun v6 => if v6.1 = 0 then some (0, v6.2) else some (1, v6.2)
theorem st_law (hF : 1000 ≤ fuel) (hx : PX b t p σ) (hm : PM b t p μ) (h0 : σ 48 0 = 1) (h3 : σ 48 3 = 0) (h4 : σ 48 4 = 0) (h5 : σ 48 5 = 0) (h6 : σ 48 6 = 0) (h7 : σ 48 7 = 0) (h8 : σ 48 8 = 0) (hM : MA (μ 10) (fun _ => 0)) : StR b t σ μ (fun A => A 2 = 0 ∧ A 3 = 0 ∧ A 4 = 0) (f_X4_readLaw fuel σ) (f_X7_readsLaw fuel μ) := by
  obtain ⟨μ1, k, v, n, e1, e2, e3, e4, -, -, -, -, -, hl, hl2⟩ := letM hF hm
  unfold f_X4_readLaw f_X7_readsLaw f_X4_readSign
  rw [e1, bs, show (105 : Int32) = nI 105 from rfl, hl 105 (by omega) (by omega), nextX hx, bs, bs]
  have hb : p < t → b p < 256 := hx.2.2.1 p
  by_cases c : p < t ∧ b p = 105
  case neg =>
    rw [decide_eq_false c, if_pos (show bI false = 0 from rfl), if_neg (show ¬ (if p < t then nI (b p) else -1) = nI 105 by
      by_cases c1 : p < t
      · have := hb c1
        rw [if_pos c1, eq_n (by omega) (by omega)]; exact fun q => c ⟨c1, q⟩
      · rw [if_neg c1]; decide)]
    exact Or.inl ⟨_, _, rfl, rfl, fl_mk hx.2.2.2.2.1 e2 e4⟩
  obtain ⟨rfl, -, -⟩ := hl2 105 (by omega) (by omega) c.1 c.2
  rw [decide_eq_true c, if_neg (show ¬ bI true = 0 by decide), if_pos c.1, c.2, if_pos rfl, hx.2.2.2.2.1, s1, bs]
  have hx1 : PX b t (p + 1) (mst σ 46 3 (nI (p + 1))) := hx.mv (by omega)
  have fx1 : FX σ (mst σ 46 3 (nI (p + 1))) := FX.st
  show StR b t σ μ _ (if (1 : Int32) = 0 then some ((0 : Int32), mst σ 46 3 (nI (p + 1))) else (f_X4_readNumberAndSign fuel (mst σ 46 3 (nI (p + 1))) (nI 1) (nI 99) (nI 44)).bind fun v2 =>
    if 0 ≤ v2.1 then
      (f_X4_readNumberAndSign fuel (mst v2.2 48 1 v2.1) (nI 1) (nI 99) (nI 59)).bind fun v3 =>
      if v3.1 < 0 then
        some (0, mst v3.2 48 2 v3.1)
      else
        some (1, mst v3.2 48 2 v3.1)
    else
      some (0, mst v2.2 48 1 v2.1)) _
  rw [if_neg (show ¬ (1 : Int32) = 0 by decide)]
  rcases ns2 hF hx1 e3 (lo := 1) (hi := 99) (s := 0) (x := 44) (k := 3) (by omega) (by omega) (by omega) (by omega) with ⟨σ2, μ2, g1, g2, g3⟩ | ⟨y, p2, σ2, μ2, y1, y2, g1, g2, g3, g4, g5, g6, g7, g8⟩
  · rw [g1]
    obtain ⟨w1, w2, pp, ff, w3, w4, w5, w6⟩ := Fl.tr fx1 e2.fm g2
    refine Or.inl ⟨_, _, rfl, g3 (kL2 fuel), ?_, w2, pp, ff, ?_, w4, ?_, w6⟩
    · exact fun q q1 q2 => by rw [mst_ne (by omega)]; exact w1 q q1 q2
    · rw [mst_ne (by omega)]; exact w3
    · rw [mst_ne (by omega)]; exact w5
  rw [g1, bs]
  show StR b t σ μ _ (if 0 ≤ nI y then (f_X4_readNumberAndSign fuel (mst σ2 48 1 (nI y)) (nI 1) (nI 99) (nI 59)).bind fun v3 =>
      if v3.1 < 0 then
        some (0, mst v3.2 48 2 v3.1)
      else
        some (1, mst v3.2 48 2 v3.1)
    else
      some (0, mst σ2 48 1 (nI y))) _
  rw [if_pos (nI_nn (by omega))]
  have hx2 : PX b t p2 (mst σ2 48 1 (nI y)) := by
    obtain ⟨q1, q2, q3, q4, q5, q6⟩ := g3
    exact ⟨q1, q2, q3, by rw [mst_ne (by omega)]; exact q4, by rw [mst_ne (by omega)]; exact q5, by rw [mst_ne (by omega)]; exact q6⟩
  have fx2 : FX σ (mst σ2 48 1 (nI y)) := fun q q1 q2 => by rw [mst_ne (by omega), g2 q q1, mst_ne q1]
  have fm2 : FM μ μ2 := e2.fm.tr g6
  rcases ns2 hF hx2 g4 (lo := 1) (hi := 99) (s := 1) (x := 59) (k := 4) (by omega) (by omega) (by omega) (by omega) with ⟨σ3, μ3, k1, k2, k3⟩ | ⟨z, p3, σ3, μ3, z1, z2, k1, k2, k3, k4, k5, k6, k7, k8⟩
  · rw [k1]
    obtain ⟨w1, w2, pp, ff, w3, w4, w5, w6⟩ := Fl.tr fx2 fm2 k2
    refine Or.inl ⟨_, _, rfl, (g8 (kL2 fuel)).trans (k3 (fun m => some (1, m))), ?_, w2, pp, ff, ?_, w4, ?_, w6⟩
    · exact fun q q1 q2 => by rw [mst_ne (by omega)]; exact w1 q q1 q2
    · rw [mst_ne (by omega)]; exact w3
    · rw [mst_ne (by omega)]; exact w5
  rw [k1, bs]
  show StR b t σ μ _ (if nI z < 0 then some (0, mst σ3 48 2 (nI z)) else some (1, mst σ3 48 2 (nI z))) _
  rw [if_neg (nI_pos (by omega))]
  have s48 : ∀ j, mst σ3 48 2 (nI z) 48 j = if j = 2 then nI z else if j = 1 then nI y else σ 48 j := fun j => by
    rw [mst_at, k2 48 (by omega), mst_at, g2 48 (by omega), mst_ne (by omega)]; rfl
  refine Or.inr ⟨_, _, p3, fun j => if j = 1 then z else if j = 0 then y else 0, rfl, (g8 (kL2 fuel)).trans (k8 (fun m => some (1, m))), fun q q1 q2 => ?_, fm2.tr k6, ?_, ?_, k4, ⟨?_, rfl, rfl, ?_, fun c hc => ⟨?_, ?_⟩, ?_, ?_, ?_⟩, rfl, rfl, rfl⟩
  · rw [mst_ne (by omega), k2 q q1, fx2 q q1 q2]
  · rw [k7, g7, e2.2 6 (by omega)]
  · obtain ⟨q1, q2, q3, q4, q5, q6⟩ := k3
    exact ⟨q1, q2, q3, by rw [mst_ne (by omega)]; exact q4, by rw [mst_ne (by omega)]; exact q5, by rw [mst_ne (by omega)]; exact q6⟩
  · exact ⟨y2, z2, Nat.zero_le _, Nat.zero_le _, Nat.zero_le _, Nat.zero_le _, fun k hk => absurd hk (Nat.not_lt_zero _), fun k hk => absurd hk (Nat.not_lt_zero _), fun k hk => absurd hk (Nat.not_lt_zero _)⟩
  · exact z1
  · show (if 45 + c = 1 then z else if 45 + c = 0 then y else 0) = 0
    rw [if_neg (by omega), if_neg (by omega)]
  · show (if 55 + c = 1 then z else if 55 + c = 0 then y else 0) = 0
    rw [if_neg (by omega), if_neg (by omega)]
  · refine ⟨?_, ?_, ?_, ?_, ?_, ?_, ?_, ?_, fun k hk => absurd hk (Nat.not_lt_zero _), fun k hk => absurd hk (Nat.not_lt_zero _), fun k hk => absurd hk (Nat.not_lt_zero _)⟩ <;> rw [s48]
    · rfl
    · rfl
    · exact h3
    · exact h4
    · exact h5
    · exact h6
    · exact h7
    · exact h8
  · rw [s48]; exact h0
  · rw [k5, g5, e2.1 10 (by omega)]
    exact MA_st (MA_st hM)
def kH2 (m : Mem) : Option (Int32 × Mem) := some (1, m)
/-- a hand's sort is told alike -/
theorem sort_eq {x : Nat} (hx : x < 256) : ∃ k, f_X4_kindOfSort (nI x) = some (nI k) ∧ f_X7_sortOf (nI x) = some (nI k) ∧ k ≤ 5 ∧ (k = 0 ∨ (97 < x ∧ x < 119)) := by
  have h : (List.range 256).all (fun x => (List.range 6).any (fun k => decide (f_X4_kindOfSort (nI x) = some (nI k) ∧ f_X7_sortOf (nI x) = some (nI k) ∧ (k = 0 ∨ (97 < x ∧ x < 119))))) = true := by decide +kernel
  rw [List.all_eq_true] at h
  have h := h x (List.mem_range.mpr hx)
  rw [List.any_eq_true] at h
  obtain ⟨k, k1, k2⟩ := h
  obtain ⟨k3, k4, k5⟩ := of_decide_eq_true k2
  exact ⟨k, k3, k4, by have := List.mem_range.mp k1; omega, k5⟩
theorem st_hand (hF : 1000 ≤ fuel) (hx : PX b t p σ) (hI : PI σ μ A) (hp : p < t) (hm : PM b t (p + 1) μ) (h16 : μ 0 16 = nI p) (h3 : A 3 = 0) (h4 : A 4 = 0) {k : Nat} (hk1 : 1 ≤ k) (hk5 : k ≤ 5) (hk : f_X4_kindOfSort (nI (b p)) = some (nI k)) : StR b t σ μ (fun A' => A' 2 = A 2 + 1 ∧ A' 3 = 0 ∧ A' 4 = 0) (f_X4_readHand fuel σ) (f_X7_readsHand fuel μ (nI k)) := by
  obtain ⟨hO, i5, i6, i1, iz, hX, i0, hM⟩ := hI
  obtain ⟨x1, x2, x3, x4, x5, x6, x7, x8, xk, xc, xd⟩ := id hX
  have hH := hO.2.2.1
  unfold f_X4_readHand f_X7_readsHand
  rw [x6, hM 2 (by omega), show (4 : Int32) = nI 4 from rfl]
  by_cases c : A 2 < 4
  case neg =>
    rw [if_neg (show ¬ nI (A 2) < nI 4 by rw [lt_n (by omega) (by omega)]; omega), if_pos (show nI (A 2) = nI 4 by rw [eq_n (by omega) (by omega)]; omega)]
    exact Or.inl ⟨_, _, rfl, rfl, fl_mk hx.2.2.2.2.1 ET.rf h16⟩
  rw [if_pos (show nI (A 2) < nI 4 by rw [lt_n (by omega) (by omega)]; omega), if_neg (show ¬ nI (A 2) = nI 4 by rw [eq_n (by omega) (by omega)]; omega), nextX hx, bs, if_pos hp, hk, bs, hx.2.2.2.2.1, s1, a7, gB (by omega) (by omega), cl_n (by omega), bs, mst_at, show upd (μ 10) (7 + A 2) (nI k) 2 = nI (A 2) from (if_neg (by omega)).trans (hM 2 (by omega)), s1, a11]
  have hx1 : PX b t (p + 1) (mst σ 46 3 (nI (p + 1))) := hx.mv (by omega)
  have fx1 : FX σ (mst σ 46 3 (nI (p + 1))) := FX.st
  have fm1 : FM μ (mst (mst μ 10 (7 + A 2) (nI k)) 10 2 (nI (A 2 + 1))) := ⟨fun q q1 q2 => by rw [mst_ne q2, mst_ne q2], fun k k1 k2 => by rw [mst_ne (by omega), mst_ne (by omega)]⟩
  show StR b t σ μ _ ((f_X4_readNumberAndSign fuel (mst σ 46 3 (nI (p + 1))) (nI 0) (nI 9) (nI 59)).bind fun v3 => if 0 ≤ v3.1 then (f_X1_addHand v3.2 (nI k) v3.1).bind fun v4 => some (1, v4) else some (0, v3.2)) _
  rcases ns2 hF hx1 ((hm.st (k := 7 + A 2) (v := nI k)).st (k := 2) (v := nI (A 2 + 1))) (lo := 0) (hi := 9) (s := 11 + A 2) (x := 59) (k := 4) (by omega) (by omega) (by omega) (by omega) with ⟨σ2, μ2, g1, g2, g3⟩ | ⟨y, p2, σ2, μ2, y1, y2, g1, g2, g3, g4, g5, g6, g7, g8⟩
  · rw [g1]
    exact Or.inl ⟨_, _, rfl, g3 kH2, Fl.tr fx1 fm1 g2⟩
  rw [g1, bs]
  have sq : ∀ q, q ≠ 46 → σ2 q = σ q := fun q hq => by rw [g2 q hq, mst_ne hq]
  have ea : f_X1_addHand σ2 (nI k) (nI y) = some (mst (mst (mst σ2 49 (A 2) (nI k)) 50 (A 2) (nI y)) 48 6 (nI (A 2 + 1))) := by
    unfold f_X1_addHand
    rw [sq 48 (by omega), x6, show (4 : Int32) = nI 4 from rfl, if_pos (show nI (A 2) < nI 4 by rw [lt_n (by omega) (by omega)]; omega), gB (by omega) (by omega), gB (by omega) (by omega), cl_n (by omega), s1]
  show StR b t σ μ _ (if 0 ≤ nI y then (f_X1_addHand σ2 (nI k) (nI y)).bind fun v4 => some (1, v4) else some (0, σ2)) _
  rw [if_pos (nI_nn (by omega)), ea, bs]
  have eA : ∀ j, j ≠ 2 → j ≠ 7 + A 2 → j ≠ 11 + A 2 → (if j = 11 + A 2 then y else if j = 2 then A 2 + 1 else if j = 7 + A 2 then k else A j) = A j := fun j j1 j2 j3 => by rw [if_neg j3, if_neg j1, if_neg j2]
  refine Or.inr ⟨_, μ2, p2, fun j => if j = 11 + A 2 then y else if j = 2 then A 2 + 1 else if j = 7 + A 2 then k else A j, rfl, g8 kH2, fun q q1 q2 => ?_, fm1.tr g6, ?_, ?_, g4, ⟨?_, ?_, ?_, ?_, fun c hc => ?_, ?_, ?_, ?_⟩, ?_, ?_, ?_⟩
  · rw [mst_ne (by omega), mst_ne (by omega), mst_ne (by omega), sq q q1]
  · rw [g7, mst_ne (by omega), mst_ne (by omega)]
  · obtain ⟨q1, q2, q3, q4, q5, q6⟩ := g3
    exact ⟨q1, q2, q3, by rw [mst_ne (by omega), mst_ne (by omega), mst_ne (by omega)]; exact q4, by rw [mst_ne (by omega), mst_ne (by omega), mst_ne (by omega)]; exact q5, by rw [mst_ne (by omega), mst_ne (by omega), mst_ne (by omega)]; exact q6⟩
  · have e2 : (if 2 = 11 + A 2 then y else if 2 = 2 then A 2 + 1 else if 2 = 7 + A 2 then k else A 2) = A 2 + 1 := by rw [if_neg (by omega), if_pos rfl]
    have e3 := eA 3 (by omega) (by omega) (by omega)
    have e4 := eA 4 (by omega) (by omega) (by omega)
    refine ⟨?_, ?_, ?_, ?_, ?_, ?_, fun j hj => ?_, fun j hj => ?_, fun j hj => ?_⟩
    · exact eql (eA 0 (by omega) (by omega) (by omega)) hO.1
    · exact eql (eA 1 (by omega) (by omega) (by omega)) hO.2.1
    · exact eql e2 (by omega)
    · exact eql e3 (by omega)
    · exact eql e4 (by omega)
    · exact eql (eA 5 (by omega) (by omega) (by omega)) (by omega)
    · have hj : j < A 2 + 1 := Nat.lt_of_lt_of_eq hj e2
      show 1 ≤ (if 7 + j = 11 + A 2 then y else if 7 + j = 2 then A 2 + 1 else if 7 + j = 7 + A 2 then k else A (7 + j)) ∧ (if 7 + j = 11 + A 2 then y else if 7 + j = 2 then A 2 + 1 else if 7 + j = 7 + A 2 then k else A (7 + j)) ≤ 5 ∧ (if 11 + j = 11 + A 2 then y else if 11 + j = 2 then A 2 + 1 else if 11 + j = 7 + A 2 then k else A (11 + j)) ≤ 9
      by_cases ej : j = A 2
      · subst ej
        rw [if_neg (by omega), if_neg (by omega), if_pos rfl, if_pos rfl]
        exact ⟨hk1, hk5, y2⟩
      · rw [eA _ (by omega) (by omega) (by omega), eA _ (by omega) (by omega) (by omega)]
        exact hO.2.2.2.2.2.2.1 j (by omega)
    · exact absurd (Nat.lt_of_lt_of_eq hj (e3.trans h3)) (Nat.not_lt_zero _)
    · exact absurd (Nat.lt_of_lt_of_eq hj (e4.trans h4)) (Nat.not_lt_zero _)
  · exact (eA 5 (by omega) (by omega) (by omega)).trans i5
  · exact (eA 6 (by omega) (by omega) (by omega)).trans i6
  · exact Nat.le_trans i1 (Nat.le_of_eq (eA 1 (by omega) (by omega) (by omega)).symm)
  · exact ⟨(eA _ (by omega) (by omega) (by omega)).trans (iz c hc).1, (eA _ (by omega) (by omega) (by omega)).trans (iz c hc).2⟩
  · have s48 : ∀ j, j ≠ 6 → mst (mst (mst σ2 49 (A 2) (nI k)) 50 (A 2) (nI y)) 48 6 (nI (A 2 + 1)) 48 j = σ 48 j := fun j hj => by
      rw [mst_at, mst_ne (by omega), mst_ne (by omega), sq 48 (by omega)]; exact if_neg hj
    have w0 : wb (fun j => if j = 11 + A 2 then y else if j = 2 then A 2 + 1 else if j = 7 + A 2 then k else A j) = 0 := wb0 (eql (eA 3 (by omega) (by omega) (by omega)) (by omega)) (fun c hc => ⟨(eA _ (by omega) (by omega) (by omega)).trans (iz c hc).1, (eA _ (by omega) (by omega) (by omega)).trans (iz c hc).2⟩)
    refine ⟨?_, ?_, ?_, ?_, ?_, ?_, ?_, ?_, fun j hj => ?_, fun j hj => ?_, fun j hj => ?_⟩
    · rw [s48 1 (by omega), x1]; exact congrArg nI (eA 0 (by omega) (by omega) (by omega)).symm
    · rw [s48 2 (by omega), x2]; exact congrArg nI (eA 1 (by omega) (by omega) (by omega)).symm
    · rw [s48 3 (by omega), x3]; exact congrArg nI (eA 5 (by omega) (by omega) (by omega)).symm
    · rw [s48 4 (by omega), x4]; exact congrArg nI (eA 6 (by omega) (by omega) (by omega)).symm
    · rw [s48 5 (by omega), x5, w0, wb0 (by omega) iz]
    · rw [mst_at]
      show nI (A 2 + 1) = nI (if 2 = 11 + A 2 then y else if 2 = 2 then A 2 + 1 else if 2 = 7 + A 2 then k else A 2)
      rw [if_neg (by omega), if_pos rfl]
    · rw [s48 7 (by omega), x7]; exact congrArg nI (eA 3 (by omega) (by omega) (by omega)).symm
    · rw [s48 8 (by omega), x8]; exact congrArg nI (eA 4 (by omega) (by omega) (by omega)).symm
    · have hj : j < A 2 + 1 := Nat.lt_of_lt_of_eq hj (by show (if 2 = 11 + A 2 then y else if 2 = 2 then A 2 + 1 else if 2 = 7 + A 2 then k else A 2) = _; rw [if_neg (by omega), if_pos rfl])
      show mst (mst (mst σ2 49 (A 2) (nI k)) 50 (A 2) (nI y)) 48 6 (nI (A 2 + 1)) 49 j = nI (if 7 + j = 11 + A 2 then y else if 7 + j = 2 then A 2 + 1 else if 7 + j = 7 + A 2 then k else A (7 + j)) ∧ mst (mst (mst σ2 49 (A 2) (nI k)) 50 (A 2) (nI y)) 48 6 (nI (A 2 + 1)) 50 j = nI (if 11 + j = 11 + A 2 then y else if 11 + j = 2 then A 2 + 1 else if 11 + j = 7 + A 2 then k else A (11 + j))
      rw [mst_ne (show 49 ≠ 48 by omega), mst_ne (show 49 ≠ 50 by omega), mst_at, mst_ne (show 50 ≠ 48 by omega), mst_at, mst_ne (show 50 ≠ 49 by omega), sq 49 (by omega), sq 50 (by omega)]
      unfold upd
      by_cases ej : j = A 2
      · subst ej
        rw [if_pos rfl, if_pos rfl, if_neg (by omega), if_neg (by omega), if_pos rfl, if_pos rfl]
        exact ⟨rfl, rfl⟩
      · rw [if_neg ej, if_neg ej, eA _ (by omega) (by omega) (by omega), eA _ (by omega) (by omega) (by omega)]
        exact xk j (by omega)
    · exact absurd (Nat.lt_of_lt_of_eq hj ((eA 3 (by omega) (by omega) (by omega)).trans h3)) (Nat.not_lt_zero _)
    · exact absurd (Nat.lt_of_lt_of_eq hj ((eA 4 (by omega) (by omega) (by omega)).trans h4)) (Nat.not_lt_zero _)
  · rw [mst_at, mst_ne (by omega), mst_ne (by omega), sq 48 (by omega)]; exact i0
  · rw [g5, mst_at, mst_at]
    exact MA_st (MA_st (MA_st hM))
  · show (if 2 = 11 + A 2 then y else if 2 = 2 then A 2 + 1 else if 2 = 7 + A 2 then k else A 2) = _
    rw [if_neg (by omega), if_pos rfl]
  · exact (eA 3 (by omega) (by omega) (by omega)).trans h3
  · exact (eA 4 (by omega) (by omega) (by omega)).trans h4
end STP
