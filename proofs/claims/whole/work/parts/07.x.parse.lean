/-! a number, a sign, on both sides -/
theorem run_uniq {b : Nat → Nat} {t p n m : Nat} (h : Run b t p n) (h2 : Run b t p m) : n = m := by
  obtain ⟨a1, a2, a3⟩ := h
  obtain ⟨c1, c2, c3⟩ := h2
  rcases Nat.lt_trichotomy n m with e | e | e
  · rcases a3 with q | q
    · omega
    · exact absurd (c2 (p + n) (by omega) (by omega)) q
  · exact e
  · rcases c3 with q | q
    · omega
    · exact absurd (a2 (p + m) (by omega) (by omega)) q
section NUM
variable {b : Nat → Nat} {t p : Nat} {σ μ : Mem} {fuel : Nat}
theorem isFigX (h : PX b t p σ) {i : Nat} (hi : i < t) : (Dg (b i) → f_X4_isFigure σ (nI i) = some 1) ∧ (¬ Dg (b i) → f_X4_isFigure σ (nI i) = some 0) := by
  obtain ⟨h1, h2, h3, h4, h5, h6⟩ := h
  have hb := h3 i hi
  unfold f_X4_isFigure Dg
  rw [h4, if_neg (show ¬ nI t ≤ nI i by rw [le_n (by omega) (by omega)]; omega), gB (by omega) (by omega), gB (by omega) (by omega), cl_n (by omega), h6 i hi, show (48 : Int32) = nI 48 from rfl, show (57 : Int32) = nI 57 from rfl]
  simp only [lt_n (show b i < 2147483648 by omega) (show 48 < 2147483648 by omega), lt_n (show 57 < 2147483648 by omega) (show b i < 2147483648 by omega)]
  refine ⟨fun h => ?_, fun h => ?_⟩
  · rw [if_neg (by omega), if_neg (by omega)]
  · by_cases c : b i < 48
    · rw [if_pos c]
    · rw [if_neg c, if_pos (by omega)]
theorem rdX (hF : 1000 ≤ fuel) (h : PX b t p σ) {n : Nat} (hR : Run b t p n) (x1 x2 : Int32) : f_X4_readNumber fuel σ x1 x2 = f_X4_readNumber_27 fuel σ x1 x2 (nI (p + n)) := by
  obtain ⟨h1, h2, h3, h4, h5, h6⟩ := id h
  obtain ⟨r1, r2, r3⟩ := hR
  have key : ∀ k m N, m + k = n → k < N → f_X4_readNumber_5 fuel N σ x1 x2 (nI (p + m)) = f_X4_readNumber_27 fuel σ x1 x2 (nI (p + n)) := by
    intro k
    induction k with
    | zero =>
      intro m N hm hN
      obtain ⟨N, rfl⟩ := suc_of hN
      obtain rfl : m = n := by omega
      rw [f_X4_readNumber_5, h4]
      by_cases c : p + m < t
      · rcases r3 with r3 | r3
        · omega
        · rw [if_neg (show ¬ nI t ≤ nI (p + m) by rw [le_n (by omega) (by omega)]; omega), (isFigX h c).2 r3, b0, z0]
      · rw [if_pos (show nI t ≤ nI (p + m) by rw [le_n (by omega) (by omega)]; omega)]
    | succ k ih =>
      intro m N hm hN
      obtain ⟨N, rfl⟩ := suc_of hN
      rw [f_X4_readNumber_5, h4, if_neg (show ¬ nI t ≤ nI (p + m) by rw [le_n (by omega) (by omega)]; omega), (isFigX h (show p + m < t by omega)).1 (r2 _ (by omega) (by omega)), b1, z1, s1]
      exact ih (m + 1) N (by omega) (by omega)
  unfold f_X4_readNumber
  rw [h5]
  exact key n 0 fuel (by omega) (by omega)
def NumR (b : Nat → Nat) (t p : Nat) (σ μ : Mem) (lo hi s : Nat) (rx rm : Option (Int32 × Mem)) : Prop :=
  (∃ f μ', rx = some (-1, mst σ 46 4 f) ∧ rm = some (0, mst μ' 0 6 f) ∧ ET μ μ' ∧ μ' 0 16 = nI p) ∨
  (∃ v n μ', lo ≤ v ∧ v ≤ hi ∧ rx = some (nI v, mst σ 46 3 (nI (p + n))) ∧ rm = some (1, mst μ' 10 s (nI v)) ∧ ET μ μ' ∧ PM b t (p + n) μ')
theorem nm (hF : 1000 ≤ fuel) (hx : PX b t p σ) (hm : PM b t p μ) {lo hi s : Nat} (hhi : hi < 1000) (hlo : lo < 1000) (hs : s < 85) : NumR b t p σ μ lo hi s (f_X4_readNumber fuel σ (nI lo) (nI hi)) (f_X7_number fuel μ (nI s) (nI lo) (nI hi)) := by
  obtain ⟨n, hR⟩ := run_ex b (t := t) (t - p) p (by have := hx.2.1; omega)
  obtain ⟨μ', k, v, n', e1, e2, e3, e4, e5, e6, e7, e8, hT⟩ := nextM hF hm
  rw [rdX hF hx hR]
  unfold f_X7_number
  rw [e1, bs, e5, e8]
  obtain ⟨h1, h2, h3, h4, h5, h6⟩ := id hx
  have hRn := hR.1
  unfold f_X4_readNumber_27
  rw [h5]
  -- the two fail alike where there is no number
  have bad : (n = 0 ∨ 2 < n) → ¬ k = 2 → NumR b t p σ μ lo hi s (if nI (p + n) = nI p then some (-1, mst σ 46 4 1) else if nI (p + n) - nI p ≤ 2 then gd (inB (nI p) 140) (if nI (p + n) - nI p = 2 then gd (inB (nI p + 1) 140) (f_X4_readNumber_98 fuel σ (nI lo) (nI hi) (nI (p + n)) ((((σ 47 ((nI p).toNatClampNeg)) - 48) * 10) + (σ 47 ((nI p + 1).toNatClampNeg)) - 48)) else f_X4_readNumber_98 fuel σ (nI lo) (nI hi) (nI (p + n)) ((σ 47 ((nI p).toNatClampNeg)) - 48)) else some (-1, mst σ 46 4 1)) (if nI k = 2 then (f_X7_in ((nI v).toInt64) (nI lo).toInt64 (nI hi).toInt64).bind fun v2 => if v2 = 0 then (f_X7_fails μ' 2).bind fun v4 => gd (isB v4.1) (some (v4.1, v4.2)) else gd (inB (nI s) 85) (some (1, mst μ' 10 (nI s).toNatClampNeg (nI v))) else (f_X7_fails μ' 1).bind fun v6 => gd (isB v6.1) (some (v6.1, v6.2))) := by
    intro hn hk
    rw [if_neg (show ¬ nI k = 2 by rw [show (2 : Int32) = nI 2 from rfl, eq_n (by omega) (by omega)]; exact hk)]
    refine Or.inl ⟨1, μ', ?_, rfl, e2, e4⟩
    rcases hn with rfl | hn
    · exact if_pos rfl
    · rw [if_neg (by rw [eq_n (by omega) (by omega)]; omega), pk_sub (by omega), if_neg (show ¬ nI (p + n - p) ≤ 2 by rw [show (2 : Int32) = nI 2 from rfl, le_n (by omega) (by omega)]; omega)]
  by_cases hd : p < t ∧ Dg (b p)
  case neg =>
    refine bad (Or.inl ?_) ?_
    · rcases Nat.eq_zero_or_pos n with q | q
      · exact q
      · exact absurd ⟨by omega, hR.2.1 p (by omega) (by omega)⟩ hd
    · rintro rfl
      rcases hT with q | q | q | q | q | q
      · omega
      · omega
      · omega
      · omega
      · exact hd ⟨q.1, q.2.1⟩
      · omega
  obtain ⟨hp, hd⟩ := hd
  obtain ⟨hR', hT⟩ : Run b t p n' ∧ ((n' ≤ 2 ∧ k = 2 ∧ v = vl b p n') ∨ (2 < n' ∧ k = 5)) := by
    unfold Dg at hd
    rcases hT with q | q | q | q | q | q
    · omega
    · omega
    · omega
    · omega
    · exact q.2.2
    · exact absurd hd q.2.2.2.2.1
  obtain rfl := run_uniq hR hR'
  rcases hT with ⟨n2, rfl, rfl⟩ | ⟨n2, rfl⟩
  case inr => exact bad (Or.inr n2) (by omega)
  have hn1 : 1 ≤ n := by
    rcases Nat.eq_zero_or_pos n with e | e
    · subst e
      rcases hR.2.2 with q | q
      · omega
      · exact absurd hd (by rw [Nat.add_zero] at q; exact q)
    · exact e
  have hbp := h3 p hp
  have ev : (if nI (p + n) - nI p = 2 then gd (inB (nI p + 1) 140) (f_X4_readNumber_98 fuel σ (nI lo) (nI hi) (nI (p + n)) ((((σ 47 ((nI p).toNatClampNeg)) - 48) * 10) + (σ 47 ((nI p + 1).toNatClampNeg)) - 48)) else f_X4_readNumber_98 fuel σ (nI lo) (nI hi) (nI (p + n)) ((σ 47 ((nI p).toNatClampNeg)) - 48)) = f_X4_readNumber_98 fuel σ (nI lo) (nI hi) (nI (p + n)) (nI (vl b p n)) := by
    unfold Dg at hd
    rw [cl_n (by omega), h6 p hp, pk_sub (by omega), show p + n - p = n by omega, show (48 : Int32) = nI 48 from rfl, pk_sub (by omega)]
    unfold vl
    rcases (show n = 1 ∨ n = 2 by omega) with rfl | rfl
    · rw [if_neg (show ¬ nI 1 = 2 by decide), if_neg (by omega), if_pos rfl]
    · have hd1 := hR.2.1 (p + 1) (by omega) (by omega)
      unfold Dg at hd1
      rw [if_pos (show nI 2 = 2 from rfl), s1, gB (by omega) (by omega), cl_n (by omega), h6 _ (by omega), show (10 : Int32) = nI 10 from rfl, pk_mul, nI_add, pk_sub (by omega), if_neg (by omega), if_neg (by omega), show (b p - 48) * 10 + b (p + 1) - 48 = 10 * (b p - 48) + (b (p + 1) - 48) by omega]
  rw [if_neg (by rw [eq_n (by omega) (by omega)]; omega), if_pos (show nI (p + n) - nI p ≤ 2 by rw [pk_sub (by omega), show (2 : Int32) = nI 2 from rfl, le_n (by omega) (by omega)]; omega), gB (by omega) (by omega), ev, if_pos (show nI 2 = 2 from rfl)]
  unfold f_X4_readNumber_98
  simp only [lt_n (show vl b p n < 2147483648 by omega) (show lo < 2147483648 by omega), le_n (show vl b p n < 2147483648 by omega) (show hi < 2147483648 by omega)]
  by_cases cr : lo ≤ vl b p n ∧ vl b p n ≤ hi
  · rw [in_t (lo := lo) (n := hi + 1) (by rw [i64_toInt, nI_toInt (by omega)]) (by rw [i64_toInt, nI_toInt (by omega)]; omega) (by omega) ⟨_, cr.1, by omega, rfl⟩, b1, z1, gB (by omega) (by omega), cl_n (by omega), if_neg (by omega), if_pos (by omega)]
    exact Or.inr ⟨vl b p n, n, μ', cr.1, cr.2, rfl, rfl, e2, e3⟩
  · rw [in_f (lo := lo) (n := hi + 1) (by rw [i64_toInt, nI_toInt (by omega)]) (by rw [i64_toInt, nI_toInt (by omega)]; omega) (by omega) (fun ⟨j, q1, q2, q3⟩ => by rw [eq_n (by omega) (by omega)] at q3; omega), b0, z0]
    refine Or.inl ⟨2, μ', ?_, rfl, e2, e4⟩
    by_cases c1 : vl b p n < lo
    · rw [if_pos c1]
    · rw [if_neg c1, if_neg (by omega)]
def SigR (b : Nat → Nat) (t p : Nat) (σ μ : Mem) (rx rm : Option (Int32 × Mem)) : Prop :=
  (∃ μ', rx = some (0, mst σ 46 4 1) ∧ rm = some (0, mst μ' 0 6 1) ∧ ET μ μ' ∧ μ' 0 16 = nI p) ∨
  (∃ μ', rx = some (1, mst σ 46 3 (nI (p + 1))) ∧ rm = some (1, μ') ∧ ET μ μ' ∧ PM b t (p + 1) μ')
theorem sgn_r (hF : 1000 ≤ fuel) (hx : PX b t p σ) (hm : PM b t p μ) {x k : Nat} (hk : (x = 44 ∧ k = 3) ∨ (x = 59 ∧ k = 4)) : SigR b t p σ μ (f_X4_readSign σ (nI x)) (f_X7_sign fuel μ (nI k)) := by
  obtain ⟨μ', k', v, n', e1, e2, e3, e4, e5, e6, e7, e8, hT⟩ := nextM hF hm
  obtain ⟨h1, h2, h3, h4, h5, h6⟩ := id hx
  unfold f_X4_readSign f_X7_sign
  rw [nextX hx, bs, e1, bs, e5, h5, s1]
  simp only [eq_n (show k' < 2147483648 by omega) (show k < 2147483648 by omega)]
  by_cases c : k' = k
  · subst c
    have hpt : p < t ∧ b p = x ∧ n' = 1 := by
      rcases hT with q | q | q | q | q | q <;> omega
    obtain ⟨c1, c2, rfl⟩ := hpt
    rw [if_pos c1, if_pos (by rw [c2]), if_pos rfl]
    exact Or.inr ⟨μ', rfl, rfl, e2, e3⟩
  · rw [if_neg c]
    have : ¬ (if p < t then nI (b p) else -1) = nI x := by
      by_cases c1 : p < t
      · have := h3 p c1
        rw [if_pos c1, eq_n (by omega) (by omega)]
        intro q
        unfold Tok Dg at hT
        rcases hT with r | r | r | r | r | r <;> omega
      · rw [if_neg c1]
        rcases hk with ⟨rfl, _⟩ | ⟨rfl, _⟩ <;> decide
    rw [if_neg this]
    exact Or.inl ⟨μ', rfl, rfl, e2, e4⟩
/-! failing: where, and why -/
def FX (σ σ' : Mem) : Prop := ∀ q, q ≠ 46 → (q < 48 ∨ 58 < q) → σ' q = σ q
def FM (μ μ' : Mem) : Prop := (∀ q, q ≠ 0 → q ≠ 10 → μ' q = μ q) ∧ ∀ k, k ≠ 6 → (k < 15 ∨ 19 ≤ k) → μ' 0 k = μ 0 k
def Fl (σ μ σ' μ' : Mem) : Prop := FX σ σ' ∧ FM μ μ' ∧ ∃ (p : Nat) (f : Int32), σ' 46 3 = nI p ∧ μ' 0 16 = nI p ∧ σ' 46 4 = f ∧ μ' 0 6 = f
theorem FX.tr {a b c : Mem} (h : FX a b) (h2 : FX b c) : FX a c := fun q q1 q2 => (h2 q q1 q2).trans (h q q1 q2)
theorem FM.tr {a b c : Mem} (h : FM a b) (h2 : FM b c) : FM a c := ⟨fun q q1 q2 => (h2.1 q q1 q2).trans (h.1 q q1 q2), fun k k1 k2 => (h2.2 k k1 k2).trans (h.2 k k1 k2)⟩
theorem ET.fm {a b : Mem} (h : ET a b) : FM a b := ⟨fun q q1 _ => h.1 q q1, fun k _ k2 => h.2 k k2⟩
theorem Fl.tr {a b σ μ σ' μ' : Mem} (h : FX a σ) (h2 : FM b μ) (h3 : Fl σ μ σ' μ') : Fl a b σ' μ' := ⟨h.tr h3.1, h2.tr h3.2.1, h3.2.2⟩
theorem FX.st {σ : Mem} {k : Nat} {x : Int32} : FX σ (mst σ 46 k x) := fun q q1 _ => mst_ne q1
theorem fl_mk {f : Int32} {μ' : Mem} (h3 : σ 46 3 = nI p) (e : ET μ μ') (h16 : μ' 0 16 = nI p) : Fl σ μ (mst σ 46 4 f) (mst μ' 0 6 f) :=
  ⟨FX.st, ⟨fun q q1 q2 => by rw [mst_ne q1]; exact e.1 q q1, fun k k1 k2 => by rw [mst_at]; exact (if_neg k1).trans (e.2 k k2)⟩, p, f, by rw [mst_at]; exact h3, by rw [mst_at]; exact h16, by rw [mst_at]; rfl, by rw [mst_at]; rfl⟩
theorem PX.mv {p' : Nat} (h : PX b t p σ) (hp : p' ≤ t) : PX b t p' (mst σ 46 3 (nI p')) := by
  obtain ⟨h1, h2, h3, h4, h5, h6⟩ := h
  exact ⟨h1, hp, h3, by rw [mst_at]; exact h4, by rw [mst_at]; rfl, by rw [mst_ne (by omega)]; exact h6⟩
theorem PM.st {k : Nat} {v : Int32} (h : PM b t p μ) : PM b t p (mst μ 10 k v) := by
  obtain ⟨h1, h2, h3, h4, h5, h6⟩ := h
  exact ⟨h1, h2, h3, by rw [mst_ne (by omega)]; exact h4, by rw [mst_ne (by omega)]; exact h5, by rw [mst_ne (by omega)]; exact h6⟩
/-- a number and a sign behind it -/
theorem ns (hF : 1000 ≤ fuel) (hx : PX b t p σ) (hm : PM b t p μ) {lo hi s x k : Nat} (hhi : hi < 1000) (hlo : lo < 1000) (hs : s < 85) (hk : (x = 44 ∧ k = 3) ∨ (x = 59 ∧ k = 4)) :
    (∃ σ' μ', f_X4_readNumberAndSign fuel σ (nI lo) (nI hi) (nI x) = some (-1, σ') ∧ Fl σ μ σ' μ' ∧ ∀ K : Mem → Option (Int32 × Mem), ((f_X7_number fuel μ (nI s) (nI lo) (nI hi)).bind fun v3 => if v3.1 = 0 then some (0, v3.2) else (f_X7_sign fuel v3.2 (nI k)).bind fun v4 => if v4.1 = 0 then some (0, v4.2) else K v4.2) = some (0, μ')) ∨
    (∃ v p' μ', lo ≤ v ∧ v ≤ hi ∧ f_X4_readNumberAndSign fuel σ (nI lo) (nI hi) (nI x) = some (nI v, mst (mst σ 46 3 (nI (p' - 1))) 46 3 (nI p')) ∧ p' ≤ t ∧ PM b t p' μ' ∧ ET (mst μ 10 s (nI v)) μ' ∧ ∀ K : Mem → Option (Int32 × Mem), ((f_X7_number fuel μ (nI s) (nI lo) (nI hi)).bind fun v3 => if v3.1 = 0 then some (0, v3.2) else (f_X7_sign fuel v3.2 (nI k)).bind fun v4 => if v4.1 = 0 then some (0, v4.2) else K v4.2) = K μ') := by
  unfold f_X4_readNumberAndSign
  rcases nm hF hx hm hhi hlo hs with ⟨f, μ', e1, e2, e3, e4⟩ | ⟨v, n, μ', v1, v2, e1, e2, e3, e4⟩
  · rw [e1, e2]
    exact Or.inl ⟨_, _, rfl, fl_mk hx.2.2.2.2.1 e3 e4, fun K => rfl⟩
  · rw [e1, e2, bs, if_neg (show ¬ (nI v, mst σ 46 3 (nI (p + n))).1 < 0 from nI_pos (by omega))]
    rcases sgn_r hF (hx.mv e4.2.1) (e4.st (k := s) (v := nI v)) hk with ⟨μ2, g1, g2, g3, g4⟩ | ⟨μ2, g1, g2, g3, g4⟩
    · refine Or.inl ⟨mst (mst σ 46 3 (nI (p + n))) 46 4 1, mst μ2 0 6 1, ?_, ?_, fun K => ?_⟩
      · show (f_X4_readSign (mst σ 46 3 (nI (p + n))) (nI x)).bind _ = _
        rw [g1]; rfl
      · refine Fl.tr FX.st ⟨fun q q1 q2 => ?_, fun k k1 k2 => ?_⟩ (fl_mk (p := p + n) (μ := mst μ' 10 s (nI v)) (by rw [mst_at]; rfl) g3 g4)
        · rw [mst_ne q2]; exact e3.1 q q1
        · rw [mst_ne (by omega)]; exact e3.2 k k2
      · show (if (1 : Int32) = 0 then some ((0 : Int32), mst μ' 10 s (nI v)) else (f_X7_sign fuel (mst μ' 10 s (nI v)) (nI k)).bind fun v4 => if v4.1 = 0 then some (0, v4.2) else K v4.2) = _
        rw [if_neg (by decide), g2]; rfl
    · refine Or.inr ⟨v, p + n + 1, μ2, v1, v2, ?_, g4.2.1, g4, ⟨fun q hq => ?_, fun k hk => ?_⟩, fun K => ?_⟩
      · show (f_X4_readSign (mst σ 46 3 (nI (p + n))) (nI x)).bind _ = _
        rw [g1]; rfl
      · rw [g3.1 q hq]
        by_cases e : q = 10
        · subst e
          rw [mst_at, mst_at, e3.1 10 hq]
        · rw [mst_ne e, mst_ne e]; exact e3.1 q hq
      · rw [g3.2 k hk, mst_ne (by omega), mst_ne (by omega)]; exact e3.2 k hk
      · show (if (1 : Int32) = 0 then some ((0 : Int32), mst μ' 10 s (nI v)) else (f_X7_sign fuel (mst μ' 10 s (nI v)) (nI _)).bind fun v4 => if v4.1 = 0 then some (0, v4.2) else K v4.2) = _
        rw [if_neg (by decide), g2]; rfl
end NUM
