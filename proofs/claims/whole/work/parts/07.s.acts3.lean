/-! write, undo -/
def wrt (A : Ar) (p h w : Nat) : Ar := fun j => if j = 3 then A 3 + 1 else if j = 6 then A 6 + A (11 + h) else if j = 55 + A 3 then 0 else if j = 45 + A 3 then A 5 else if j = 35 + A 3 then w else if j = 25 + A 3 then h else if j = 15 + A 3 then p else A j
section WR
variable {σ μ : Mem} {fuel : Nat} {A : Ar} {p h w : Nat}
theorem wrt_ne {j : Nat} (h3 : j ≠ 3) (h6 : j ≠ 6) (h1 : j ≠ 15 + A 3) (h2 : j ≠ 25 + A 3) (h4 : j ≠ 35 + A 3) (h5 : j ≠ 45 + A 3) (h7 : j ≠ 55 + A 3) : wrt A p h w j = A j := by
  unfold wrt
  rw [if_neg h3, if_neg h6, if_neg h7, if_neg h5, if_neg h4, if_neg h2, if_neg h1]
theorem wrt_55 : wrt A p h w (55 + A 3) = 0 := by
  unfold wrt
  rw [if_neg (by omega), if_neg (by omega), if_pos rfl]
theorem wrt_45 : wrt A p h w (45 + A 3) = A 5 := by
  unfold wrt
  rw [if_neg (by omega), if_neg (by omega), if_neg (by omega), if_pos rfl]
theorem wrt_35 : wrt A p h w (35 + A 3) = w := by
  unfold wrt
  rw [if_neg (by omega), if_neg (by omega), if_neg (by omega), if_neg (by omega), if_pos rfl]
theorem wrt_25 : wrt A p h w (25 + A 3) = h := by
  unfold wrt
  rw [if_neg (by omega), if_neg (by omega), if_neg (by omega), if_neg (by omega), if_neg (by omega), if_pos rfl]
theorem wrt_15 : wrt A p h w (15 + A 3) = p := by
  unfold wrt
  rw [if_neg (by omega), if_neg (by omega), if_neg (by omega), if_neg (by omega), if_neg (by omega), if_neg (by omega), if_pos rfl]
theorem wrt_3 : wrt A p h w 3 = A 3 + 1 := if_pos rfl
theorem wrt_6 : wrt A p h w 6 = A 6 + A (11 + h) := rfl
theorem wrt_lo {j : Nat} (h3 : j ≠ 3) (h6 : j ≠ 6) (hj : j < 15) : wrt A p h w j = A j := wrt_ne h3 h6 (by omega) (by omega) (by omega) (by omega) (by omega)
theorem wrt_hi {j : Nat} (hn : A 3 < 10) (hj : 65 ≤ j) : wrt A p h w j = A j := wrt_ne (by omega) (by omega) (by omega) (by omega) (by omega) (by omega) (by omega)
theorem wrt_c {o c : Nat} (hn : A 3 < 10) (ho : o = 15 ∨ o = 25 ∨ o = 35 ∨ o = 45 ∨ o = 55) (hc : c < A 3) : wrt A p h w (o + c) = A (o + c) := wrt_ne (by omega) (by omega) (by omega) (by omega) (by omega) (by omega) (by omega)
theorem wrt_ok (hO : AOK A) (hn : A 3 < 10) (hp : p < 6) (hh : h < A 2) (hw : 1 ≤ w) (hw9 : w < 10) : AOK (wrt A p h w) := by
  obtain ⟨h0, h1, h2, h3, h4, h5', h6, h7, h8⟩ := hO
  refine ⟨by rw [wrt_lo (by omega) (by omega) (by omega)]; exact h0, by rw [wrt_lo (by omega) (by omega) (by omega)]; exact h1, by rw [wrt_lo (by omega) (by omega) (by omega)]; exact h2, by rw [wrt_3]; omega, by rw [wrt_lo (by omega) (by omega) (by omega)]; exact h4, by rw [wrt_lo (by omega) (by omega) (by omega)]; exact h5', ?_, ?_, ?_⟩
  · intro k hk
    rw [wrt_lo (by omega) (by omega) (by omega)] at hk
    rw [wrt_lo (by omega) (by omega) (by omega), wrt_lo (by omega) (by omega) (by omega)]
    exact h6 k hk
  · intro c hc
    rw [wrt_3] at hc
    rw [wrt_lo (j := 2) (by omega) (by omega) (by omega), wrt_lo (j := 5) (by omega) (by omega) (by omega)]
    by_cases e : c = A 3
    · subst e
      rw [wrt_15, wrt_25, wrt_35, wrt_45, wrt_55]
      omega
    · rw [wrt_c hn (by omega) (by omega), wrt_c hn (by omega) (by omega), wrt_c hn (by omega) (by omega), wrt_c hn (by omega) (by omega), wrt_c hn (by omega) (by omega)]
      exact h7 c (by omega)
  · intro k hk
    rw [wrt_lo (by omega) (by omega) (by omega)] at hk
    rw [wrt_hi hn (by omega), wrt_hi hn (by omega), wrt_hi hn (by omega), wrt_hi hn (by omega)]
    exact h8 k hk
theorem wrt_wb (hn : A 3 < 10) : wb (wrt A p h w) = wb A := by
  unfold wb
  rw [wrt_3, show bset (fun c => decide (wrt A p h w (55 + c) = 1)) (A 3 + 1) = _ from orset_f (by rw [wrt_55]; rfl)]
  exact orset_congr (fun c hc => ⟨by rw [wrt_c hn (by omega) hc], fun _ => rfl⟩)
theorem wrt_eqA (hO : AOK A) (hn : A 3 < 10) : EqA A (wrt A p h w) := by
  have hH := hO.2.2.1
  refine ⟨(wrt_lo (by omega) (by omega) (by omega)).symm, (wrt_lo (by omega) (by omega) (by omega)).symm, (wrt_lo (by omega) (by omega) (by omega)).symm, (wrt_lo (by omega) (by omega) (by omega)).symm, fun k hk => ⟨(wrt_lo (by omega) (by omega) (by omega)).symm, (wrt_lo (by omega) (by omega) (by omega)).symm⟩, fun c hc => ⟨(wrt_c hn (by omega) hc).symm, (wrt_c hn (by omega) hc).symm, (wrt_c hn (by omega) hc).symm, (wrt_c hn (by omega) hc).symm⟩, fun k hk => ⟨(wrt_hi hn (by omega)).symm, (wrt_hi hn (by omega)).symm, (wrt_hi hn (by omega)).symm, (wrt_hi hn (by omega)).symm⟩⟩
theorem wrt_rp (hO : AOK A) (hn : A 3 < 10) (hh : h < A 2) (hP : RP A) : RP (wrt A p h w) := by
  have hH := hO.2.2.1
  refine ⟨fun c hc h3 h4 => ?_, fun q => by rw [wrt_lo (by omega) (by omega) (by omega)] at q ⊢; exact hP.2 q⟩
  rw [wrt_3] at hc
  rw [wrt_lo (j := 1) (by omega) (by omega) (by omega), wrt_lo (j := 5) (by omega) (by omega) (by omega)] at h4
  by_cases e : c = A 3
  · subst e
    rw [wrt_45] at h4
    have := hP.2 (by omega)
    omega
  · have ok := hO.2.2.2.2.2.2.2.1 c (by omega)
    rw [wrt_c hn (by omega) (by omega)] at h4 ⊢
    refine hP.1 c (by omega) ?_ h4
    have h3 : wrt A p h w (7 + wrt A p h w (25 + c)) = 3 := h3
    rw [wrt_c (o := 25) hn (by omega) (by omega), wrt_lo (j := 7 + A (25 + c)) (by omega) (by omega) (by omega)] at h3
    exact h3
theorem wrt_ma {v : Nat → Int32} (hM : MA v A) (hO : AOK A) (hn : A 3 < 10) (hh : h < A 2) : MA (upd (upd (upd (upd (upd (upd (upd v (15 + A 3) (nI p)) (25 + A 3) (nI h)) (35 + A 3) (nI w)) (45 + A 3) (nI (A 5))) (55 + A 3) 0) 6 (nI (A 6 + A (11 + h)))) 3 (nI (A 3 + 1))) (wrt A p h w) :=
  MA_st (MA_st (MA_st (a := 0) (MA_st (MA_st (MA_st (MA_st hM))))))
theorem wrt_xn {σ2 : Mem} (hX : XN σ A) (hO : AOK A) (hn : A 3 < 10) (h13 : σ2 13 = upd (upd (σ 13) 7 (nI (A 3 + 1))) 4 (nI (A 6 + A (11 + h)))) (h16 : σ2 16 = upd (σ 16) (A 3) (nI p)) (h17 : σ2 17 = upd (σ 17) (A 3) (nI h)) (h18 : σ2 18 = upd (σ 18) (A 3) (nI w)) (h19 : σ2 19 = upd (σ 19) (A 3) (nI (A 5))) (r : ∀ q, (q = 14 ∨ q = 15 ∨ (20 ≤ q ∧ q ≤ 23)) → σ2 q = σ q) : XN σ2 (wrt A p h w) := by
  have hH := hO.2.2.1
  obtain ⟨x1, x2, x3, x4, x5, x6, x7, x8, xk, xc, xd⟩ := hX
  refine ⟨?_, ?_, ?_, ?_, ?_, ?_, ?_, ?_, ?_, ?_, ?_⟩
  · rw [h13, wrt_lo (by omega) (by omega) (by omega)]; exact x1
  · rw [h13, wrt_lo (by omega) (by omega) (by omega)]; exact x2
  · rw [h13, wrt_lo (by omega) (by omega) (by omega)]; exact x3
  · rw [h13, wrt_6]; rfl
  · rw [h13, wrt_wb hn]; exact x5
  · rw [h13, wrt_lo (by omega) (by omega) (by omega)]; exact x6
  · rw [h13, wrt_3]; rfl
  · rw [h13, wrt_lo (by omega) (by omega) (by omega)]; exact x8
  · intro k hk
    rw [wrt_lo (by omega) (by omega) (by omega)] at hk
    rw [r 14 (by omega), r 15 (by omega), wrt_lo (by omega) (by omega) (by omega), wrt_lo (by omega) (by omega) (by omega)]
    exact xk k hk
  · intro c hc
    rw [wrt_3] at hc
    rw [h16, h17, h18, h19]
    unfold upd
    by_cases e : c = A 3
    · subst e
      rw [wrt_15, wrt_25, wrt_35, wrt_45, if_pos rfl, if_pos rfl, if_pos rfl, if_pos rfl]
      exact ⟨rfl, rfl, rfl, rfl⟩
    · rw [wrt_c hn (by omega) (by omega), wrt_c hn (by omega) (by omega), wrt_c hn (by omega) (by omega), wrt_c hn (by omega) (by omega), if_neg e, if_neg e, if_neg e, if_neg e]
      exact xc c (by omega)
  · intro k hk
    rw [wrt_lo (by omega) (by omega) (by omega)] at hk
    rw [r 20 (by omega), r 21 (by omega), r 22 (by omega), r 23 (by omega), wrt_hi hn (by omega), wrt_hi hn (by omega), wrt_hi hn (by omega), wrt_hi hn (by omega)]
    exact xd k hk
end WR
section WR2
variable {σ μ : Mem} {fuel : Nat}
theorem s_write (h : Sim σ μ) (hF : 2100 ≤ fuel) (x1 x2 x3 : Int32) : SQ (f_X6_write σ x1 x2 x3) (f_X7_write fuel μ x1 x2 x3) := by
  obtain ⟨hR, h2, h3, h4, ⟨A, a, B, hO, hD, hP, hX, hM, t1, t2, t3, t4, hH, hB⟩, h6, h7⟩ := id h
  unfold f_X6_write f_X7_write
  rw [show (6 : Int32) = nI 6 from rfl]
  by_cases c1 : isN x1 0 6
  case neg => rw [below_f (by omega) c1, in_f (lo := 0) (n := 6) rfl rfl (by omega) c1]; exact ⟨_, _, _, rfl, rfl, h⟩
  obtain ⟨p, hp, rfl⟩ := isN_lt c1
  rw [below_t hp (by omega), in_t (lo := 0) (n := 6) rfl rfl (by omega) c1, b1, b1, z1, z1]
  by_cases c2 : isN x2 0 (A 2)
  case neg => rw [isHandX_f hX.2.2.2.2.2.1 hO c2, isHandM_f hM hO c2]; exact ⟨_, _, _, rfl, rfl, h⟩
  obtain ⟨k, hk, rfl⟩ := isN_lt c2
  rw [isHandX_t hX.2.2.2.2.2.1 hO hk, isHandM_t hM hO hk, b1, b1, z1, z1]
  by_cases c3 : isN x3 1 10
  case neg =>
    rw [in_f (lo := 1) (n := 10) rfl rfl (by omega) c3, b0, z0]
    rw [isN_iff (by omega)] at c3
    by_cases c4 : x3 < 1
    · rw [if_pos c4]; exact ⟨_, _, _, rfl, rfl, h⟩
    · rw [if_neg c4, if_neg (show ¬ x3 ≤ 9 by
        rw [Int32.lt_iff_toInt_lt, show (1 : Int32).toInt = 1 by decide] at c4
        rw [Int32.le_iff_toInt_le, show (9 : Int32).toInt = 9 by decide]
        omega)]
      exact ⟨_, _, _, rfl, rfl, h⟩
  rw [in_t (lo := 1) (n := 10) rfl rfl (by omega) c3, b1, z1]
  obtain ⟨w, hw1, hw2, rfl⟩ := c3
  have hC := hO.2.2.2.1
  have h2' := hO.2.2.1
  rw [if_neg (show ¬ nI w < 1 by rw [show (1 : Int32) = nI 1 from rfl, lt_n (by omega) (by omega)]; omega), if_pos (show nI w ≤ 9 by rw [show (9 : Int32) = nI 9 from rfl, le_n (by omega) (by omega)]; omega), hX.2.2.2.2.2.2.1, hM 3 (by omega), show (10 : Int32) = nI 10 from rfl]
  by_cases c : A 3 < 10
  case neg => rw [if_neg (by rw [lt_n (by omega) (by omega)]; omega), if_pos (by rw [eq_n (by omega) (by omega)]; omega)]; exact ⟨_, _, _, rfl, rfl, h⟩
  rw [if_pos (show nI (A 3) < nI 10 by rw [lt_n (by omega) (by omega)]; omega), if_neg (show ¬ nI (A 3) = nI 10 by rw [eq_n (by omega) (by omega)]; omega)]
  obtain ⟨σ1, μ1, e1, e2, hk'⟩ := kr hF hH hB t3 t4 hM hO hD hP 0
  obtain ⟨k1, k2, k3, -⟩ := id hk'
  have hX1 : XN σ1 A := by
    unfold XN at *
    rw [k1 13 (by omega) (by omega) (by omega), k1 14 (by omega) (by omega) (by omega), k1 15 (by omega) (by omega) (by omega), k1 16 (by omega) (by omega) (by omega), k1 17 (by omega) (by omega) (by omega), k1 18 (by omega) (by omega) (by omega), k1 19 (by omega) (by omega) (by omega), k1 20 (by omega) (by omega) (by omega), k1 21 (by omega) (by omega) (by omega), k1 22 (by omega) (by omega) (by omega), k1 23 (by omega) (by omega) (by omega)]
    exact hX
  have hM1 : MA (μ1 5) A := by rw [k2 5 (by omega) (by omega)]; exact hM
  have ea : f_X1_addCopy σ1 (nI p) (nI k) (nI w) = some (mst (mst (mst (mst (mst σ1 16 (A 3) (nI p)) 17 (A 3) (nI k)) 18 (A 3) (nI w)) 19 (A 3) (nI (A 5))) 13 7 (nI (A 3 + 1))) := by
    unfold f_X1_addCopy
    rw [hX1.2.2.2.2.2.2.1, show (10 : Int32) = nI 10 from rfl, if_pos (show nI (A 3) < nI 10 by rw [lt_n (by omega) (by omega)]; omega), gB (by omega) (by omega), gB (by omega) (by omega), gB (by omega) (by omega), gB (by omega) (by omega), cl_n (by omega), hX1.2.2.1, s1]
  rw [hX.2.2.2.2.1, e1, bs, ea, bs, gB (by omega) (by omega), e2, bs, a15, gB (by omega) (by omega), a25, gB (by omega) (by omega), a35, gB (by omega) (by omega), bs, a45, gB (by omega) (by omega), a55, gB (by omega) (by omega), bs, a11, gB (by omega) (by omega), cl_n (by omega), cl_n (by omega), cl_n (by omega), cl_n (by omega), cl_n (by omega), cl_n (by omega), cl_n (by omega)]
  generalize hσ2 : mst (mst (mst (mst (mst σ1 16 (A 3) (nI p)) 17 (A 3) (nI k)) 18 (A 3) (nI w)) 19 (A 3) (nI (A 5))) 13 7 (nI (A 3 + 1)) = σ2
  have y7 : σ2 13 7 = nI (A 3 + 1) := by rw [← hσ2, mst_at]; rfl
  have y4 : σ2 13 4 = nI (A 6) := by rw [← hσ2, mst_at]; exact hX1.2.2.2.1
  have y15 : σ2 15 k = nI (A (11 + k)) := by rw [← hσ2]; exact (hX1.2.2.2.2.2.2.2.2.1 k hk).2
  rw [y7, y4, y15, nI_add, show (1 : Int32) = nI 1 from rfl, pk_sub (by omega), Nat.add_sub_cancel]
  have m5 : mst (mst (mst μ1 5 (15 + A 3) (nI p)) 5 (25 + A 3) (nI k)) 5 (35 + A 3) (nI w) 5 5 = nI (A 5) := by
    rw [mst_at, mst_at, mst_at]
    unfold upd
    rw [if_neg (by omega), if_neg (by omega), if_neg (by omega)]
    exact hM1 5 (by omega)
  rw [m5]
  generalize hμ2 : mst (mst (mst (mst (mst μ1 5 (15 + A 3) (nI p)) 5 (25 + A 3) (nI k)) 5 (35 + A 3) (nI w)) 5 (45 + A 3) (nI (A 5))) 5 (55 + A 3) 0 = μ2
  have w0 : μ2 5 = upd (upd (upd (upd (upd (μ1 5) (15 + A 3) (nI p)) (25 + A 3) (nI k)) (35 + A 3) (nI w)) (45 + A 3) (nI (A 5))) (55 + A 3) 0 := by rw [← hμ2, mst_at, mst_at, mst_at, mst_at, mst_at]
  have wl : ∀ j, j < 15 → μ2 5 j = nI (A j) := fun j hj => by
    rw [w0]
    unfold upd
    rw [if_neg (by omega), if_neg (by omega), if_neg (by omega), if_neg (by omega), if_neg (by omega)]
    exact hM1 j (by omega)
  rw [wl 6 (by omega), wl 3 (by omega), wl (11 + k) (by omega), nI_add, nI_add]
  refine ⟨nI (A 3), _, _, rfl, rfl, Sim.did (A' := wrt A p k w) h t2 hk' ⟨wrt_eqA hO c, rfl, Or.inl ⟨rfl, wrt_3, wrt_lo (by omega) (by omega) (by omega), ?_⟩⟩ (wrt_ok hO c hp hk hw1 hw2) (by rw [wrt_lo (by omega) (by omega) (by omega)]; exact hD) (wrt_rp hO c hk hP) (wrt_xn hX1 hO c ?_ ?_ ?_ ?_ ?_ ?_) ?_ ?_ ?_ ?_⟩
  · rw [wrt_25, wrt_lo (j := 11 + k) (by omega) (by omega) (by omega)]; exact wrt_6
  · rw [mst_at, ← hσ2, mst_at]; rfl
  · rw [← hσ2]; rfl
  · rw [← hσ2]; rfl
  · rw [← hσ2]; rfl
  · rw [← hσ2]; rfl
  · intro q hq
    rw [mst_ne (by omega), ← hσ2, mst_ne (by omega), mst_ne (by omega), mst_ne (by omega), mst_ne (by omega), mst_ne (by omega)]
  · rw [mst_at, mst_at, w0]
    exact wrt_ma hM1 hO c hk
  · rw [mst_at, ← hσ2, mst_at]
    show σ1 13 0 = _
    rw [k1 13 (by omega) (by omega) (by omega)]
  · intro q hq
    rw [mst_ne (by omega), ← hσ2, mst_ne (by omega), mst_ne (by omega), mst_ne (by omega), mst_ne (by omega), mst_ne (by omega)]
  · intro q hq
    rw [mst_ne hq, mst_ne hq, ← hμ2, mst_ne hq, mst_ne hq, mst_ne hq, mst_ne hq, mst_ne hq]
theorem s_undo (h : Sim σ μ) (hF : 2100 ≤ fuel) : SQ (f_X6_undo σ) (f_X7_undo fuel μ) := by
  obtain ⟨hR, h2, h3, h4, ⟨A, a, B, hO, hD, hP, hX, hM, t1, t2, t3, t4, hH, hB⟩, h6, h7⟩ := id h
  unfold f_X6_undo f_X7_undo
  have ha := hH.1
  rcases Nat.eq_zero_or_pos a with rfl | ha0
  · rw [t3, t4]; exact ⟨_, _, _, rfl, rfl, h⟩
  obtain ⟨b, rfl⟩ : ∃ b, a = b + 1 := ⟨a - 1, by omega⟩
  obtain ⟨g1, g2, g3, g4, ⟨q0, qw, qs⟩⟩ := hH.2 b (by omega)
  rw [hB] at q0 qs
  have hp : (0 : Int32) < σ 59 2 := by rw [t3, show (0 : Int32) = nI 0 from rfl, lt_n (by omega) (by omega)]; omega
  rw [if_pos hp, if_neg (show ¬ μ 0 9 = 0 by rw [t4, show (0 : Int32) = nI 0 from rfl, eq_n (by omega) (by omega)]; omega), t4, show nI (b + 1) - 1 = nI b by rw [show (1 : Int32) = nI 1 from rfl, pk_sub (by omega)]; rfl, show (85 : Int32) = nI 85 from rfl, pk_mul]
  obtain ⟨μ1, e1, f1, v1, w1⟩ := X7_copies_6_5_eq (σ := mst μ 0 9 (nI b)) (fuel := fuel) (i := 85 * b) (j := 0) (by omega) (by omega) (by omega)
  rw [show f_X7_copies_6_5 fuel (mst μ 0 9 (nI b)) (nI (85 * b)) 0 = some μ1 from e1, bs, f1 0 (by omega), show mst μ 0 9 (nI b) 0 9 = nI b by rw [mst_at]; rfl]
  have hM1 : MA (μ1 5) (B b) := fun i hi => by
    have := v1 i hi
    rw [Nat.zero_add, mst_ne (show 6 ≠ 0 by omega)] at this
    rw [this]; exact g4 i hi
  have hC := hO.2.2.2.1
  have hC' := g1.2.2.2.1
  have hB2 := g1.2.2.1
  obtain ⟨x1, x2, x3, x4, x5, x6, x7, x8, xk, xc, xd⟩ := id hX
  obtain ⟨ee0, ee1, ee2, ee4, eek, eec, eed⟩ := q0
  -- the class gives back the row of before
  have hu : ∃ σ2, f_X0_undoLatest σ = some σ2 ∧ (∀ q, q ≠ 59 → q ≠ 13 → σ2 q = σ q) ∧ σ2 59 2 = nI b ∧ σ2 13 0 = σ 13 0 ∧ σ2 13 1 = σ 13 1 ∧ σ2 13 2 = σ 13 2 ∧ σ2 13 3 = nI (B b 5) ∧ σ2 13 4 = nI (B b 6) ∧ σ2 13 5 = nI (wb (B b)) ∧ σ2 13 6 = σ 13 6 ∧ σ2 13 7 = nI (B b 3) ∧ σ2 13 8 = σ 13 8 := by
    unfold f_X0_undoLatest
    rw [if_pos hp, t3, show nI (b + 1) - 1 = nI b by rw [show (1 : Int32) = nI 1 from rfl, pk_sub (by omega)]; rfl, gB (by omega) (by omega), gB (by omega) (by omega), cl_n (by omega), qw]
    rcases qs with ⟨qs, s1', s2', s3'⟩ | ⟨qs, s1', s2', s3'⟩ | ⟨qs, s1', s2', s3'⟩
    · rw [qs, if_neg (show ¬ (0 : Int32) = 2 by decide)]
      unfold f_X0_undoLatest_54
      have z59 : mst (mst σ 59 2 (nI b)) 13 5 (nI (wb (B b))) 59 2 = nI b := by rw [mst_ne (by omega), mst_at]; rfl
      have z60 : mst (mst σ 59 2 (nI b)) 13 5 (nI (wb (B b))) 60 b = 0 := by rw [mst_ne (by omega), mst_ne (by omega)]; exact qs
      have z7 : mst (mst σ 59 2 (nI b)) 13 5 (nI (wb (B b))) 13 7 = nI (B b 3 + 1) := by rw [mst_at, mst_ne (by omega), ← s1', ← x7]; rfl
      have z4 : mst (mst σ 59 2 (nI b)) 13 5 (nI (wb (B b))) 13 4 = nI (A 6) := by rw [mst_at, mst_ne (by omega), ← x4]; rfl
      have z17 : mst (mst σ 59 2 (nI b)) 13 5 (nI (wb (B b))) 17 (B b 3) = nI (A (25 + B b 3)) := by rw [mst_ne (by omega), mst_ne (by omega)]; exact (xc _ (by omega)).2.1
      have z15 : mst (mst σ 59 2 (nI b)) 13 5 (nI (wb (B b))) 15 (A (25 + B b 3)) = nI (A (11 + A (25 + B b 3))) := by rw [mst_ne (by omega), mst_ne (by omega)]; exact (xk _ (hO.2.2.2.2.2.2.2.1 (B b 3) (by omega)).2.1).2
      have ok := hO.2.2.2.2.2.2.2.1 (B b 3) (by omega)
      have hH4 := hO.2.2.1
      rw [z59, gB (by omega) (by omega), cl_n (by omega), z60, if_pos rfl, z7, if_neg (show ¬ nI (B b 3 + 1) ≤ 0 by rw [show (0 : Int32) = nI 0 from rfl, le_n (by omega) (by omega)]; omega), show nI (B b 3 + 1) - 1 = nI (B b 3) by rw [show (1 : Int32) = nI 1 from rfl, pk_sub (by omega)]; rfl, gB (by omega) (by omega), cl_n (by omega), z17, gB (by omega) (by omega), cl_n (by omega), z15, z4, s3', ← nI_add, Int32.add_sub_cancel]
      refine ⟨_, rfl, fun q r1 r2 => by rw [mst_ne r2, mst_ne r2, mst_ne r2, mst_ne r1], ?_, ?_, ?_, ?_, ?_, ?_, ?_, ?_, ?_, ?_⟩
      · exact z59
      · rfl
      · rfl
      · rfl
      · rw [← s2', ← x3]; rfl
      · rfl
      · rfl
      · rfl
      · rfl
      · rfl
    · rw [qs, if_neg (show ¬ (1 : Int32) = 2 by decide)]
      unfold f_X0_undoLatest_54
      have z59 : mst (mst σ 59 2 (nI b)) 13 5 (nI (wb (B b))) 59 2 = nI b := by rw [mst_ne (by omega), mst_at]; rfl
      have z60 : mst (mst σ 59 2 (nI b)) 13 5 (nI (wb (B b))) 60 b = 1 := by rw [mst_ne (by omega), mst_ne (by omega)]; exact qs
      rw [z59, gB (by omega) (by omega), cl_n (by omega), z60, if_neg (show ¬ (1 : Int32) = 0 by decide)]
      refine ⟨_, rfl, fun q r1 r2 => by rw [mst_ne r2, mst_ne r1], z59, rfl, rfl, rfl, ?_, ?_, rfl, rfl, ?_, rfl⟩
      · rw [← s2', ← x3]; rfl
      · rw [← s3', ← x4]; rfl
      · rw [← s1', ← x7]; rfl
    · rw [qs, if_pos rfl]
      unfold f_X0_undoLatest_54
      have z59 : mst (mst (mst σ 59 2 (nI b)) 13 5 (nI (wb (B b)))) 13 3 (σ 13 3 - 1) 59 2 = nI b := by rw [mst_ne (by omega), mst_ne (by omega), mst_at]; rfl
      have z60 : mst (mst (mst σ 59 2 (nI b)) 13 5 (nI (wb (B b)))) 13 3 (σ 13 3 - 1) 60 b = 2 := by rw [mst_ne (by omega), mst_ne (by omega), mst_ne (by omega)]; exact qs
      rw [z59, gB (by omega) (by omega), cl_n (by omega), z60, if_neg (show ¬ (2 : Int32) = 0 by decide)]
      refine ⟨_, rfl, fun q r1 r2 => by rw [mst_ne r2, mst_ne r2, mst_ne r1], z59, rfl, rfl, rfl, ?_, ?_, rfl, rfl, ?_, rfl⟩
      · rw [x3, s2', show (1 : Int32) = nI 1 from rfl, pk_sub (by omega), mst_at]; rfl
      · rw [← s3', ← x4]; rfl
      · rw [← s1', ← x7]; rfl
  obtain ⟨σ2, u1, u2, u3, u4, u5, u6, u7, u8, u9, u10, u11, u12⟩ := hu
  rw [u1, bs, u3]
  refine ⟨nI b, σ2, μ1, rfl, rfl, Sim.acts h (fun q hq => u2 q (by omega) (by omega)) (fun q q1 q2 q3 => by rw [f1 q q2, mst_ne q1]) (fun k hk => by rw [f1 0 (by omega), mst_at]; exact if_neg hk) ⟨B b, b, B, g1, g2, g3, ⟨?_, ?_, u7, u8, u9, ?_, u11, ?_, ?_, ?_, ?_⟩, hM1, ?_, ?_, u3, ?_, ?_, rfl⟩⟩
  · rw [u5, x1, ee0]
  · rw [u6, x2, ee1]
  · rw [u10, x6, ee2]
  · rw [u12, x8, ee4]
  · intro k hk
    rw [u2 14 (by omega) (by omega), u2 15 (by omega) (by omega), (eek k hk).1, (eek k hk).2]
    exact xk k (by omega)
  · intro k hk
    obtain ⟨r1, r2, r3, r4⟩ := eec k hk
    rw [u2 16 (by omega) (by omega), u2 17 (by omega) (by omega), u2 18 (by omega) (by omega), u2 19 (by omega) (by omega), r1, r2, r3, r4]
    exact xc k (by rcases qs with ⟨_, s, _⟩ | ⟨_, s, _⟩ | ⟨_, s, _⟩ <;> omega)
  · intro k hk
    obtain ⟨r1, r2, r3, r4⟩ := eed k hk
    rw [u2 20 (by omega) (by omega), u2 21 (by omega) (by omega), u2 22 (by omega) (by omega), u2 23 (by omega) (by omega), r1, r2, r3, r4]
    exact xd k (by omega)
  · rw [u4, u2 24 (by omega) (by omega), u2 35 (by omega) (by omega)]; exact t1
  · rw [u4, f1 0 (by omega), mst_at]; exact t2
  · rw [f1 0 (by omega), mst_at]; rfl
  · rw [u2 60 (by omega) (by omega), u2 61 (by omega) (by omega), f1 6 (by omega), mst_ne (by omega)]
    exact ⟨by omega, fun j hj => hH.2 j (by omega)⟩
end WR2
