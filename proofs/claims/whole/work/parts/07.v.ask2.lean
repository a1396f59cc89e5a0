/-! ask: both sides -/
section ASK2
variable {σ μ : Mem} {fuel : Nat} {A : Ar} {h : Nat}
theorem E9.ma {μ μ' : Mem} (e : E9 μ μ') (hM : MA (μ 5) A) : MA (μ' 5) A := by rw [e.1 5 (by omega) (by omega)]; exact hM
def MK (k : Nat) (h : Nat) (u : Int32) : Int32 × List Int32 := if k = 2 then (2 * (nI h + u), [24, 21, 20]) else if k = 3 then (nI h + u - 1000, [22, 21, 20]) else (nI h + u, [21, 20])
def SZ (k : Nat) (c : Int32) : Int32 × List Int32 := if k = 5 then (2 * (c - 100), [14, 13, 10]) else (c - 100, [13, 10])
theorem nk {a b : Nat} (ha : a < 100) (hb : b < 100) : (nI a = nI b) = (a = b) := eq_n (by omega) (by omega)
theorem mark_eq (hF : 1000 ≤ fuel) (hM : MA (μ 5) A) (hO : AOK A) (hh : h < A 2) {l : List Int32} (hT : TM μ l) (hl : l.length ≤ 10) : ∃ μ', f_X7_mark fuel μ (nI h) = some ((MK (A (7 + h)) h (nI (unw A h))).1, μ') ∧ E9 μ μ' ∧ TM μ' (l ++ (MK (A (7 + h)) h (nI (unw A h))).2) := by
  have hH := hO.2.2.1
  have ok := hO.2.2.2.2.2.2.1 h hh
  unfold f_X7_mark f_X7_mark_44
  rw [a7, gB (by omega) (by omega), blackOf_eq hM hO (by omega) (by omega), bs, cl_n (by omega), hM (7 + h) (by omega)]
  obtain ⟨-, ok, ok2, -⟩ : True ∧ _ := ⟨trivial, ok⟩
  generalize A (7 + h) = k at *
  unfold MK
  rcases (show k = 1 ∨ k = 2 ∨ k = 3 ∨ k = 4 ∨ k = 5 by omega) with rfl | rfl | rfl | rfl | rfl
  · obtain ⟨μ', e1, e2, e3⟩ := leaveM2 (a := 21) (b := 20) (y := 2120) hF hT (by omega) (by decide) (by decide) (by decide) (by decide)
    refine ⟨μ', ?_, e2, e3⟩
    rw [if_neg (by decide), if_neg (by decide), e1]; rfl
  · obtain ⟨μ', e1, e2, e3⟩ := leaveM3 (a := 24) (b := 21) (c := 20) (y := 242120) hF hT (by omega) (by decide) (by decide) (by decide) (by decide) (by decide) (by decide)
    refine ⟨μ', ?_, e2, e3⟩
    rw [if_pos rfl, e1]; rfl
  · obtain ⟨μ', e1, e2, e3⟩ := leaveM3 (a := 22) (b := 21) (c := 20) (y := 222120) hF hT (by omega) (by decide) (by decide) (by decide) (by decide) (by decide) (by decide)
    refine ⟨μ', ?_, e2, e3⟩
    rw [if_neg (by decide), if_pos rfl, e1]; rfl
  · obtain ⟨μ', e1, e2, e3⟩ := leaveM2 (a := 21) (b := 20) (y := 2120) hF hT (by omega) (by decide) (by decide) (by decide) (by decide)
    refine ⟨μ', ?_, e2, e3⟩
    rw [if_neg (by decide), if_neg (by decide), e1]; rfl
  · obtain ⟨μ', e1, e2, e3⟩ := leaveM2 (a := 21) (b := 20) (y := 2120) hF hT (by omega) (by decide) (by decide) (by decide) (by decide)
    refine ⟨μ', ?_, e2, e3⟩
    rw [if_neg (by decide), if_neg (by decide), e1]; rfl
theorem size_eq (hF : 1000 ≤ fuel) (hM : MA (μ 5) A) (hO : AOK A) (hh : h < A 2) {l : List Int32} (hT : TM μ l) (hl : l.length ≤ 10) : ∃ μ', f_X7_sizeOf fuel μ (nI h) = some ((SZ (A (7 + h)) (nI (A (11 + h)))).1, μ') ∧ E9 μ μ' ∧ TM μ' (l ++ (SZ (A (7 + h)) (nI (A (11 + h)))).2) := by
  have hH := hO.2.2.1
  have ok := hO.2.2.2.2.2.2.1 h hh
  unfold f_X7_sizeOf f_X7_sizeOf_31 f_X7_sizeOf_46
  rw [a7, a11, gB (by omega) (by omega), gB (by omega) (by omega), cl_n (by omega), cl_n (by omega), hM (7 + h) (by omega), hM (11 + h) (by omega)]
  unfold SZ
  by_cases k5 : A (7 + h) = 5
  · obtain ⟨μ', e1, e2, e3⟩ := leaveM3 (a := 14) (b := 13) (c := 10) (y := 141310) hF hT (by omega) (by decide) (by decide) (by decide) (by decide) (by decide) (by decide)
    rw [if_pos k5, k5, if_pos (show nI 5 = 5 from rfl), if_neg (show ¬ (1 : Int32) = 0 by decide), e1]
    exact ⟨μ', rfl, e2, e3⟩
  · obtain ⟨μ', e1, e2, e3⟩ := leaveM2 (a := 13) (b := 10) (y := 1310) hF hT (by omega) (by decide) (by decide) (by decide) (by decide)
    rw [if_neg k5, if_neg (show ¬ nI (A (7 + h)) = 5 by rw [show (5 : Int32) = nI 5 from rfl, eq_n (by omega) (by omega)]; exact k5), if_pos (show (0 : Int32) = 0 from rfl), e1]
    exact ⟨μ', rfl, e2, e3⟩
/-- the class' answers -/
theorem raM_k (hF : 1000 ≤ fuel) (hO : AOK A) (hh : h < A 2) (e : Nat) (hk : ¬ 4 ≤ A (7 + h)) : RA fuel (e + 3) 1 A h (MK (A (7 + h)) h (nI (unw A h))).1 (MK (A (7 + h)) h (nI (unw A h))).2 := by
  have ok := hO.2.2.2.2.2.2.1 h hh
  have hc := fun σ => nearM (σ := σ) hF (k := A (7 + h)) ⟨ok.1, ok.2.1⟩
  unfold MK
  by_cases k2 : A (7 + h) = 2
  · rw [if_pos k2]
    exact raM hO hh (fun σ => (hc σ).trans (by rw [if_pos k2])) (r24 (r21 hO (by omega) hh r20))
  · rw [if_neg k2]
    by_cases k3 : A (7 + h) = 3
    · rw [if_pos k3]
      exact raM hO hh (fun σ => (hc σ).trans (by rw [if_neg k2, if_pos k3])) (r22 (r21 hO (by omega) hh r20))
    · rw [if_neg k3]
      exact raM hO hh (fun σ => (hc σ).trans (by rw [if_neg k2, if_neg k3, if_neg (by omega)])) (r21 hO (by omega) hh r20)
theorem raS_k (hF : 1000 ≤ fuel) (hO : AOK A) (hh : h < A 2) (e : Nat) (hk : 4 ≤ A (7 + h)) : RA fuel (e + 3) 0 A h (SZ (A (7 + h)) (nI (A (11 + h)))).1 (SZ (A (7 + h)) (nI (A (11 + h)))).2 := by
  have ok := hO.2.2.2.2.2.2.1 h hh
  have hc := fun σ => nearS (σ := σ) hF (k := A (7 + h)) ⟨ok.1, ok.2.1⟩
  unfold SZ
  by_cases k5 : A (7 + h) = 5
  · rw [if_pos k5]
    exact raS hO hh (fun σ => (hc σ).trans (by rw [if_neg (by omega), if_neg (by omega), if_pos k5])) (r14 (r13 (r10 hO hh)))
  · rw [if_neg k5]
    exact raS hO hh (fun σ => (hc σ).trans (by rw [if_neg (by omega), if_pos (by omega)])) (r13 (r10 hO hh))
theorem s_ask (hS : Sim σ μ) (hF : 1000 ≤ fuel) (x1 x2 : Int32) : SQ (f_X6_ask fuel (rbN fuel 7) σ x1 x2) (f_X7_ask fuel μ x1 x2) := by
  obtain ⟨hR, h2, h3, h4, ⟨A, a, B, hO, hD, hP, hX, hM, t1, t2, t3, t4, hH, hB⟩, h6, h7⟩ := id hS
  unfold f_X6_ask f_X7_ask
  by_cases c1 : isN x1 0 (A 2)
  case neg => rw [isHandX_f hX.2.2.2.2.2.1 hO c1, isHandM_f hM hO c1]; exact ⟨_, _, _, rfl, rfl, hS⟩
  obtain ⟨h, hh, rfl⟩ := isN_lt c1
  rw [isHandX_t hX.2.2.2.2.2.1 hO hh, isHandM_t hM hO hh, b1, b1, z1, z1, show (2 : Int32) = nI 2 from rfl]
  by_cases c2 : isN x2 0 2
  case neg => rw [below_f (by omega) c2, in_f (lo := 0) (n := 2) rfl rfl (by omega) c2]; exact ⟨_, _, _, rfl, rfl, hS⟩
  obtain ⟨m, hm, rfl⟩ := isN_lt c2
  have hA2 := hO.2.2.1
  have ok := hO.2.2.2.2.2.2.1 h hh
  rw [below_t hm (by omega), in_t (lo := 0) (n := 2) rfl rfl (by omega) c2, b1, b1, z1, z1, a7, gB (by omega) (by omega), cl_n (by omega), hM (7 + h) (by omega)]
  have hT : TX (mst σ 66 1 0) [] := ⟨by rw [mst_at]; rfl, fun i hi => absurd hi (by simp)⟩
  have hU : TM (mst μ 0 13 0) [] := ⟨by rw [mst_at]; rfl, fun i hi => absurd hi (by simp)⟩
  have eX : E67 σ (mst σ 66 1 0) := fun q q1 q2 => mst_ne q1
  have eM : E9 μ (mst μ 0 13 0) := ⟨fun q q1 q2 => mst_ne q1, fun k hk => by rw [mst_at]; exact if_neg hk⟩
  have hX1 := eX.xn hX
  have hM1 := eM.ma hM
  have fin : ∀ {k v : Int32} {cs : List Int32} {μ' : Mem}, RA fuel 7 k A h v cs → cs.length ≤ 16 → E9 (mst μ 0 13 0) μ' → TM μ' cs → ∃ σ', f_X2_answerOf fuel (rbN fuel 7) σ (nI h) k = some (v, σ') ∧ Sim σ' μ' := by
    intro k v cs μ' r hl e1 e2
    obtain ⟨σ', g1, g2, g3⟩ := r (mst σ 66 1 0) [] 0 hX1 hT (by simpa using hl) (by omega)
    refine ⟨σ', ?_, hS.asked (eX.tr g2) (eM.tr e1) hl g3 e2⟩
    unfold f_X2_answerOf
    rw [show f_X2_askAnew fuel (rbN fuel 7) (mst σ 66 1 0) (nI h) k 0 = some (v, σ') from g1]
    rfl
  have k4 : (4 ≤ nI (A (7 + h))) = (4 ≤ A (7 + h)) := le_n (a := 4) (by omega) (by omega)
  by_cases c4 : 4 ≤ A (7 + h)
  · rw [if_pos (by rw [k4]; exact c4)]
    rcases (show m = 0 ∨ m = 1 by omega) with rfl | rfl
    · rw [if_pos (show nI 0 = 0 from rfl)]
      obtain ⟨μ', e1, e2, e3⟩ := size_eq hF hM1 hO hh hU (by simp)
      obtain ⟨σ', g1, g2⟩ := fin (raS_k hF hO hh 4 c4) (by unfold SZ; split <;> simp) e2 e3
      rw [e1, bs, show f_X2_answerOf fuel (rbN fuel 7) σ (nI h) (nI 0) = _ from g1, bs]
      exact ⟨_, _, _, rfl, rfl, g2⟩
    · rw [if_neg (show ¬ nI 1 = 0 by decide)]
      obtain ⟨μ1, e1, e2, e3⟩ := leaveM2 (a := 23) (b := 20) (y := 2320) hF hU (by simp) (by decide) (by decide) (by decide) (by decide)
      obtain ⟨μ', f1, f2, f3⟩ := size_eq hF (e2.ma hM1) hO hh e3 (by simp)
      have hc := fun σ => nearM (σ := σ) hF (k := A (7 + h)) ⟨ok.1, ok.2.1⟩
      obtain ⟨σ', g1, g2⟩ := fin (raM hO hh (fun σ => (hc σ).trans (by rw [if_neg (by omega), if_neg (by omega), if_pos (by omega)])) (r23 (e := 6) r20 (raS_k hF hO hh 3 c4))) (by unfold SZ; split <;> simp) (e2.tr f2) (by rw [List.append_assoc] at f3; exact f3)
      rw [e1, bs, f1, bs, show f_X2_answerOf fuel (rbN fuel 7) σ (nI h) (nI 1) = _ from g1, bs]
      exact ⟨_, _, _, rfl, rfl, g2⟩
  · rw [if_neg (by rw [k4]; exact c4)]
    rcases (show m = 0 ∨ m = 1 by omega) with rfl | rfl
    · rw [if_neg (show ¬ nI 0 = 1 by decide)]
      have hc := fun σ => nearS (σ := σ) hF (k := A (7 + h)) ⟨ok.1, ok.2.1⟩
      unfold f_X7_ask_67
      rw [a11]
      by_cases k2 : A (7 + h) = 2
      · obtain ⟨μ1, e1, e2, e3⟩ := leaveM3 (a := 12) (b := 11) (c := 10) (y := 121110) hF hU (by simp) (by decide) (by decide) (by decide) (by decide) (by decide) (by decide)
        obtain ⟨μ', f1, f2, f3⟩ := mark_eq hF (e2.ma hM1) hO hh e3 (by simp)
        have hh' := raM_k hF hO hh 2 c4
        obtain ⟨σ', g1, g2⟩ := fin (raS hO hh (fun σ => (hc σ).trans (by rw [if_pos k2])) (r12 (r11 (e := 5) (r10 hO hh) hh'))) (by unfold MK; rw [if_pos k2]; simp) (e2.tr f2) (by rw [List.append_assoc] at f3; exact f3)
        rw [if_pos (show nI (A (7 + h)) = nI 2 by rw [k2]), e1, bs, gB (by omega) (by omega), f1, bs, if_pos (show nI (A (7 + h)) = 2 by rw [k2]; rfl), cl_n (by omega), e2.ma hM1 (11 + h) (by omega), show f_X2_answerOf fuel (rbN fuel 7) σ (nI h) (nI 0) = _ from g1, bs]
        exact ⟨_, _, _, rfl, rfl, g2⟩
      · obtain ⟨μ1, e1, e2, e3⟩ := leaveM2 (a := 11) (b := 10) (y := 1110) hF hU (by simp) (by decide) (by decide) (by decide) (by decide)
        obtain ⟨μ', f1, f2, f3⟩ := mark_eq hF (e2.ma hM1) hO hh e3 (by simp)
        have hh' := raM_k hF hO hh 3 c4
        have n2 : ¬ nI (A (7 + h)) = nI 2 := by rw [nk (by omega) (by omega)]; exact k2
        obtain ⟨σ', g1, g2⟩ := fin (raS hO hh (fun σ => (hc σ).trans (by rw [if_neg k2, if_neg (by omega), if_neg (by omega)])) (r11 (e := 6) (r10 hO hh) hh')) (by unfold MK; split; simp; split <;> simp) (e2.tr f2) (by rw [List.append_assoc] at f3; exact f3)
        rw [if_neg n2, e1, bs, gB (by omega) (by omega), f1, bs, if_neg (show ¬ nI (A (7 + h)) = 2 from n2), cl_n (by omega), e2.ma hM1 (11 + h) (by omega), show f_X2_answerOf fuel (rbN fuel 7) σ (nI h) (nI 0) = _ from g1, bs]
        exact ⟨_, _, _, rfl, rfl, g2⟩
    · rw [if_pos (show nI 1 = 1 from rfl)]
      obtain ⟨μ', e1, e2, e3⟩ := mark_eq hF hM1 hO hh hU (by simp)
      obtain ⟨σ', g1, g2⟩ := fin (raM_k hF hO hh 4 c4) (by unfold MK; split; simp; split <;> simp) e2 e3
      rw [e1, bs, show f_X2_answerOf fuel (rbN fuel 7) σ (nI h) (nI 1) = _ from g1, bs]
      exact ⟨_, _, _, rfl, rfl, g2⟩
end ASK2
