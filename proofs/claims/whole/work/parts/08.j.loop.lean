/-! the law: its loop -/
theorem law_sw {P : PT} {M : MT} {D : va_G} {cs : ClassId × ClassId × ClassId} {A : Nat → Prop} {Q : State → Prop} {n z : Nat} {ad am : Nat → Nat} {ts : Nat × Nat × Nat} {b L : Nat} {xs : Nat → Int32} {σ μ : Mem} {t v : Nat} (C : LC P M D cs ts A b L xs n z) (h : Sim σ μ) (ht : t + 6 ≤ L) (hv : v < 64) (K : ∀ σ' μ', Sim σ' μ' → CJ P M D A 4 Q 1260 (lvL b (ad 0) (am 0) t) [] (wPic (xW D cs ad ts) σ' ++ wPic (mW D cs am) μ') n z) : CJ P M D A 4 Q 33 (lvL b (ad 0) (am 0) t) [.int (nI v)] (wPic (xW D cs ad ts) σ ++ wPic (mW D cs am) μ) n z := by
  have hX := C.1
  have e : (nI v).toInt = v := nI_toInt (by omega)
  by_cases h36 : 35 < v
  · exact j_tableOut 1260 hX dL_law_33 (Or.inr (by rw [e]; omega)) rfl (K σ μ h)
  by_cases h0 : v = 0
  · subst h0
    exact j_tableIn 159 192 hX dL_law_33 (by rw [e]; omega) (by rw [e]; omega) (by rw [e]; rfl) rfl (lc_0 C h ht K)
  by_cases h1 : v = 1
  · subst h1
    exact j_tableIn 202 235 hX dL_law_33 (by rw [e]; omega) (by rw [e]; omega) (by rw [e]; rfl) rfl (lc_1 C h ht K)
  by_cases h2 : v = 2
  · subst h2
    exact j_tableIn 245 278 hX dL_law_33 (by rw [e]; omega) (by rw [e]; omega) (by rw [e]; rfl) rfl (lc_2 C h ht K)
  by_cases h3 : v = 3
  · subst h3
    exact j_tableIn 308 341 hX dL_law_33 (by rw [e]; omega) (by rw [e]; omega) (by rw [e]; rfl) rfl (lc_3 C h ht K)
  by_cases h4 : v = 4
  · subst h4
    exact j_tableIn 331 364 hX dL_law_33 (by rw [e]; omega) (by rw [e]; omega) (by rw [e]; rfl) rfl (lc_4 C h ht K)
  by_cases h5 : v = 5
  · subst h5
    exact j_tableIn 354 387 hX dL_law_33 (by rw [e]; omega) (by rw [e]; omega) (by rw [e]; rfl) rfl (lc_5 C h ht K)
  by_cases h6 : v = 6
  · subst h6
    exact j_tableIn 367 400 hX dL_law_33 (by rw [e]; omega) (by rw [e]; omega) (by rw [e]; rfl) rfl (lc_6 C h ht K)
  by_cases h7 : v = 7
  · subst h7
    exact j_tableIn 380 413 hX dL_law_33 (by rw [e]; omega) (by rw [e]; omega) (by rw [e]; rfl) rfl (lc_7 C h ht K)
  by_cases h8 : v = 8
  · subst h8
    exact j_tableIn 393 426 hX dL_law_33 (by rw [e]; omega) (by rw [e]; omega) (by rw [e]; rfl) rfl (lc_8 C h ht K)
  by_cases h9 : v = 9
  · subst h9
    exact j_tableIn 436 469 hX dL_law_33 (by rw [e]; omega) (by rw [e]; omega) (by rw [e]; rfl) rfl (lc_9 C h ht K)
  by_cases h10 : v = 10
  · subst h10
    exact j_tableIn 459 492 hX dL_law_33 (by rw [e]; omega) (by rw [e]; omega) (by rw [e]; rfl) rfl (lc_10 C h ht K)
  by_cases h11 : v = 11
  · subst h11
    exact j_tableIn 482 515 hX dL_law_33 (by rw [e]; omega) (by rw [e]; omega) (by rw [e]; rfl) rfl (lc_11 C h ht K)
  by_cases h12 : v = 12
  · subst h12
    exact j_tableIn 515 548 hX dL_law_33 (by rw [e]; omega) (by rw [e]; omega) (by rw [e]; rfl) rfl (lc_12 C h ht K)
  by_cases h13 : v = 13
  · subst h13
    exact j_tableIn 548 581 hX dL_law_33 (by rw [e]; omega) (by rw [e]; omega) (by rw [e]; rfl) rfl (lc_13 C h ht K)
  by_cases h14 : v = 14
  · subst h14
    exact j_tableIn 581 614 hX dL_law_33 (by rw [e]; omega) (by rw [e]; omega) (by rw [e]; rfl) rfl (lc_14 C h ht K)
  by_cases h15 : v = 15
  · subst h15
    exact j_tableIn 614 647 hX dL_law_33 (by rw [e]; omega) (by rw [e]; omega) (by rw [e]; rfl) rfl (lc_15 C h ht K)
  by_cases h16 : v = 16
  · subst h16
    exact j_tableIn 647 680 hX dL_law_33 (by rw [e]; omega) (by rw [e]; omega) (by rw [e]; rfl) rfl (lc_16 C h ht K)
  by_cases h17 : v = 17
  · subst h17
    exact j_tableIn 670 703 hX dL_law_33 (by rw [e]; omega) (by rw [e]; omega) (by rw [e]; rfl) rfl (lc_17 C h ht K)
  by_cases h18 : v = 18
  · subst h18
    exact j_tableIn 693 726 hX dL_law_33 (by rw [e]; omega) (by rw [e]; omega) (by rw [e]; rfl) rfl (lc_18 C h ht K)
  by_cases h19 : v = 19
  · subst h19
    exact j_tableIn 726 759 hX dL_law_33 (by rw [e]; omega) (by rw [e]; omega) (by rw [e]; rfl) rfl (lc_19 C h ht K)
  by_cases h20 : v = 20
  · subst h20
    exact j_tableIn 759 792 hX dL_law_33 (by rw [e]; omega) (by rw [e]; omega) (by rw [e]; rfl) rfl (lc_20 C h ht K)
  by_cases h21 : v = 21
  · subst h21
    exact j_tableIn 782 815 hX dL_law_33 (by rw [e]; omega) (by rw [e]; omega) (by rw [e]; rfl) rfl (lc_21 C h ht K)
  by_cases h22 : v = 22
  · subst h22
    exact j_tableIn 825 858 hX dL_law_33 (by rw [e]; omega) (by rw [e]; omega) (by rw [e]; rfl) rfl (lc_22 C h ht K)
  by_cases h23 : v = 23
  · subst h23
    exact j_tableIn 858 891 hX dL_law_33 (by rw [e]; omega) (by rw [e]; omega) (by rw [e]; rfl) rfl (lc_23 C h ht K)
  by_cases h24 : v = 24
  · subst h24
    exact j_tableIn 881 914 hX dL_law_33 (by rw [e]; omega) (by rw [e]; omega) (by rw [e]; rfl) rfl (lc_24 C h ht K)
  by_cases h25 : v = 25
  · subst h25
    exact j_tableIn 914 947 hX dL_law_33 (by rw [e]; omega) (by rw [e]; omega) (by rw [e]; rfl) rfl (lc_25 C h ht K)
  by_cases h26 : v = 26
  · subst h26
    exact j_tableIn 947 980 hX dL_law_33 (by rw [e]; omega) (by rw [e]; omega) (by rw [e]; rfl) rfl (lc_26 C h ht K)
  by_cases h27 : v = 27
  · subst h27
    exact j_tableIn 990 1023 hX dL_law_33 (by rw [e]; omega) (by rw [e]; omega) (by rw [e]; rfl) rfl (lc_27 C h ht K)
  by_cases h28 : v = 28
  · subst h28
    exact j_tableIn 1033 1066 hX dL_law_33 (by rw [e]; omega) (by rw [e]; omega) (by rw [e]; rfl) rfl (lc_28 C h ht K)
  by_cases h29 : v = 29
  · subst h29
    exact j_tableIn 1056 1089 hX dL_law_33 (by rw [e]; omega) (by rw [e]; omega) (by rw [e]; rfl) rfl (lc_29 C h ht K)
  by_cases h30 : v = 30
  · subst h30
    exact j_tableIn 1079 1112 hX dL_law_33 (by rw [e]; omega) (by rw [e]; omega) (by rw [e]; rfl) rfl (lc_30 C h ht K)
  by_cases h31 : v = 31
  · subst h31
    exact j_tableIn 1102 1135 hX dL_law_33 (by rw [e]; omega) (by rw [e]; omega) (by rw [e]; rfl) rfl (lc_31 C h ht K)
  by_cases h32 : v = 32
  · subst h32
    exact j_tableIn 1135 1168 hX dL_law_33 (by rw [e]; omega) (by rw [e]; omega) (by rw [e]; rfl) rfl (lc_32 C h ht K)
  by_cases h33 : v = 33
  · subst h33
    exact j_tableIn 1168 1201 hX dL_law_33 (by rw [e]; omega) (by rw [e]; omega) (by rw [e]; rfl) rfl (lc_33 C h ht K)
  by_cases h34 : v = 34
  · subst h34
    exact j_tableIn 1191 1224 hX dL_law_33 (by rw [e]; omega) (by rw [e]; omega) (by rw [e]; rfl) rfl (lc_34 C h ht K)
  by_cases h35 : v = 35
  · subst h35
    exact j_tableIn 1214 1247 hX dL_law_33 (by rw [e]; omega) (by rw [e]; omega) (by rw [e]; rfl) rfl (lc_35 C h ht K)
  omega
theorem law_loop {P : PT} {M : MT} {D : va_G} {cs : ClassId × ClassId × ClassId} {A : Nat → Prop} {Q : State → Prop} {n z : Nat} {ad am : Nat → Nat} {ts : Nat × Nat × Nat} {b L : Nat} {xs : Nat → Int32} (C : LC P M D cs ts A b L xs n z) (kend : ∀ lv ws, CJ P M D A 4 Q 1266 lv [] ws n z) : ∀ k t σ μ, t ≤ 400 → L < t + 6 * k → Sim σ μ → CJ P M D A 4 Q 18 (lvL b (ad 0) (am 0) t) [] (wPic (xW D cs ad ts) σ ++ wPic (mW D cs am) μ) n z := by
  obtain ⟨hX, hE, hAe, hs, hb, hL, hR, hnz⟩ := id C
  have hA : ¬ A b := by rw [hAe]; exact Nat.not_le.mpr hb
  intro k
  induction k with
  | zero =>
    intro t σ μ h4 hk h
    refine j_iload_n 0 3 hX dL_law_18 rfl rfl ?_
    refine j_aload_n 3 0 hX dL_law_19 rfl rfl ?_
    refine j_slen hX dL_law_20 hs hb hA ?_
    refine j_bipush (nI 6) hX dL_law_21 (by decide) ?_
    refine j_isub hX dL_law_23 ?_
    refine j_icmp_gt 1266 hX dL_law_24 rfl (fun _ => kend _ _) (fun q => absurd ?_ q)
    rw [Int32.lt_iff_toInt_lt, pk_sub_toInt (by omega) (by omega), nI_toInt (by omega)]
    omega
  | succ k ih =>
    intro t σ μ h4 hk h
    refine j_iload_n 0 3 hX dL_law_18 rfl rfl ?_
    refine j_aload_n 3 0 hX dL_law_19 rfl rfl ?_
    refine j_slen hX dL_law_20 hs hb hA ?_
    refine j_bipush (nI 6) hX dL_law_21 (by decide) ?_
    refine j_isub hX dL_law_23 ?_
    refine j_icmp_gt 1266 hX dL_law_24 rfl (fun _ => kend _ _) (fun q => ?_)
    rw [Int32.lt_iff_toInt_lt, pk_sub_toInt (by omega) (by omega), nI_toInt (by omega)] at q
    have ht : t + 6 ≤ L := by omega
    refine j_aload_n 3 0 hX dL_law_27 rfl rfl ?_
    refine j_iload_n 0 3 hX dL_law_28 rfl rfl ?_
    refine j_sld (v := xs t) hX dL_law_29 hs hb hA (inB_nI (by omega) (by omega)) (by rw [cl_n (by omega)]) ?_
    refine j_bipush 63 hX dL_law_30 (by decide) ?_
    refine j_iand hX dL_law_32 ?_
    obtain ⟨v, hv, e⟩ := and63 (xs t)
    rw [e]
    refine law_sw C h ht hv (fun σ' μ' h' => ?_)
    refine j_iinc 0 (nI (t + 6)) (lvL b (ad 0) (am 0) (t + 6)) hX dL_law_1260 rfl (by show nI t + nI 6 = _; rw [nI_add]) (lt_b rfl) rfl ?_
    refine j_goto 18 hX dL_law_1263 rfl ?_
    exact ih (t + 6) σ' μ' (by omega) (by omega) h'
