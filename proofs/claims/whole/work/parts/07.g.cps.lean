/-! the reference lays rows of 85 numbers elsewhere -/
theorem X7_copies_10_5_eq {σ : Mem} {fuel i j : Nat} (hi : i + 85 ≤ 85) (hj : j + 85 ≤ 85) (hF : 100 ≤ fuel) : ∃ σ', f_X7_copies_10_5 fuel σ (nI i) (nI j) = some σ' ∧ (∀ q, q ≠ 5 → σ' q = σ q) ∧ (∀ k, k < 85 → σ' 5 (j + k) = σ 10 (i + k)) ∧ (∀ m, m < j ∨ j + 85 ≤ m → σ' 5 m = σ 5 m) := by
  have key : ∀ k c n τ, c + k = 85 → k < n → (∀ q, q ≠ 5 → τ q = σ q) → (∀ m, m < c → τ 5 (j + m) = σ 10 (i + m)) → (∀ m, m < j ∨ j + 85 ≤ m → τ 5 m = σ 5 m) → ∃ σ', f_X7_copies_10_5_3 fuel n τ (nI i) (nI j) (nI c) = some σ' ∧ (∀ q, q ≠ 5 → σ' q = σ q) ∧ (∀ k, k < 85 → σ' 5 (j + k) = σ 10 (i + k)) ∧ (∀ m, m < j ∨ j + 85 ≤ m → σ' 5 m = σ 5 m) := by
    intro k
    induction k with
    | zero =>
      intro c n τ hc hn h1 h2 h3
      obtain ⟨m, rfl⟩ := suc_of hn
      rw [f_X7_copies_10_5_3, show (85 : Int32) = nI 85 from rfl, if_pos (by rw [le_n (by omega) (by omega)]; omega)]
      exact ⟨τ, rfl, h1, fun k hk => h2 k (by omega), h3⟩
    | succ k ih =>
      intro c n τ hc hn h1 h2 h3
      obtain ⟨m, rfl⟩ := suc_of hn
      rw [f_X7_copies_10_5_3, show (85 : Int32) = nI 85 from rfl, if_neg (by rw [le_n (by omega) (by omega)]; omega), nI_add, nI_add, gB (by omega) (by omega), gB (by omega) (by omega), cl_n (by omega), cl_n (by omega), s1]
      refine ih (c + 1) m _ (by omega) (by omega) (fun q hq => by rw [mst_ne hq]; exact h1 q hq) (fun m hm => ?_) (fun m hm => ?_)
      · rw [mst_at]
        unfold upd
        by_cases e : j + m = j + c
        · rw [if_pos e, h1 10 (by omega), show m = c by omega]
        · rw [if_neg e]
          exact h2 m (by omega)
      · rw [mst_at]
        unfold upd
        rw [if_neg (by omega)]
        exact h3 m hm
  exact key 85 0 fuel σ (by omega) (by omega) (fun q _ => rfl) (fun m hm => by omega) (fun m _ => rfl)
theorem X7_copies_5_6_eq {σ : Mem} {fuel i j : Nat} (hi : i + 85 ≤ 85) (hj : j + 85 ≤ 2040) (hF : 100 ≤ fuel) : ∃ σ', f_X7_copies_5_6 fuel σ (nI i) (nI j) = some σ' ∧ (∀ q, q ≠ 6 → σ' q = σ q) ∧ (∀ k, k < 85 → σ' 6 (j + k) = σ 5 (i + k)) ∧ (∀ m, m < j ∨ j + 85 ≤ m → σ' 6 m = σ 6 m) := by
  have key : ∀ k c n τ, c + k = 85 → k < n → (∀ q, q ≠ 6 → τ q = σ q) → (∀ m, m < c → τ 6 (j + m) = σ 5 (i + m)) → (∀ m, m < j ∨ j + 85 ≤ m → τ 6 m = σ 6 m) → ∃ σ', f_X7_copies_5_6_3 fuel n τ (nI i) (nI j) (nI c) = some σ' ∧ (∀ q, q ≠ 6 → σ' q = σ q) ∧ (∀ k, k < 85 → σ' 6 (j + k) = σ 5 (i + k)) ∧ (∀ m, m < j ∨ j + 85 ≤ m → σ' 6 m = σ 6 m) := by
    intro k
    induction k with
    | zero =>
      intro c n τ hc hn h1 h2 h3
      obtain ⟨m, rfl⟩ := suc_of hn
      rw [f_X7_copies_5_6_3, show (85 : Int32) = nI 85 from rfl, if_pos (by rw [le_n (by omega) (by omega)]; omega)]
      exact ⟨τ, rfl, h1, fun k hk => h2 k (by omega), h3⟩
    | succ k ih =>
      intro c n τ hc hn h1 h2 h3
      obtain ⟨m, rfl⟩ := suc_of hn
      rw [f_X7_copies_5_6_3, show (85 : Int32) = nI 85 from rfl, if_neg (by rw [le_n (by omega) (by omega)]; omega), nI_add, nI_add, gB (by omega) (by omega), gB (by omega) (by omega), cl_n (by omega), cl_n (by omega), s1]
      refine ih (c + 1) m _ (by omega) (by omega) (fun q hq => by rw [mst_ne hq]; exact h1 q hq) (fun m hm => ?_) (fun m hm => ?_)
      · rw [mst_at]
        unfold upd
        by_cases e : j + m = j + c
        · rw [if_pos e, h1 5 (by omega), show m = c by omega]
        · rw [if_neg e]
          exact h2 m (by omega)
      · rw [mst_at]
        unfold upd
        rw [if_neg (by omega)]
        exact h3 m hm
  exact key 85 0 fuel σ (by omega) (by omega) (fun q _ => rfl) (fun m hm => by omega) (fun m _ => rfl)
theorem X7_copies_6_5_eq {σ : Mem} {fuel i j : Nat} (hi : i + 85 ≤ 2040) (hj : j + 85 ≤ 85) (hF : 100 ≤ fuel) : ∃ σ', f_X7_copies_6_5 fuel σ (nI i) (nI j) = some σ' ∧ (∀ q, q ≠ 5 → σ' q = σ q) ∧ (∀ k, k < 85 → σ' 5 (j + k) = σ 6 (i + k)) ∧ (∀ m, m < j ∨ j + 85 ≤ m → σ' 5 m = σ 5 m) := by
  have key : ∀ k c n τ, c + k = 85 → k < n → (∀ q, q ≠ 5 → τ q = σ q) → (∀ m, m < c → τ 5 (j + m) = σ 6 (i + m)) → (∀ m, m < j ∨ j + 85 ≤ m → τ 5 m = σ 5 m) → ∃ σ', f_X7_copies_6_5_3 fuel n τ (nI i) (nI j) (nI c) = some σ' ∧ (∀ q, q ≠ 5 → σ' q = σ q) ∧ (∀ k, k < 85 → σ' 5 (j + k) = σ 6 (i + k)) ∧ (∀ m, m < j ∨ j + 85 ≤ m → σ' 5 m = σ 5 m) := by
    intro k
    induction k with
    | zero =>
      intro c n τ hc hn h1 h2 h3
      obtain ⟨m, rfl⟩ := suc_of hn
      rw [f_X7_copies_6_5_3, show (85 : Int32) = nI 85 from rfl, if_pos (by rw [le_n (by omega) (by omega)]; omega)]
      exact ⟨τ, rfl, h1, fun k hk => h2 k (by omega), h3⟩
    | succ k ih =>
      intro c n τ hc hn h1 h2 h3
      obtain ⟨m, rfl⟩ := suc_of hn
      rw [f_X7_copies_6_5_3, show (85 : Int32) = nI 85 from rfl, if_neg (by rw [le_n (by omega) (by omega)]; omega), nI_add, nI_add, gB (by omega) (by omega), gB (by omega) (by omega), cl_n (by omega), cl_n (by omega), s1]
      refine ih (c + 1) m _ (by omega) (by omega) (fun q hq => by rw [mst_ne hq]; exact h1 q hq) (fun m hm => ?_) (fun m hm => ?_)
      · rw [mst_at]
        unfold upd
        by_cases e : j + m = j + c
        · rw [if_pos e, h1 6 (by omega), show m = c by omega]
        · rw [if_neg e]
          exact h2 m (by omega)
      · rw [mst_at]
        unfold upd
        rw [if_neg (by omega)]
        exact h3 m hm
  exact key 85 0 fuel σ (by omega) (by omega) (fun q _ => rfl) (fun m hm => by omega) (fun m _ => rfl)
theorem X7_copies_5_11_eq {σ : Mem} {fuel i j : Nat} (hi : i + 85 ≤ 85) (hj : j + 85 ≤ 85) (hF : 100 ≤ fuel) : ∃ σ', f_X7_copies_5_11 fuel σ (nI i) (nI j) = some σ' ∧ (∀ q, q ≠ 11 → σ' q = σ q) ∧ (∀ k, k < 85 → σ' 11 (j + k) = σ 5 (i + k)) ∧ (∀ m, m < j ∨ j + 85 ≤ m → σ' 11 m = σ 11 m) := by
  have key : ∀ k c n τ, c + k = 85 → k < n → (∀ q, q ≠ 11 → τ q = σ q) → (∀ m, m < c → τ 11 (j + m) = σ 5 (i + m)) → (∀ m, m < j ∨ j + 85 ≤ m → τ 11 m = σ 11 m) → ∃ σ', f_X7_copies_5_11_3 fuel n τ (nI i) (nI j) (nI c) = some σ' ∧ (∀ q, q ≠ 11 → σ' q = σ q) ∧ (∀ k, k < 85 → σ' 11 (j + k) = σ 5 (i + k)) ∧ (∀ m, m < j ∨ j + 85 ≤ m → σ' 11 m = σ 11 m) := by
    intro k
    induction k with
    | zero =>
      intro c n τ hc hn h1 h2 h3
      obtain ⟨m, rfl⟩ := suc_of hn
      rw [f_X7_copies_5_11_3, show (85 : Int32) = nI 85 from rfl, if_pos (by rw [le_n (by omega) (by omega)]; omega)]
      exact ⟨τ, rfl, h1, fun k hk => h2 k (by omega), h3⟩
    | succ k ih =>
      intro c n τ hc hn h1 h2 h3
      obtain ⟨m, rfl⟩ := suc_of hn
      rw [f_X7_copies_5_11_3, show (85 : Int32) = nI 85 from rfl, if_neg (by rw [le_n (by omega) (by omega)]; omega), nI_add, nI_add, gB (by omega) (by omega), gB (by omega) (by omega), cl_n (by omega), cl_n (by omega), s1]
      refine ih (c + 1) m _ (by omega) (by omega) (fun q hq => by rw [mst_ne hq]; exact h1 q hq) (fun m hm => ?_) (fun m hm => ?_)
      · rw [mst_at]
        unfold upd
        by_cases e : j + m = j + c
        · rw [if_pos e, h1 5 (by omega), show m = c by omega]
        · rw [if_neg e]
          exact h2 m (by omega)
      · rw [mst_at]
        unfold upd
        rw [if_neg (by omega)]
        exact h3 m hm
  exact key 85 0 fuel σ (by omega) (by omega) (fun q _ => rfl) (fun m hm => by omega) (fun m _ => rfl)
theorem X7_copies_5_7_eq {σ : Mem} {fuel i j : Nat} (hi : i + 85 ≤ 85) (hj : j + 85 ≤ 170) (hF : 100 ≤ fuel) : ∃ σ', f_X7_copies_5_7 fuel σ (nI i) (nI j) = some σ' ∧ (∀ q, q ≠ 7 → σ' q = σ q) ∧ (∀ k, k < 85 → σ' 7 (j + k) = σ 5 (i + k)) ∧ (∀ m, m < j ∨ j + 85 ≤ m → σ' 7 m = σ 7 m) := by
  have key : ∀ k c n τ, c + k = 85 → k < n → (∀ q, q ≠ 7 → τ q = σ q) → (∀ m, m < c → τ 7 (j + m) = σ 5 (i + m)) → (∀ m, m < j ∨ j + 85 ≤ m → τ 7 m = σ 7 m) → ∃ σ', f_X7_copies_5_7_3 fuel n τ (nI i) (nI j) (nI c) = some σ' ∧ (∀ q, q ≠ 7 → σ' q = σ q) ∧ (∀ k, k < 85 → σ' 7 (j + k) = σ 5 (i + k)) ∧ (∀ m, m < j ∨ j + 85 ≤ m → σ' 7 m = σ 7 m) := by
    intro k
    induction k with
    | zero =>
      intro c n τ hc hn h1 h2 h3
      obtain ⟨m, rfl⟩ := suc_of hn
      rw [f_X7_copies_5_7_3, show (85 : Int32) = nI 85 from rfl, if_pos (by rw [le_n (by omega) (by omega)]; omega)]
      exact ⟨τ, rfl, h1, fun k hk => h2 k (by omega), h3⟩
    | succ k ih =>
      intro c n τ hc hn h1 h2 h3
      obtain ⟨m, rfl⟩ := suc_of hn
      rw [f_X7_copies_5_7_3, show (85 : Int32) = nI 85 from rfl, if_neg (by rw [le_n (by omega) (by omega)]; omega), nI_add, nI_add, gB (by omega) (by omega), gB (by omega) (by omega), cl_n (by omega), cl_n (by omega), s1]
      refine ih (c + 1) m _ (by omega) (by omega) (fun q hq => by rw [mst_ne hq]; exact h1 q hq) (fun m hm => ?_) (fun m hm => ?_)
      · rw [mst_at]
        unfold upd
        by_cases e : j + m = j + c
        · rw [if_pos e, h1 5 (by omega), show m = c by omega]
        · rw [if_neg e]
          exact h2 m (by omega)
      · rw [mst_at]
        unfold upd
        rw [if_neg (by omega)]
        exact h3 m hm
  exact key 85 0 fuel σ (by omega) (by omega) (fun q _ => rfl) (fun m hm => by omega) (fun m _ => rfl)
theorem X7_copies_7_5_eq {σ : Mem} {fuel i j : Nat} (hi : i + 85 ≤ 170) (hj : j + 85 ≤ 85) (hF : 100 ≤ fuel) : ∃ σ', f_X7_copies_7_5 fuel σ (nI i) (nI j) = some σ' ∧ (∀ q, q ≠ 5 → σ' q = σ q) ∧ (∀ k, k < 85 → σ' 5 (j + k) = σ 7 (i + k)) ∧ (∀ m, m < j ∨ j + 85 ≤ m → σ' 5 m = σ 5 m) := by
  have key : ∀ k c n τ, c + k = 85 → k < n → (∀ q, q ≠ 5 → τ q = σ q) → (∀ m, m < c → τ 5 (j + m) = σ 7 (i + m)) → (∀ m, m < j ∨ j + 85 ≤ m → τ 5 m = σ 5 m) → ∃ σ', f_X7_copies_7_5_3 fuel n τ (nI i) (nI j) (nI c) = some σ' ∧ (∀ q, q ≠ 5 → σ' q = σ q) ∧ (∀ k, k < 85 → σ' 5 (j + k) = σ 7 (i + k)) ∧ (∀ m, m < j ∨ j + 85 ≤ m → σ' 5 m = σ 5 m) := by
    intro k
    induction k with
    | zero =>
      intro c n τ hc hn h1 h2 h3
      obtain ⟨m, rfl⟩ := suc_of hn
      rw [f_X7_copies_7_5_3, show (85 : Int32) = nI 85 from rfl, if_pos (by rw [le_n (by omega) (by omega)]; omega)]
      exact ⟨τ, rfl, h1, fun k hk => h2 k (by omega), h3⟩
    | succ k ih =>
      intro c n τ hc hn h1 h2 h3
      obtain ⟨m, rfl⟩ := suc_of hn
      rw [f_X7_copies_7_5_3, show (85 : Int32) = nI 85 from rfl, if_neg (by rw [le_n (by omega) (by omega)]; omega), nI_add, nI_add, gB (by omega) (by omega), gB (by omega) (by omega), cl_n (by omega), cl_n (by omega), s1]
      refine ih (c + 1) m _ (by omega) (by omega) (fun q hq => by rw [mst_ne hq]; exact h1 q hq) (fun m hm => ?_) (fun m hm => ?_)
      · rw [mst_at]
        unfold upd
        by_cases e : j + m = j + c
        · rw [if_pos e, h1 7 (by omega), show m = c by omega]
        · rw [if_neg e]
          exact h2 m (by omega)
      · rw [mst_at]
        unfold upd
        rw [if_neg (by omega)]
        exact h3 m hm
  exact key 85 0 fuel σ (by omega) (by omega) (fun q _ => rfl) (fun m hm => by omega) (fun m _ => rfl)
