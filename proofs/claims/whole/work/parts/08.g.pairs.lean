/-! the methods that the law calls: both sides, the states agree again -/
theorem p_row {l : Launch} {D : va_G} {cs : ClassId × ClassId × ClassId} {ad am : Nat → Nat} {ts : Nat × Nat × Nat} {σ μ : Mem} (h : Sim σ μ) (x1 x2 x3 : Int32) : ∃ r σ' μ', CtI l (xW D cs ad ts) 2 yX6_row cX6_row 4 (some .int) [.ref (ad 0), .int x1, .int x2, .int x3] σ r σ' ∧ CtI l (mW D cs am) 2 yX7_row cX7_row 5 (some .int) [.ref (am 0), .int x1, .int x2, .int x3] μ r μ' ∧ Sim σ' μ' := by
  obtain ⟨-, -, -, -, ⟨A, a, B, hO, hD, hP, hX, hM, t1, t2, t3, t4, hH, hB⟩, -, -⟩ := id h
  obtain ⟨r, σ', μ', e1, e2, h'⟩ := s_row (fuel := 4000) h (by omega) x1 x2 x3
  exact ⟨r, σ', μ', c_X6_row (l := l) (D := D) (cs := cs) (ad := ad) (ts := ts) (σ := σ) (fuel := 4000) (x1 := x1) (x2 := x2) (x3 := x3) (hf := e1), c_X7_row (l := l) (D := D) (cs := cs) (ad := am) (σ := μ) (fuel := 4000) (x1 := x1) (x2 := x2) (x3 := x3) (hf := e2), h'⟩
theorem p_set {l : Launch} {D : va_G} {cs : ClassId × ClassId × ClassId} {ad am : Nat → Nat} {ts : Nat × Nat × Nat} {σ μ : Mem} (h : Sim σ μ) (x1 x2 x3 : Int32) : ∃ r σ' μ', CtI l (xW D cs ad ts) 2 yX6_set cX6_set 4 (some .int) [.ref (ad 0), .int x1, .int x2, .int x3] σ r σ' ∧ CtI l (mW D cs am) 2 yX7_set cX7_set 4 (some .int) [.ref (am 0), .int x1, .int x2, .int x3] μ r μ' ∧ Sim σ' μ' := by
  obtain ⟨-, -, -, -, ⟨A, a, B, hO, hD, hP, hX, hM, t1, t2, t3, t4, hH, hB⟩, -, -⟩ := id h
  obtain ⟨r, σ', μ', e1, e2, h'⟩ := s_set h x1 x2 x3
  exact ⟨r, σ', μ', c_X6_set (l := l) (D := D) (cs := cs) (ad := ad) (ts := ts) (σ := σ) (x1 := x1) (x2 := x2) (x3 := x3) (hf := e1), c_X7_set (l := l) (D := D) (cs := cs) (ad := am) (σ := μ) (x1 := x1) (x2 := x2) (x3 := x3) (hf := e2), h'⟩
theorem p_copy {l : Launch} {D : va_G} {cs : ClassId × ClassId × ClassId} {ad am : Nat → Nat} {ts : Nat × Nat × Nat} {σ μ : Mem} (h : Sim σ μ) (x1 x2 x3 x4 x5 : Int32) : ∃ r σ' μ', CtI l (xW D cs ad ts) 2 yX6_copy cX6_copy 6 (some .int) [.ref (ad 0), .int x1, .int x2, .int x3, .int x4, .int x5] σ r σ' ∧ CtI l (mW D cs am) 2 yX7_copy cX7_copy 8 (some .int) [.ref (am 0), .int x1, .int x2, .int x3, .int x4, .int x5] μ r μ' ∧ Sim σ' μ' := by
  obtain ⟨-, -, -, -, ⟨A, a, B, hO, hD, hP, hX, hM, t1, t2, t3, t4, hH, hB⟩, -, -⟩ := id h
  obtain ⟨r, σ', μ', e1, e2, h'⟩ := s_copy (fuel := 4000) h (by omega) x1 x2 x3 x4 x5
  exact ⟨r, σ', μ', c_X6_copy (l := l) (D := D) (cs := cs) (ad := ad) (ts := ts) (σ := σ) (x1 := x1) (x2 := x2) (x3 := x3) (x4 := x4) (x5 := x5) (hf := e1), c_X7_copy (l := l) (D := D) (cs := cs) (ad := am) (σ := μ) (fuel := 4000) (x1 := x1) (x2 := x2) (x3 := x3) (x4 := x4) (x5 := x5) (hf := e2), h'⟩
theorem p_drop {l : Launch} {D : va_G} {cs : ClassId × ClassId × ClassId} {ad am : Nat → Nat} {ts : Nat × Nat × Nat} {σ μ : Mem} (h : Sim σ μ) (x1 : Int32) : ∃ r σ' μ', CtI l (xW D cs ad ts) 2 yX6_drop cX6_drop 2 (some .int) [.ref (ad 0), .int x1] σ r σ' ∧ CtI l (mW D cs am) 2 yX7_drop cX7_drop 3 (some .int) [.ref (am 0), .int x1] μ r μ' ∧ Sim σ' μ' := by
  obtain ⟨-, -, -, -, ⟨A, a, B, hO, hD, hP, hX, hM, t1, t2, t3, t4, hH, hB⟩, -, -⟩ := id h
  obtain ⟨r, σ', μ', e1, e2, h'⟩ := s_drop h x1
  exact ⟨r, σ', μ', c_X6_drop (l := l) (D := D) (cs := cs) (ad := ad) (ts := ts) (σ := σ) (x1 := x1) (hf := e1), c_X7_drop (l := l) (D := D) (cs := cs) (ad := am) (σ := μ) (x1 := x1) (hf := e2), h'⟩
theorem p_feed {l : Launch} {D : va_G} {cs : ClassId × ClassId × ClassId} {ad am : Nat → Nat} {ts : Nat × Nat × Nat} {σ μ : Mem} (h : Sim σ μ) (x1 : Int32) : ∃ r σ' μ', CtI l (xW D cs ad ts) 1 yX6_feed cX6_feed 2 (some .int) [.ref (ad 0), .int x1] σ r σ' ∧ CtI l (mW D cs am) 1 yX7_feed cX7_feed 2 (some .int) [.ref (am 0), .int x1] μ r μ' ∧ Sim σ' μ' := by
  obtain ⟨-, -, -, -, ⟨A, a, B, hO, hD, hP, hX, hM, t1, t2, t3, t4, hH, hB⟩, -, -⟩ := id h
  obtain ⟨r, σ', μ', e1, e2, h'⟩ := s_feed h x1
  exact ⟨r, σ', μ', c_X6_feed (l := l) (D := D) (cs := cs) (ad := ad) (ts := ts) (σ := σ) (x1 := x1) (hf := e1), c_X7_feed (l := l) (D := D) (cs := cs) (ad := am) (σ := μ) (x1 := x1) (hf := e2), h'⟩
theorem p_archive {l : Launch} {D : va_G} {cs : ClassId × ClassId × ClassId} {ad am : Nat → Nat} {ts : Nat × Nat × Nat} {σ μ : Mem} (h : Sim σ μ) : ∃ r σ' μ', CtI l (xW D cs ad ts) 6 yX6_archive cX6_archive 2 (some .int) [.ref (ad 0)] σ r σ' ∧ CtI l (mW D cs am) 7 yX7_archive cX7_archive 1 (some .int) [.ref (am 0)] μ r μ' ∧ Sim σ' μ' := by
  obtain ⟨-, -, -, -, ⟨A, a, B, hO, hD, hP, hX, hM, t1, t2, t3, t4, hH, hB⟩, -, -⟩ := id h
  obtain ⟨r, σ', μ', e1, e2, h'⟩ := s_archive (fuel := 4000) h (by omega)
  exact ⟨r, σ', μ', c_X6_archive (l := l) (D := D) (cs := cs) (ad := ad) (ts := ts) (σ := σ) (fuel := 4000) (hf := e1), c_X7_archive (l := l) (D := D) (cs := cs) (ad := am) (σ := μ) (fuel := 4000) (hf := e2), h'⟩
theorem p_fault {l : Launch} {D : va_G} {cs : ClassId × ClassId × ClassId} {ad am : Nat → Nat} {ts : Nat × Nat × Nat} {σ μ : Mem} (h : Sim σ μ) : ∃ r σ' μ', CtI l (xW D cs ad ts) 0 yX6_fault cX6_fault 1 (some .int) [.ref (ad 0)] σ r σ' ∧ CtI l (mW D cs am) 0 yX7_fault cX7_fault 1 (some .int) [.ref (am 0)] μ r μ' ∧ Sim σ' μ' := by
  have e1 : f_X6_fault σ = some (σ 0 8) := rfl
  have e2 : f_X7_fault μ = some (σ 0 8) := by rw [h.2.2.1]; rfl
  exact ⟨_, σ, μ, c_X6_fault (l := l) (D := D) (cs := cs) (ad := ad) (ts := ts) (σ := σ) (hf := e1), c_X7_fault (l := l) (D := D) (cs := cs) (ad := am) (σ := μ) (hf := e2), h⟩
theorem p_undo {l : Launch} {D : va_G} {cs : ClassId × ClassId × ClassId} {ad am : Nat → Nat} {ts : Nat × Nat × Nat} {σ μ : Mem} (h : Sim σ μ) : ∃ r σ' μ', CtI l (xW D cs ad ts) 1 yX6_undo cX6_undo 1 (some .int) [.ref (ad 0)] σ r σ' ∧ CtI l (mW D cs am) 1 yX7_undo cX7_undo 1 (some .int) [.ref (am 0)] μ r μ' ∧ Sim σ' μ' := by
  obtain ⟨-, -, -, -, ⟨A, a, B, hO, hD, hP, hX, hM, t1, t2, t3, t4, hH, hB⟩, -, -⟩ := id h
  obtain ⟨r, σ', μ', e1, e2, h'⟩ := s_undo (fuel := 4000) h (by omega)
  exact ⟨r, σ', μ', c_X6_undo (l := l) (D := D) (cs := cs) (ad := ad) (ts := ts) (σ := σ) (hf := e1), c_X7_undo (l := l) (D := D) (cs := cs) (ad := am) (σ := μ) (fuel := 4000) (hf := e2), h'⟩
theorem p_write {l : Launch} {D : va_G} {cs : ClassId × ClassId × ClassId} {ad am : Nat → Nat} {ts : Nat × Nat × Nat} {σ μ : Mem} (h : Sim σ μ) (x1 x2 x3 : Int32) : ∃ r σ' μ', CtI l (xW D cs ad ts) 2 yX6_write cX6_write 4 (some .int) [.ref (ad 0), .int x1, .int x2, .int x3] σ r σ' ∧ CtI l (mW D cs am) 2 yX7_write cX7_write 5 (some .int) [.ref (am 0), .int x1, .int x2, .int x3] μ r μ' ∧ Sim σ' μ' := by
  obtain ⟨-, -, -, -, ⟨A, a, B, hO, hD, hP, hX, hM, t1, t2, t3, t4, hH, hB⟩, -, -⟩ := id h
  obtain ⟨r, σ', μ', e1, e2, h'⟩ := s_write (fuel := 4000) h (by omega) x1 x2 x3
  exact ⟨r, σ', μ', c_X6_write (l := l) (D := D) (cs := cs) (ad := ad) (ts := ts) (σ := σ) (x1 := x1) (x2 := x2) (x3 := x3) (hf := e1), c_X7_write (l := l) (D := D) (cs := cs) (ad := am) (σ := μ) (fuel := 4000) (x1 := x1) (x2 := x2) (x3 := x3) (hf := e2), h'⟩
theorem p_recall {l : Launch} {D : va_G} {cs : ClassId × ClassId × ClassId} {ad am : Nat → Nat} {ts : Nat × Nat × Nat} {σ μ : Mem} (h : Sim σ μ) (x1 : Int32) : ∃ r σ' μ', CtI l (xW D cs ad ts) 4 yX6_recall cX6_recall 2 (some .int) [.ref (ad 0), .int x1] σ r σ' ∧ CtI l (mW D cs am) 2 yX7_recall cX7_recall 2 (some .int) [.ref (am 0), .int x1] μ r μ' ∧ Sim σ' μ' := by
  obtain ⟨-, -, -, -, ⟨A, a, B, hO, hD, hP, hX, hM, t1, t2, t3, t4, hH, hB⟩, -, -⟩ := id h
  obtain ⟨r, σ', μ', e1, e2, h'⟩ := s_recall (fuel := 4000) h (by omega) x1
  exact ⟨r, σ', μ', c_X6_recall (l := l) (D := D) (cs := cs) (ad := ad) (ts := ts) (σ := σ) (fuel := 4000) (x1 := x1) (hf := e1), c_X7_recall (l := l) (D := D) (cs := cs) (ad := am) (σ := μ) (fuel := 4000) (x1 := x1) (hf := e2), h'⟩
theorem p_days {l : Launch} {D : va_G} {cs : ClassId × ClassId × ClassId} {ad am : Nat → Nat} {ts : Nat × Nat × Nat} {σ μ : Mem} (h : Sim σ μ) (x1 : Int32) : ∃ r σ' μ', CtI l (xW D cs ad ts) 3 yX6_days cX6_days 3 (some .int) [.ref (ad 0), .int x1] σ r σ' ∧ CtI l (mW D cs am) 2 yX7_days cX7_days 3 (some .int) [.ref (am 0), .int x1] μ r μ' ∧ Sim σ' μ' := by
  obtain ⟨-, -, -, -, ⟨A, a, B, hO, hD, hP, hX, hM, t1, t2, t3, t4, hH, hB⟩, -, -⟩ := id h
  obtain ⟨r, σ', μ', e1, e2, h'⟩ := s_days (fuel := 4000) h (by omega) x1
  exact ⟨r, σ', μ', c_X6_days (l := l) (D := D) (cs := cs) (ad := ad) (ts := ts) (σ := σ) (fuel := 4000) (x1 := x1) (hf := e1), c_X7_days (l := l) (D := D) (cs := cs) (ad := am) (σ := μ) (fuel := 4000) (x1 := x1) (hf := e2), h'⟩
theorem p_copyOf {l : Launch} {D : va_G} {cs : ClassId × ClassId × ClassId} {ad am : Nat → Nat} {ts : Nat × Nat × Nat} {σ μ : Mem} (h : Sim σ μ) (x1 x2 : Int32) : ∃ r σ' μ', CtI l (xW D cs ad ts) 4 yX6_copyOf cX6_copyOf 3 (some .int) [.ref (ad 0), .int x1, .int x2] σ r σ' ∧ CtI l (mW D cs am) 2 yX7_copyOf cX7_copyOf 3 (some .int) [.ref (am 0), .int x1, .int x2] μ r μ' ∧ Sim σ' μ' := by
  obtain ⟨-, -, -, -, ⟨A, a, B, hO, hD, hP, hX, hM, t1, t2, t3, t4, hH, hB⟩, -, -⟩ := id h
  obtain ⟨r, e1, e2⟩ := q_copyOf hX hM hO x1 x2
  exact ⟨r, σ, μ, c_X6_copyOf (l := l) (D := D) (cs := cs) (ad := ad) (ts := ts) (σ := σ) (x1 := x1) (x2 := x2) (hf := e1), c_X7_copyOf (l := l) (D := D) (cs := cs) (ad := am) (σ := μ) (x1 := x1) (x2 := x2) (hf := e2), h⟩
theorem p_hand {l : Launch} {D : va_G} {cs : ClassId × ClassId × ClassId} {ad am : Nat → Nat} {ts : Nat × Nat × Nat} {σ μ : Mem} (h : Sim σ μ) (x1 x2 : Int32) : ∃ r σ' μ', CtI l (xW D cs ad ts) 2 yX6_hand cX6_hand 3 (some .int) [.ref (ad 0), .int x1, .int x2] σ r σ' ∧ CtI l (mW D cs am) 2 yX7_hand cX7_hand 3 (some .int) [.ref (am 0), .int x1, .int x2] μ r μ' ∧ Sim σ' μ' := by
  obtain ⟨-, -, -, -, ⟨A, a, B, hO, hD, hP, hX, hM, t1, t2, t3, t4, hH, hB⟩, -, -⟩ := id h
  obtain ⟨r, e1, e2⟩ := q_hand (fuel := 4000) hX hM hO (by omega) x1 x2
  exact ⟨r, σ, μ, c_X6_hand (l := l) (D := D) (cs := cs) (ad := ad) (ts := ts) (σ := σ) (fuel := 4000) (x1 := x1) (x2 := x2) (hf := e1), c_X7_hand (l := l) (D := D) (cs := cs) (ad := am) (σ := μ) (fuel := 4000) (x1 := x1) (x2 := x2) (hf := e2), h⟩
theorem p_deed {l : Launch} {D : va_G} {cs : ClassId × ClassId × ClassId} {ad am : Nat → Nat} {ts : Nat × Nat × Nat} {σ μ : Mem} (h : Sim σ μ) (x1 x2 : Int32) : ∃ r σ' μ', CtI l (xW D cs ad ts) 3 yX6_deed cX6_deed 3 (some .int) [.ref (ad 0), .int x1, .int x2] σ r σ' ∧ CtI l (mW D cs am) 2 yX7_deed cX7_deed 3 (some .int) [.ref (am 0), .int x1, .int x2] μ r μ' ∧ Sim σ' μ' := by
  obtain ⟨-, -, -, -, ⟨A, a, B, hO, hD, hP, hX, hM, t1, t2, t3, t4, hH, hB⟩, -, -⟩ := id h
  obtain ⟨r, e1, e2⟩ := q_deed (fuel := 4000) hX hM hO (by omega) x1 x2
  exact ⟨r, σ, μ, c_X6_deed (l := l) (D := D) (cs := cs) (ad := ad) (ts := ts) (σ := σ) (fuel := 4000) (x1 := x1) (x2 := x2) (hf := e1), c_X7_deed (l := l) (D := D) (cs := cs) (ad := am) (σ := μ) (fuel := 4000) (x1 := x1) (x2 := x2) (hf := e2), h⟩
theorem p_place {l : Launch} {D : va_G} {cs : ClassId × ClassId × ClassId} {ad am : Nat → Nat} {ts : Nat × Nat × Nat} {σ μ : Mem} (h : Sim σ μ) (x1 x2 : Int32) : ∃ r σ' μ', CtI l (xW D cs ad ts) 2 yX6_place cX6_place 3 (some .int) [.ref (ad 0), .int x1, .int x2] σ r σ' ∧ CtI l (mW D cs am) 2 yX7_place cX7_place 3 (some .int) [.ref (am 0), .int x1, .int x2] μ r μ' ∧ Sim σ' μ' := by
  obtain ⟨-, -, -, -, ⟨A, a, B, hO, hD, hP, hX, hM, t1, t2, t3, t4, hH, hB⟩, -, -⟩ := id h
  obtain ⟨r, e1, e2⟩ := q_place (fuel := 4000) hX hM hO (by omega) t2 x1 x2
  exact ⟨r, σ, μ, c_X6_place (l := l) (D := D) (cs := cs) (ad := ad) (ts := ts) (σ := σ) (fuel := 4000) (x1 := x1) (x2 := x2) (hf := e1), c_X7_place (l := l) (D := D) (cs := cs) (ad := am) (σ := μ) (fuel := 4000) (x1 := x1) (x2 := x2) (hf := e2), h⟩
theorem p_falls {l : Launch} {D : va_G} {cs : ClassId × ClassId × ClassId} {ad am : Nat → Nat} {ts : Nat × Nat × Nat} {σ μ : Mem} (h : Sim σ μ) (x1 x2 : Int32) : ∃ r σ' μ', CtI l (xW D cs ad ts) 5 yX6_falls cX6_falls 3 (some .int) [.ref (ad 0), .int x1, .int x2] σ r σ' ∧ CtI l (mW D cs am) 5 yX7_falls cX7_falls 3 (some .int) [.ref (am 0), .int x1, .int x2] μ r μ' ∧ Sim σ' μ' := by
  obtain ⟨-, -, -, -, ⟨A, a, B, hO, hD, hP, hX, hM, t1, t2, t3, t4, hH, hB⟩, -, -⟩ := id h
  obtain ⟨r, μ', e1, e2, e3⟩ := q_falls (fuel := 4000) hX hM hO hD (by omega) t2 x1 x2
  exact ⟨r, σ, μ', c_X6_falls (l := l) (D := D) (cs := cs) (ad := ad) (ts := ts) (σ := σ) (fuel := 4000) (x1 := x1) (x2 := x2) (hf := e1), c_X7_falls (l := l) (D := D) (cs := cs) (ad := am) (σ := μ) (fuel := 4000) (x1 := x1) (x2 := x2) (hf := e2), h.e11 e3⟩
theorem p_ransom {l : Launch} {D : va_G} {cs : ClassId × ClassId × ClassId} {ad am : Nat → Nat} {ts : Nat × Nat × Nat} {σ μ : Mem} (h : Sim σ μ) (x1 : Int32) : ∃ r σ' μ', CtI l (xW D cs ad ts) 5 yX6_ransom cX6_ransom 2 (some .int) [.ref (ad 0), .int x1] σ r σ' ∧ CtI l (mW D cs am) 5 yX7_ransom cX7_ransom 2 (some .int) [.ref (am 0), .int x1] μ r μ' ∧ Sim σ' μ' := by
  obtain ⟨-, -, -, -, ⟨A, a, B, hO, hD, hP, hX, hM, t1, t2, t3, t4, hH, hB⟩, -, -⟩ := id h
  obtain ⟨r, μ', e1, e2, e3⟩ := q_ransom (fuel := 4000) hX hM hO hD (by omega) x1
  exact ⟨r, σ, μ', c_X6_ransom (l := l) (D := D) (cs := cs) (ad := ad) (ts := ts) (σ := σ) (fuel := 4000) (x1 := x1) (hf := e1), c_X7_ransom (l := l) (D := D) (cs := cs) (ad := am) (σ := μ) (fuel := 4000) (x1 := x1) (hf := e2), h.e11 e3⟩
theorem p_pair {l : Launch} {D : va_G} {cs : ClassId × ClassId × ClassId} {ad am : Nat → Nat} {ts : Nat × Nat × Nat} {σ μ : Mem} (h : Sim σ μ) (x1 : Int32) : ∃ r σ' μ', CtI l (xW D cs ad ts) 6 yX6_pair cX6_pair 3 (some .int) [.ref (ad 0), .int x1] σ r σ' ∧ CtI l (mW D cs am) 5 yX7_pair cX7_pair 7 (some .int) [.ref (am 0), .int x1] μ r μ' ∧ Sim σ' μ' := by
  obtain ⟨-, -, -, -, ⟨A, a, B, hO, hD, hP, hX, hM, t1, t2, t3, t4, hH, hB⟩, -, -⟩ := id h
  obtain ⟨r, σ', μ', e1, e2, e3, e4⟩ := q_pair (fuel := 4000) hX hM hO hD (by omega) t2 x1
  exact ⟨r, σ', μ', c_X6_pair (l := l) (D := D) (cs := cs) (ad := ad) (ts := ts) (σ := σ) (fuel := 4000) (x1 := x1) (hf := e1), c_X7_pair (l := l) (D := D) (cs := cs) (ad := am) (σ := μ) (fuel := 4000) (x1 := x1) (hf := e2), (h.e63 e3).e11 e4⟩
theorem p_ahead {l : Launch} {D : va_G} {cs : ClassId × ClassId × ClassId} {ad am : Nat → Nat} {ts : Nat × Nat × Nat} {σ μ : Mem} (h : Sim σ μ) (x1 x2 : Int32) : ∃ r σ' μ', CtI l (xW D cs ad ts) 3 yX6_ahead cX6_ahead 4 (some .int) [.ref (ad 0), .int x1, .int x2] σ r σ' ∧ CtI l (mW D cs am) 2 yX7_ahead cX7_ahead 4 (some .int) [.ref (am 0), .int x1, .int x2] μ r μ' ∧ Sim σ' μ' := by
  obtain ⟨-, -, -, -, ⟨A, a, B, hO, hD, hP, hX, hM, t1, t2, t3, t4, hH, hB⟩, -, -⟩ := id h
  obtain ⟨r, μ', e1, e2, e3⟩ := q_ahead (fuel := 4000) hX hM hO hD hP (by omega) t2 x1 x2
  exact ⟨r, σ, μ', c_X6_ahead (l := l) (D := D) (cs := cs) (ad := ad) (ts := ts) (σ := σ) (fuel := 4000) (x1 := x1) (x2 := x2) (hf := e1), c_X7_ahead (l := l) (D := D) (cs := cs) (ad := am) (σ := μ) (fuel := 4000) (x1 := x1) (x2 := x2) (hf := e2), h.e11 e3⟩
theorem p_first {l : Launch} {D : va_G} {cs : ClassId × ClassId × ClassId} {ad am : Nat → Nat} {ts : Nat × Nat × Nat} {σ μ : Mem} (h : Sim σ μ) (x1 x2 : Int32) : ∃ r σ' μ', CtI l (xW D cs ad ts) 4 yX6_first cX6_first 3 (some .int) [.ref (ad 0), .int x1, .int x2] σ r σ' ∧ CtI l (mW D cs am) 2 yX7_first cX7_first 4 (some .int) [.ref (am 0), .int x1, .int x2] μ r μ' ∧ Sim σ' μ' := by
  obtain ⟨-, -, -, -, ⟨A, a, B, hO, hD, hP, hX, hM, t1, t2, t3, t4, hH, hB⟩, -, -⟩ := id h
  obtain ⟨r, μ', e1, e2, e3⟩ := q_first (fuel := 4000) hX hM hO hD hP (by omega) x1 x2
  exact ⟨r, σ, μ', c_X6_first (l := l) (D := D) (cs := cs) (ad := ad) (ts := ts) (σ := σ) (fuel := 4000) (x1 := x1) (x2 := x2) (hf := e1), c_X7_first (l := l) (D := D) (cs := cs) (ad := am) (σ := μ) (fuel := 4000) (x1 := x1) (x2 := x2) (hf := e2), h.e11 e3⟩
theorem p_safe {l : Launch} {D : va_G} {cs : ClassId × ClassId × ClassId} {ad am : Nat → Nat} {ts : Nat × Nat × Nat} {σ μ : Mem} (h : Sim σ μ) (x1 : Int32) : ∃ r σ' μ', CtI l (xW D cs ad ts) 2 yX6_safe cX6_safe 2 (some .int) [.ref (ad 0), .int x1] σ r σ' ∧ CtI l (mW D cs am) 2 yX7_safe cX7_safe 4 (some .int) [.ref (am 0), .int x1] μ r μ' ∧ Sim σ' μ' := by
  obtain ⟨-, -, -, -, ⟨A, a, B, hO, hD, hP, hX, hM, t1, t2, t3, t4, hH, hB⟩, -, -⟩ := id h
  obtain ⟨r, e1, e2⟩ := q_safe hX hM hO x1
  exact ⟨r, σ, μ, c_X6_safe (l := l) (D := D) (cs := cs) (ad := ad) (ts := ts) (σ := σ) (x1 := x1) (hf := e1), c_X7_safe (l := l) (D := D) (cs := cs) (ad := am) (σ := μ) (x1 := x1) (hf := e2), h⟩
theorem p_doubles {l : Launch} {D : va_G} {cs : ClassId × ClassId × ClassId} {ad am : Nat → Nat} {ts : Nat × Nat × Nat} {σ μ : Mem} (h : Sim σ μ) (x1 x2 x3 : Int32) : ∃ r σ' μ', CtI l (xW D cs ad ts) 4 yX6_doubles cX6_doubles 4 (some .int) [.ref (ad 0), .int x1, .int x2, .int x3] σ r σ' ∧ CtI l (mW D cs am) 3 yX7_doubles cX7_doubles 9 (some .int) [.ref (am 0), .int x1, .int x2, .int x3] μ r μ' ∧ Sim σ' μ' := by
  obtain ⟨-, -, -, -, ⟨A, a, B, hO, hD, hP, hX, hM, t1, t2, t3, t4, hH, hB⟩, -, -⟩ := id h
  obtain ⟨r, μ', e1, e2, e3⟩ := q_doubles (fuel := 4000) hX hM hO hD (by omega) x1 x2 x3
  exact ⟨r, σ, μ', c_X6_doubles (l := l) (D := D) (cs := cs) (ad := ad) (ts := ts) (σ := σ) (fuel := 4000) (x1 := x1) (x2 := x2) (x3 := x3) (hf := e1), c_X7_doubles (l := l) (D := D) (cs := cs) (ad := am) (σ := μ) (fuel := 4000) (x1 := x1) (x2 := x2) (x3 := x3) (hf := e2), h.e11 e3⟩
theorem p_law {l : Launch} {D : va_G} {cs : ClassId × ClassId × ClassId} {ad am : Nat → Nat} {ts : Nat × Nat × Nat} {σ μ : Mem} (h : Sim σ μ) (x1 x2 : Int32) : ∃ r σ' μ', CtI l (xW D cs ad ts) 4 yX6_law cX6_law 3 (some .int) [.ref (ad 0), .int x1, .int x2] σ r σ' ∧ CtI l (mW D cs am) 3 yX7_law cX7_law 4 (some .int) [.ref (am 0), .int x1, .int x2] μ r μ' ∧ Sim σ' μ' := by
  obtain ⟨-, -, -, -, ⟨A, a, B, hO, hD, hP, hX, hM, t1, t2, t3, t4, hH, hB⟩, -, -⟩ := id h
  obtain ⟨r, μ', e1, e2, e3⟩ := q_law (fuel := 4000) hX hM hO hD (by omega) x1 x2
  exact ⟨r, σ, μ', c_X6_law (l := l) (D := D) (cs := cs) (ad := ad) (ts := ts) (σ := σ) (fuel := 4000) (x1 := x1) (x2 := x2) (hf := e1), c_X7_law (l := l) (D := D) (cs := cs) (ad := am) (σ := μ) (fuel := 4000) (x1 := x1) (x2 := x2) (hf := e2), h.e11 e3⟩
theorem p_order {l : Launch} {D : va_G} {cs : ClassId × ClassId × ClassId} {ad am : Nat → Nat} {ts : Nat × Nat × Nat} {σ μ : Mem} (h : Sim σ μ) (x1 : Int32) : ∃ r σ' μ', CtI l (xW D cs ad ts) 6 yX6_order cX6_order 3 (some .int) [.ref (ad 0), .int x1] σ r σ' ∧ CtI l (mW D cs am) 5 yX7_order cX7_order 8 (some .int) [.ref (am 0), .int x1] μ r μ' ∧ Sim σ' μ' := by
  obtain ⟨-, -, -, -, ⟨A, a, B, hO, hD, hP, hX, hM, t1, t2, t3, t4, hH, hB⟩, -, -⟩ := id h
  obtain ⟨r, σ', μ', e1, e2, e3, e4⟩ := q_order (fuel := 4000) hX hM hO hD (by omega) t2 x1
  exact ⟨r, σ', μ', c_X6_order (l := l) (D := D) (cs := cs) (ad := ad) (ts := ts) (σ := σ) (fuel := 4000) (x1 := x1) (hf := e1), c_X7_order (l := l) (D := D) (cs := cs) (ad := am) (σ := μ) (fuel := 4000) (x1 := x1) (hf := e2), (h.e63 e3).e11 e4⟩
theorem p_blanks {l : Launch} {D : va_G} {cs : ClassId × ClassId × ClassId} {ad am : Nat → Nat} {ts : Nat × Nat × Nat} {σ μ : Mem} (h : Sim σ μ) (x1 x2 : Int32) : ∃ r σ' μ', CtI l (xW D cs ad ts) 3 yX6_blanks cX6_blanks 3 (some .int) [.ref (ad 0), .int x1, .int x2] σ r σ' ∧ CtI l (mW D cs am) 2 yX7_blanks cX7_blanks 10 (some .int) [.ref (am 0), .int x1, .int x2] μ r μ' ∧ Sim σ' μ' := by
  obtain ⟨-, -, -, -, ⟨A, a, B, hO, hD, hP, hX, hM, t1, t2, t3, t4, hH, hB⟩, -, -⟩ := id h
  obtain ⟨r, σ', e1, e2, e3⟩ := q_blanks (fuel := 4000) hX hM hO (by omega) t2 x1 x2
  exact ⟨r, σ', μ, c_X6_blanks (l := l) (D := D) (cs := cs) (ad := ad) (ts := ts) (σ := σ) (fuel := 4000) (x1 := x1) (x2 := x2) (hf := e1), c_X7_blanks (l := l) (D := D) (cs := cs) (ad := am) (σ := μ) (fuel := 4000) (x1 := x1) (x2 := x2) (hf := e2), h.e63 e3⟩
theorem p_forged {l : Launch} {D : va_G} {cs : ClassId × ClassId × ClassId} {ad am : Nat → Nat} {ts : Nat × Nat × Nat} {σ μ : Mem} (h : Sim σ μ) (x1 x2 : Int32) : ∃ r σ' μ', CtI l (xW D cs ad ts) 4 yX6_forged cX6_forged 3 (some .int) [.ref (ad 0), .int x1, .int x2] σ r σ' ∧ CtI l (mW D cs am) 2 yX7_forged cX7_forged 5 (some .int) [.ref (am 0), .int x1, .int x2] μ r μ' ∧ Sim σ' μ' := by
  obtain ⟨-, -, -, -, ⟨A, a, B, hO, hD, hP, hX, hM, t1, t2, t3, t4, hH, hB⟩, -, -⟩ := id h
  obtain ⟨r, σ', μ', e1, e2, h'⟩ := s_forged (fuel := 4000) h (by omega) x1 x2
  exact ⟨r, σ', μ', c_X6_forged (l := l) (D := D) (cs := cs) (ad := ad) (ts := ts) (σ := σ) (fuel := 4000) (x1 := x1) (x2 := x2) (hf := e1), c_X7_forged (l := l) (D := D) (cs := cs) (ad := am) (σ := μ) (fuel := 4000) (x1 := x1) (x2 := x2) (hf := e2), h'⟩
theorem p_itself {l : Launch} {D : va_G} {cs : ClassId × ClassId × ClassId} {ad am : Nat → Nat} {ts : Nat × Nat × Nat} {σ μ : Mem} (h : Sim σ μ) (x1 x2 x3 : Int32) : ∃ r σ' μ', CtI l (xW D cs ad ts) 3 yX6_itself cX6_itself 4 (some .int) [.ref (ad 0), .int x1, .int x2, .int x3] σ r σ' ∧ CtI l (mW D cs am) 2 yX7_itself cX7_itself 8 (some .int) [.ref (am 0), .int x1, .int x2, .int x3] μ r μ' ∧ Sim σ' μ' := by
  obtain ⟨-, -, -, -, ⟨A, a, B, hO, hD, hP, hX, hM, t1, t2, t3, t4, hH, hB⟩, -, -⟩ := id h
  obtain ⟨r, e1, e2⟩ := q_itself (fuel := 4000) hX hM hO (by omega) x1 x2 x3
  exact ⟨r, σ, μ, c_X6_itself (l := l) (D := D) (cs := cs) (ad := ad) (ts := ts) (σ := σ) (fuel := 4000) (x1 := x1) (x2 := x2) (x3 := x3) (hf := e1), c_X7_itself (l := l) (D := D) (cs := cs) (ad := am) (σ := μ) (fuel := 4000) (x1 := x1) (x2 := x2) (x3 := x3) (hf := e2), h⟩
theorem p_years {l : Launch} {D : va_G} {cs : ClassId × ClassId × ClassId} {ad am : Nat → Nat} {ts : Nat × Nat × Nat} {σ μ : Mem} (h : Sim σ μ) (x1 x2 x3 : Int32) : ∃ r σ' μ', CtI l (xW D cs ad ts) 4 yX6_years cX6_years 4 (some .int) [.ref (ad 0), .int x1, .int x2, .int x3] σ r σ' ∧ CtI l (mW D cs am) 2 yX7_years cX7_years 9 (some .int) [.ref (am 0), .int x1, .int x2, .int x3] μ r μ' ∧ Sim σ' μ' := by
  obtain ⟨-, -, -, -, ⟨A, a, B, hO, hD, hP, hX, hM, t1, t2, t3, t4, hH, hB⟩, -, -⟩ := id h
  obtain ⟨r, μ', e1, e2, e3⟩ := q_years (fuel := 4000) hX hM hO hD (by omega) t2 x1 x2 x3
  exact ⟨r, σ, μ', c_X6_years (l := l) (D := D) (cs := cs) (ad := ad) (ts := ts) (σ := σ) (fuel := 4000) (x1 := x1) (x2 := x2) (x3 := x3) (hf := e1), c_X7_years (l := l) (D := D) (cs := cs) (ad := am) (σ := μ) (fuel := 4000) (x1 := x1) (x2 := x2) (x3 := x3) (hf := e2), h.e11 e3⟩
theorem p_image {l : Launch} {D : va_G} {cs : ClassId × ClassId × ClassId} {ad am : Nat → Nat} {ts : Nat × Nat × Nat} {σ μ : Mem} (h : Sim σ μ) (x1 : Int32) : ∃ r σ' μ', CtI l (xW D cs ad ts) 2 yX6_image cX6_image 2 (some .int) [.ref (ad 0), .int x1] σ r σ' ∧ CtI l (mW D cs am) 2 yX7_image cX7_image 2 (some .int) [.ref (am 0), .int x1] μ r μ' ∧ Sim σ' μ' := by
  obtain ⟨-, -, -, -, ⟨A, a, B, hO, hD, hP, hX, hM, t1, t2, t3, t4, hH, hB⟩, -, -⟩ := id h
  obtain ⟨r, σ', μ', e1, e2, h'⟩ := s_image (fuel := 4000) h (by omega) x1
  exact ⟨r, σ', μ', c_X6_image (l := l) (D := D) (cs := cs) (ad := ad) (ts := ts) (σ := σ) (x1 := x1) (hf := e1), c_X7_image (l := l) (D := D) (cs := cs) (ad := am) (σ := μ) (fuel := 4000) (x1 := x1) (hf := e2), h'⟩
theorem p_restore {l : Launch} {D : va_G} {cs : ClassId × ClassId × ClassId} {ad am : Nat → Nat} {ts : Nat × Nat × Nat} {σ μ : Mem} (h : Sim σ μ) (x1 : Int32) : ∃ r σ' μ', CtI l (xW D cs ad ts) 2 yX6_restore cX6_restore 2 (some .int) [.ref (ad 0), .int x1] σ r σ' ∧ CtI l (mW D cs am) 2 yX7_restore cX7_restore 2 (some .int) [.ref (am 0), .int x1] μ r μ' ∧ Sim σ' μ' := by
  obtain ⟨-, -, -, -, ⟨A, a, B, hO, hD, hP, hX, hM, t1, t2, t3, t4, hH, hB⟩, -, -⟩ := id h
  obtain ⟨r, σ', μ', e1, e2, h'⟩ := s_restore (fuel := 4000) h (by omega) x1
  exact ⟨r, σ', μ', c_X6_restore (l := l) (D := D) (cs := cs) (ad := ad) (ts := ts) (σ := σ) (x1 := x1) (hf := e1), c_X7_restore (l := l) (D := D) (cs := cs) (ad := am) (σ := μ) (fuel := 4000) (x1 := x1) (hf := e2), h'⟩
theorem p_kind {l : Launch} {D : va_G} {cs : ClassId × ClassId × ClassId} {ad am : Nat → Nat} {ts : Nat × Nat × Nat} {σ μ : Mem} (h : Sim σ μ) (x1 : Int32) : ∃ r σ' μ', CtI l (xW D cs ad ts) 2 yX6_kind cX6_kind 2 (some .int) [.ref (ad 0), .int x1] σ r σ' ∧ CtI l (mW D cs am) 2 yX7_kind cX7_kind 2 (some .int) [.ref (am 0), .int x1] μ r μ' ∧ Sim σ' μ' := by
  obtain ⟨-, -, -, -, ⟨A, a, B, hO, hD, hP, hX, hM, t1, t2, t3, t4, hH, hB⟩, -, -⟩ := id h
  obtain ⟨r, e1, e2⟩ := q_kind hX hM hO x1
  exact ⟨r, σ, μ, c_X6_kind (l := l) (D := D) (cs := cs) (ad := ad) (ts := ts) (σ := σ) (x1 := x1) (hf := e1), c_X7_kind (l := l) (D := D) (cs := cs) (ad := am) (σ := μ) (x1 := x1) (hf := e2), h⟩
theorem p_as {l : Launch} {D : va_G} {cs : ClassId × ClassId × ClassId} {ad am : Nat → Nat} {ts : Nat × Nat × Nat} {σ μ : Mem} (h : Sim σ μ) (x1 x2 : Int32) : ∃ r σ' μ', CtI l (xW D cs ad ts) 2 yX6_as cX6_as 3 (some .int) [.ref (ad 0), .int x1, .int x2] σ r σ' ∧ CtI l (mW D cs am) 2 yX7_as cX7_as 3 (some .int) [.ref (am 0), .int x1, .int x2] μ r μ' ∧ Sim σ' μ' := by
  obtain ⟨-, -, -, -, ⟨A, a, B, hO, hD, hP, hX, hM, t1, t2, t3, t4, hH, hB⟩, -, -⟩ := id h
  obtain ⟨r, σ', μ', e1, e2, h'⟩ := s_as (fuel := 4000) h (by omega) x1 x2
  exact ⟨r, σ', μ', c_X6_as (l := l) (D := D) (cs := cs) (ad := ad) (ts := ts) (σ := σ) (fuel := 4000) (x1 := x1) (x2 := x2) (hf := e1), c_X7_as (l := l) (D := D) (cs := cs) (ad := am) (σ := μ) (x1 := x1) (x2 := x2) (hf := e2), h'⟩
theorem p_ask {l : Launch} {D : va_G} {cs : ClassId × ClassId × ClassId} {ad am : Nat → Nat} {ts : Nat × Nat × Nat} {σ μ : Mem} (h : Sim σ μ) (x1 x2 : Int32) : ∃ r σ' μ', CtI l (xW D cs ad ts) 39 yX6_ask cX6_ask 3 (some .int) [.ref (ad 0), .int x1, .int x2] σ r σ' ∧ CtI l (mW D cs am) 2 yX7_ask cX7_ask 5 (some .int) [.ref (am 0), .int x1, .int x2] μ r μ' ∧ Sim σ' μ' := by
  obtain ⟨-, -, -, -, ⟨A, a, B, hO, hD, hP, hX, hM, t1, t2, t3, t4, hH, hB⟩, -, -⟩ := id h
  obtain ⟨r, σ', μ', e1, e2, h'⟩ := s_ask (fuel := 4000) h (by omega) x1 x2
  exact ⟨r, σ', μ', c_X6_ask (l := l) (D := D) (cs := cs) (ad := ad) (ts := ts) (σ := σ) (fuel := 4000) (rb := rbN 4000 7) (dr := 5 * 7) (hrb := c_rb 4000 7) (x1 := x1) (x2 := x2) (hf := e1), c_X7_ask (l := l) (D := D) (cs := cs) (ad := am) (σ := μ) (fuel := 4000) (x1 := x1) (x2 := x2) (hf := e2), h'⟩
theorem p_trace {l : Launch} {D : va_G} {cs : ClassId × ClassId × ClassId} {ad am : Nat → Nat} {ts : Nat × Nat × Nat} {σ μ : Mem} (h : Sim σ μ) (x1 : Int32) : ∃ r σ' μ', CtI l (xW D cs ad ts) 1 yX6_trace cX6_trace 2 (some .int) [.ref (ad 0), .int x1] σ r σ' ∧ CtI l (mW D cs am) 1 yX7_trace cX7_trace 2 (some .int) [.ref (am 0), .int x1] μ r μ' ∧ Sim σ' μ' := by
  obtain ⟨-, -, -, -, ⟨A, a, B, hO, hD, hP, hX, hM, t1, t2, t3, t4, hH, hB⟩, -, -⟩ := id h
  obtain ⟨r, e1, e2⟩ := q_trace h x1
  exact ⟨r, σ, μ, c_X6_trace (l := l) (D := D) (cs := cs) (ad := ad) (ts := ts) (σ := σ) (x1 := x1) (hf := e1), c_X7_trace (l := l) (D := D) (cs := cs) (ad := am) (σ := μ) (x1 := x1) (hf := e2), h⟩
theorem p_count {l : Launch} {D : va_G} {cs : ClassId × ClassId × ClassId} {ad am : Nat → Nat} {ts : Nat × Nat × Nat} {σ μ : Mem} (h : Sim σ μ) (x1 : Int32) : ∃ r σ' μ', CtI l (xW D cs ad ts) 2 yX6_count cX6_count 2 (some .int) [.ref (ad 0), .int x1] σ r σ' ∧ CtI l (mW D cs am) 1 yX7_count cX7_count 4 (some .int) [.ref (am 0), .int x1] μ r μ' ∧ Sim σ' μ' := by
  obtain ⟨-, -, -, -, ⟨A, a, B, hO, hD, hP, hX, hM, t1, t2, t3, t4, hH, hB⟩, -, -⟩ := id h
  obtain ⟨r, e1, e2⟩ := q_count (fuel := 4000) h (by omega) x1
  exact ⟨r, σ, μ, c_X6_count (l := l) (D := D) (cs := cs) (ad := ad) (ts := ts) (σ := σ) (fuel := 4000) (x1 := x1) (hf := e1), c_X7_count (l := l) (D := D) (cs := cs) (ad := am) (σ := μ) (fuel := 4000) (x1 := x1) (hf := e2), h⟩
theorem p_status {l : Launch} {D : va_G} {cs : ClassId × ClassId × ClassId} {ad am : Nat → Nat} {ts : Nat × Nat × Nat} {σ μ : Mem} (h : Sim σ μ) : ∃ r σ' μ', CtI l (xW D cs ad ts) 0 yX6_status cX6_status 1 (some .int) [.ref (ad 0)] σ r σ' ∧ CtI l (mW D cs am) 0 yX7_status cX7_status 1 (some .int) [.ref (am 0)] μ r μ' ∧ Sim σ' μ' := by
  have e1 : f_X6_status σ = some (σ 0 9) := rfl
  have e2 : f_X7_status μ = some (σ 0 9) := by rw [h.2.1]; rfl
  exact ⟨_, σ, μ, c_X6_status (l := l) (D := D) (cs := cs) (ad := ad) (ts := ts) (σ := σ) (hf := e1), c_X7_status (l := l) (D := D) (cs := cs) (ad := am) (σ := μ) (hf := e2), h⟩
