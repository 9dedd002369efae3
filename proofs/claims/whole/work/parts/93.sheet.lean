/-! layer 2: the sheet -/
theorem bShr3 {x : Int} (h1 : -2147483648 ≤ x) (h2 : x < 2147483648) : bShr x 3 = x / 8 := bShr_3 (w32_id h1 h2)
theorem shF {m : Mem} (h : Rel m) : (m 76 0 = m 7 0 ∧ m 76 1 = m 7 1 ∧ m 76 2 = m 7 2 ∧ m 76 3 = m 7 3 ∧ m 76 4 = m 7 4 ∧ m 76 5 = m 7 5 ∧ m 76 6 = m 7 6)
  ∧ ((m 7 0 = 0 ∧ m 7 1 = 0) ∨ (1 ≤ m 7 0 ∧ m 7 0 ≤ 8 ∧ 3 ≤ m 7 1 ∧ m 7 1 ≤ 6))
  ∧ (1 ≤ m 7 2 ∧ m 7 2 ≤ 999 ∧ 1 ≤ m 7 3 ∧ m 7 3 ≤ 999 ∧ 0 ≤ m 7 4 ∧ m 7 4 ≤ 999 ∧ 1 ≤ m 7 5 ∧ m 7 5 ≤ 99 ∧ 1 ≤ m 7 6 ∧ m 7 6 ≤ 6)
  ∧ (∀ k, 0 ≤ k → k < m 7 6 → m 76 (7 + k) = m 8 k ∧ 0 ≤ m 8 k ∧ m 8 k ≤ 2)
  ∧ (∀ p, Pt (m 7 0) (m 7 1) p → (m 76 (16 + p) = m 9 p ∧ 0 ≤ m 9 p ∧ m 9 p ≤ 999) ∧ (m 76 (80 + p) = m 10 p ∧ 0 ≤ m 10 p ∧ m 10 p ≤ 999) ∧ m 76 (144 + p) = Sheet_isKept 7 p m) := by
  have q := h.2.2.2.1
  unfold Rsh ShR at q
  simp only [Int.zero_add, Nat.reduceAdd] at q
  exact q
theorem hpT {m : Mem} {a : Int} (s : (m 7 0 = 0 ∧ m 7 1 = 0) ∨ (1 ≤ m 7 0 ∧ m 7 0 ≤ 8 ∧ 3 ≤ m 7 1 ∧ m 7 1 ≤ 6)) (hp : Pt (m 7 0) (m 7 1) a) : Sheet_hasPoint 7 a m = 1 := by
  unfold Pt at hp
  simp (disch := omega) only [bP, bE, bV, ltM, ltI, st_eq, st_ne, w32_id, w64_id, ↓reduceIte, ilt_t, ilt_f, ile_t, ile_f, ieq_t, ieq_f, not_true_eq_false, not_false_eq_true, and_true, true_and, and_self, and_false, false_and, Int.reduceMod, Sheet_hasPoint, Sheet_hasStation, Sheet_hasWater, bShr3, bAnd_7]
theorem hpF {m : Mem} {a : Int} (s : (m 7 0 = 0 ∧ m 7 1 = 0) ∨ (1 ≤ m 7 0 ∧ m 7 0 ≤ 8 ∧ 3 ≤ m 7 1 ∧ m 7 1 ≤ 6)) (ca : w64 a = a) (hp : ¬ Pt (m 7 0) (m 7 1) a) : Sheet_hasPoint 7 a m = 0 := by
  unfold Pt at hp
  have l1 := w64_lo a
  have l2 := w64_hi a
  rcases (by omega : a < 0 ∨ 64 ≤ a ∨ ((0 ≤ a ∧ a < 64) ∧ m 7 0 ≤ a / 8) ∨ ((0 ≤ a ∧ a < 64) ∧ a / 8 < m 7 0 ∧ m 7 1 ≤ a % 8)) with g | g | g | g <;> simp (disch := omega) only [bP, bE, bV, ltM, ltI, st_eq, st_ne, w32_id, w64_id, ↓reduceIte, ilt_t, ilt_f, ile_t, ile_f, ieq_t, ieq_f, not_true_eq_false, not_false_eq_true, and_true, true_and, and_self, and_false, false_and, Int.reduceMod, Sheet_hasPoint, Sheet_hasStation, Sheet_hasWater, bShr3, bAnd_7]
theorem tmod8 {a : Int} (h : 0 ≤ a) : Int.tmod a 8 = a % 8 := Int.tmod_eq_emod_of_nonneg h
theorem mpT {m : Mem} {S W a : Int} (s : (S = 0 ∧ W = 0) ∨ (1 ≤ S ∧ S ≤ 8 ∧ 3 ≤ W ∧ W ≤ 6)) (e0 : m 76 0 = S) (e1 : m 76 1 = W) (hp : Pt S W a) : Mo_isPoint a m = 1 := by
  unfold Pt at hp
  simp (disch := omega) only [bP, bE, bV, ltM, ltI, st_eq, st_ne, w32_id, w64_id, ↓reduceIte, ilt_t, ilt_f, ile_t, ile_f, ieq_t, ieq_f, not_true_eq_false, not_false_eq_true, and_true, true_and, and_self, and_false, false_and, Int.reduceMod, Mo_isPoint, tmod8]
theorem mpF {m : Mem} {S W a : Int} (s : (S = 0 ∧ W = 0) ∨ (1 ≤ S ∧ S ≤ 8 ∧ 3 ≤ W ∧ W ≤ 6)) (e0 : m 76 0 = S) (e1 : m 76 1 = W) (ca : w64 a = a) (hp : ¬ Pt S W a) : Mo_isPoint a m = 0 := by
  unfold Pt at hp
  have l1 := w64_lo a
  have l2 := w64_hi a
  rcases (by omega : a < 0 ∨ (0 ≤ a ∧ 8 * S ≤ a) ∨ ((0 ≤ a ∧ a < 8 * S) ∧ W ≤ a % 8)) with g | g | g <;> simp (disch := omega) only [bP, bE, bV, ltM, ltI, st_eq, st_ne, w32_id, w64_id, ↓reduceIte, ilt_t, ilt_f, ile_t, ile_f, ieq_t, ieq_f, not_true_eq_false, not_false_eq_true, and_true, true_and, and_self, and_false, false_and, Int.reduceMod, Mo_isPoint, tmod8]
theorem s_told {m : Mem} (h : Rel m) {a0 : Int} (c0 : w32 a0 = a0) : Stq w32 (some (FL_told a0 m)) (fun m1 => some (Mo_told a0 m1)) := by
  have b0 := cn c0
  obtain ⟨⟨z0, z1, z2, z3, z4, z5, z6⟩, -⟩ := shF h
  rcases (by omega : (a0 < 0 ∨ 6 < a0) ∨ a0 = 0 ∨ a0 = 1 ∨ a0 = 2 ∨ a0 = 3 ∨ a0 = 4 ∨ a0 = 5 ∨ a0 = 6) with g | g | g | g | g | g | g | g
  · refine Stq.mk (x := -1) (m1 := st m 0 0 1) (y := -1) (m2 := st (st m 0 0 1) 75 1 1) ?_ ?_ rfl (h.stat 1)
    · simp (disch := omega) only [bP, bE, bV, ltM, ltI, st_eq, st_ne, w32_id, w64_id, ↓reduceIte, ilt_t, ilt_f, ile_t, ile_f, ieq_t, ieq_f, not_true_eq_false, not_false_eq_true, and_true, true_and, and_self, and_false, false_and, Int.reduceMod, FL_told, FL_isWithin, FL_no, FL_yes, FL_none, FL_answer]
    · rcases g with g | g <;> simp (disch := omega) only [bP, bE, bV, ltM, ltI, st_eq, st_ne, w32_id, w64_id, ↓reduceIte, ilt_t, ilt_f, ile_t, ile_f, ieq_t, ieq_f, not_true_eq_false, not_false_eq_true, and_true, true_and, and_self, and_false, false_and, Int.reduceMod, Mo_told, Mo_is, Mo_refuse, Mo_gives, Mo_isFrom]
  · subst g
    refine Stq.mk (x := m 7 0) (m1 := st m 0 0 0) (y := m 76 0) (m2 := st (st m 0 0 0) 75 1 0) ?_ ?_ (by rw [z0]) (h.stat 0)
    · simp (disch := omega) only [bP, bE, bV, ltM, ltI, st_eq, st_ne, w32_id, w64_id, ↓reduceIte, ilt_t, ilt_f, ile_t, ile_f, ieq_t, ieq_f, not_true_eq_false, not_false_eq_true, and_true, true_and, and_self, and_false, false_and, Int.reduceMod, FL_told, FL_isWithin, FL_no, FL_yes, FL_none, FL_answer]
    · simp (disch := omega) only [bP, bE, bV, ltM, ltI, st_eq, st_ne, w32_id, w64_id, ↓reduceIte, ilt_t, ilt_f, ile_t, ile_f, ieq_t, ieq_f, not_true_eq_false, not_false_eq_true, and_true, true_and, and_self, and_false, false_and, Int.reduceMod, Mo_told, Mo_is, Mo_refuse, Mo_gives, Mo_isFrom]
  · subst g
    refine Stq.mk (x := m 7 1) (m1 := st m 0 0 0) (y := m 76 1) (m2 := st (st m 0 0 0) 75 1 0) ?_ ?_ (by rw [z1]) (h.stat 0)
    · simp (disch := omega) only [bP, bE, bV, ltM, ltI, st_eq, st_ne, w32_id, w64_id, ↓reduceIte, ilt_t, ilt_f, ile_t, ile_f, ieq_t, ieq_f, not_true_eq_false, not_false_eq_true, and_true, true_and, and_self, and_false, false_and, Int.reduceMod, FL_told, FL_isWithin, FL_no, FL_yes, FL_none, FL_answer]
    · simp (disch := omega) only [bP, bE, bV, ltM, ltI, st_eq, st_ne, w32_id, w64_id, ↓reduceIte, ilt_t, ilt_f, ile_t, ile_f, ieq_t, ieq_f, not_true_eq_false, not_false_eq_true, and_true, true_and, and_self, and_false, false_and, Int.reduceMod, Mo_told, Mo_is, Mo_refuse, Mo_gives, Mo_isFrom]
  · subst g
    refine Stq.mk (x := m 7 2) (m1 := st m 0 0 0) (y := m 76 2) (m2 := st (st m 0 0 0) 75 1 0) ?_ ?_ (by rw [z2]) (h.stat 0)
    · simp (disch := omega) only [bP, bE, bV, ltM, ltI, st_eq, st_ne, w32_id, w64_id, ↓reduceIte, ilt_t, ilt_f, ile_t, ile_f, ieq_t, ieq_f, not_true_eq_false, not_false_eq_true, and_true, true_and, and_self, and_false, false_and, Int.reduceMod, FL_told, FL_isWithin, FL_no, FL_yes, FL_none, FL_answer]
    · simp (disch := omega) only [bP, bE, bV, ltM, ltI, st_eq, st_ne, w32_id, w64_id, ↓reduceIte, ilt_t, ilt_f, ile_t, ile_f, ieq_t, ieq_f, not_true_eq_false, not_false_eq_true, and_true, true_and, and_self, and_false, false_and, Int.reduceMod, Mo_told, Mo_is, Mo_refuse, Mo_gives, Mo_isFrom]
  · subst g
    refine Stq.mk (x := m 7 3) (m1 := st m 0 0 0) (y := m 76 3) (m2 := st (st m 0 0 0) 75 1 0) ?_ ?_ (by rw [z3]) (h.stat 0)
    · simp (disch := omega) only [bP, bE, bV, ltM, ltI, st_eq, st_ne, w32_id, w64_id, ↓reduceIte, ilt_t, ilt_f, ile_t, ile_f, ieq_t, ieq_f, not_true_eq_false, not_false_eq_true, and_true, true_and, and_self, and_false, false_and, Int.reduceMod, FL_told, FL_isWithin, FL_no, FL_yes, FL_none, FL_answer]
    · simp (disch := omega) only [bP, bE, bV, ltM, ltI, st_eq, st_ne, w32_id, w64_id, ↓reduceIte, ilt_t, ilt_f, ile_t, ile_f, ieq_t, ieq_f, not_true_eq_false, not_false_eq_true, and_true, true_and, and_self, and_false, false_and, Int.reduceMod, Mo_told, Mo_is, Mo_refuse, Mo_gives, Mo_isFrom]
  · subst g
    refine Stq.mk (x := m 7 4) (m1 := st m 0 0 0) (y := m 76 4) (m2 := st (st m 0 0 0) 75 1 0) ?_ ?_ (by rw [z4]) (h.stat 0)
    · simp (disch := omega) only [bP, bE, bV, ltM, ltI, st_eq, st_ne, w32_id, w64_id, ↓reduceIte, ilt_t, ilt_f, ile_t, ile_f, ieq_t, ieq_f, not_true_eq_false, not_false_eq_true, and_true, true_and, and_self, and_false, false_and, Int.reduceMod, FL_told, FL_isWithin, FL_no, FL_yes, FL_none, FL_answer]
    · simp (disch := omega) only [bP, bE, bV, ltM, ltI, st_eq, st_ne, w32_id, w64_id, ↓reduceIte, ilt_t, ilt_f, ile_t, ile_f, ieq_t, ieq_f, not_true_eq_false, not_false_eq_true, and_true, true_and, and_self, and_false, false_and, Int.reduceMod, Mo_told, Mo_is, Mo_refuse, Mo_gives, Mo_isFrom]
  · subst g
    refine Stq.mk (x := m 7 5) (m1 := st m 0 0 0) (y := m 76 5) (m2 := st (st m 0 0 0) 75 1 0) ?_ ?_ (by rw [z5]) (h.stat 0)
    · simp (disch := omega) only [bP, bE, bV, ltM, ltI, st_eq, st_ne, w32_id, w64_id, ↓reduceIte, ilt_t, ilt_f, ile_t, ile_f, ieq_t, ieq_f, not_true_eq_false, not_false_eq_true, and_true, true_and, and_self, and_false, false_and, Int.reduceMod, FL_told, FL_isWithin, FL_no, FL_yes, FL_none, FL_answer]
    · simp (disch := omega) only [bP, bE, bV, ltM, ltI, st_eq, st_ne, w32_id, w64_id, ↓reduceIte, ilt_t, ilt_f, ile_t, ile_f, ieq_t, ieq_f, not_true_eq_false, not_false_eq_true, and_true, true_and, and_self, and_false, false_and, Int.reduceMod, Mo_told, Mo_is, Mo_refuse, Mo_gives, Mo_isFrom]
  · subst g
    refine Stq.mk (x := m 7 6) (m1 := st m 0 0 0) (y := m 76 6) (m2 := st (st m 0 0 0) 75 1 0) ?_ ?_ (by rw [z6]) (h.stat 0)
    · simp (disch := omega) only [bP, bE, bV, ltM, ltI, st_eq, st_ne, w32_id, w64_id, ↓reduceIte, ilt_t, ilt_f, ile_t, ile_f, ieq_t, ieq_f, not_true_eq_false, not_false_eq_true, and_true, true_and, and_self, and_false, false_and, Int.reduceMod, FL_told, FL_isWithin, FL_no, FL_yes, FL_none, FL_answer]
    · simp (disch := omega) only [bP, bE, bV, ltM, ltI, st_eq, st_ne, w32_id, w64_id, ↓reduceIte, ilt_t, ilt_f, ile_t, ile_f, ieq_t, ieq_f, not_true_eq_false, not_false_eq_true, and_true, true_and, and_self, and_false, false_and, Int.reduceMod, Mo_told, Mo_is, Mo_refuse, Mo_gives, Mo_isFrom]
theorem s_view {m : Mem} (h : Rel m) {a0 : Int} (c0 : w32 a0 = a0) : Stq w32 (some (FL_view a0 m)) (fun m1 => Mo_view a0 m1) := by
  have b0 := cn c0
  obtain ⟨⟨z0, z1, z2, z3, z4, z5, z6⟩, hs, hr, hv, hp⟩ := shF h
  by_cases g1 : a0 < 0
  · refine Stq.mk (x := -1) (m1 := st m 0 0 1) (y := -1) (m2 := st (st m 0 0 1) 75 1 1) ?_ ?_ rfl (h.stat 1)
    · simp (disch := omega) only [bP, bE, bV, ltM, ltI, st_eq, st_ne, w32_id, w64_id, ↓reduceIte, ilt_t, ilt_f, ile_t, ile_f, ieq_t, ieq_f, not_true_eq_false, not_false_eq_true, and_true, true_and, and_self, and_false, false_and, Int.reduceMod, FL_view, FL_isWithin, FL_no, FL_yes, FL_none, FL_answer]
    · simp (disch := omega) only [bP, bE, bV, ltM, ltI, st_eq, st_ne, w32_id, w64_id, ↓reduceIte, ilt_t, ilt_f, ile_t, ile_f, ieq_t, ieq_f, not_true_eq_false, not_false_eq_true, and_true, true_and, and_self, and_false, false_and, Int.reduceMod, Mo_view, Mo_is, Mo_refuse, Mo_gives, Mo_isFrom]
  by_cases g2 : m 7 6 ≤ a0
  · refine Stq.mk (x := -1) (m1 := st m 0 0 6) (y := -1) (m2 := st (st m 0 0 6) 75 1 6) ?_ ?_ rfl (h.stat 6)
    · simp (disch := omega) only [bP, bE, bV, ltM, ltI, st_eq, st_ne, w32_id, w64_id, ↓reduceIte, ilt_t, ilt_f, ile_t, ile_f, ieq_t, ieq_f, not_true_eq_false, not_false_eq_true, and_true, true_and, and_self, and_false, false_and, Int.reduceMod, FL_view, FL_isWithin, FL_no, FL_yes, FL_none, FL_answer]
    · simp (disch := omega) only [bP, bE, bV, ltM, ltI, st_eq, st_ne, w32_id, w64_id, ↓reduceIte, ilt_t, ilt_f, ile_t, ile_f, ieq_t, ieq_f, not_true_eq_false, not_false_eq_true, and_true, true_and, and_self, and_false, false_and, Int.reduceMod, Mo_view, Mo_is, Mo_refuse, Mo_gives, Mo_isFrom]
  have hk := hv a0 (by omega) (by omega)
  refine Stq.mk (x := m 8 a0) (m1 := st m 0 0 0) (y := m 76 (7 + a0)) (m2 := st (st m 0 0 0) 75 1 0) ?_ ?_ (by rw [hk.1]) (h.stat 0)
  · simp (disch := omega) only [bP, bE, bV, ltM, ltI, st_eq, st_ne, w32_id, w64_id, ↓reduceIte, ilt_t, ilt_f, ile_t, ile_f, ieq_t, ieq_f, not_true_eq_false, not_false_eq_true, and_true, true_and, and_self, and_false, false_and, Int.reduceMod, FL_view, FL_isWithin, FL_no, FL_yes, FL_none, FL_answer]
  · simp (disch := omega) only [bP, bE, bV, ltM, ltI, st_eq, st_ne, w32_id, w64_id, ↓reduceIte, ilt_t, ilt_f, ile_t, ile_f, ieq_t, ieq_f, not_true_eq_false, not_false_eq_true, and_true, true_and, and_self, and_false, false_and, Int.reduceMod, Mo_view, Mo_is, Mo_refuse, Mo_gives, Mo_isFrom]
theorem c64 {a : Int} (h : w32 a = a) : w64 a = a := by have := cn h; exact w64_id (by omega) (by omega)
theorem kept01 {c : Nat} {p : Int} {m : Mem} : Sheet_isKept c p m = 0 ∨ Sheet_isKept c p m = 1 := by
  unfold Sheet_isKept; split
  · exact Or.inl rfl
  · exact Or.inr rfl
theorem s_point {m : Mem} (h : Rel m) {a0 a1 : Int} (c0 : w32 a0 = a0) (c1 : w32 a1 = a1) : Stq w32 (some (FL_point a0 a1 m)) (fun m1 => Mo_point a0 a1 m1) := by
  have b0 := cn c0
  have b1 := cn c1
  obtain ⟨⟨z0, z1, z2, z3, z4, z5, z6⟩, hs, hr, hv, hp⟩ := shF h
  by_cases gp : Pt (m 7 0) (m 7 1) a0
  · have f1 := hpT hs gp
    have f2 : ∀ k, Mo_isPoint a0 (st m 0 0 k) = 1 := fun k => mpT hs z0 z1 gp
    obtain ⟨⟨p1, p2, p3⟩, ⟨p4, p5, p6⟩, p7⟩ := hp a0 gp
    have gp' := gp
    unfold Pt at gp'
    rcases (by omega : (a1 < 0 ∨ 2 < a1) ∨ a1 = 0 ∨ a1 = 1 ∨ a1 = 2) with g | g | g | g
    · refine Stq.mk (x := -1) (m1 := st m 0 0 1) (y := -1) (m2 := st (st m 0 0 1) 75 1 1) ?_ ?_ rfl (h.stat 1)
      · rcases g with g | g <;> simp (disch := omega) only [bP, bE, bV, ltM, ltI, st_eq, st_ne, w32_id, w64_id, ↓reduceIte, ilt_t, ilt_f, ile_t, ile_f, ieq_t, ieq_f, not_true_eq_false, not_false_eq_true, and_true, true_and, and_self, and_false, false_and, Int.reduceMod, FL_point, FL_isWithin, FL_no, FL_yes, FL_none, FL_answer, f1]
      · rcases g with g | g <;> simp (disch := omega) only [bP, bE, bV, ltM, ltI, st_eq, st_ne, w32_id, w64_id, ↓reduceIte, ilt_t, ilt_f, ile_t, ile_f, ieq_t, ieq_f, not_true_eq_false, not_false_eq_true, and_true, true_and, and_self, and_false, false_and, Int.reduceMod, Mo_point, Mo_is, Mo_refuse, Mo_gives, Mo_isFrom, f2]
    · subst g
      refine Stq.mk (x := m 10 a0) (m1 := st m 0 0 0) (y := m 76 (80 + a0)) (m2 := st (st m 0 0 0) 75 1 0) ?_ ?_ (by rw [p4]) (h.stat 0)
      · simp (disch := omega) only [bP, bE, bV, ltM, ltI, st_eq, st_ne, w32_id, w64_id, ↓reduceIte, ilt_t, ilt_f, ile_t, ile_f, ieq_t, ieq_f, not_true_eq_false, not_false_eq_true, and_true, true_and, and_self, and_false, false_and, Int.reduceMod, FL_point, FL_isWithin, FL_no, FL_yes, FL_none, FL_answer, f1, Sheet_at, Nat.reduceAdd]
      · simp (disch := omega) only [bP, bE, bV, ltM, ltI, st_eq, st_ne, w32_id, w64_id, ↓reduceIte, ilt_t, ilt_f, ile_t, ile_f, ieq_t, ieq_f, not_true_eq_false, not_false_eq_true, and_true, true_and, and_self, and_false, false_and, Int.reduceMod, Mo_point, Mo_is, Mo_refuse, Mo_gives, Mo_isFrom, f2]
    · subst g
      refine Stq.mk (x := m 9 a0) (m1 := st m 0 0 0) (y := m 76 (16 + a0)) (m2 := st (st m 0 0 0) 75 1 0) ?_ ?_ (by rw [p1]) (h.stat 0)
      · simp (disch := omega) only [bP, bE, bV, ltM, ltI, st_eq, st_ne, w32_id, w64_id, ↓reduceIte, ilt_t, ilt_f, ile_t, ile_f, ieq_t, ieq_f, not_true_eq_false, not_false_eq_true, and_true, true_and, and_self, and_false, false_and, Int.reduceMod, FL_point, FL_isWithin, FL_no, FL_yes, FL_none, FL_answer, f1, Sheet_toldAt, Nat.reduceAdd]
      · simp (disch := omega) only [bP, bE, bV, ltM, ltI, st_eq, st_ne, w32_id, w64_id, ↓reduceIte, ilt_t, ilt_f, ile_t, ile_f, ieq_t, ieq_f, not_true_eq_false, not_false_eq_true, and_true, true_and, and_self, and_false, false_and, Int.reduceMod, Mo_point, Mo_is, Mo_refuse, Mo_gives, Mo_isFrom, f2]
    · subst g
      refine Stq.mk (x := Sheet_isKept 7 a0 m) (m1 := st m 0 0 0) (y := m 76 (144 + a0)) (m2 := st (st m 0 0 0) 75 1 0) ?_ ?_ (by rw [p7]) (h.stat 0)
      · rcases kept01 (c := 7) (p := a0) (m := m) with k | k <;> simp (disch := omega) only [bP, bE, bV, ltM, ltI, st_eq, st_ne, w32_id, w64_id, ↓reduceIte, ilt_t, ilt_f, ile_t, ile_f, ieq_t, ieq_f, not_true_eq_false, not_false_eq_true, and_true, true_and, and_self, and_false, false_and, Int.reduceMod, FL_point, FL_isWithin, FL_no, FL_yes, FL_none, FL_answer, f1, k]
      · simp (disch := omega) only [bP, bE, bV, ltM, ltI, st_eq, st_ne, w32_id, w64_id, ↓reduceIte, ilt_t, ilt_f, ile_t, ile_f, ieq_t, ieq_f, not_true_eq_false, not_false_eq_true, and_true, true_and, and_self, and_false, false_and, Int.reduceMod, Mo_point, Mo_is, Mo_refuse, Mo_gives, Mo_isFrom, f2]
  · have f1 := hpF hs (c64 c0) gp
    have f2 : ∀ k, Mo_isPoint a0 (st m 0 0 k) = 0 := fun k => mpF hs z0 z1 (c64 c0) gp
    refine Stq.mk (x := -1) (m1 := st m 0 0 1) (y := -1) (m2 := st (st m 0 0 1) 75 1 1) ?_ ?_ rfl (h.stat 1)
    · simp (disch := omega) only [bP, bE, bV, ltM, ltI, st_eq, st_ne, w32_id, w64_id, ↓reduceIte, ilt_t, ilt_f, ile_t, ile_f, ieq_t, ieq_f, not_true_eq_false, not_false_eq_true, and_true, true_and, and_self, and_false, false_and, Int.reduceMod, FL_point, FL_isWithin, FL_no, FL_yes, FL_none, FL_answer, f1]
    · simp (disch := omega) only [bP, bE, bV, ltM, ltI, st_eq, st_ne, w32_id, w64_id, ↓reduceIte, ilt_t, ilt_f, ile_t, ile_f, ieq_t, ieq_f, not_true_eq_false, not_false_eq_true, and_true, true_and, and_self, and_false, false_and, Int.reduceMod, Mo_point, Mo_is, Mo_refuse, Mo_gives, Mo_isFrom, f2]
theorem ShR_pts {m m' : Mem} {c : Nat} {b : Int} (h : ShR m c b) (e0 : ∀ i, 0 ≤ i → i ≤ 6 → m' c i = m c i) (e1 : m' (c + 1) = m (c + 1)) (e76 : ∀ i, b ≤ i → i < b + 14 → m' 76 i = m 76 i) (hp : ∀ p, Pt (m c 0) (m c 1) p → (m' 76 (b + 16 + p) = m' (c + 2) p ∧ 0 ≤ m' (c + 2) p ∧ m' (c + 2) p ≤ 999) ∧ (m' 76 (b + 80 + p) = m' (c + 3) p ∧ 0 ≤ m' (c + 3) p ∧ m' (c + 3) p ≤ 999) ∧ m' 76 (b + 144 + p) = Sheet_isKept c p m') : ShR m' c b := by
  obtain ⟨⟨a0, a1, a2, a3, a4, a5, a6⟩, b1, b2, b3, b4⟩ := h
  unfold ShR
  rw [e0 0 (by omega) (by omega), e0 1 (by omega) (by omega), e0 2 (by omega) (by omega), e0 3 (by omega) (by omega), e0 4 (by omega) (by omega), e0 5 (by omega) (by omega), e0 6 (by omega) (by omega), e1]
  refine ⟨⟨?_, ?_, ?_, ?_, ?_, ?_, ?_⟩, b1, b2, ?_, hp⟩
  · rw [e76 b (by omega) (by omega)]; exact a0
  · rw [e76 _ (by omega) (by omega)]; exact a1
  · rw [e76 _ (by omega) (by omega)]; exact a2
  · rw [e76 _ (by omega) (by omega)]; exact a3
  · rw [e76 _ (by omega) (by omega)]; exact a4
  · rw [e76 _ (by omega) (by omega)]; exact a5
  · rw [e76 _ (by omega) (by omega)]; exact a6
  · intro k h0 h1
    rw [e76 _ (by omega) (by omega)]; exact b3 k h0 h1
theorem c76 {i : Int} (h0 : 0 ≤ i) (h1 : i < 208) (h2 : i ≠ 14) : comp 76 i = 4 := by
  show (if i = 14 then 5 else if 0 ≤ i ∧ i < 208 then 4 else _) = 4
  rw [if_neg h2, if_pos (by omega)]
theorem s_move {m : Mem} (h : Rel m) {a0 a1 : Int} (c0 : w32 a0 = a0) (c1 : w32 a1 = a1) : Stq w32 (some (FL_move a0 a1 m)) (fun m1 => Mo_move a0 a1 m1) := by
  have b0 := cn c0
  have b1 := cn c1
  obtain ⟨⟨z0, z1, z2, z3, z4, z5, z6⟩, hs, hr, hv, hp⟩ := shF h
  by_cases gp : Pt (m 7 0) (m 7 1) a0
  · have f1 := hpT hs gp
    obtain ⟨⟨p1, p2, p3⟩, ⟨p4, p5, p6⟩, p7⟩ := hp a0 gp
    have gp' := gp
    unfold Pt at gp'
    by_cases g : 0 ≤ a1 ∧ a1 ≤ 999
    · rcases kept01 (c := 7) (p := a0) (m := m) with k | k
      · have f2 : ∀ k, Mo_isPoint a0 (st (st m 10 a0 a1) 0 0 k) = 1 := fun k => mpT hs z0 z1 gp
        refine Stq.mk (x := 1) (m1 := st (st m 10 a0 a1) 0 0 0) (y := 1) (m2 := st (st (st (st m 10 a0 a1) 0 0 0) 76 (80 + a0) a1) 75 1 0) ?_ ?_ rfl ?_
        · simp (disch := omega) only [bP, bE, bV, ltM, ltI, st_eq, st_ne, w32_id, w64_id, ↓reduceIte, ilt_t, ilt_f, ile_t, ile_f, ieq_t, ieq_f, not_true_eq_false, not_false_eq_true, and_true, true_and, and_self, and_false, false_and, Int.reduceMod, FL_move, FL_isWithin, FL_no, FL_yes, FL_none, FL_answer, f1, k, Sheet_put, Nat.reduceAdd]
        · simp (disch := omega) only [bP, bE, bV, ltM, ltI, st_eq, st_ne, w32_id, w64_id, ↓reduceIte, ilt_t, ilt_f, ile_t, ile_f, ieq_t, ieq_f, not_true_eq_false, not_false_eq_true, and_true, true_and, and_self, and_false, false_and, Int.reduceMod, Mo_move, Mo_is, Mo_refuse, Mo_gives, Mo_isFrom, f2]
        · refine h.sh ((((((Ag.refl m).st (by simp [comp])).st (by simp [comp])).st (by rw [c76 (by omega) (by omega) (by omega)]; decide))).st (by simp [comp])) (Rst_set h.1 (k := 0) rfl rfl rfl rfl rfl rfl) ?_
          refine ShR_pts h.2.2.2.1 (fun i _ _ => ?_) rfl (fun i _ _ => ?_) (fun p hp' => ?_)
          · simp [st]
          · simp only [st, Nat.reduceEqDiff, ↓reduceIte]; rw [if_neg (by omega)]
          · obtain ⟨⟨q1, q2, q3⟩, ⟨q4, q5, q6⟩, q7⟩ := hp p hp'
            unfold Pt at hp'
            have ek : Sheet_isKept 7 p (st (st (st (st m 10 a0 a1) 0 0 0) 76 (80 + a0) a1) 75 1 0) = Sheet_isKept 7 p m := rfl
            rw [ek]
            by_cases e : p = a0
            · subst e
              simp (disch := omega) only [bP, bE, bV, ltM, ltI, st_eq, st_ne, w32_id, w64_id, ↓reduceIte, ilt_t, ilt_f, ile_t, ile_f, ieq_t, ieq_f, not_true_eq_false, not_false_eq_true, and_true, true_and, and_self, and_false, false_and, Int.reduceMod, Int.zero_add, Nat.reduceAdd]
            · simp (disch := omega) only [bP, bE, bV, ltM, ltI, st_eq, st_ne, w32_id, w64_id, ↓reduceIte, ilt_t, ilt_f, ile_t, ile_f, ieq_t, ieq_f, not_true_eq_false, not_false_eq_true, and_true, true_and, and_self, and_false, false_and, Int.reduceMod, Int.zero_add, Nat.reduceAdd]
      · have f2 : ∀ k, Mo_isPoint a0 (st m 0 0 k) = 1 := fun k => mpT hs z0 z1 gp
        have k' : m 76 (144 + a0) = 1 := by rw [p7, k]
        refine Stq.mk (x := 0) (m1 := st m 0 0 7) (y := 0) (m2 := st (st m 0 0 7) 75 1 7) ?_ ?_ rfl (h.stat 7)
        · simp (disch := omega) only [bP, bE, bV, ltM, ltI, st_eq, st_ne, w32_id, w64_id, ↓reduceIte, ilt_t, ilt_f, ile_t, ile_f, ieq_t, ieq_f, not_true_eq_false, not_false_eq_true, and_true, true_and, and_self, and_false, false_and, Int.reduceMod, FL_move, FL_isWithin, FL_no, FL_yes, FL_none, FL_answer, f1, k]
        · simp (disch := omega) only [bP, bE, bV, ltM, ltI, st_eq, st_ne, w32_id, w64_id, ↓reduceIte, ilt_t, ilt_f, ile_t, ile_f, ieq_t, ieq_f, not_true_eq_false, not_false_eq_true, and_true, true_and, and_self, and_false, false_and, Int.reduceMod, Mo_move, Mo_is, Mo_refuse, Mo_gives, Mo_isFrom, f2]
    · have f2 : ∀ k, Mo_isPoint a0 (st m 0 0 k) = 1 := fun k => mpT hs z0 z1 gp
      have hb : a1 < 0 ∨ 999 < a1 := by omega
      refine Stq.mk (x := 0) (m1 := st m 0 0 1) (y := 0) (m2 := st (st m 0 0 1) 75 1 1) ?_ ?_ rfl (h.stat 1)
      · rcases hb with g | g <;> simp (disch := omega) only [bP, bE, bV, ltM, ltI, st_eq, st_ne, w32_id, w64_id, ↓reduceIte, ilt_t, ilt_f, ile_t, ile_f, ieq_t, ieq_f, not_true_eq_false, not_false_eq_true, and_true, true_and, and_self, and_false, false_and, Int.reduceMod, FL_move, FL_isWithin, FL_no, FL_yes, FL_none, FL_answer, f1]
      · rcases hb with g | g <;> simp (disch := omega) only [bP, bE, bV, ltM, ltI, st_eq, st_ne, w32_id, w64_id, ↓reduceIte, ilt_t, ilt_f, ile_t, ile_f, ieq_t, ieq_f, not_true_eq_false, not_false_eq_true, and_true, true_and, and_self, and_false, false_and, Int.reduceMod, Mo_move, Mo_is, Mo_refuse, Mo_gives, Mo_isFrom, f2]
  · have f1 := hpF hs (c64 c0) gp
    have f2 : ∀ k, Mo_isPoint a0 (st m 0 0 k) = 0 := fun k => mpF hs z0 z1 (c64 c0) gp
    refine Stq.mk (x := 0) (m1 := st m 0 0 1) (y := 0) (m2 := st (st m 0 0 1) 75 1 1) ?_ ?_ rfl (h.stat 1)
    · simp (disch := omega) only [bP, bE, bV, ltM, ltI, st_eq, st_ne, w32_id, w64_id, ↓reduceIte, ilt_t, ilt_f, ile_t, ile_f, ieq_t, ieq_f, not_true_eq_false, not_false_eq_true, and_true, true_and, and_self, and_false, false_and, Int.reduceMod, FL_move, FL_isWithin, FL_no, FL_yes, FL_none, FL_answer, f1]
    · simp (disch := omega) only [bP, bE, bV, ltM, ltI, st_eq, st_ne, w32_id, w64_id, ↓reduceIte, ilt_t, ilt_f, ile_t, ile_f, ieq_t, ieq_f, not_true_eq_false, not_false_eq_true, and_true, true_and, and_self, and_false, false_and, Int.reduceMod, Mo_move, Mo_is, Mo_refuse, Mo_gives, Mo_isFrom, f2]
theorem kept_or {c : Nat} {p q : Int} {m m' : Mem} (p0 : 0 ≤ p) (p1 : p < 64) (q0 : 0 ≤ q) (q1 : q < 64) (e : m' c 10 = lOr (m c 10) (Sheet_bit p)) : Sheet_isKept c q m' = if q = p then 1 else Sheet_isKept c q m := by
  rw [kept_kb q0 q1, kept_kb q0 q1, e, kb_set p0 p1 q0 q1]
  by_cases h : q = p
  · simp [h]
  · simp [h]
theorem kept_cl {c : Nat} {p q : Int} {m m' : Mem} (p0 : 0 ≤ p) (p1 : p < 64) (q0 : 0 ≤ q) (q1 : q < 64) (e : m' c 10 = lAnd (m c 10) (lXor (Sheet_bit p) (-1))) : Sheet_isKept c q m' = if q = p then 0 else Sheet_isKept c q m := by
  rw [kept_kb q0 q1, kept_kb q0 q1, e, kb_clr p0 p1 q0 q1]
  by_cases h : q = p
  · simp [h]
  · simp [h]
/-- the sheet's main relation when only what is kept has changed at a point -/
theorem Rsh_kept {m m' : Mem} (h : Rel m) {p v : Int} (gp : Pt (m 7 0) (m 7 1) p) (e0 : ∀ i, 0 ≤ i → i ≤ 6 → m' 7 i = m 7 i) (e1 : m' 8 = m 8) (e2 : m' 9 = m 9) (e3 : m' 10 = m 10) (e76 : ∀ i, 0 ≤ i → i < 208 → m' 76 i = if i = 144 + p then v else m 76 i) (ek : ∀ q, 0 ≤ q → q < 64 → Sheet_isKept 7 q m' = if q = p then v else Sheet_isKept 7 q m) : Rsh m' := by
  obtain ⟨⟨z0, z1, z2, z3, z4, z5, z6⟩, hs, hr, hv, hp⟩ := shF h
  unfold Pt at gp
  refine ShR_pts h.2.2.2.1 e0 e1 (fun i _ _ => by rw [e76 i (by omega) (by omega), if_neg (by omega)]) (fun q hq => ?_)
  obtain ⟨⟨q1, q2, q3⟩, ⟨q4, q5, q6⟩, q7⟩ := hp q hq
  unfold Pt at hq
  simp only [Int.zero_add, Nat.reduceAdd]
  rw [e2, e3, e76 (16 + q) (by omega) (by omega), e76 (80 + q) (by omega) (by omega), e76 (144 + q) (by omega) (by omega), ek q (by omega) (by omega), if_neg (by omega), if_neg (by omega)]
  refine ⟨⟨q1, q2, q3⟩, ⟨q4, q5, q6⟩, ?_⟩
  by_cases e : q = p
  · subst e; simp
  · rw [if_neg (by omega), if_neg e]; exact q7
theorem s_keep {m : Mem} (h : Rel m) {a0 a1 : Int} (c0 : w32 a0 = a0) (c1 : a1 = 0 ∨ a1 = 1) : Stq w32 (some (FL_keep a0 a1 m)) (fun m1 => Mo_keep a0 a1 m1) := by
  have b0 := cn c0
  obtain ⟨⟨z0, z1, z2, z3, z4, z5, z6⟩, hs, hr, hv, hp⟩ := shF h
  by_cases gp : Pt (m 7 0) (m 7 1) a0
  · have f1 := hpT hs gp
    obtain ⟨⟨p1, p2, p3⟩, ⟨p4, p5, p6⟩, p7⟩ := hp a0 gp
    have gp' := gp
    unfold Pt at gp'
    have k01 := kept01 (c := 7) (p := a0) (m := m)
    by_cases g : Sheet_isKept 7 a0 m = a1
    · have f2 : ∀ k, Mo_isPoint a0 (st m 0 0 k) = 1 := fun k => mpT hs z0 z1 gp
      refine Stq.mk (x := 0) (m1 := st m 0 0 7) (y := 0) (m2 := st (st m 0 0 7) 75 1 7) ?_ ?_ rfl (h.stat 7)
      · simp (disch := omega) only [bP, bE, bV, ltM, ltI, st_eq, st_ne, w32_id, w64_id, ↓reduceIte, ilt_t, ilt_f, ile_t, ile_f, ieq_t, ieq_f, not_true_eq_false, not_false_eq_true, and_true, true_and, and_self, and_false, false_and, Int.reduceMod, FL_keep, FL_isWithin, FL_no, FL_yes, FL_none, FL_answer, f1]
      · rcases c1 with c1 | c1 <;> simp (disch := omega) only [bP, bE, bV, ltM, ltI, st_eq, st_ne, w32_id, w64_id, ↓reduceIte, ilt_t, ilt_f, ile_t, ile_f, ieq_t, ieq_f, not_true_eq_false, not_false_eq_true, and_true, true_and, and_self, and_false, false_and, Int.reduceMod, Mo_keep, Mo_is, Mo_refuse, Mo_gives, Mo_isFrom, f2]
    · let K' : Int := if a1 = 0 then lAnd (m 7 10) (lXor (Sheet_bit a0) (-1)) else lOr (m 7 10) (Sheet_bit a0)
      have f2 : ∀ k, Mo_isPoint a0 (st (st m 7 10 K') 0 0 k) = 1 := fun k => mpT hs z0 z1 gp
      refine Stq.mk (x := 1) (m1 := st (st m 7 10 K') 0 0 0) (y := 1) (m2 := st (st (st (st m 7 10 K') 0 0 0) 76 (144 + a0) a1) 75 1 0) ?_ ?_ rfl ?_
      · have eK : (if w32 a1 = 0 then lAnd (m 7 10) (lXor (Sheet_bit a0) (-1)) else lOr (m 7 10) (Sheet_bit a0)) = K' := by rw [w32_id (by omega) (by omega)]
        unfold FL_keep Sheet_setKept
        rw [c0, f1, if_pos (by decide), w32_id (x := a1) (by omega) (by omega), if_pos g]
        rfl
      · rcases c1 with c1 | c1 <;> simp (disch := omega) only [bP, bE, bV, ltM, ltI, st_eq, st_ne, w32_id, w64_id, ↓reduceIte, ilt_t, ilt_f, ile_t, ile_f, ieq_t, ieq_f, not_true_eq_false, not_false_eq_true, and_true, true_and, and_self, and_false, false_and, Int.reduceMod, Mo_keep, Mo_is, Mo_refuse, Mo_gives, Mo_isFrom, f2] <;> rw [c1]
      · refine h.sh ((((((Ag.refl m).st (by simp [comp])).st (by simp [comp])).st (by rw [c76 (by omega) (by omega) (by omega)]; decide))).st (by simp [comp])) (Rst_set h.1 (k := 0) rfl rfl rfl rfl rfl rfl) ?_
        refine Rsh_kept h gp (v := a1) (fun i _ _ => ?_) rfl rfl rfl (fun i _ _ => rfl) (fun q q0 q1 => ?_)
        · rw [st_ne _ _ _ (by decide), st_ne _ _ _ (by decide), st_ne _ _ _ (by decide), st_eq, if_neg (by omega)]
        · rcases c1 with c1 | c1
          · rw [kept_cl (p := a0) (m := m) (by omega) (by omega) q0 q1 (by show K' = _; exact if_pos c1), c1]
          · rw [kept_or (p := a0) (m := m) (by omega) (by omega) q0 q1 (by show K' = _; exact if_neg (by omega)), c1]
  · have f1 := hpF hs (c64 c0) gp
    have f2 : ∀ k, Mo_isPoint a0 (st m 0 0 k) = 0 := fun k => mpF hs z0 z1 (c64 c0) gp
    refine Stq.mk (x := 0) (m1 := st m 0 0 1) (y := 0) (m2 := st (st m 0 0 1) 75 1 1) ?_ ?_ rfl (h.stat 1)
    · simp (disch := omega) only [bP, bE, bV, ltM, ltI, st_eq, st_ne, w32_id, w64_id, ↓reduceIte, ilt_t, ilt_f, ile_t, ile_f, ieq_t, ieq_f, not_true_eq_false, not_false_eq_true, and_true, true_and, and_self, and_false, false_and, Int.reduceMod, FL_keep, FL_isWithin, FL_no, FL_yes, FL_none, FL_answer, f1]
    · simp (disch := omega) only [bP, bE, bV, ltM, ltI, st_eq, st_ne, w32_id, w64_id, ↓reduceIte, ilt_t, ilt_f, ile_t, ile_f, ieq_t, ieq_f, not_true_eq_false, not_false_eq_true, and_true, true_and, and_self, and_false, false_and, Int.reduceMod, Mo_keep, Mo_is, Mo_refuse, Mo_gives, Mo_isFrom, f2]
