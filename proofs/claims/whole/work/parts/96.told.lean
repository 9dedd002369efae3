/-! layer 2: what is told of calls before -/
theorem s_ended {m : Mem} (h : Rel m) {a0 : Int} (c0 : w32 a0 = a0) : Stq w32 (some (FL_ended a0 m)) (fun m1 => some (Mo_ended a0 m1)) := by
  have b0 := cn c0
  obtain ⟨r1, r2, r3, r4⟩ := h.2.2.2.2.2.2.1
  by_cases g : 0 ≤ a0 ∧ a0 ≤ 2
  · by_cases gn : m 28 4 = -1
    · refine Stq.mk (x := -1) (m1 := st m 0 0 6) (y := -1) (m2 := st (st m 0 0 6) 75 1 6) ?_ ?_ rfl (h.stat 6)
      · simp (disch := omega) only [bP, bE, bV, ltM, ltI, st_eq, st_ne, w32_id, w64_id, ↓reduceIte, ilt_t, ilt_f, ile_t, ile_f, ieq_t, ieq_f, not_true_eq_false, not_false_eq_true, and_true, true_and, and_self, and_false, false_and, Int.reduceMod, FL_ended, FL_isWithin, FL_no, FL_yes, FL_none, FL_answer]
      · simp (disch := omega) only [bP, bE, bV, ltM, ltI, st_eq, st_ne, w32_id, w64_id, ↓reduceIte, ilt_t, ilt_f, ile_t, ile_f, ieq_t, ieq_f, not_true_eq_false, not_false_eq_true, and_true, true_and, and_self, and_false, false_and, Int.reduceMod, Mo_ended, Mo_is, Mo_refuse, Mo_gives, Mo_isFrom]
    by_cases gz : a0 = 0
    · subst gz
      refine Stq.mk (x := m 28 4) (m1 := st m 0 0 0) (y := m 75 35) (m2 := st (st m 0 0 0) 75 1 0) ?_ ?_ (by rw [r1]) (h.stat 0)
      · simp (disch := omega) only [bP, bE, bV, ltM, ltI, st_eq, st_ne, w32_id, w64_id, ↓reduceIte, ilt_t, ilt_f, ile_t, ile_f, ieq_t, ieq_f, not_true_eq_false, not_false_eq_true, and_true, true_and, and_self, and_false, false_and, Int.reduceMod, FL_ended, FL_isWithin, FL_no, FL_yes, FL_none, FL_answer]
      · simp (disch := omega) only [bP, bE, bV, ltM, ltI, st_eq, st_ne, w32_id, w64_id, ↓reduceIte, ilt_t, ilt_f, ile_t, ile_f, ieq_t, ieq_f, not_true_eq_false, not_false_eq_true, and_true, true_and, and_self, and_false, false_and, Int.reduceMod, Mo_ended, Mo_is, Mo_refuse, Mo_gives, Mo_isFrom]
    by_cases gt : m 28 4 = 2
    · obtain ⟨q1, q2⟩ := r4 gt
      by_cases g1 : a0 = 1
      · subst g1
        refine Stq.mk (x := m 28 5) (m1 := st m 0 0 0) (y := m 75 36) (m2 := st (st m 0 0 0) 75 1 0) ?_ ?_ (by rw [q1]) (h.stat 0)
        · simp (disch := omega) only [bP, bE, bV, ltM, ltI, st_eq, st_ne, w32_id, w64_id, ↓reduceIte, ilt_t, ilt_f, ile_t, ile_f, ieq_t, ieq_f, not_true_eq_false, not_false_eq_true, and_true, true_and, and_self, and_false, false_and, Int.reduceMod, FL_ended, FL_isWithin, FL_no, FL_yes, FL_none, FL_answer]
        · simp (disch := omega) only [bP, bE, bV, ltM, ltI, st_eq, st_ne, w32_id, w64_id, ↓reduceIte, ilt_t, ilt_f, ile_t, ile_f, ieq_t, ieq_f, not_true_eq_false, not_false_eq_true, and_true, true_and, and_self, and_false, false_and, Int.reduceMod, Mo_ended, Mo_is, Mo_refuse, Mo_gives, Mo_isFrom]
      · refine Stq.mk (x := m 28 6) (m1 := st m 0 0 0) (y := m 75 37) (m2 := st (st m 0 0 0) 75 1 0) ?_ ?_ (by rw [q2]) (h.stat 0)
        · simp (disch := omega) only [bP, bE, bV, ltM, ltI, st_eq, st_ne, w32_id, w64_id, ↓reduceIte, ilt_t, ilt_f, ile_t, ile_f, ieq_t, ieq_f, not_true_eq_false, not_false_eq_true, and_true, true_and, and_self, and_false, false_and, Int.reduceMod, FL_ended, FL_isWithin, FL_no, FL_yes, FL_none, FL_answer]
        · simp (disch := omega) only [bP, bE, bV, ltM, ltI, st_eq, st_ne, w32_id, w64_id, ↓reduceIte, ilt_t, ilt_f, ile_t, ile_f, ieq_t, ieq_f, not_true_eq_false, not_false_eq_true, and_true, true_and, and_self, and_false, false_and, Int.reduceMod, Mo_ended, Mo_is, Mo_refuse, Mo_gives, Mo_isFrom]
    refine Stq.mk (x := -1) (m1 := st m 0 0 6) (y := -1) (m2 := st (st m 0 0 6) 75 1 6) ?_ ?_ rfl (h.stat 6)
    · simp (disch := omega) only [bP, bE, bV, ltM, ltI, st_eq, st_ne, w32_id, w64_id, ↓reduceIte, ilt_t, ilt_f, ile_t, ile_f, ieq_t, ieq_f, not_true_eq_false, not_false_eq_true, and_true, true_and, and_self, and_false, false_and, Int.reduceMod, FL_ended, FL_isWithin, FL_no, FL_yes, FL_none, FL_answer]
    · simp (disch := omega) only [bP, bE, bV, ltM, ltI, st_eq, st_ne, w32_id, w64_id, ↓reduceIte, ilt_t, ilt_f, ile_t, ile_f, ieq_t, ieq_f, not_true_eq_false, not_false_eq_true, and_true, true_and, and_self, and_false, false_and, Int.reduceMod, Mo_ended, Mo_is, Mo_refuse, Mo_gives, Mo_isFrom]
  · have hb : a0 < 0 ∨ 2 < a0 := by omega
    refine Stq.mk (x := -1) (m1 := st m 0 0 1) (y := -1) (m2 := st (st m 0 0 1) 75 1 1) ?_ ?_ rfl (h.stat 1)
    · rcases hb with g | g <;> simp (disch := omega) only [bP, bE, bV, ltM, ltI, st_eq, st_ne, w32_id, w64_id, ↓reduceIte, ilt_t, ilt_f, ile_t, ile_f, ieq_t, ieq_f, not_true_eq_false, not_false_eq_true, and_true, true_and, and_self, and_false, false_and, Int.reduceMod, FL_ended, FL_isWithin, FL_no, FL_yes, FL_none, FL_answer]
    · rcases hb with g | g <;> simp (disch := omega) only [bP, bE, bV, ltM, ltI, st_eq, st_ne, w32_id, w64_id, ↓reduceIte, ilt_t, ilt_f, ile_t, ile_f, ieq_t, ieq_f, not_true_eq_false, not_false_eq_true, and_true, true_and, and_self, and_false, false_and, Int.reduceMod, Mo_ended, Mo_is, Mo_refuse, Mo_gives, Mo_isFrom]

theorem s_leastMove {m : Mem} (h : Rel m) {a0 : Int} (c0 : w32 a0 = a0) : Stq w32 (some (FL_leastMove a0 m)) (fun m1 => Mo_leastMove a0 m1) := by
  have b0 := cn c0
  by_cases g : a0 < 0
  · refine Stq.mk (x := -1) (m1 := st m 0 0 1) (y := -1) (m2 := st (st m 0 0 1) 75 1 1) ?_ ?_ rfl (h.stat 1)
    · simp (disch := omega) only [bP, bE, bV, ltM, ltI, st_eq, st_ne, w32_id, w64_id, ↓reduceIte, ilt_t, ilt_f, ile_t, ile_f, ieq_t, ieq_f, not_true_eq_false, not_false_eq_true, and_true, true_and, and_self, and_false, false_and, Int.reduceMod, FL_leastMove, FL_isWithin, FL_no, FL_yes, FL_none, FL_answer]
    · simp (disch := omega) only [bP, bE, bV, ltM, ltI, st_eq, st_ne, w32_id, w64_id, ↓reduceIte, ilt_t, ilt_f, ile_t, ile_f, ieq_t, ieq_f, not_true_eq_false, not_false_eq_true, and_true, true_and, and_self, and_false, false_and, Int.reduceMod, Mo_leastMove, Mo_is, Mo_refuse, Mo_gives, Mo_isFrom]
  rcases h.2.2.2.2.2.2.2.1 with ⟨q1, q2⟩ | ⟨q1, q2, q3, q4⟩
  · refine Stq.mk (x := -1) (m1 := st m 0 0 6) (y := -1) (m2 := st (st m 0 0 6) 75 1 6) ?_ ?_ rfl (h.stat 6)
    · simp (disch := omega) only [bP, bE, bV, ltM, ltI, st_eq, st_ne, w32_id, w64_id, ↓reduceIte, ilt_t, ilt_f, ile_t, ile_f, ieq_t, ieq_f, not_true_eq_false, not_false_eq_true, and_true, true_and, and_self, and_false, false_and, Int.reduceMod, FL_leastMove, FL_isWithin, FL_no, FL_yes, FL_none, FL_answer]
    · simp (disch := omega) only [bP, bE, bV, ltM, ltI, st_eq, st_ne, w32_id, w64_id, ↓reduceIte, ilt_t, ilt_f, ile_t, ile_f, ieq_t, ieq_f, not_true_eq_false, not_false_eq_true, and_true, true_and, and_self, and_false, false_and, Int.reduceMod, Mo_leastMove, Mo_is, Mo_refuse, Mo_gives, Mo_isFrom]
  by_cases g2 : a0 < m 32 7
  · refine Stq.mk (x := m 36 a0) (m1 := st m 0 0 0) (y := m 92 a0) (m2 := st (st m 0 0 0) 75 1 0) ?_ ?_ (by rw [q4 a0 (by omega) g2]) (h.stat 0)
    · simp (disch := omega) only [bP, bE, bV, ltM, ltI, st_eq, st_ne, w32_id, w64_id, ↓reduceIte, ilt_t, ilt_f, ile_t, ile_f, ieq_t, ieq_f, not_true_eq_false, not_false_eq_true, and_true, true_and, and_self, and_false, false_and, Int.reduceMod, FL_leastMove, FL_isWithin, FL_no, FL_yes, FL_none, FL_answer]
    · simp (disch := omega) only [bP, bE, bV, ltM, ltI, st_eq, st_ne, w32_id, w64_id, ↓reduceIte, ilt_t, ilt_f, ile_t, ile_f, ieq_t, ieq_f, not_true_eq_false, not_false_eq_true, and_true, true_and, and_self, and_false, false_and, Int.reduceMod, Mo_leastMove, Mo_is, Mo_refuse, Mo_gives, Mo_isFrom]
  · refine Stq.mk (x := -1) (m1 := st m 0 0 6) (y := -1) (m2 := st (st m 0 0 6) 75 1 6) ?_ ?_ rfl (h.stat 6)
    · simp (disch := omega) only [bP, bE, bV, ltM, ltI, st_eq, st_ne, w32_id, w64_id, ↓reduceIte, ilt_t, ilt_f, ile_t, ile_f, ieq_t, ieq_f, not_true_eq_false, not_false_eq_true, and_true, true_and, and_self, and_false, false_and, Int.reduceMod, FL_leastMove, FL_isWithin, FL_no, FL_yes, FL_none, FL_answer]
    · simp (disch := omega) only [bP, bE, bV, ltM, ltI, st_eq, st_ne, w32_id, w64_id, ↓reduceIte, ilt_t, ilt_f, ile_t, ile_f, ieq_t, ieq_f, not_true_eq_false, not_false_eq_true, and_true, true_and, and_self, and_false, false_and, Int.reduceMod, Mo_leastMove, Mo_is, Mo_refuse, Mo_gives, Mo_isFrom]
theorem s_ran {m : Mem} (h : Rel m) {a0 : Int} (c0 : w32 a0 = a0) : Stq w32 (some (FL_ran a0 m)) (fun m1 => some (Mo_ran a0 m1)) := by
  have b0 := cn c0
  by_cases g : 0 ≤ a0 ∧ a0 ≤ 1
  · rcases h.2.2.2.2.2.2.2.2.1 with ⟨q1, q2⟩ | ⟨q1, q2, q3, q4⟩
    · refine Stq.mk (x := -1) (m1 := st m 0 0 6) (y := -1) (m2 := st (st m 0 0 6) 75 1 6) ?_ ?_ rfl (h.stat 6)
      · simp (disch := omega) only [bP, bE, bV, ltM, ltI, st_eq, st_ne, w32_id, w64_id, ↓reduceIte, ilt_t, ilt_f, ile_t, ile_f, ieq_t, ieq_f, not_true_eq_false, not_false_eq_true, and_true, true_and, and_self, and_false, false_and, Int.reduceMod, FL_ran, FL_isWithin, FL_no, FL_yes, FL_none, FL_answer]
      · simp (disch := omega) only [bP, bE, bV, ltM, ltI, st_eq, st_ne, w32_id, w64_id, ↓reduceIte, ilt_t, ilt_f, ile_t, ile_f, ieq_t, ieq_f, not_true_eq_false, not_false_eq_true, and_true, true_and, and_self, and_false, false_and, Int.reduceMod, Mo_ran, Mo_is, Mo_refuse, Mo_gives, Mo_isFrom]
    by_cases gz : a0 = 0
    · subst gz
      refine Stq.mk (x := m 37 3) (m1 := st m 0 0 0) (y := m 75 38) (m2 := st (st m 0 0 0) 75 1 0) ?_ ?_ (by rw [q4]) (h.stat 0)
      · simp (disch := omega) only [bP, bE, bV, ltM, ltI, st_eq, st_ne, w32_id, w64_id, ↓reduceIte, ilt_t, ilt_f, ile_t, ile_f, ieq_t, ieq_f, not_true_eq_false, not_false_eq_true, and_true, true_and, and_self, and_false, false_and, Int.reduceMod, FL_ran, FL_isWithin, FL_no, FL_yes, FL_none, FL_answer]
      · rcases q3 with q3 | q3 <;> simp (disch := omega) only [bP, bE, bV, ltM, ltI, st_eq, st_ne, w32_id, w64_id, ↓reduceIte, ilt_t, ilt_f, ile_t, ile_f, ieq_t, ieq_f, not_true_eq_false, not_false_eq_true, and_true, true_and, and_self, and_false, false_and, Int.reduceMod, Mo_ran, Mo_is, Mo_refuse, Mo_gives, Mo_isFrom]
    · refine Stq.mk (x := m 37 2) (m1 := st m 0 0 0) (y := m 75 39) (m2 := st (st m 0 0 0) 75 1 0) ?_ ?_ (by rw [q2]) (h.stat 0)
      · rcases q3 with q3 | q3
        · simp (disch := omega) only [bP, bE, bV, ltM, ltI, st_eq, st_ne, w32_id, w64_id, ↓reduceIte, ilt_t, ilt_f, ile_t, ile_f, ieq_t, ieq_f, not_true_eq_false, not_false_eq_true, and_true, true_and, and_self, and_false, false_and, Int.reduceMod, FL_ran, FL_isWithin, FL_no, FL_yes, FL_none, FL_answer, q3]
        · simp (disch := omega) only [bP, bE, bV, ltM, ltI, st_eq, st_ne, w32_id, w64_id, ↓reduceIte, ilt_t, ilt_f, ile_t, ile_f, ieq_t, ieq_f, not_true_eq_false, not_false_eq_true, and_true, true_and, and_self, and_false, false_and, Int.reduceMod, FL_ran, FL_isWithin, FL_no, FL_yes, FL_none, FL_answer, q3]
      · rcases q3 with q3 | q3 <;> simp (disch := omega) only [bP, bE, bV, ltM, ltI, st_eq, st_ne, w32_id, w64_id, ↓reduceIte, ilt_t, ilt_f, ile_t, ile_f, ieq_t, ieq_f, not_true_eq_false, not_false_eq_true, and_true, true_and, and_self, and_false, false_and, Int.reduceMod, Mo_ran, Mo_is, Mo_refuse, Mo_gives, Mo_isFrom]
  · have hb : a0 < 0 ∨ 1 < a0 := by omega
    refine Stq.mk (x := -1) (m1 := st m 0 0 1) (y := -1) (m2 := st (st m 0 0 1) 75 1 1) ?_ ?_ rfl (h.stat 1)
    · rcases hb with g | g <;> simp (disch := omega) only [bP, bE, bV, ltM, ltI, st_eq, st_ne, w32_id, w64_id, ↓reduceIte, ilt_t, ilt_f, ile_t, ile_f, ieq_t, ieq_f, not_true_eq_false, not_false_eq_true, and_true, true_and, and_self, and_false, false_and, Int.reduceMod, FL_ran, FL_isWithin, FL_no, FL_yes, FL_none, FL_answer]
    · rcases hb with g | g <;> simp (disch := omega) only [bP, bE, bV, ltM, ltI, st_eq, st_ne, w32_id, w64_id, ↓reduceIte, ilt_t, ilt_f, ile_t, ile_f, ieq_t, ieq_f, not_true_eq_false, not_false_eq_true, and_true, true_and, and_self, and_false, false_and, Int.reduceMod, Mo_ran, Mo_is, Mo_refuse, Mo_gives, Mo_isFrom]

theorem s_rib {m : Mem} (h : Rel m) {a0 : Int} (c0 : w32 a0 = a0) : Stq w32 (FL_rib a0 m) (fun m1 => Mo_rib a0 m1) := by
  have b0 := cn c0
  rcases h.2.2.2.2.2.2.2.2.2.1 with ⟨q1, q2⟩ | ⟨q1, q2, q3, q4⟩
  · refine Stq.mk (x := -1) (m1 := st m 0 0 6) (y := -1) (m2 := st (st m 0 0 6) 75 1 6) ?_ ?_ rfl (h.stat 6)
    · simp (disch := omega) only [bP, bE, bV, ltM, ltI, st_eq, st_ne, w32_id, w64_id, ↓reduceIte, ilt_t, ilt_f, ile_t, ile_f, ieq_t, ieq_f, not_true_eq_false, not_false_eq_true, and_true, true_and, and_self, and_false, false_and, Int.reduceMod, FL_rib, FL_isWithin, FL_no, FL_yes, FL_none, FL_answer]
    · simp (disch := omega) only [bP, bE, bV, ltM, ltI, st_eq, st_ne, w32_id, w64_id, ↓reduceIte, ilt_t, ilt_f, ile_t, ile_f, ieq_t, ieq_f, not_true_eq_false, not_false_eq_true, and_true, true_and, and_self, and_false, false_and, Int.reduceMod, Mo_rib, Mo_is, Mo_refuse, Mo_gives, Mo_isFrom]
  by_cases g : 0 ≤ a0 ∧ a0 < m 39 3
  · refine Stq.mk (x := m 42 a0) (m1 := st m 0 0 0) (y := m 97 a0) (m2 := st (st m 0 0 0) 75 1 0) ?_ ?_ (by rw [q4 a0 g.1 g.2]) (h.stat 0)
    · simp (disch := omega) only [bP, bE, bV, ltM, ltI, st_eq, st_ne, w32_id, w64_id, ↓reduceIte, ilt_t, ilt_f, ile_t, ile_f, ieq_t, ieq_f, not_true_eq_false, not_false_eq_true, and_true, true_and, and_self, and_false, false_and, Int.reduceMod, FL_rib, FL_isWithin, FL_no, FL_yes, FL_none, FL_answer]
    · simp (disch := omega) only [bP, bE, bV, ltM, ltI, st_eq, st_ne, w32_id, w64_id, ↓reduceIte, ilt_t, ilt_f, ile_t, ile_f, ieq_t, ieq_f, not_true_eq_false, not_false_eq_true, and_true, true_and, and_self, and_false, false_and, Int.reduceMod, Mo_rib, Mo_is, Mo_refuse, Mo_gives, Mo_isFrom]
  · have hb : a0 < 0 ∨ (0 ≤ a0 ∧ m 39 3 ≤ a0) := by omega
    refine Stq.mk (x := -1) (m1 := st m 0 0 1) (y := -1) (m2 := st (st m 0 0 1) 75 1 1) ?_ ?_ rfl (h.stat 1)
    · rcases hb with g | g <;> simp (disch := omega) only [bP, bE, bV, ltM, ltI, st_eq, st_ne, w32_id, w64_id, ↓reduceIte, ilt_t, ilt_f, ile_t, ile_f, ieq_t, ieq_f, not_true_eq_false, not_false_eq_true, and_true, true_and, and_self, and_false, false_and, Int.reduceMod, FL_rib, FL_isWithin, FL_no, FL_yes, FL_none, FL_answer]
    · rcases hb with g | g <;> simp (disch := omega) only [bP, bE, bV, ltM, ltI, st_eq, st_ne, w32_id, w64_id, ↓reduceIte, ilt_t, ilt_f, ile_t, ile_f, ieq_t, ieq_f, not_true_eq_false, not_false_eq_true, and_true, true_and, and_self, and_false, false_and, Int.reduceMod, Mo_rib, Mo_is, Mo_refuse, Mo_gives, Mo_isFrom]

/-! the root -/
def isRt (x r : Int) : Prop := 0 ≤ r ∧ r * r ≤ x ∧ x < (r + 1) * (r + 1)
theorem sq_le {a b : Int} (h0 : 0 ≤ a) (h : a ≤ b) : a * a ≤ b * b := Int.mul_le_mul h h h0 (by omega)
theorem isRt_u {x r r' : Int} (h : isRt x r) (h' : isRt x r') : r = r' := by
  obtain ⟨a0, a1, a2⟩ := h
  obtain ⟨b0, b1, b2⟩ := h'
  rcases (by omega : r = r' ∨ r + 1 ≤ r' ∨ r' + 1 ≤ r) with e | e | e
  · exact e
  · have := sq_le (by omega) e; omega
  · have := sq_le (by omega) e; omega
theorem c_root_loop {x : Int} {m : Mem} (x0 : 0 ≤ x) (x1 : x < 4194304) : ∀ (k n : Nat) (f : Int), k ≤ 10 → k + 1 < n → 0 ≤ f → f + 2 * ((2 ^ k : Nat) : Int) ≤ 2048 → f * f ≤ x → x < (f + 2 * ((2 ^ k : Nat) : Int)) * (f + 2 * ((2 ^ k : Nat) : Int)) → ∃ r, Sheet_root_L6 x m n f ((2 ^ k : Nat) : Int) = some r ∧ isRt x r := by
  intro k
  induction k with
  | zero =>
    intro n f _ hn f0 f1 h1 h2
    match n, hn with
    | n + 2, _ =>
      have e2 : ((2 ^ 0 : Nat) : Int) = 1 := by decide
      rw [e2] at f1 h2
      have b := sq_le (a := f + 1) (b := 2048) (by omega) (by omega)
      have b' : 0 ≤ (f + 1) * (f + 1) := Int.mul_nonneg (by omega) (by omega)
      rw [e2, Sheet_root_L6, Sheet_root_L6]
      have e3 : bShr 1 1 = 0 := by decide
      rw [e3, w32_id (x := 1) (by omega) (by omega), w32_id (x := 0) (by omega) (by omega), if_neg (by decide), if_pos (by decide), w32_id (x := x) (by omega) (by omega), w32_id (by omega) (by omega)]
      by_cases q : x < (f + 1) * (f + 1)
      · exact ⟨f, by rw [if_pos q], f0, h1, q⟩
      · exact ⟨f + 1, by rw [if_neg q], by omega, by omega, by rw [show f + 1 + 1 = f + 2 * 1 by omega]; exact h2⟩
  | succ k ih =>
    intro n f hk hn f0 f1 h1 h2
    match n, hn with
    | n + 1, hn =>
      have e2 : ((2 ^ (k + 1) : Nat) : Int) = 2 * ((2 ^ k : Nat) : Int) := by rw [Nat.pow_succ]; omega
      have pk : (1 : Int) ≤ ((2 ^ k : Nat) : Int) := by have := Nat.pow_pos (n := k) (show 0 < 2 by decide); omega
      rw [e2] at f1 h2
      rw [e2, Sheet_root_L6]
      have b := sq_le (a := f + 2 * ((2 ^ k : Nat) : Int)) (b := 2048) (by omega) (by omega)
      have b' : 0 ≤ (f + 2 * ((2 ^ k : Nat) : Int)) * (f + 2 * ((2 ^ k : Nat) : Int)) := Int.mul_nonneg (by omega) (by omega)
      have e3 : bShr (2 * ((2 ^ k : Nat) : Int)) 1 = ((2 ^ k : Nat) : Int) := by rw [bShr_1 (w32_id (by omega) (by omega))]; omega
      rw [e3, w32_id (x := 2 * ((2 ^ k : Nat) : Int)) (by omega) (by omega), if_neg (by omega), w32_id (x := x) (by omega) (by omega), w32_id (x := (f + 2 * ((2 ^ k : Nat) : Int)) * (f + 2 * ((2 ^ k : Nat) : Int))) (by omega) (by omega)]
      by_cases q : x < (f + 2 * ((2 ^ k : Nat) : Int)) * (f + 2 * ((2 ^ k : Nat) : Int))
      · rw [if_pos q]
        exact ih n f (by omega) (by omega) f0 (by omega) h1 q
      · rw [if_neg q]
        refine ih n (f + 2 * ((2 ^ k : Nat) : Int)) (by omega) (by omega) (by omega) (by omega) (by omega) ?_
        rw [show f + 2 * ((2 ^ k : Nat) : Int) + 2 * ((2 ^ k : Nat) : Int) = f + 2 * (2 * ((2 ^ k : Nat) : Int)) by omega]
        exact h2
theorem c_root {x : Int} (m : Mem) (x0 : 0 ≤ x) (x1 : x < 4194304) : ∃ r, Sheet_root x m = some r ∧ isRt x r := by
  have := c_root_loop (m := m) x0 x1 10 FU 0 (by omega) (by rw [FU_eq]; omega) (by omega) (by decide) (by omega) (by simpa using x1)
  exact this
theorem m_root_loop {x : Int} {m : Mem} (x0 : 0 ≤ x) (x1 : x < 4004001) : ∀ (n : Nat) (lo hi : Int), 0 ≤ lo → lo ≤ hi → hi ≤ 2000 → (hi - lo).toNat < n → lo * lo ≤ x → x < (hi + 1) * (hi + 1) → ∃ r, Mo_root_L6 x m n lo hi = some r ∧ isRt x r := by
  intro n
  induction n with
  | zero => intro lo hi _ _ _ h; omega
  | succ n ih =>
    intro lo hi l0 lh h2 hn h3 h4
    rw [Mo_root_L6, w32_id (x := hi) (by omega) (by omega), w32_id (x := lo) (by omega) (by omega)]
    by_cases q : hi ≤ lo
    · have : lo = hi := by omega
      subst this
      exact ⟨lo, by rw [if_pos q], l0, h3, h4⟩
    · have em : Int.tdiv (w32 (lo + hi + 1)) 2 = (lo + hi + 1) / 2 := by rw [w32_id (by omega) (by omega), Int.tdiv_eq_ediv_of_nonneg (by omega)]
      have b := sq_le (a := (lo + hi + 1) / 2) (b := 2000) (by omega) (by omega)
      have b' : 0 ≤ ((lo + hi + 1) / 2) * ((lo + hi + 1) / 2) := Int.mul_nonneg (by omega) (by omega)
      rw [if_neg q, em, w32_id (x := x) (by omega) (by omega), w32_id (by omega) (by omega)]
      by_cases q2 : x < ((lo + hi + 1) / 2) * ((lo + hi + 1) / 2)
      · rw [if_pos q2, if_pos q2]
        refine ih lo ((lo + hi + 1) / 2 - 1) l0 (by omega) (by omega) (by omega) h3 ?_
        rw [show (lo + hi + 1) / 2 - 1 + 1 = (lo + hi + 1) / 2 by omega]; exact q2
      · rw [if_neg q2, if_neg q2]
        exact ih ((lo + hi + 1) / 2) hi (by omega) (by omega) h2 (by omega) (by omega) h4
theorem m_root {x : Int} (m : Mem) (x0 : 0 ≤ x) (x1 : x < 4004001) : ∃ r, Mo_root x m = some r ∧ isRt x r := by
  have := m_root_loop (m := m) x0 x1 FU 0 2000 (by omega) (by omega) (by omega) (by rw [FU_eq]; omega) (by omega) (by omega)
  exact this
