theorem Rel.tk {m : Mem} (h : Rel m) (k f a p : Int) : Rel (st (tk (st m 0 0 k) f a p) 75 1 k) := by
  refine h.ans ?_ ?_
  · exact ((((((Ag.refl m).st (by decide)).st (by decide)).st (by decide)).st (by decide)).st (by decide))
  · exact Rst_set h.1 (k := k) rfl rfl rfl rfl rfl rfl
theorem s_lines {m : Mem} (h : Rel m) {a0 a1 : Int} (c0 : w32 a0 = a0) (c1 : w32 a1 = a1) : Stq w32 (some (FL_lines a0 a1 m)) (fun m1 => some (Mo_lines a0 a1 m1)) := by
  have b0 := cn c0
  have b1 := cn c1
  obtain ⟨⟨z0, z1, z2, z3, z4, z5, z6⟩, hs, hr, hv, hp⟩ := shF h
  by_cases gv : 0 ≤ a0 ∧ a0 ≤ 2
  · by_cases gn : a1 = -1
    · have e1 := c_lines hs gv.1 gv.2
      have e2 : ∀ k, Mo_linesOf a0 (st m 0 0 k) = _ := fun k => m_lines hs z0 z1 gv.1 gv.2
      refine Stq.mk (x := lnS (m 7 0) (m 7 1) a0) (m1 := st m 0 0 0) (y := lnS (m 7 0) (m 7 1) a0) (m2 := st (st m 0 0 0) 75 1 0) ?_ ?_ rfl (h.stat 0)
      · simp (disch := omega) only [bP, bE, bV, ltM, ltI, st_eq, st_ne, w32_id, w64_id, ↓reduceIte, ilt_t, ilt_f, ile_t, ile_f, ieq_t, ieq_f, not_true_eq_false, not_false_eq_true, and_true, true_and, and_self, and_false, false_and, Int.reduceMod, FL_lines, FL_isWithin, FL_no, FL_yes, FL_none, FL_answer, Sheet_isView, e1]
      · simp (disch := omega) only [bP, bE, bV, ltM, ltI, st_eq, st_ne, w32_id, w64_id, ↓reduceIte, ilt_t, ilt_f, ile_t, ile_f, ieq_t, ieq_f, not_true_eq_false, not_false_eq_true, and_true, true_and, and_self, and_false, false_and, Int.reduceMod, Mo_lines, Mo_is, Mo_refuse, Mo_gives, Mo_isFrom, Mo_isView, e2]
    · by_cases gl : isLn (m 7 0) (m 7 1) a0 a1
      · have e1 := c_hasLineT hs gl
        have e2 := c_places hs gl
        have e3 : ∀ k, Mo_isLine a0 a1 (st m 0 0 k) = 1 := fun k => m_isLineT hs z0 z1 gl
        have e4 : ∀ k, Mo_takes a0 a1 (st m 0 0 k) = _ := fun k => m_takes hs z0 z1 gl
        refine Stq.mk (x := plS (m 7 0) (m 7 1) a0 a1) (m1 := st m 0 0 0) (y := plS (m 7 0) (m 7 1) a0 a1) (m2 := st (tk (st m 0 0 0) (fsS (m 7 0) a0 a1) (srS a0) (plS (m 7 0) (m 7 1) a0 a1)) 75 1 0) ?_ ?_ rfl (h.tk _ _ _ _)
        · simp (disch := omega) only [bP, bE, bV, ltM, ltI, st_eq, st_ne, w32_id, w64_id, ↓reduceIte, ilt_t, ilt_f, ile_t, ile_f, ieq_t, ieq_f, not_true_eq_false, not_false_eq_true, and_true, true_and, and_self, and_false, false_and, Int.reduceMod, FL_lines, FL_isWithin, FL_no, FL_yes, FL_none, FL_answer, Sheet_isView, e1, e2]
        · simp (disch := omega) only [bP, bE, bV, ltM, ltI, st_eq, st_ne, w32_id, w64_id, ↓reduceIte, ilt_t, ilt_f, ile_t, ile_f, ieq_t, ieq_f, not_true_eq_false, not_false_eq_true, and_true, true_and, and_self, and_false, false_and, Int.reduceMod, Mo_lines, Mo_is, Mo_refuse, Mo_gives, Mo_isFrom, Mo_isView, e3, e4]
          rfl
      · have e1 := c_hasLineF hs c0 c1 gl
        have e3 : ∀ k, Mo_isLine a0 a1 (st m 0 0 k) = 0 := fun k => m_isLineF hs z0 z1 c0 c1 gl
        refine Stq.mk (x := -1) (m1 := st m 0 0 1) (y := -1) (m2 := st (st m 0 0 1) 75 1 1) ?_ ?_ rfl (h.stat 1)
        · simp (disch := omega) only [bP, bE, bV, ltM, ltI, st_eq, st_ne, w32_id, w64_id, ↓reduceIte, ilt_t, ilt_f, ile_t, ile_f, ieq_t, ieq_f, not_true_eq_false, not_false_eq_true, and_true, true_and, and_self, and_false, false_and, Int.reduceMod, FL_lines, FL_isWithin, FL_no, FL_yes, FL_none, FL_answer, Sheet_isView, e1]
        · simp (disch := omega) only [bP, bE, bV, ltM, ltI, st_eq, st_ne, w32_id, w64_id, ↓reduceIte, ilt_t, ilt_f, ile_t, ile_f, ieq_t, ieq_f, not_true_eq_false, not_false_eq_true, and_true, true_and, and_self, and_false, false_and, Int.reduceMod, Mo_lines, Mo_is, Mo_refuse, Mo_gives, Mo_isFrom, Mo_isView, e3]
  · have hb : a0 < 0 ∨ 2 < a0 := by omega
    refine Stq.mk (x := -1) (m1 := st m 0 0 1) (y := -1) (m2 := st (st m 0 0 1) 75 1 1) ?_ ?_ rfl (h.stat 1)
    · rcases hb with g | g <;> simp (disch := omega) only [bP, bE, bV, ltM, ltI, st_eq, st_ne, w32_id, w64_id, ↓reduceIte, ilt_t, ilt_f, ile_t, ile_f, ieq_t, ieq_f, not_true_eq_false, not_false_eq_true, and_true, true_and, and_self, and_false, false_and, Int.reduceMod, FL_lines, FL_isWithin, FL_no, FL_yes, FL_none, FL_answer, Sheet_isView]
    · rcases hb with g | g <;> simp (disch := omega) only [bP, bE, bV, ltM, ltI, st_eq, st_ne, w32_id, w64_id, ↓reduceIte, ilt_t, ilt_f, ile_t, ile_f, ieq_t, ieq_f, not_true_eq_false, not_false_eq_true, and_true, true_and, and_self, and_false, false_and, Int.reduceMod, Mo_lines, Mo_is, Mo_refuse, Mo_gives, Mo_isFrom, Mo_isView]
theorem c_hasPlT {m : Mem} {v l p : Int} (s : gSW (m 7 0) (m 7 1)) (h : isLn (m 7 0) (m 7 1) v l) (p0 : 0 ≤ p) (p1 : p < plS (m 7 0) (m 7 1) v l) : Sheet_hasPlace 7 v l p m = 1 := by
  have e1 := c_hasLineT s h
  have e2 := c_places s h
  have g := plS_le s h
  simp (disch := omega) only [bP, bE, bV, ltM, ltI, st_eq, st_ne, w32_id, w64_id, ↓reduceIte, ilt_t, ilt_f, ile_t, ile_f, ieq_t, ieq_f, not_true_eq_false, not_false_eq_true, and_true, true_and, and_self, and_false, false_and, Int.reduceMod, Sheet_hasPlace, e1, e2]
theorem c_hasPlF {m : Mem} {v l p : Int} (s : gSW (m 7 0) (m 7 1)) (cv : w32 v = v) (cl : w32 l = l) (cp : w32 p = p) (h : ¬ (isLn (m 7 0) (m 7 1) v l ∧ 0 ≤ p ∧ p < plS (m 7 0) (m 7 1) v l)) : Sheet_hasPlace 7 v l p m = 0 := by
  have b := cn cp
  by_cases hl : isLn (m 7 0) (m 7 1) v l
  · have e1 := c_hasLineT s hl
    have e2 := c_places s hl
    have g := plS_le s hl
    have hh : ¬ (0 ≤ p ∧ p < plS (m 7 0) (m 7 1) v l) := fun q => h ⟨hl, q⟩
    rcases (by omega : p < 0 ∨ (0 ≤ p ∧ plS (m 7 0) (m 7 1) v l ≤ p)) with q | q <;> simp (disch := omega) only [bP, bE, bV, ltM, ltI, st_eq, st_ne, w32_id, w64_id, ↓reduceIte, ilt_t, ilt_f, ile_t, ile_f, ieq_t, ieq_f, not_true_eq_false, not_false_eq_true, and_true, true_and, and_self, and_false, false_and, Int.reduceMod, Sheet_hasPlace, e1, e2]
  · have e1 := c_hasLineF s cv cl hl
    simp (disch := omega) only [bP, bE, bV, ltM, ltI, st_eq, st_ne, w32_id, w64_id, ↓reduceIte, ilt_t, ilt_f, ile_t, ile_f, ieq_t, ieq_f, not_true_eq_false, not_false_eq_true, and_true, true_and, and_self, and_false, false_and, Int.reduceMod, Sheet_hasPlace, e1]
theorem m_isPlT {m : Mem} {S W v l p : Int} (s : gSW S W) (z0 : m 76 0 = S) (z1 : m 76 1 = W) (h : isLn S W v l) (p0 : 0 ≤ p) (p1 : p < plS S W v l) : Mo_isPlace v l p m = (1, tk m (fsS S v l) (srS v) (plS S W v l)) := by
  have e1 := m_isLineT s z0 z1 h
  have e2 := m_takes s z0 z1 h
  have g := plS_le s h
  have e3 : tk m (fsS S v l) (srS v) (plS S W v l) 75 25 = plS S W v l := rfl
  simp (disch := omega) only [bP, bE, bV, ltM, ltI, st_eq, st_ne, w32_id, w64_id, ↓reduceIte, ilt_t, ilt_f, ile_t, ile_f, ieq_t, ieq_f, not_true_eq_false, not_false_eq_true, and_true, true_and, and_self, and_false, false_and, Int.reduceMod, Mo_isPlace, e1, e2, e3]
theorem m_isPlF {m : Mem} {S W v l p : Int} (s : gSW S W) (z0 : m 76 0 = S) (z1 : m 76 1 = W) (cv : w32 v = v) (cl : w32 l = l) (cp : w32 p = p) (h : ¬ (isLn S W v l ∧ 0 ≤ p ∧ p < plS S W v l)) : (isLn S W v l ∧ Mo_isPlace v l p m = (0, tk m (fsS S v l) (srS v) (plS S W v l))) ∨ Mo_isPlace v l p m = (0, m) := by
  have b := cn cp
  by_cases hl : isLn S W v l
  · refine Or.inl ⟨hl, ?_⟩
    have e1 := m_isLineT s z0 z1 hl
    have e2 := m_takes s z0 z1 hl
    have g := plS_le s hl
    have e3 : tk m (fsS S v l) (srS v) (plS S W v l) 75 25 = plS S W v l := rfl
    have hh : ¬ (0 ≤ p ∧ p < plS S W v l) := fun q => h ⟨hl, q⟩
    rcases (by omega : p < 0 ∨ (0 ≤ p ∧ plS S W v l ≤ p)) with q | q <;> simp (disch := omega) only [bP, bE, bV, ltM, ltI, st_eq, st_ne, w32_id, w64_id, ↓reduceIte, ilt_t, ilt_f, ile_t, ile_f, ieq_t, ieq_f, not_true_eq_false, not_false_eq_true, and_true, true_and, and_self, and_false, false_and, Int.reduceMod, Mo_isPlace, e1, e2, e3]
  · refine Or.inr ?_
    have e1 := m_isLineF s z0 z1 cv cl hl
    simp (disch := omega) only [bP, bE, bV, ltM, ltI, st_eq, st_ne, w32_id, w64_id, ↓reduceIte, ilt_t, ilt_f, ile_t, ile_f, ieq_t, ieq_f, not_true_eq_false, not_false_eq_true, and_true, true_and, and_self, and_false, false_and, Int.reduceMod, Mo_isPlace, e1]
theorem s_lies {m : Mem} (h : Rel m) {a0 a1 a2 : Int} (c0 : w32 a0 = a0) (c1 : w32 a1 = a1) (c2 : w32 a2 = a2) : Stq w32 (some (FL_lies a0 a1 a2 m)) (fun m1 => some (Mo_lies a0 a1 a2 m1)) := by
  obtain ⟨⟨z0, z1, z2, z3, z4, z5, z6⟩, hs, hr, hv, hp⟩ := shF h
  by_cases g : isLn (m 7 0) (m 7 1) a0 a1 ∧ 0 ≤ a2 ∧ a2 < plS (m 7 0) (m 7 1) a0 a1
  · obtain ⟨gl, g0, g1⟩ := g
    have e1 := c_hasPlT hs gl g0 g1
    have e2 := c_first hs gl
    have e3 := c_stride gl.1.1 gl.1.2
    have e4 : ∀ k, Mo_isPlace a0 a1 a2 (st m 0 0 k) = _ := fun k => m_isPlT hs z0 z1 gl g0 g1
    refine Stq.mk (x := fsS (m 7 0) a0 a1 + a2 * srS a0) (m1 := st m 0 0 0) (y := fsS (m 7 0) a0 a1 + srS a0 * a2) (m2 := st (tk (st m 0 0 0) (fsS (m 7 0) a0 a1) (srS a0) (plS (m 7 0) (m 7 1) a0 a1)) 75 1 0) ?_ ?_ (by rw [Int.mul_comm]) (h.tk _ _ _ _)
    · simp (disch := omega) only [bP, bE, bV, ltM, ltI, st_eq, st_ne, w32_id, w64_id, ↓reduceIte, ilt_t, ilt_f, ile_t, ile_f, ieq_t, ieq_f, not_true_eq_false, not_false_eq_true, and_true, true_and, and_self, and_false, false_and, Int.reduceMod, FL_lies, FL_isWithin, FL_no, FL_yes, FL_none, FL_answer, e1, Sheet_pointAt, e2, e3]
    · unfold Mo_lies
      rw [e4]
      rfl
  · have e1 := c_hasPlF hs c0 c1 c2 g
    rcases m_isPlF (m := st m 0 0 1) hs z0 z1 c0 c1 c2 g with ⟨gl, e4⟩ | e4
    · refine Stq.mk (x := -1) (m1 := st m 0 0 1) (y := -1) (m2 := st (tk (st m 0 0 1) (fsS (m 7 0) a0 a1) (srS a0) (plS (m 7 0) (m 7 1) a0 a1)) 75 1 1) ?_ ?_ rfl (h.tk _ _ _ _)
      · simp (disch := omega) only [bP, bE, bV, ltM, ltI, st_eq, st_ne, w32_id, w64_id, ↓reduceIte, ilt_t, ilt_f, ile_t, ile_f, ieq_t, ieq_f, not_true_eq_false, not_false_eq_true, and_true, true_and, and_self, and_false, false_and, Int.reduceMod, FL_lies, FL_isWithin, FL_no, FL_yes, FL_none, FL_answer, e1]
      · simp only [Mo_lies, e4]
        rfl
    · refine Stq.mk (x := -1) (m1 := st m 0 0 1) (y := -1) (m2 := st (st m 0 0 1) 75 1 1) ?_ ?_ rfl (h.stat 1)
      · simp (disch := omega) only [bP, bE, bV, ltM, ltI, st_eq, st_ne, w32_id, w64_id, ↓reduceIte, ilt_t, ilt_f, ile_t, ile_f, ieq_t, ieq_f, not_true_eq_false, not_false_eq_true, and_true, true_and, and_self, and_false, false_and, Int.reduceMod, FL_lies, FL_isWithin, FL_no, FL_yes, FL_none, FL_answer, e1]
      · simp only [Mo_lies, e4]
        rfl
theorem m_breadth {m : Mem} {f a q : Int} (e23 : m 75 23 = f) (e24 : m 75 24 = a) (h0 : 0 ≤ f + a * q) (h1 : f + a * q < 64) : Mo_breadth q m = some (m 76 (80 + (f + a * q))) := by
  unfold Mo_breadth
  rw [e23, e24, show 80 + f + a * q = 80 + (f + a * q) by omega, w32_id (by omega) (by omega), if_pos (by omega)]
def bdS (F : Int → Int) (f a p : Int) : Int := F (f + a * (p - 1)) + F (f + a * (p + 1)) - 2 * F (f + a * p)
theorem pt64 {S W p : Int} (s : gSW S W) (h : Pt S W p) : 0 ≤ p ∧ p < 64 := by unfold Pt at h; omega
theorem c_at {m : Mem} {p : Int} (h0 : 0 ≤ p) (h1 : p < 64) : Sheet_at 7 p m = m 10 p := by
  simp (disch := omega) only [bP, bE, bV, ltM, ltI, st_eq, st_ne, w32_id, w64_id, ↓reduceIte, ilt_t, ilt_f, ile_t, ile_f, ieq_t, ieq_f, not_true_eq_false, not_false_eq_true, and_true, true_and, and_self, and_false, false_and, Int.reduceMod, Sheet_at, Nat.reduceAdd]
theorem c_bend {m : Mem} {v l p : Int} (s : gSW (m 7 0) (m 7 1)) (h : isLn (m 7 0) (m 7 1) v l) (p0 : 1 ≤ p) (p1 : p < plS (m 7 0) (m 7 1) v l - 1) : Sheet_bendAt 7 (Sheet_pointAt 7 v l p m) (Sheet_strideOf 7 v) m = bdS (m 10) (fsS (m 7 0) v l) (srS v) p := by
  have q1 := pt64 s (pt_in s h (p := p - 1) (by omega) (by omega))
  have q2 := pt64 s (pt_in s h (p := p) (by omega) (by omega))
  have q3 := pt64 s (pt_in s h (p := p + 1) (by omega) (by omega))
  unfold Sheet_bendAt Sheet_pointAt bdS
  rw [c_first s h, c_stride h.1.1 h.1.2]
  have f1 : fsS (m 7 0) v l + p * srS v - srS v = fsS (m 7 0) v l + srS v * (p - 1) := by rw [Int.mul_sub, Int.mul_comm p]; omega
  have f3 : fsS (m 7 0) v l + p * srS v + srS v = fsS (m 7 0) v l + srS v * (p + 1) := by rw [Int.mul_add, Int.mul_comm p]; omega
  rw [f1, f3, Int.mul_comm p, c_at q1.1 q1.2, c_at q2.1 q2.2, c_at q3.1 q3.2]
theorem m_bend {m : Mem} {S W v l p : Int} (s : gSW S W) (h : isLn S W v l) (e23 : m 75 23 = fsS S v l) (e24 : m 75 24 = srS v) (p0 : 1 ≤ p) (p1 : p < plS S W v l - 1) : Mo_bendAt p m = some (bdS (fun q => m 76 (80 + q)) (fsS S v l) (srS v) p) := by
  have q1 := pt64 s (pt_in s h (p := p - 1) (by omega) (by omega))
  have q2 := pt64 s (pt_in s h (p := p) (by omega) (by omega))
  have q3 := pt64 s (pt_in s h (p := p + 1) (by omega) (by omega))
  unfold Mo_bendAt bdS
  rw [m_breadth e23 e24 q1.1 q1.2, m_breadth e23 e24 q2.1 q2.2, m_breadth e23 e24 q3.1 q3.2]
  rfl
/-- the floor of class and reference, on a line -/
theorem fl_eq {m : Mem} (h : Rel m) {v l p : Int} (hl : isLn (m 7 0) (m 7 1) v l) (p0 : 0 ≤ p) (p1 : p < plS (m 7 0) (m 7 1) v l) : m 76 (80 + (fsS (m 7 0) v l + srS v * p)) = m 10 (fsS (m 7 0) v l + srS v * p) ∧ 0 ≤ m 10 (fsS (m 7 0) v l + srS v * p) ∧ m 10 (fsS (m 7 0) v l + srS v * p) ≤ 999 := by
  obtain ⟨-, hs, hr, hv, hp⟩ := shF h
  exact (hp _ (pt_in hs hl p0 p1)).2.1
theorem bd_eq {m : Mem} (h : Rel m) {v l p : Int} (hl : isLn (m 7 0) (m 7 1) v l) (p0 : 1 ≤ p) (p1 : p < plS (m 7 0) (m 7 1) v l - 1) : bdS (fun q => m 76 (80 + q)) (fsS (m 7 0) v l) (srS v) p = bdS (m 10) (fsS (m 7 0) v l) (srS v) p ∧ -1998 ≤ bdS (m 10) (fsS (m 7 0) v l) (srS v) p ∧ bdS (m 10) (fsS (m 7 0) v l) (srS v) p ≤ 1998 := by
  have q1 := fl_eq h hl (p := p - 1) (by omega) (by omega)
  have q2 := fl_eq h hl (p := p) (by omega) (by omega)
  have q3 := fl_eq h hl (p := p + 1) (by omega) (by omega)
  unfold bdS
  dsimp only
  rw [q1.1, q2.1, q3.1]
  omega
theorem s_bend {m : Mem} (h : Rel m) {a0 a1 a2 : Int} (c0 : w32 a0 = a0) (c1 : w32 a1 = a1) (c2 : w32 a2 = a2) : Stq w32 (some (FL_bend a0 a1 a2 m)) (fun m1 => Mo_bend a0 a1 a2 m1) := by
  obtain ⟨⟨z0, z1, z2, z3, z4, z5, z6⟩, hs, hr, hv, hp⟩ := shF h
  by_cases g : isLn (m 7 0) (m 7 1) a0 a1 ∧ 0 ≤ a2 ∧ a2 < plS (m 7 0) (m 7 1) a0 a1
  · obtain ⟨gl, g0, g1⟩ := g
    have gp := plS_le hs gl
    have e1 := c_hasPlT hs gl g0 g1
    have e2 := c_places hs gl
    have e4 : ∀ k, Mo_isPlace a0 a1 a2 (st m 0 0 k) = _ := fun k => m_isPlT hs z0 z1 gl g0 g1
    have e5 : ∀ k, tk (st m 0 0 k) (fsS (m 7 0) a0 a1) (srS a0) (plS (m 7 0) (m 7 1) a0 a1) 75 25 = plS (m 7 0) (m 7 1) a0 a1 := fun _ => rfl
    by_cases ge : a2 = 0 ∨ a2 = plS (m 7 0) (m 7 1) a0 a1 - 1
    · refine Stq.mk (x := -1) (m1 := st m 0 0 6) (y := -1) (m2 := st (tk (st m 0 0 6) (fsS (m 7 0) a0 a1) (srS a0) (plS (m 7 0) (m 7 1) a0 a1)) 75 1 6) ?_ ?_ rfl (h.tk _ _ _ _)
      · by_cases gz : a2 = 0
        · simp (disch := omega) only [bP, bE, bV, ltM, ltI, st_eq, st_ne, w32_id, w64_id, ↓reduceIte, ilt_t, ilt_f, ile_t, ile_f, ieq_t, ieq_f, not_true_eq_false, not_false_eq_true, and_true, true_and, and_self, and_false, false_and, Int.reduceMod, FL_bend, FL_isWithin, FL_no, FL_yes, FL_none, FL_answer, e1]
        · simp (disch := omega) only [bP, bE, bV, ltM, ltI, st_eq, st_ne, w32_id, w64_id, ↓reduceIte, ilt_t, ilt_f, ile_t, ile_f, ieq_t, ieq_f, not_true_eq_false, not_false_eq_true, and_true, true_and, and_self, and_false, false_and, Int.reduceMod, FL_bend, FL_isWithin, FL_no, FL_yes, FL_none, FL_answer, e1, e2]
      · by_cases gz : a2 = 0
        · simp (disch := omega) only [bP, bE, bV, ltM, ltI, st_eq, st_ne, w32_id, w64_id, ↓reduceIte, ilt_t, ilt_f, ile_t, ile_f, ieq_t, ieq_f, not_true_eq_false, not_false_eq_true, and_true, true_and, and_self, and_false, false_and, Int.reduceMod, Mo_bend, Mo_is, Mo_refuse, Mo_gives, Mo_isFrom, e4]
        · simp (disch := omega) only [bP, bE, bV, ltM, ltI, st_eq, st_ne, w32_id, w64_id, ↓reduceIte, ilt_t, ilt_f, ile_t, ile_f, ieq_t, ieq_f, not_true_eq_false, not_false_eq_true, and_true, true_and, and_self, and_false, false_and, Int.reduceMod, Mo_bend, Mo_is, Mo_refuse, Mo_gives, Mo_isFrom, e4, e5]
    · have e6 := c_bend hs gl (p := a2) (by omega) (by omega)
      have e7 := m_bend (m := tk (st m 0 0 0) (fsS (m 7 0) a0 a1) (srS a0) (plS (m 7 0) (m 7 1) a0 a1)) hs gl rfl rfl (p := a2) (by omega) (by omega)
      refine Stq.mk (x := bdS (m 10) (fsS (m 7 0) a0 a1) (srS a0) a2) (m1 := st m 0 0 0) (y := bdS (fun q => m 76 (80 + q)) (fsS (m 7 0) a0 a1) (srS a0) a2) (m2 := st (tk (st m 0 0 0) (fsS (m 7 0) a0 a1) (srS a0) (plS (m 7 0) (m 7 1) a0 a1)) 75 1 0) ?_ ?_ (by rw [(bd_eq h gl (p := a2) (by omega) (by omega)).1]) (h.tk _ _ _ _)
      · simp (disch := omega) only [bP, bE, bV, ltM, ltI, st_eq, st_ne, w32_id, w64_id, ↓reduceIte, ilt_t, ilt_f, ile_t, ile_f, ieq_t, ieq_f, not_true_eq_false, not_false_eq_true, and_true, true_and, and_self, and_false, false_and, Int.reduceMod, FL_bend, FL_isWithin, FL_no, FL_yes, FL_none, FL_answer, e1, e2, e6]
      · simp (disch := omega) only [bP, bE, bV, ltM, ltI, st_eq, st_ne, w32_id, w64_id, ↓reduceIte, ilt_t, ilt_f, ile_t, ile_f, ieq_t, ieq_f, not_true_eq_false, not_false_eq_true, and_true, true_and, and_self, and_false, false_and, Int.reduceMod, Mo_bend, Mo_is, Mo_refuse, Mo_gives, Mo_isFrom, e4, e5, e7]
        rfl
  · have e1 := c_hasPlF hs c0 c1 c2 g
    rcases m_isPlF (m := st m 0 0 1) hs z0 z1 c0 c1 c2 g with ⟨gl, e4⟩ | e4
    · refine Stq.mk (x := -1) (m1 := st m 0 0 1) (y := -1) (m2 := st (tk (st m 0 0 1) (fsS (m 7 0) a0 a1) (srS a0) (plS (m 7 0) (m 7 1) a0 a1)) 75 1 1) ?_ ?_ rfl (h.tk _ _ _ _)
      · simp (disch := omega) only [bP, bE, bV, ltM, ltI, st_eq, st_ne, w32_id, w64_id, ↓reduceIte, ilt_t, ilt_f, ile_t, ile_f, ieq_t, ieq_f, not_true_eq_false, not_false_eq_true, and_true, true_and, and_self, and_false, false_and, Int.reduceMod, FL_bend, FL_isWithin, FL_no, FL_yes, FL_none, FL_answer, e1]
      · simp (disch := omega) only [bP, bE, bV, ltM, ltI, st_eq, st_ne, w32_id, w64_id, ↓reduceIte, ilt_t, ilt_f, ile_t, ile_f, ieq_t, ieq_f, not_true_eq_false, not_false_eq_true, and_true, true_and, and_self, and_false, false_and, Int.reduceMod, Mo_bend, Mo_is, Mo_refuse, Mo_gives, Mo_isFrom, e4]
    · refine Stq.mk (x := -1) (m1 := st m 0 0 1) (y := -1) (m2 := st (st m 0 0 1) 75 1 1) ?_ ?_ rfl (h.stat 1)
      · simp (disch := omega) only [bP, bE, bV, ltM, ltI, st_eq, st_ne, w32_id, w64_id, ↓reduceIte, ilt_t, ilt_f, ile_t, ile_f, ieq_t, ieq_f, not_true_eq_false, not_false_eq_true, and_true, true_and, and_self, and_false, false_and, Int.reduceMod, FL_bend, FL_isWithin, FL_no, FL_yes, FL_none, FL_answer, e1]
      · simp (disch := omega) only [bP, bE, bV, ltM, ltI, st_eq, st_ne, w32_id, w64_id, ↓reduceIte, ilt_t, ilt_f, ile_t, ile_f, ieq_t, ieq_f, not_true_eq_false, not_false_eq_true, and_true, true_and, and_self, and_false, false_and, Int.reduceMod, Mo_bend, Mo_is, Mo_refuse, Mo_gives, Mo_isFrom, e4]
