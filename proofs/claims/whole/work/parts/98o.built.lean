theorem meS_c {T T' : Int → Int} {S W : Int} : ∀ (n : Nat) (v : Int), (∀ x, v ≤ x → x < v + n → T (2 * x) = T' (2 * x) ∧ T (2 * x + 1) = T' (2 * x + 1)) → meS T S W n v = meS T' S W n v
  | 0, _, _ => rfl
  | n + 1, v, h => by
    obtain ⟨h1, h2⟩ := h v (by omega) (by omega)
    rw [meS_s, meS_s, h1, h2, meS_c n (v + 1) (fun x a b => h x (by omega) (by omega))]
theorem s_built {m : Mem} (h : Rel m) {a0 a1 a2 a3 a4 a5 a6 : Int} (c0 : w32 a0 = a0) (c1 : w32 a1 = a1) (c2 : w32 a2 = a2) (c3 : w32 a3 = a3) (c4 : w32 a4 = a4) (c5 : w32 a5 = a5) (c6 : w32 a6 = a6) : Stq w32 (FL_built a0 a1 a2 a3 a4 a5 a6 m) (fun m1 => Mo_built a0 a1 a2 a3 a4 a5 a6 m1) := by
  have b0 := cn c0
  have b1 := cn c1
  have b2 := cn c2
  have b3 := cn c3
  have b4 := cn c4
  have b5 := cn c5
  have b6 := cn c6
  obtain ⟨⟨z0, z1, z2, z3, z4, z5, z6⟩, hs, hr, hv, hp⟩ := shF h
  by_cases k0 : ¬ (0 ≤ a0 ∧ a0 ≤ 9999)
  · have q : a0 < 0 ∨ 9999 < a0 := by omega
    refine Stq.mk (x := -1) (m1 := st m 0 0 1) (y := -1) (m2 := st (st m 0 0 1) 75 1 1) ?_ ?_ rfl (h.stat 1)
    · rcases q with q | q <;> simp (disch := omega) only [bP, bE, bV, ltM, ltI, st_eq, st_ne, w32_id, w64_id, ↓reduceIte, ilt_t, ilt_f, ile_t, ile_f, ieq_t, ieq_f, not_true_eq_false, not_false_eq_true, and_true, true_and, and_self, and_false, false_and, Int.reduceMod, FL_built, FL_isWithin, FL_no, FL_yes, FL_none, FL_answer, FL_isHand, Trays_isTray]
    · rcases q with q | q <;> simp (disch := omega) only [bP, bE, bV, ltM, ltI, st_eq, st_ne, w32_id, w64_id, ↓reduceIte, ilt_t, ilt_f, ile_t, ile_f, ieq_t, ieq_f, not_true_eq_false, not_false_eq_true, and_true, true_and, and_self, and_false, false_and, Int.reduceMod, Mo_built, Mo_is, Mo_refuse, Mo_gives, Mo_isFrom, Mo_isHand, Mo_isTray]
  replace k0 := Decidable.not_not.mp k0
  by_cases k1 : ¬ (0 ≤ a1 ∧ a1 ≤ 20)
  · have q : a1 < 0 ∨ 20 < a1 := by omega
    refine Stq.mk (x := -1) (m1 := st m 0 0 1) (y := -1) (m2 := st (st m 0 0 1) 75 1 1) ?_ ?_ rfl (h.stat 1)
    · rcases q with q | q <;> simp (disch := omega) only [bP, bE, bV, ltM, ltI, st_eq, st_ne, w32_id, w64_id, ↓reduceIte, ilt_t, ilt_f, ile_t, ile_f, ieq_t, ieq_f, not_true_eq_false, not_false_eq_true, and_true, true_and, and_self, and_false, false_and, Int.reduceMod, FL_built, FL_isWithin, FL_no, FL_yes, FL_none, FL_answer, FL_isHand, Trays_isTray]
    · rcases q with q | q <;> simp (disch := omega) only [bP, bE, bV, ltM, ltI, st_eq, st_ne, w32_id, w64_id, ↓reduceIte, ilt_t, ilt_f, ile_t, ile_f, ieq_t, ieq_f, not_true_eq_false, not_false_eq_true, and_true, true_and, and_self, and_false, false_and, Int.reduceMod, Mo_built, Mo_is, Mo_refuse, Mo_gives, Mo_isFrom, Mo_isHand, Mo_isTray]
  replace k1 := Decidable.not_not.mp k1
  by_cases k2 : ¬ (1 ≤ a2 ∧ a2 ≤ 40)
  · have q : a2 < 1 ∨ 40 < a2 := by omega
    refine Stq.mk (x := -1) (m1 := st m 0 0 1) (y := -1) (m2 := st (st m 0 0 1) 75 1 1) ?_ ?_ rfl (h.stat 1)
    · rcases q with q | q <;> simp (disch := omega) only [bP, bE, bV, ltM, ltI, st_eq, st_ne, w32_id, w64_id, ↓reduceIte, ilt_t, ilt_f, ile_t, ile_f, ieq_t, ieq_f, not_true_eq_false, not_false_eq_true, and_true, true_and, and_self, and_false, false_and, Int.reduceMod, FL_built, FL_isWithin, FL_no, FL_yes, FL_none, FL_answer, FL_isHand, Trays_isTray]
    · rcases q with q | q <;> simp (disch := omega) only [bP, bE, bV, ltM, ltI, st_eq, st_ne, w32_id, w64_id, ↓reduceIte, ilt_t, ilt_f, ile_t, ile_f, ieq_t, ieq_f, not_true_eq_false, not_false_eq_true, and_true, true_and, and_self, and_false, false_and, Int.reduceMod, Mo_built, Mo_is, Mo_refuse, Mo_gives, Mo_isFrom, Mo_isHand, Mo_isTray]
  replace k2 := Decidable.not_not.mp k2
  by_cases k3 : ¬ (0 ≤ a3 ∧ a3 ≤ 3)
  · have q : a3 < 0 ∨ 3 < a3 := by omega
    refine Stq.mk (x := -1) (m1 := st m 0 0 1) (y := -1) (m2 := st (st m 0 0 1) 75 1 1) ?_ ?_ rfl (h.stat 1)
    · rcases q with q | q <;> simp (disch := omega) only [bP, bE, bV, ltM, ltI, st_eq, st_ne, w32_id, w64_id, ↓reduceIte, ilt_t, ilt_f, ile_t, ile_f, ieq_t, ieq_f, not_true_eq_false, not_false_eq_true, and_true, true_and, and_self, and_false, false_and, Int.reduceMod, FL_built, FL_isWithin, FL_no, FL_yes, FL_none, FL_answer, FL_isHand, Trays_isTray]
    · rcases q with q | q <;> simp (disch := omega) only [bP, bE, bV, ltM, ltI, st_eq, st_ne, w32_id, w64_id, ↓reduceIte, ilt_t, ilt_f, ile_t, ile_f, ieq_t, ieq_f, not_true_eq_false, not_false_eq_true, and_true, true_and, and_self, and_false, false_and, Int.reduceMod, Mo_built, Mo_is, Mo_refuse, Mo_gives, Mo_isFrom, Mo_isHand, Mo_isTray]
  replace k3 := Decidable.not_not.mp k3
  by_cases k4 : ¬ (1 ≤ a4 ∧ a4 ≤ 20)
  · have q : a4 < 1 ∨ 20 < a4 := by omega
    refine Stq.mk (x := -1) (m1 := st m 0 0 1) (y := -1) (m2 := st (st m 0 0 1) 75 1 1) ?_ ?_ rfl (h.stat 1)
    · rcases q with q | q <;> simp (disch := omega) only [bP, bE, bV, ltM, ltI, st_eq, st_ne, w32_id, w64_id, ↓reduceIte, ilt_t, ilt_f, ile_t, ile_f, ieq_t, ieq_f, not_true_eq_false, not_false_eq_true, and_true, true_and, and_self, and_false, false_and, Int.reduceMod, FL_built, FL_isWithin, FL_no, FL_yes, FL_none, FL_answer, FL_isHand, Trays_isTray]
    · rcases q with q | q <;> simp (disch := omega) only [bP, bE, bV, ltM, ltI, st_eq, st_ne, w32_id, w64_id, ↓reduceIte, ilt_t, ilt_f, ile_t, ile_f, ieq_t, ieq_f, not_true_eq_false, not_false_eq_true, and_true, true_and, and_self, and_false, false_and, Int.reduceMod, Mo_built, Mo_is, Mo_refuse, Mo_gives, Mo_isFrom, Mo_isHand, Mo_isTray]
  replace k4 := Decidable.not_not.mp k4
  by_cases k5 : ¬ (0 ≤ a5 ∧ a5 ≤ 99)
  · have q : a5 < 0 ∨ 99 < a5 := by omega
    refine Stq.mk (x := -1) (m1 := st m 0 0 1) (y := -1) (m2 := st (st m 0 0 1) 75 1 1) ?_ ?_ rfl (h.stat 1)
    · rcases q with q | q <;> simp (disch := omega) only [bP, bE, bV, ltM, ltI, st_eq, st_ne, w32_id, w64_id, ↓reduceIte, ilt_t, ilt_f, ile_t, ile_f, ieq_t, ieq_f, not_true_eq_false, not_false_eq_true, and_true, true_and, and_self, and_false, false_and, Int.reduceMod, FL_built, FL_isWithin, FL_no, FL_yes, FL_none, FL_answer, FL_isHand, Trays_isTray]
    · rcases q with q | q <;> simp (disch := omega) only [bP, bE, bV, ltM, ltI, st_eq, st_ne, w32_id, w64_id, ↓reduceIte, ilt_t, ilt_f, ile_t, ile_f, ieq_t, ieq_f, not_true_eq_false, not_false_eq_true, and_true, true_and, and_self, and_false, false_and, Int.reduceMod, Mo_built, Mo_is, Mo_refuse, Mo_gives, Mo_isFrom, Mo_isHand, Mo_isTray]
  replace k5 := Decidable.not_not.mp k5
  by_cases k6 : ¬ (0 ≤ a6 ∧ a6 ≤ 1)
  · have q : a6 < 0 ∨ 1 < a6 := by omega
    refine Stq.mk (x := -1) (m1 := st m 0 0 1) (y := -1) (m2 := st (st m 0 0 1) 75 1 1) ?_ ?_ rfl (h.stat 1)
    · rcases q with q | q <;> simp (disch := omega) only [bP, bE, bV, ltM, ltI, st_eq, st_ne, w32_id, w64_id, ↓reduceIte, ilt_t, ilt_f, ile_t, ile_f, ieq_t, ieq_f, not_true_eq_false, not_false_eq_true, and_true, true_and, and_self, and_false, false_and, Int.reduceMod, FL_built, FL_isWithin, FL_no, FL_yes, FL_none, FL_answer, FL_isHand, Trays_isTray]
    · rcases q with q | q <;> simp (disch := omega) only [bP, bE, bV, ltM, ltI, st_eq, st_ne, w32_id, w64_id, ↓reduceIte, ilt_t, ilt_f, ile_t, ile_f, ieq_t, ieq_f, not_true_eq_false, not_false_eq_true, and_true, true_and, and_self, and_false, false_and, Int.reduceMod, Mo_built, Mo_is, Mo_refuse, Mo_gives, Mo_isFrom, Mo_isHand, Mo_isTray]
  replace k6 := Decidable.not_not.mp k6
  obtain ⟨s0, s1⟩ := k0
  obtain ⟨h0, h1⟩ := k1
  obtain ⟨y0, y1⟩ := k2
  obtain ⟨t0, t1⟩ := k3
  obtain ⟨n0, n1⟩ := k4
  obtain ⟨l0, l1⟩ := k5
  obtain ⟨w0, w1⟩ := k6
  rcases h.2.1 a3 t0 (by omega) with ⟨q1, q2⟩ | ⟨q1, q2, q3, q4, q5, q6, q7⟩
  · refine Stq.mk (x := -1) (m1 := st m 0 0 2) (y := -1) (m2 := st (st m 0 0 2) 75 1 2) ?_ ?_ rfl (h.stat 2)
    · simp (disch := omega) only [bP, bE, bV, ltM, ltI, st_eq, st_ne, w32_id, w64_id, ↓reduceIte, ilt_t, ilt_f, ile_t, ile_f, ieq_t, ieq_f, not_true_eq_false, not_false_eq_true, and_true, true_and, and_self, and_false, false_and, Int.reduceMod, FL_built, FL_isWithin, FL_no, FL_yes, FL_none, FL_answer, Trays_lackOf, Trays_isTray, Trays_isMissing, Trays_sortOf, Trays_hasRun, Trays_sizeOf, FL_isHand]
    · simp (disch := omega) only [bP, bE, bV, ltM, ltI, st_eq, st_ne, w32_id, w64_id, ↓reduceIte, ilt_t, ilt_f, ile_t, ile_f, ieq_t, ieq_f, not_true_eq_false, not_false_eq_true, and_true, true_and, and_self, and_false, false_and, Int.reduceMod, Mo_built, Mo_is, Mo_refuse, Mo_gives, Mo_isFrom, Mo_isTray, Mo_isHand]
  by_cases g2 : 2 * a4 ≤ m 4 a3
  · have hc : ∀ p, 0 ≤ p → p < 2 * a4 → w64 (m 2 (60 * a3 + p)) = m 2 (60 * a3 + p) := fun p p0 p1 => (q7 p p0 (by omega)).2
    have he : ∀ p, 0 ≤ p → p < 2 * a4 → m 79 (60 * a3 + p) = m 2 (60 * a3 + p) := fun p p0 p1 => (q7 p p0 (by omega)).1.symm
    have e1 := c_meas (many := a4) hs t0 (show a3 < 4 by omega) (by omega) n1 hc
    have lk : w32 (Trays_lackOf a3 (2 * a4) m) = 0 := by simp (disch := omega) only [bP, bE, bV, ltM, ltI, st_eq, st_ne, w32_id, w64_id, ↓reduceIte, ilt_t, ilt_f, ile_t, ile_f, ieq_t, ieq_f, not_true_eq_false, not_false_eq_true, and_true, true_and, and_self, and_false, false_and, Int.reduceMod, Trays_lackOf, Trays_isTray, Trays_isMissing, Trays_sortOf, Trays_hasRun, Trays_sizeOf]
    have em : meS (fun p => m 79 (60 * a3 + p)) (m 7 0) (m 7 1) (a4 - 0).toNat 0 = meS (fun p => m 2 (60 * a3 + p)) (m 7 0) (m 7 1) (a4 - 0).toNat 0 := by
      refine meS_c _ _ (fun x x0 x1 => ?_)
      rw [he _ (by omega) (by omega), he _ (by omega) (by omega)]
      exact ⟨rfl, rfl⟩
    have fC : FL_built a0 a1 a2 a3 a4 a5 a6 m = bP (FL_areMeasures a3 a4 m) fun x8 => (if ¬ (w32 x8) = 0 then (FL_built_L128 a0 a1 a2 a3 a4 a5 a6 FU 0 (-1) 0 m) else some ((FL_none 5 m).1, (FL_none 5 m).2)) := by
      simp (disch := omega) only [ltM, ltI, st_eq, st_ne, w32_id, w64_id, ↓reduceIte, ilt_t, ilt_f, ile_t, ile_f, ieq_t, ieq_f, not_true_eq_false, not_false_eq_true, and_true, true_and, and_self, and_false, false_and, Int.reduceMod, FL_built, FL_isWithin, FL_no, FL_yes, FL_none, FL_answer, Trays_isTray, FL_isHand, lk]
    have fM : ∀ mm : Mem, mm 78 = m 78 → Mo_built a0 a1 a2 a3 a4 a5 a6 mm = Mo_built_L116 a0 a1 a2 a4 a5 a6 (60 * a3) (fun m20 => (Mo_built_L187 a0 a1 a2 a4 a5 a6 (60 * a3) FU 0 (-1) 0 m20)) FU 0 mm := by
      intro mm k
      have k' : mm 78 a3 = m 4 a3 := by rw [k]; exact q6
      simp (disch := omega) only [w32_id, w64_id, ↓reduceIte, ilt_t, ilt_f, ile_t, ile_f, ieq_t, ieq_f, not_true_eq_false, not_false_eq_true, and_true, true_and, and_self, and_false, false_and, Int.reduceMod, Mo_built, Mo_is, Mo_refuse, Mo_gives, Mo_isFrom, Mo_isTray, Mo_isHand]
    by_cases g3 : meS (fun p => m 2 (60 * a3 + p)) (m 7 0) (m 7 1) (a4 - 0).toNat 0 = true
    · have hm0 := meS_at _ _ g3
      have hm : ∀ x, 0 ≤ x → x < a4 → Pt (m 7 0) (m 7 1) (m 2 (60 * a3 + 2 * x)) ∧ 0 ≤ m 2 (60 * a3 + (2 * x + 1)) ∧ m 2 (60 * a3 + (2 * x + 1)) ≤ 999 := fun x x0 x1 => hm0 x x0 (by omega)
      obtain ⟨R, hR⟩ : ∃ R, biS (fun b => asS (fun p => m 2 (60 * a3 + p)) (fun q => bSp m a0 a1 b q) a5 (a4 - 0).toNat 0) (a2 - 0).toNat 0 0 (-1) = R := ⟨_, rfl⟩
      obtain ⟨ma, f1, f2⟩ := c_bu hs (flC h) s0 s1 h0 h1 t0 (show a3 < 4 by omega) (by omega) n1 l0 l1 w0 w1 (show 0 ≤ a2 by omega) y1 hm FU 0 0 (-1) m (by omega) (by omega) (by omega) (by omega) (by rw [FU_eq]; omega) (fun _ _ => rfl) R hR
      have o : ∃ x s : Int, (s = 0 ∨ s = 6) ∧ (if ¬ a6 = 0 then (if ¬ R.1 = 0 then some (R.2, st ma 0 0 0) else some (-1, st ma 0 0 6)) else some (R.1, st ma 0 0 0)) = some (x, st ma 0 0 s) ∧ ∀ m' : Mem, (if ¬ a6 = 0 then (if ¬ R.1 = 0 then some (R.2, st m' 75 1 0) else some (-1, st m' 75 1 6)) else some (R.1, st m' 75 1 0)) = some (x, st m' 75 1 s) := by
        by_cases o1 : ¬ a6 = 0
        · by_cases o2 : ¬ R.1 = 0
          · exact ⟨R.2, 0, Or.inl rfl, by rw [if_pos o1, if_pos o2], fun m' => by rw [if_pos o1, if_pos o2]⟩
          · exact ⟨-1, 6, Or.inr rfl, by rw [if_pos o1, if_neg o2], fun m' => by rw [if_pos o1, if_neg o2]⟩
        · exact ⟨R.1, 0, Or.inl rfl, by rw [if_neg o1], fun m' => by rw [if_neg o1]⟩
      obtain ⟨x, s, o0, o1, o2⟩ := o
      have kk : ∀ c, c ≠ 0 → c ≠ 43 → st ma 0 0 s c = m c := fun c n0 n43 => by rw [st_ne _ _ _ n0, f1 c n43]
      obtain ⟨mb, d1, d2⟩ := m_bu h (m1 := st ma 0 0 s) (kk 76 (by decide) (by decide)) s0 s1 h0 h1 t0 (show a3 < 4 by omega) (by omega) n1 l0 l1 w0 w1 (show 0 ≤ a2 by omega) y1 hm (fun p p0 p1 => by rw [kk 79 (by decide) (by decide)]; exact he p p0 p1) FU 0 0 (-1) (st ma 0 0 s) (by omega) (by omega) (by omega) (by omega) (by rw [FU_eq]; omega) (fun _ _ => rfl) R hR
      have e2 := m_meas (m := st ma 0 0 s) (v1 := a0) (v2 := a1) (v3 := a2) (v6 := a5) (v7 := a6) (many := a4) (K := fun m20 => (Mo_built_L187 a0 a1 a2 a4 a5 a6 (60 * a3) FU 0 (-1) 0 m20)) hs (by rw [kk 76 (by decide) (by decide)]; exact z0) (by rw [kk 76 (by decide) (by decide)]; exact z1) t0 (show a3 < 4 by omega) (by omega) n1 (fun p p0 p1 => by rw [kk 79 (by decide) (by decide), he p p0 p1]; exact hc p p0 p1) FU 0 (by omega) (by omega) (by rw [FU_eq]; omega)
      rw [kk 79 (by decide) (by decide), em, if_pos g3] at e2
      have e2' : Mo_built_L116 a0 a1 a2 a4 a5 a6 (60 * a3) (fun m20 => (Mo_built_L187 a0 a1 a2 a4 a5 a6 (60 * a3) FU 0 (-1) 0 m20)) FU 0 (st ma 0 0 s) = Mo_built_L187 a0 a1 a2 a4 a5 a6 (60 * a3) FU 0 (-1) 0 (st ma 0 0 s) := e2
      refine Stq.mk (x := x) (m1 := st ma 0 0 s) (y := x) (m2 := st mb 75 1 s) ?_ ?_ rfl ?_
      · rw [fC, e1, bP_some, if_pos g3, if_pos (by decide), f2]; exact o1
      · show Mo_built a0 a1 a2 a3 a4 a5 a6 _ = _
        rw [fM _ (kk 78 (by decide) (by decide)), e2', d2]; exact o2 mb
      · have ag : Ag [0, 1] m mb := by
          intro c i q
          have n93 : c ≠ 93 := fun z => q (by subst z; simp [comp])
          have n43 : c ≠ 43 := fun z => q (by subst z; simp [comp])
          rw [d1 c n93]
          by_cases c0' : c = 0
          · subst c0'
            rw [st_eq, if_neg (fun z => q (by subst z; simp [comp])), f1 0 (by decide)]
          · rw [kk c c0' n43]
        refine h.ans (Ag.st ag (by decide)) ?_
        refine Rst_set h.1 (k := s) ?_ (by rw [st_eq, if_pos rfl]) ?_ ?_ ?_ ?_
        · rw [st_ne _ _ _ (by decide), d1 0 (by decide), st_eq, if_pos rfl]
        · rw [st_ne _ _ _ (by decide), d1 0 (by decide), st_eq, if_neg (by decide), f1 0 (by decide)]
        · rw [st_ne _ _ _ (by decide), d1 0 (by decide), st_eq, if_neg (by decide), f1 0 (by decide)]
        · rw [st_eq, if_neg (by decide), d1 75 (by decide), kk 75 (by decide) (by decide)]
        · rw [st_eq, if_neg (by decide), d1 75 (by decide), kk 75 (by decide) (by decide)]
    · have e2 := m_meas (m := st m 0 0 5) (v1 := a0) (v2 := a1) (v3 := a2) (v6 := a5) (v7 := a6) (many := a4) (K := fun m20 => (Mo_built_L187 a0 a1 a2 a4 a5 a6 (60 * a3) FU 0 (-1) 0 m20)) hs z0 z1 t0 (show a3 < 4 by omega) (by omega) n1 (fun p p0 p1 => by rw [st_ne _ _ _ (by decide), he p p0 p1]; exact hc p p0 p1) FU 0 (by omega) (by omega) (by rw [FU_eq]; omega)
      rw [st_ne m 0 5 (show 79 ≠ 0 by decide), em, if_neg g3] at e2
      refine Stq.mk (x := -1) (m1 := st m 0 0 5) (y := -1) (m2 := st (st m 0 0 5) 75 1 5) ?_ ?_ rfl (h.stat 5)
      · rw [fC, e1, bP_some, if_neg g3, if_neg (by decide)]; rfl
      · show Mo_built a0 a1 a2 a3 a4 a5 a6 _ = _
        rw [fM _ (st_ne _ _ _ (by decide)), e2]
  · refine Stq.mk (x := -1) (m1 := st m 0 0 3) (y := -1) (m2 := st (st m 0 0 3) 75 1 3) ?_ ?_ rfl (h.stat 3)
    · simp (disch := omega) only [bP, bE, bV, ltM, ltI, st_eq, st_ne, w32_id, w64_id, ↓reduceIte, ilt_t, ilt_f, ile_t, ile_f, ieq_t, ieq_f, not_true_eq_false, not_false_eq_true, and_true, true_and, and_self, and_false, false_and, Int.reduceMod, FL_built, FL_isWithin, FL_no, FL_yes, FL_none, FL_answer, Trays_lackOf, Trays_isTray, Trays_isMissing, Trays_sortOf, Trays_hasRun, Trays_sizeOf, FL_isHand]
    · simp (disch := omega) only [bP, bE, bV, ltM, ltI, st_eq, st_ne, w32_id, w64_id, ↓reduceIte, ilt_t, ilt_f, ile_t, ile_f, ieq_t, ieq_f, not_true_eq_false, not_false_eq_true, and_true, true_and, and_self, and_false, false_and, Int.reduceMod, Mo_built, Mo_is, Mo_refuse, Mo_gives, Mo_isFrom, Mo_isTray, Mo_isHand]
