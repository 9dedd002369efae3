theorem c_compare {m : Mem} (hs : gSW (m 7 0) (m 7 1)) (hS : 1 ≤ m 7 0) (hfl : ∀ q, Pt (m 7 0) (m 7 1) q → 0 ≤ m 10 q ∧ m 10 q ≤ 999) {a0 a1 a2 : Int} (s0 : 0 ≤ a0) (s1 : a0 ≤ 9999) (h0 : 0 ≤ a1) (h1 : a1 ≤ 20) (y0 : 1 ≤ a2) (y1 : a2 ≤ 40) : ∃ m', Yard_compareBoats a0 a1 a2 m = some m' ∧ (∀ c, c ≠ 39 → c ≠ 43 → c ≠ 44 → c ≠ 45 → m' c = m c) ∧ (∀ i, i ≠ 12 → i ≠ 13 → m' 39 i = m 39 i) ∧ m' 39 12 = (fun q => hiS (fun k q => bSp m a0 a1 k q) a2.toNat q - loS (fun k q => bSp m a0 a1 k q) a2.toNat q) (seS (fun q => hiS (fun k q => bSp m a0 a1 k q) a2.toNat q - loS (fun k q => bSp m a0 a1 k q) a2.toNat q) (m 7 0) (m 7 1) 63 1 0) ∧ m' 39 13 = seS (fun q => hiS (fun k q => bSp m a0 a1 k q) a2.toNat q - loS (fun k q => bSp m a0 a1 k q) a2.toNat q) (m 7 0) (m 7 1) 63 1 0 := by
  obtain ⟨m5, i1, i2, i3, i4⟩ := c_ap3 (v2 := a0) (v3 := a1) (v4 := a2) (K := fun m5 => (Yard_compareBoats_L37 a0 a1 a2 (fun m18 => (Yard_compareBoats_L129 FU 0 (st m18 39 12 (-1)))) FU 0 m5)) FU 0 m (by omega) (by omega) (by rw [FU_eq]; omega)
  obtain ⟨m6, j1, j2, j3⟩ := c_ap37 hs hfl s0 s1 h0 h1 (show 0 ≤ a2 by omega) y1 (K := fun m18 => (Yard_compareBoats_L129 FU 0 (st m18 39 12 (-1)))) FU 0 m5 (by omega) (by rw [FU_eq]; omega) (fun c c1 c2 c3 => i2 c c2 c3) (fun q hq => i3 q (pt64 hs hq).1 (pt64 hs hq).2)
  have e7 : m6 7 = m 7 := j2 7 (by decide) (by decide) (by decide)
  have p00 : Pt (m 7 0) (m 7 1) 0 := by unfold Pt; omega
  have hd : ∀ q, Pt (m 7 0) (m 7 1) q → m6 45 q - m6 44 q = (fun q => hiS (fun k q => bSp m a0 a1 k q) a2.toNat q - loS (fun k q => bSp m a0 a1 k q) a2.toNat q) q ∧ 0 ≤ (fun q => hiS (fun k q => bSp m a0 a1 k q) a2.toNat q - loS (fun k q => bSp m a0 a1 k q) a2.toNat q) q ∧ (fun q => hiS (fun k q => bSp m a0 a1 k q) a2.toNat q - loS (fun k q => bSp m a0 a1 k q) a2.toNat q) q ≤ 999 := by
    intro q hq
    obtain ⟨k1, k2⟩ := j3 q hq
    have hb : ∀ k, 0 ≤ (fun k q => bSp m a0 a1 k q) k q ∧ (fun k q => bSp m a0 a1 k q) k q ≤ 999 := fun k => bSp_b hs hq
    have l1 := lohi_b (B := fun k q => bSp m a0 a1 k q) hb a2.toNat
    have l2 := lohi_le (B := fun k q => bSp m a0 a1 k q) hb (a2.toNat - 1)
    rw [show a2.toNat - 1 + 1 = a2.toNat by omega] at l2
    dsimp only
    rw [k1, k2]
    omega
  obtain ⟨d1, d2, d3⟩ := hd 0 p00
  obtain ⟨m7, g1, g2, g3, g4, g5, g6⟩ := c_ap129 (m := m6) (d := (fun q => hiS (fun k q => bSp m a0 a1 k q) a2.toNat q - loS (fun k q => bSp m a0 a1 k q) a2.toNat q)) (by rw [e7]; exact hs) 19999 1 0 (st (st (st m6 39 12 (-1)) 39 12 ((fun q => hiS (fun k q => bSp m a0 a1 k q) a2.toNat q - loS (fun k q => bSp m a0 a1 k q) a2.toNat q) 0)) 39 13 0) (fun c hc => by rw [st_ne _ _ _ hc, st_ne _ _ _ hc, st_ne _ _ _ hc]) (by rw [e7]; exact hd) (by rw [e7]; exact p00) (by rw [st_eq, if_neg (by decide), st_eq, if_pos rfl]) (by rw [st_eq, if_pos rfl]) (fun i n1 n2 => by rw [st_eq, if_neg n2, st_eq, if_neg n1, st_eq, if_neg n1]) (by omega) (by omega) (by omega)
  rw [e7] at g4 g5
  have f1 : Sheet_hasPoint 7 0 (st m6 39 12 (-1)) = 1 := hpT (by rw [st_ne _ _ _ (by decide), e7]; exact hs) (by rw [st_ne _ _ _ (by decide), e7]; exact p00)
  have step : Yard_compareBoats_L129 FU 0 (st m6 39 12 (-1)) = Yard_compareBoats_L129 19999 1 (st (st (st m6 39 12 (-1)) 39 12 ((fun q => hiS (fun k q => bSp m a0 a1 k q) a2.toNat q - loS (fun k q => bSp m a0 a1 k q) a2.toNat q) 0)) 39 13 0) := by
    rw [show FU = 19999 + 1 from rfl, Yard_compareBoats_L129]
    have k1 : st m6 39 12 (-1) 45 0 - st m6 39 12 (-1) 44 0 = (fun q => hiS (fun k q => bSp m a0 a1 k q) a2.toNat q - loS (fun k q => bSp m a0 a1 k q) a2.toNat q) 0 := d1
    have k2 : st m6 39 12 (-1) 39 12 = -1 := rfl
    have dz1 := d2
    have dz2 := d3
    generalize (fun q => hiS (fun k q => bSp m a0 a1 k q) a2.toNat q - loS (fun k q => bSp m a0 a1 k q) a2.toNat q) 0 = z at dz1 dz2 k1 ⊢
    simp (disch := omega) only [w32_id, ↓reduceIte, ilt_t, ilt_f, ile_t, ile_f, ieq_t, ieq_f, not_true_eq_false, not_false_eq_true, and_true, true_and, and_self, f1, k1, k2, Int.zero_add]
  refine ⟨m7, ?_, fun c n39 n43 n44 n45 => ?_, fun i n12 n13 => ?_, g4, g5⟩
  · unfold Yard_compareBoats
    rw [i1]
    have j1' : Yard_compareBoats_L37 a0 a1 a2 (fun m18 => (Yard_compareBoats_L129 FU 0 (st m18 39 12 (-1)))) FU 0 m5 = Yard_compareBoats_L129 FU 0 (st m6 39 12 (-1)) := j1
    rw [j1', step]
    exact g1
  · rw [g2 c n39, j2 c n43 n44 n45]
  · rw [g3 i n12 n13, j2 39 (by decide) (by decide) (by decide)]
theorem s_apart {m : Mem} (h : Rel m) {a0 a1 a2 a3 : Int} (c0 : w32 a0 = a0) (c1 : w32 a1 = a1) (c2 : w32 a2 = a2) (c3 : w32 a3 = a3) : Stq w32 (FL_apart a0 a1 a2 a3 m) (fun m1 => Mo_apart a0 a1 a2 a3 m1) := by
  have b0 := cn c0
  have b1 := cn c1
  have b2 := cn c2
  have b3 := cn c3
  obtain ⟨⟨z0, z1, z2, z3, z4, z5, z6⟩, hs, hr, hv, hp⟩ := shF h
  by_cases g : ((0 ≤ a0 ∧ a0 ≤ 9999) ∧ (0 ≤ a1 ∧ a1 ≤ 20)) ∧ (2 ≤ a2 ∧ a2 ≤ 40) ∧ 0 ≤ a3 ∧ a3 ≤ 1
  · by_cases gS : m 7 0 = 0
    · refine Stq.mk (x := -1) (m1 := st m 0 0 6) (y := -1) (m2 := st (st m 0 0 6) 75 1 6) ?_ ?_ rfl (h.stat 6)
      · simp (disch := omega) only [bP, bE, bV, ltM, ltI, st_eq, st_ne, w32_id, w64_id, ↓reduceIte, ilt_t, ilt_f, ile_t, ile_f, ieq_t, ieq_f, not_true_eq_false, not_false_eq_true, and_true, true_and, and_self, and_false, false_and, Int.reduceMod, FL_apart, FL_isWithin, FL_no, FL_yes, FL_none, FL_answer, FL_isHand]
      · simp (disch := omega) only [bP, bE, bV, ltM, ltI, st_eq, st_ne, w32_id, w64_id, ↓reduceIte, ilt_t, ilt_f, ile_t, ile_f, ieq_t, ieq_f, not_true_eq_false, not_false_eq_true, and_true, true_and, and_self, and_false, false_and, Int.reduceMod, Mo_apart, Mo_is, Mo_refuse, Mo_gives, Mo_isFrom, Mo_isHand]
    · have p00 : Pt (m 7 0) (m 7 1) 0 := by unfold Pt; omega
      obtain ⟨ma, e1, e2, e3, e4, e5⟩ := c_compare hs (show 1 ≤ m 7 0 by omega) (flC h) g.1.1.1 g.1.1.2 g.1.2.1 g.1.2.2 (show 1 ≤ a2 by omega) g.2.1.2
      have k76 : (st ma 0 0 0) 76 = m 76 := by rw [st_ne _ _ _ (by decide), e2 76 (by decide) (by decide) (by decide) (by decide)]
      obtain ⟨mb, f1, f2, f3⟩ := m_ap55 h k76 (v4 := a3) g.1.1.1 g.1.1.2 g.1.2.1 g.1.2.2 (show 1 ≤ a2 by omega) g.2.1.2 (K := fun m42 => (Mo_apart_L175 a3 FU 0 0 m42)) FU 0 (st ma 0 0 0) (by omega) (by rw [FU_eq]; omega) (fun _ _ _ _ => rfl) (fun z => absurd rfl z)
      have hd : ∀ q, Pt (m 7 0) (m 7 1) q → mb 95 q - mb 94 q = (fun q => hiS (fun k q => bSp m a0 a1 k q) a2.toNat q - loS (fun k q => bSp m a0 a1 k q) a2.toNat q) q ∧ 0 ≤ (fun q => hiS (fun k q => bSp m a0 a1 k q) a2.toNat q - loS (fun k q => bSp m a0 a1 k q) a2.toNat q) q ∧ (fun q => hiS (fun k q => bSp m a0 a1 k q) a2.toNat q - loS (fun k q => bSp m a0 a1 k q) a2.toNat q) q ≤ 999 := by
        intro q hq
        obtain ⟨k1, k2⟩ := f3 q hq
        have hb : ∀ k, 0 ≤ (fun k q => bSp m a0 a1 k q) k q ∧ (fun k q => bSp m a0 a1 k q) k q ≤ 999 := fun k => bSp_b hs hq
        have l1 := lohi_b (B := fun k q => bSp m a0 a1 k q) hb a2.toNat
        have l2 := lohi_le (B := fun k q => bSp m a0 a1 k q) hb (a2.toNat - 1)
        rw [show a2.toNat - 1 + 1 = a2.toNat by omega] at l2
        dsimp only
        rw [k1, k2]
        omega
      have kb76 : mb 76 = m 76 := by rw [f2 76 (by decide) (by decide) (by decide)]; exact k76
      have e6 := m_ap175 (mm := mb) (v4 := a3) (d := (fun q => hiS (fun k q => bSp m a0 a1 k q) a2.toNat q - loS (fun k q => bSp m a0 a1 k q) a2.toNat q)) hs (by rw [kb76]; exact z0) (by rw [kb76]; exact z1) hd g.2.2.1 g.2.2.2 FU 0 0 p00 (by omega) (by omega) (by rw [FU_eq]; omega)
      have e7 : seS (fun q => hiS (fun k q => bSp m a0 a1 k q) a2.toNat q - loS (fun k q => bSp m a0 a1 k q) a2.toNat q) (m 7 0) (m 7 1) (64 - 0 : Int).toNat 0 0 = seS (fun q => hiS (fun k q => bSp m a0 a1 k q) a2.toNat q - loS (fun k q => bSp m a0 a1 k q) a2.toNat q) (m 7 0) (m 7 1) 63 1 0 := by
        rw [show (64 - 0 : Int).toNat = 63 + 1 from rfl, seS_s]
        have : (if (ptB (m 7 0) (m 7 1) 0 && decide ((fun q => hiS (fun k q => bSp m a0 a1 k q) a2.toNat q - loS (fun k q => bSp m a0 a1 k q) a2.toNat q) 0 < (fun q => hiS (fun k q => bSp m a0 a1 k q) a2.toNat q - loS (fun k q => bSp m a0 a1 k q) a2.toNat q) 0)) = true then (0 : Int) else 0) = 0 := by split <;> rfl
        rw [this]; rfl
      rw [e7] at e6
      have f1' : Mo_apart_L55 a0 a1 a2 a3 (fun m42 => (Mo_apart_L175 a3 FU 0 0 m42)) FU 0 (st ma 0 0 0) = Mo_apart_L175 a3 FU 0 0 mb := f1
      have k760 : st ma 0 0 0 76 0 = m 7 0 := by rw [k76]; exact z0
      refine Stq.mk (x := if ¬ a3 = 0 then ma 39 13 else ma 39 12) (m1 := st ma 0 0 0) (y := if ¬ a3 = 0 then seS (fun q => hiS (fun k q => bSp m a0 a1 k q) a2.toNat q - loS (fun k q => bSp m a0 a1 k q) a2.toNat q) (m 7 0) (m 7 1) 63 1 0 else (fun q => hiS (fun k q => bSp m a0 a1 k q) a2.toNat q - loS (fun k q => bSp m a0 a1 k q) a2.toNat q) (seS (fun q => hiS (fun k q => bSp m a0 a1 k q) a2.toNat q - loS (fun k q => bSp m a0 a1 k q) a2.toNat q) (m 7 0) (m 7 1) 63 1 0)) (m2 := st mb 75 1 0) ?_ ?_ (by rw [e4, e5]) ?_
      · by_cases gz : a3 = 0 <;> simp (disch := omega) only [bP, bE, bV, ltM, ltI, st_eq, st_ne, w32_id, w64_id, ↓reduceIte, ilt_t, ilt_f, ile_t, ile_f, ieq_t, ieq_f, not_true_eq_false, not_false_eq_true, and_true, true_and, and_self, and_false, false_and, Int.reduceMod, FL_apart, FL_isWithin, FL_no, FL_yes, FL_none, FL_answer, FL_isHand, e1]
      · rw [← e6, ← f1']
        simp (disch := omega) only [bP, bE, bV, ltM, ltI, w32_id, w64_id, ↓reduceIte, ilt_t, ilt_f, ile_t, ile_f, ieq_t, ieq_f, not_true_eq_false, not_false_eq_true, and_true, true_and, and_self, and_false, false_and, Int.reduceMod, Mo_apart, Mo_is, Mo_refuse, Mo_gives, Mo_isFrom, Mo_isHand, k760]
      · have kk : ∀ c i, comp c i ∉ [0, 1] → mb c i = m c i := by
          intro c i q
          have n93 : c ≠ 93 := fun z => q (by subst z; simp [comp])
          have n94 : c ≠ 94 := fun z => q (by subst z; simp [comp])
          have n95 : c ≠ 95 := fun z => q (by subst z; simp [comp])
          have n43 : c ≠ 43 := fun z => q (by subst z; simp [comp])
          have n44 : c ≠ 44 := fun z => q (by subst z; simp [comp])
          have n45 : c ≠ 45 := fun z => q (by subst z; simp [comp])
          rw [f2 c n93 n94 n95]
          by_cases c0' : c = 0
          · subst c0'
            rw [st_eq]
            by_cases i0 : i = 0
            · subst i0; exact absurd (by simp [comp]) q
            · rw [if_neg i0, e2 0 (by decide) (by decide) (by decide) (by decide)]
          · rw [st_ne _ _ _ c0']
            by_cases c39 : c = 39
            · subst c39
              exact e3 i (fun z => q (by subst z; simp [comp])) (fun z => q (by subst z; simp [comp]))
            · rw [e2 c c39 n43 n44 n45]
        refine h.ans (Ag.st kk (by decide)) ?_
        refine Rst_set h.1 (k := 0) ?_ (by rw [st_eq, if_pos rfl]) ?_ ?_ ?_ ?_
        · rw [st_ne _ _ _ (by decide), f2 0 (by decide) (by decide) (by decide), st_eq, if_pos rfl]
        · rw [st_ne _ _ _ (by decide), f2 0 (by decide) (by decide) (by decide), st_eq, if_neg (by decide), e2 0 (by decide) (by decide) (by decide) (by decide)]
        · rw [st_ne _ _ _ (by decide), f2 0 (by decide) (by decide) (by decide), st_eq, if_neg (by decide), e2 0 (by decide) (by decide) (by decide) (by decide)]
        · rw [st_eq, if_neg (by decide), f2 75 (by decide) (by decide) (by decide), st_ne _ _ _ (by decide), e2 75 (by decide) (by decide) (by decide) (by decide)]
        · rw [st_eq, if_neg (by decide), f2 75 (by decide) (by decide) (by decide), st_ne _ _ _ (by decide), e2 75 (by decide) (by decide) (by decide) (by decide)]
  · have hb : a0 < 0 ∨ 9999 < a0 ∨ ((0 ≤ a0 ∧ a0 ≤ 9999) ∧ a1 < 0) ∨ ((0 ≤ a0 ∧ a0 ≤ 9999) ∧ 20 < a1) ∨ ((0 ≤ a0 ∧ a0 ≤ 9999) ∧ (0 ≤ a1 ∧ a1 ≤ 20) ∧ a2 < 2) ∨ ((0 ≤ a0 ∧ a0 ≤ 9999) ∧ (0 ≤ a1 ∧ a1 ≤ 20) ∧ 40 < a2) ∨ ((0 ≤ a0 ∧ a0 ≤ 9999) ∧ (0 ≤ a1 ∧ a1 ≤ 20) ∧ (2 ≤ a2 ∧ a2 ≤ 40) ∧ a3 < 0) ∨ ((0 ≤ a0 ∧ a0 ≤ 9999) ∧ (0 ≤ a1 ∧ a1 ≤ 20) ∧ (2 ≤ a2 ∧ a2 ≤ 40) ∧ 1 < a3) := by omega
    refine Stq.mk (x := -1) (m1 := st m 0 0 1) (y := -1) (m2 := st (st m 0 0 1) 75 1 1) ?_ ?_ rfl (h.stat 1)
    · rcases hb with q | q | q | q | q | q | q | q <;> simp (disch := omega) only [bP, bE, bV, ltM, ltI, st_eq, st_ne, w32_id, w64_id, ↓reduceIte, ilt_t, ilt_f, ile_t, ile_f, ieq_t, ieq_f, not_true_eq_false, not_false_eq_true, and_true, true_and, and_self, and_false, false_and, Int.reduceMod, FL_apart, FL_isWithin, FL_no, FL_yes, FL_none, FL_answer, FL_isHand]
    · rcases hb with q | q | q | q | q | q | q | q <;> simp (disch := omega) only [bP, bE, bV, ltM, ltI, st_eq, st_ne, w32_id, w64_id, ↓reduceIte, ilt_t, ilt_f, ile_t, ile_f, ieq_t, ieq_f, not_true_eq_false, not_false_eq_true, and_true, true_and, and_self, and_false, false_and, Int.reduceMod, Mo_apart, Mo_is, Mo_refuse, Mo_gives, Mo_isFrom, Mo_isHand]
