/-! layer 2: the call ribs -/
theorem s_ribs {m : Mem} (h : Rel m) {a0 a1 : Int} (c0 : w32 a0 = a0) (c1 : w32 a1 = a1) : Stq w32 (FL_ribs a0 a1 m) (fun m1 => Mo_ribs a0 a1 m1) := by
  have b0 := cn c0
  have b1 := cn c1
  by_cases k0 : ¬ (0 ≤ a0 ∧ a0 ≤ 3)
  · have q : a0 < 0 ∨ 3 < a0 := by omega
    refine Stq.mk (x := -1) (m1 := st m 0 0 1) (y := -1) (m2 := st (st m 0 0 1) 75 1 1) ?_ ?_ rfl (h.stat 1)
    · rcases q with q | q <;> simp (disch := omega) only [bP, bE, bV, ltM, ltI, st_eq, st_ne, w32_id, w64_id, ↓reduceIte, ilt_t, ilt_f, ile_t, ile_f, ieq_t, ieq_f, not_true_eq_false, not_false_eq_true, and_true, true_and, and_self, and_false, false_and, Int.reduceMod, FL_ribs, FL_isWithin, FL_no, FL_yes, FL_none, FL_answer, Trays_isTray]
    · rcases q with q | q <;> simp (disch := omega) only [bP, bE, bV, ltM, ltI, st_eq, st_ne, w32_id, w64_id, ↓reduceIte, ilt_t, ilt_f, ile_t, ile_f, ieq_t, ieq_f, not_true_eq_false, not_false_eq_true, and_true, true_and, and_self, and_false, false_and, Int.reduceMod, Mo_ribs, Mo_is, Mo_refuse, Mo_gives, Mo_isFrom, Mo_isTray]
  replace k0 := Decidable.not_not.mp k0
  by_cases k1 : ¬ (1 ≤ a1 ∧ a1 ≤ 10)
  · have q : a1 < 1 ∨ 10 < a1 := by omega
    refine Stq.mk (x := -1) (m1 := st m 0 0 1) (y := -1) (m2 := st (st m 0 0 1) 75 1 1) ?_ ?_ rfl (h.stat 1)
    · rcases q with q | q <;> simp (disch := omega) only [bP, bE, bV, ltM, ltI, st_eq, st_ne, w32_id, w64_id, ↓reduceIte, ilt_t, ilt_f, ile_t, ile_f, ieq_t, ieq_f, not_true_eq_false, not_false_eq_true, and_true, true_and, and_self, and_false, false_and, Int.reduceMod, FL_ribs, FL_isWithin, FL_no, FL_yes, FL_none, FL_answer, Trays_isTray]
    · rcases q with q | q <;> simp (disch := omega) only [bP, bE, bV, ltM, ltI, st_eq, st_ne, w32_id, w64_id, ↓reduceIte, ilt_t, ilt_f, ile_t, ile_f, ieq_t, ieq_f, not_true_eq_false, not_false_eq_true, and_true, true_and, and_self, and_false, false_and, Int.reduceMod, Mo_ribs, Mo_is, Mo_refuse, Mo_gives, Mo_isFrom, Mo_isTray]
  replace k1 := Decidable.not_not.mp k1
  obtain ⟨t0, t1⟩ := k0
  obtain ⟨n0, n1⟩ := k1
  rcases h.2.1 a0 t0 (by omega) with ⟨q1, q2⟩ | ⟨q1, q2, q3, q4, q5, q6, q7⟩
  · refine Stq.mk (x := -1) (m1 := st m 0 0 2) (y := -1) (m2 := st (st m 0 0 2) 75 1 2) ?_ ?_ rfl (h.stat 2)
    · simp (disch := omega) only [bP, bE, bV, ltM, ltI, st_eq, st_ne, w32_id, w64_id, ↓reduceIte, ilt_t, ilt_f, ile_t, ile_f, ieq_t, ieq_f, not_true_eq_false, not_false_eq_true, and_true, true_and, and_self, and_false, false_and, Int.reduceMod, FL_ribs, FL_isWithin, FL_no, FL_yes, FL_none, FL_answer, Trays_lackOf, Trays_isTray, Trays_isMissing, Trays_sortOf, Trays_hasRun, Trays_sizeOf]
    · simp (disch := omega) only [bP, bE, bV, ltM, ltI, st_eq, st_ne, w32_id, w64_id, ↓reduceIte, ilt_t, ilt_f, ile_t, ile_f, ieq_t, ieq_f, not_true_eq_false, not_false_eq_true, and_true, true_and, and_self, and_false, false_and, Int.reduceMod, Mo_ribs, Mo_is, Mo_refuse, Mo_gives, Mo_isFrom, Mo_isTray]
  by_cases g2 : a1 ≤ m 4 a0
  · have hc : ∀ p, 0 ≤ p → p < a1 → w64 (m 2 (60 * a0 + p)) = m 2 (60 * a0 + p) := fun p p0 p1 => (q7 p p0 (by omega)).2
    have he : ∀ p, 0 ≤ p → p < a1 → m 79 (60 * a0 + p) = m 2 (60 * a0 + p) := fun p p0 p1 => (q7 p p0 (by omega)).1.symm
    have lk : w32 (Trays_lackOf a0 a1 m) = 0 := by simp (disch := omega) only [bP, bE, bV, ltM, ltI, st_eq, st_ne, w32_id, w64_id, ↓reduceIte, ilt_t, ilt_f, ile_t, ile_f, ieq_t, ieq_f, not_true_eq_false, not_false_eq_true, and_true, true_and, and_self, and_false, false_and, Int.reduceMod, Trays_lackOf, Trays_isTray, Trays_isMissing, Trays_sortOf, Trays_hasRun, Trays_sizeOf]
    obtain ⟨M, eM⟩ : ∃ M : Nat, a1 = (M : Int) := ⟨a1.toNat, by omega⟩
    have hM : M ≤ 10 := by omega
    obtain ⟨⟨z0, z1, -, -, -⟩, hs, -, -, -⟩ := shF h
    have fC : FL_ribs a0 a1 m = bE (Yard_chooseTrees_L3 a0 (M : Int) FU ((0 : Nat) : Int) m) fun x4 m6 => (if ¬ (w32 x4) = 0 then (if (w32 a1) < (w32 (m6 7 0)) then some (-1, st m6 0 0 6) else (if ¬ (w32 (m6 7 0)) = 0 then (bE (Yard_matchRibs a1 m6) fun x10 m12 => some (x10, st m12 0 0 0)) else some (-1, st m6 0 0 6))) else some (-1, st m6 0 0 5)) := by
      have e : FL_ribs a0 a1 m = bE (Yard_chooseTrees a0 a1 m) fun x4 m6 => (if ¬ (w32 x4) = 0 then (if (w32 a1) < (w32 (m6 7 0)) then some (-1, st m6 0 0 6) else (if ¬ (w32 (m6 7 0)) = 0 then (bE (Yard_matchRibs a1 m6) fun x10 m12 => some (x10, st m12 0 0 0)) else some (-1, st m6 0 0 6))) else some (-1, st m6 0 0 5)) := by
        unfold FL_ribs
        rw [iw (c64 (by rw [c1]; exact c1)) (by omega) (by omega) (by omega) (by omega), lk]
        have e1 : Trays_isTray a0 = 1 := by simp (disch := omega) only [bP, bE, bV, ltM, ltI, st_eq, st_ne, w32_id, w64_id, ↓reduceIte, ilt_t, ilt_f, ile_t, ile_f, ieq_t, ieq_f, not_true_eq_false, not_false_eq_true, and_true, true_and, and_self, and_false, false_and, Int.reduceMod, Trays_isTray]
        rw [e1, if_neg (by decide), c1, if_pos (show 1 ≤ a1 ∧ a1 ≤ 10 by omega), if_pos (by decide), if_pos rfl]
        rfl
      rw [e, eM]; rfl
    have fM : ∀ mm : Mem, mm 78 = m 78 → Mo_ribs a0 a1 mm = Mo_ribs_L58 a0 (M : Int) (fun m11 => (if (w32 (m11 76 0)) = 0 then some (-1, st m11 75 1 6) else (if (w32 (m11 76 0)) ≤ a1 then (Mo_ribs_L122 a0 (M : Int) (m11 76 0) (fun m17 => (Mo_ribs_L155 a0 (M : Int) (m11 76 0) (fun m32 => (Mo_ribs_L273 a0 (m11 76 0) FU 0 0 m32)) FU ((m11 76 0) - 1) m17)) FU 0 m11) else some (-1, st m11 75 1 6)))) FU ((0 : Nat) : Int) mm := by
      intro mm k
      have k' : mm 78 a0 = m 4 a0 := by rw [k]; exact q6
      have e1 : Mo_isTray a0 = 1 := by simp (disch := omega) only [bP, bE, bV, ltM, ltI, st_eq, st_ne, w32_id, w64_id, ↓reduceIte, ilt_t, ilt_f, ile_t, ile_f, ieq_t, ieq_f, not_true_eq_false, not_false_eq_true, and_true, true_and, and_self, and_false, false_and, Int.reduceMod, Mo_isTray]
      unfold Mo_ribs
      rw [e1, if_neg (by decide), c1, c0, if_neg (by omega), if_pos (by omega), if_pos (show 0 ≤ a0 ∧ a0 < 4 by omega), k', w32_id (x := m 4 a0) (by omega) (by omega), if_pos (by omega), if_pos (show 0 ≤ a0 ∧ a0 < 4 by omega), if_pos g2, eM]
      rfl
    obtain ⟨ma, a2, a3, a4⟩ := c_ct (m := m) (t := a0) (many := M) t0 (by omega) hM (fun p p0 p1 => hc p p0 (by omega)) FU M 0 m (by omega) (by rw [FU_eq]; omega) (fun _ _ => rfl) (fun w hw => by omega)
    by_cases g3 : ∀ w : Nat, 0 ≤ w → w < M → 0 ≤ m 2 (60 * a0 + w) ∧ m 2 (60 * a0 + w) ≤ 9999
    · obtain ⟨f1, f2⟩ := a3 g3
      have e7 : ma 7 = m 7 := a2 7 (by decide)
      have e10 : ma 10 = m 10 := a2 10 (by decide)
      have k58 : ∀ mm : Mem, mm 79 = m 79 → ∀ K : Mem → Option (Int × Mem), Mo_ribs_L58 a0 (M : Int) K FU ((0 : Nat) : Int) mm = K mm := fun mm k K => (m_rb58 (m := mm) (t := a0) (many := M) t0 (by omega) hM (fun p p0 p1 => by rw [k, he p p0 (by omega)]; exact hc p p0 (by omega)) (K := K) FU M 0 (by omega) (by rw [FU_eq]; omega)).1 (fun w w1 w2 => by rw [k, he w (by omega) (by omega)]; exact g3 w w1 w2)
      by_cases g4 : m 7 0 = 0 ∨ a1 < m 7 0
      · refine Stq.mk (x := -1) (m1 := st ma 0 0 6) (y := -1) (m2 := st (st ma 0 0 6) 75 1 6) ?_ ?_ rfl ?_
        · rw [fC, f1, bE_some, if_pos (by decide), e7, c1, w32_id (x := m 7 0) (by omega) (by omega)]
          by_cases y : a1 < m 7 0
          · rw [if_pos y]
          · rw [if_neg y, if_neg (by omega)]
        · show Mo_ribs a0 a1 (st ma 0 0 6) = _
          rw [fM _ (by rw [st_ne _ _ _ (by decide), a2 78 (by decide)]), k58 _ (by rw [st_ne _ _ _ (by decide), a2 79 (by decide)])]
          have e76 : st ma 0 0 6 76 0 = m 7 0 := by rw [st_ne _ _ _ (by decide), a2 76 (by decide), z0]
          show (if (w32 (st ma 0 0 6 76 0)) = 0 then _ else _) = _
          rw [e76, w32_id (x := m 7 0) (by omega) (by omega)]
          by_cases y : m 7 0 = 0
          · rw [if_pos y]
          · rw [if_neg y, if_neg (by omega)]
        · have ag : Ag [0, 1] m ma := by
            intro c i q
            by_cases e : c = 40
            · subst e; exact absurd (by simp [comp]) q
            · rw [a2 c e]
          refine h.ans ((ag.st (by decide)).st (by decide)) (Rst_set h.1 (k := 6) rfl rfl ?_ ?_ ?_ ?_)
          · show ma 0 1 = m 0 1; rw [a2 0 (by decide)]
          · show ma 0 2 = m 0 2; rw [a2 0 (by decide)]
          · show ma 75 2 = m 75 2; rw [a2 75 (by decide)]
          · show ma 75 3 = m 75 3; rw [a2 75 (by decide)]
      · obtain ⟨n, en⟩ : ∃ n : Nat, m 7 0 = (n : Int) := ⟨(m 7 0).toNat, by omega⟩
        have hnm : n ≤ M := by omega
        have hn8 : n ≤ 8 := by omega
        have n0' : 1 ≤ n := by omega
        obtain ⟨C, eC⟩ : ∃ C : Int → Int, C = fun s => ckS (m 10) (m 7 1) s := ⟨_, rfl⟩
        have hT : ∀ t : Nat, t < M → 0 ≤ ma 40 (t : Int) ∧ ma 40 (t : Int) ≤ 9999 := fun t ht => by rw [f2 t ht]; exact g3 t (by omega) ht
        have hC : ∀ s : Nat, s < n → 0 ≤ C (s : Int) ∧ C (s : Int) ≤ 7992 := fun s hh => by rw [eC]; exact ckS_b hs (flC h) (by omega) (by omega)
        have hg : ∀ s t, s < n → t < M → 0 ≤ gS C (ma 40) s t ∧ gS C (ma 40) s t ≤ 20000 := fun s t h1 h2 => gS_b (hC s h1).1 (hC s h1).2 (hT t h2).1 (hT t h2).2
        have p0 : pcN 10 0 = 0 := by decide
        have i0 : In2 0 M := Nat.pow_pos (by decide)
        obtain ⟨P, eP⟩ : ∃ P : Nat, P = 2 ^ M := ⟨_, rfl⟩
        have hP : P ≤ 1024 := by
          have : 2 ^ M ≤ 2 ^ 10 := Nat.pow_le_pow_right (by decide) hM
          have e : 2 ^ 10 = 1024 := by decide
          omega
        have inP : ∀ w, In2 w M ↔ w < P := fun w => by unfold In2; rw [eP]
        obtain ⟨mb, d1, d2, d3⟩ := c_mr17 (m := ma) (C := C) (many := M) (n := n) hM hnm hn8 (by rw [e7]; exact hs) (by rw [e7, e10]; exact flC h) (by rw [e7]; exact en) (by rw [e7, e10]; exact eC) hT (K := fun m6 => (Yard_matchRibs_L57 (M : Int) FU ((0 : Nat) : Int) ((0 : Nat) : Int) (st m6 39 3 (m6 7 0)))) FU P ma hP (fun w hw => (inP w).mpr hw) (by rw [FU_eq]; omega) (fun _ _ => rfl) (fun w w1 w2 => by have := (inP w).mp w2; omega)
        have x7 : mb 7 = m 7 := by rw [d2 7 (by decide), e7]
        have x10 : mb 10 = m 10 := by rw [d2 10 (by decide), e10]
        have x40 : mb 40 = ma 40 := d2 40 (by decide)
        obtain ⟨mc, l1, l2, l3⟩ := c_mr57 (m := st mb 39 3 (mb 7 0)) (C := C) (many := M) (n := n) hM hnm hn8 (by rw [st_ne _ _ _ (by decide), x7]; exact hs) (by rw [st_ne _ _ _ (by decide), st_ne _ _ _ (by decide), x7, x10]; exact flC h) (by rw [st_ne _ _ _ (by decide), x7]; exact en) (by rw [st_ne _ _ _ (by decide), st_ne _ _ _ (by decide), x7, x10]; exact eC) (by rw [st_ne _ _ _ (by decide), x40]; exact hT) (fun w hw => by rw [st_ne _ _ _ (by decide), st_ne _ _ _ (by decide), x40]; exact d3 w hw) FU n 0 0 (st mb 39 3 (mb 7 0)) (by omega) p0 i0 (by rw [FU_eq]; omega) (fun _ _ => rfl)
        rw [st_ne mb 3 _ (show 40 ≠ 39 by decide), st_ne mb 3 _ (show 42 ≠ 39 by decide), x40] at l3
        rw [st_ne mb 3 _ (show 41 ≠ 39 by decide)] at l1
        have v0 : mb 41 0 = rcS 1073741824 (gS C (ma 40)) M n 0 0 := by
          have := d3 0 i0
          rw [p0, Nat.sub_zero] at this
          exact this
        have eR : Yard_matchRibs a1 ma = some (mb 41 0, mc) := by
          unfold Yard_matchRibs
          have eS : J_min (bShl 1 a1) 1024 - 1 = (P : Int) - 1 := by
            rw [eM, shlN hM, ← eP]
            unfold J_min
            rw [w32_id (by omega) (by omega), w32_id (by omega) (by omega)]
            split <;> omega
          rw [eS, eM]
          exact d1.trans l1
        have mcc : ∀ c, c ≠ 40 → c ≠ 41 → c ≠ 42 → c ≠ 39 → mc c = m c := fun c y0 y1 y2 y3 => by rw [l2 c y2, st_ne _ _ _ y3, d2 c y1, a2 c y0]
        have m1c : ∀ c, c ≠ 40 → c ≠ 41 → c ≠ 42 → c ≠ 39 → c ≠ 0 → st mc 0 0 0 c = m c := fun c y0 y1 y2 y3 y4 => by rw [st_ne _ _ _ y4, mcc c y0 y1 y2 y3]
        have k76 : st mc 0 0 0 76 = m 76 := m1c 76 (by decide) (by decide) (by decide) (by decide) (by decide)
        have k79 : st mc 0 0 0 79 = m 79 := m1c 79 (by decide) (by decide) (by decide) (by decide) (by decide)
        have ho : Of (st mc 0 0 0) a0 n M (m 7 1) (gS C (ma 40)) := m_off (S := m 7 0) (W := m 7 1) hs (by rw [k76]; exact z0) (by rw [k76]; exact z1) (fun q hq => by rw [k76]; exact flMb h q hq) t0 (by omega) en hM (fun s hsn => by rw [eC]; exact ckS_c hs (fun q hq => by rw [k76]; exact flM h q hq) (by omega) (by omega)) (fun t ht => by rw [k79, f2 t ht, he t (by omega) (by omega)]; exact ⟨rfl, g3 t (by omega) ht⟩)
        obtain ⟨md, y0, y0', y1, y2⟩ := m_rb122 (m1 := st mc 0 0 0) (n := n) (many := M) hM hn8 (tr := a0) eP (K := fun m17 => (Mo_ribs_L155 a0 (M : Int) (n : Int) (fun m32 => (Mo_ribs_L273 a0 (n : Int) FU ((0 : Nat) : Int) ((0 : Nat) : Int) m32)) FU ((n : Int) - 1) m17)) FU P 0 (st mc 0 0 0) (by omega) (by rw [FU_eq]; omega) (Rb.refl _) (fun w hw => by omega)
        obtain ⟨me, u0, u0', u1, u2⟩ := m_rb155 (m1 := st mc 0 0 0) (n := n) (many := M) ho hM hn8 (gS_0 _ _) hg (v3 := (n : Int)) (K := fun m32 => (Mo_ribs_L273 a0 (n : Int) FU ((0 : Nat) : Int) ((0 : Nat) : Int) m32)) FU n md (by omega) (by rw [FU_eq]; omega) y0 (fun r w r1 r2 hw => by
          have er : r = n := by omega
          subst er
          rw [y2 w hw, Nat.sub_self]; rfl)
        obtain ⟨mf, w0, w0', w1, w2⟩ := m_rb273 (m1 := st mc 0 0 0) (m2 := me) ho hM hnm hn8 (gS_0 _ _) hg u2 FU n 0 0 me (by omega) p0 i0 (by rw [FU_eq]; omega) u0 rfl
        have v1 : me 96 0 = rcS 1073741824 (gS C (ma 40)) M n 0 0 := by
          have e1 := u2 0 0 (by omega) i0
          have e2 := rcS_e (x0 := 1000000) (x1 := 1073741824) hM hnm hn8 hg (by omega) (by omega) n 0 0 (by omega) p0 i0
          rw [Nat.sub_zero, e2.1] at e1
          exact e1
        have eM2 : Mo_ribs a0 a1 (st mc 0 0 0) = some (me 96 0, st (st mf 75 56 (n : Int)) 75 1 0) := by
          rw [fM _ (m1c 78 (by decide) (by decide) (by decide) (by decide) (by decide)), k58 _ k79]
          show (if (w32 (st mc 0 0 0 76 0)) = 0 then _ else _) = _
          rw [k76, z0, en, w32_id (x := (n : Int)) (by omega) (by omega), if_neg (by omega), if_pos (by omega)]
          exact y1.trans (u1.trans w1)
        refine Stq.mk (x := mb 41 0) (m1 := st mc 0 0 0) (y := me 96 0) (m2 := st (st mf 75 56 (n : Int)) 75 1 0) ?_ eM2 (by rw [v0, v1]) ?_
        · rw [fC, f1, bE_some, if_pos (by decide), e7, c1, w32_id (x := m 7 0) (by omega) (by omega), if_neg (by omega), if_pos (by omega), eR, bE_some]
        · have c39 : ∀ i, mf 39 i = if i = 3 then (n : Int) else m 39 i := by
            intro i
            rw [w0.1 39 (by decide) (by decide) (by decide), st_ne _ _ _ (by decide), l2 39 (by decide), st_eq, x7, en, d2 39 (by decide), a2 39 (by decide)]
          have c75 : ∀ i, i < 23 ∨ 25 < i → mf 75 i = m 75 i := by
            intro i hi
            rw [w0.2 i hi, m1c 75 (by decide) (by decide) (by decide) (by decide) (by decide)]
          have c0' : ∀ i, i ≠ 0 → mf 0 i = m 0 i := by
            intro i hi
            rw [w0.1 0 (by decide) (by decide) (by decide), st_eq, if_neg hi, mcc 0 (by decide) (by decide) (by decide) (by decide)]
          have c42 : mf 42 = mc 42 := by rw [w0.1 42 (by decide) (by decide) (by decide), st_ne _ _ _ (by decide)]
          have ag : Ag [0, 1, 10] m mf := by
            intro c i q
            by_cases e75 : c = 75
            · subst e75
              by_cases hi : i < 23 ∨ 25 < i
              · exact c75 i hi
              · have : i = 23 ∨ i = 24 ∨ i = 25 := by omega
                rcases this with z | z | z <;> subst z <;> exact absurd (by decide) q
            by_cases e96 : c = 96
            · subst e96; exact absurd (by simp [comp]) q
            by_cases e97 : c = 97
            · subst e97; exact absurd (by simp [comp]) q
            by_cases e39 : c = 39
            · subst e39
              rw [c39, if_neg (fun z => q (by subst z; decide))]
            by_cases e0 : c = 0
            · subst e0
              exact c0' i (fun z => q (by subst z; decide))
            by_cases e40 : c = 40
            · subst e40; exact absurd (by simp [comp]) q
            by_cases e41 : c = 41
            · subst e41; exact absurd (by simp [comp]) q
            by_cases e42 : c = 42
            · subst e42; exact absurd (by simp [comp]) q
            rw [w0.1 c e75 e96 e97, m1c c e40 e41 e42 e39 e0]
          refine h.yd ((ag.st (by decide)).st (by decide)) (Rst_set h.1 (k := 0) ?_ rfl ?_ ?_ ?_ ?_) ?_
          · show mf 0 0 = 0; rw [w0.1 0 (by decide) (by decide) (by decide), st_eq, if_pos rfl]
          · show mf 0 1 = m 0 1; exact c0' 1 (by decide)
          · show mf 0 2 = m 0 2; exact c0' 2 (by decide)
          · show mf 75 2 = m 75 2; exact c75 2 (by decide)
          · show mf 75 3 = m 75 3; exact c75 3 (by decide)
          · have r2 := h.2.2.2.2.2.2.2.2.2.2
            refine ⟨Or.inr ?_, ?_⟩
            · show 1 ≤ mf 39 3 ∧ mf 39 3 ≤ 8 ∧ (n : Int) = mf 39 3 ∧ ∀ k, 0 ≤ k → k < mf 39 3 → mf 97 k = mf 42 k
              rw [c39, if_pos rfl]
              refine ⟨by omega, by omega, rfl, fun k k0 k1 => ?_⟩
              rw [w2, c42, l3]
              exact chS_e n 0 0 _ _ (fun i i0 i1 => by omega) k k0 (by omega)
            · show (mf 39 4 = 0 ∧ mf 75 47 = -1) ∨ (1 ≤ mf 39 4 ∧ mf 75 49 = mf 39 4 ∧ mf 75 48 = mf 39 5 ∧ 2 ≤ mf 75 50 ∧ mf 75 50 ≤ 5 ∧ 0 ≤ mf 75 47 ∧ mf 75 47 < bShl 1 (mf 75 50 - 1) ∧ mf 39 6 = mf 75 47 + bShl 1 (mf 75 50 - 1) ∧ mf 39 4 = J_bitCount (mf 39 6))
              rw [c39, c39, c39, if_neg (by decide), if_neg (by decide), if_neg (by decide), c75 47 (by decide), c75 48 (by decide), c75 49 (by decide), c75 50 (by decide)]
              exact r2
    · refine Stq.mk (x := -1) (m1 := st ma 0 0 5) (y := -1) (m2 := st (st ma 0 0 5) 75 1 5) ?_ ?_ rfl ?_
      · rw [fC, a4 g3, bE_some, if_neg (by decide)]
      · show Mo_ribs a0 a1 (st ma 0 0 5) = _
        have k79 : st ma 0 0 5 79 = m 79 := by rw [st_ne _ _ _ (by decide), a2 79 (by decide)]
        rw [fM _ (by rw [st_ne _ _ _ (by decide), a2 78 (by decide)])]
        exact (m_rb58 (m := st ma 0 0 5) (t := a0) (many := M) t0 (by omega) hM (fun p p0 p1 => by rw [k79, he p p0 (by omega)]; exact hc p p0 (by omega)) FU M 0 (by omega) (by rw [FU_eq]; omega)).2 (fun z => g3 (fun w w1 w2 => by
          have := z w w1 w2
          rw [k79, he w (by omega) (by omega)] at this
          exact this))
      · have ag : Ag [0, 1] m ma := by
          intro c i q
          by_cases e : c = 40
          · subst e; exact absurd (by simp [comp]) q
          · rw [a2 c e]
        refine h.ans ((ag.st (by decide)).st (by decide)) (Rst_set h.1 (k := 5) rfl rfl ?_ ?_ ?_ ?_)
        · show ma 0 1 = m 0 1; rw [a2 0 (by decide)]
        · show ma 0 2 = m 0 2; rw [a2 0 (by decide)]
        · show ma 75 2 = m 75 2; rw [a2 75 (by decide)]
        · show ma 75 3 = m 75 3; rw [a2 75 (by decide)]
  · refine Stq.mk (x := -1) (m1 := st m 0 0 3) (y := -1) (m2 := st (st m 0 0 3) 75 1 3) ?_ ?_ rfl (h.stat 3)
    · simp (disch := omega) only [bP, bE, bV, ltM, ltI, st_eq, st_ne, w32_id, w64_id, ↓reduceIte, ilt_t, ilt_f, ile_t, ile_f, ieq_t, ieq_f, not_true_eq_false, not_false_eq_true, and_true, true_and, and_self, and_false, false_and, Int.reduceMod, FL_ribs, FL_isWithin, FL_no, FL_yes, FL_none, FL_answer, Trays_lackOf, Trays_isTray, Trays_isMissing, Trays_sortOf, Trays_hasRun, Trays_sizeOf]
    · simp (disch := omega) only [bP, bE, bV, ltM, ltI, st_eq, st_ne, w32_id, w64_id, ↓reduceIte, ilt_t, ilt_f, ile_t, ile_f, ieq_t, ieq_f, not_true_eq_false, not_false_eq_true, and_true, true_and, and_self, and_false, false_and, Int.reduceMod, Mo_ribs, Mo_is, Mo_refuse, Mo_gives, Mo_isFrom, Mo_isTray]
