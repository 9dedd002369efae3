/-! layer 2: the call slip -/
theorem s_slip {m : Mem} (h : Rel m) {a0 a1 : Int} (c0 : w32 a0 = a0) (c1 : w32 a1 = a1) : Stq w32 (FL_slip a0 a1 m) (fun m1 => Mo_slip a0 a1 m1) := by
  have b0 := cn c0
  have b1 := cn c1
  by_cases k0 : ¬ (0 ≤ a0 ∧ a0 ≤ 2147483647)
  · have q : a0 < 0 ∨ 2147483647 < a0 := by omega
    refine Stq.mk (x := -1) (m1 := st m 0 0 1) (y := -1) (m2 := st (st m 0 0 1) 75 1 1) ?_ ?_ rfl (h.stat 1)
    · rcases q with q | q <;> simp (disch := omega) only [bP, bE, bV, ltM, ltI, st_eq, st_ne, w32_id, w64_id, ↓reduceIte, ilt_t, ilt_f, ile_t, ile_f, ieq_t, ieq_f, not_true_eq_false, not_false_eq_true, and_true, true_and, and_self, and_false, false_and, Int.reduceMod, FL_slip, FL_isWithin, FL_no, FL_yes, FL_none, FL_answer]
    · rcases q with q | q <;> simp (disch := omega) only [bP, bE, bV, ltM, ltI, st_eq, st_ne, w32_id, w64_id, ↓reduceIte, ilt_t, ilt_f, ile_t, ile_f, ieq_t, ieq_f, not_true_eq_false, not_false_eq_true, and_true, true_and, and_self, and_false, false_and, Int.reduceMod, Mo_slip, Mo_is, Mo_refuse, Mo_gives, Mo_isFrom]
  replace k0 := Decidable.not_not.mp k0
  by_cases k1 : ¬ (0 ≤ a1 ∧ a1 ≤ 1)
  · have q : a1 < 0 ∨ 1 < a1 := by omega
    refine Stq.mk (x := -1) (m1 := st m 0 0 1) (y := -1) (m2 := st (st m 0 0 1) 75 1 1) ?_ ?_ rfl (h.stat 1)
    · rcases q with q | q <;> simp (disch := omega) only [bP, bE, bV, ltM, ltI, st_eq, st_ne, w32_id, w64_id, ↓reduceIte, ilt_t, ilt_f, ile_t, ile_f, ieq_t, ieq_f, not_true_eq_false, not_false_eq_true, and_true, true_and, and_self, and_false, false_and, Int.reduceMod, FL_slip, FL_isWithin, FL_no, FL_yes, FL_none, FL_answer]
    · rcases q with q | q <;> simp (disch := omega) only [bP, bE, bV, ltM, ltI, st_eq, st_ne, w32_id, w64_id, ↓reduceIte, ilt_t, ilt_f, ile_t, ile_f, ieq_t, ieq_f, not_true_eq_false, not_false_eq_true, and_true, true_and, and_self, and_false, false_and, Int.reduceMod, Mo_slip, Mo_is, Mo_refuse, Mo_gives, Mo_isFrom]
  replace k1 := Decidable.not_not.mp k1
  obtain ⟨t0, t1⟩ := k0
  obtain ⟨n0, n1⟩ := k1
  obtain ⟨⟨z0, z1, -, -, z4, -⟩, hs, hv, -, -⟩ := shF h
  have ey := eyC h
  obtain ⟨ma, a1', -, a3⟩ := c_cs5 (m := m) (kp := fun q => decide (Sheet_isKept 7 q m = 1)) (k := a0) hs (flC h) ey.1 ey.2 (fun q _ => kp_is) (by omega) (by omega) FU 0 0 m (Cs.refl m) (by omega) (by omega) (by omega) (by omega) (Or.inr (by omega)) (by rw [FU_eq]; omega)
  obtain ⟨R, hR⟩ : ∃ R, fdS (cpS (m 10) (m 7 4) (m 7 0) (m 7 1) (fun q => decide (Sheet_isKept 7 q m = 1))) a0 (64 - 0 : Int).toNat 0 0 = R := ⟨_, rfl⟩
  have fr := fdS_r (c := cpS (m 10) (m 7 4) (m 7 0) (m 7 1) (fun q => decide (Sheet_isKept 7 q m = 1))) (k := a0) (B := 1000) (by omega) (64 - 0 : Int).toNat 0 0 (fun x _ _ => cpS_b _ _ _ _ _ _) (by omega) (by omega) (by omega)
  rw [hR] at fr
  have a3' := a3 (by omega) R hR
  have ref : ∀ x : Int, ∃ mb, Ms (st ma 0 0 x) mb ∧ (R.1 = -1 → Mo_slipsTo a0 (st ma 0 0 x) = some (R.2, mb)) ∧ (R.1 ≠ -1 → Mo_slipsTo a0 (st ma 0 0 x) = some (a0 + 1, mb) ∧ mb 75 45 = R.1 ∧ mb 75 46 = ktS (gI (m 10) (m 7 4) (m 7 0) (m 7 1) R.1) 1000 0 (a0 - R.2)) := by
    intro x
    have k76 : st ma 0 0 x 76 = m 76 := by rw [st_ne _ _ _ (by decide), a1'.1 76 (by decide) (by decide)]
    obtain ⟨mb, b1, -, b3⟩ := m_sl4 (m := st ma 0 0 x) (S := m 7 0) (W := m 7 1) (kp := fun q => decide (Sheet_isKept 7 q m = 1)) (k := a0) hs (by rw [k76]; exact z0) (by rw [k76]; exact z1) (by rw [k76]; exact flMb h) (by rw [k76]; omega) (by rw [k76]; exact hkM h) (by omega) (by omega) FU 0 0 (st ma 0 0 x) ⟨fun _ _ => rfl, fun _ _ _ _ => rfl⟩ (by omega) (by omega) (by omega) (by omega) (Or.inr (by omega)) (by rw [FU_eq]; omega)
    have ec : cpS (fun q => st ma 0 0 x 76 (80 + q)) (st ma 0 0 x 76 4) (m 7 0) (m 7 1) (fun q => decide (Sheet_isKept 7 q m = 1)) = cpS (m 10) (m 7 4) (m 7 0) (m 7 1) (fun q => decide (Sheet_isKept 7 q m = 1)) := by
      rw [k76, z4]; exact cpS_c hs (flM h)
    have hR2 : fdS (cpS (fun q => st ma 0 0 x 76 (80 + q)) (st ma 0 0 x 76 4) (m 7 0) (m 7 1) (fun q => decide (Sheet_isKept 7 q m = 1))) a0 (8 * m 7 0 - 0).toNat 0 0 = R := by
      rw [ec, ← hR]
      obtain ⟨A, eA⟩ : ∃ A : Nat, 8 * m 7 0 = (A : Int) := ⟨(8 * m 7 0).toNat, by omega⟩
      have e1 : (8 * m 7 0 - 0).toNat = A := by omega
      have e2 : (64 - 0 : Int).toNat = A + (64 - A) := by omega
      rw [e1, e2]
      exact (fdS_x A (64 - A) 0 0 (fun y y0 y1 => by
        unfold cpS
        rw [ptB_f.mpr (fun z => by unfold Pt at z; omega)]; rfl) (by omega)).symm
    have b3' := b3 (by omega) R hR2
    refine ⟨mb, b1, b3'.1, fun y => ?_⟩
    obtain ⟨y1, y2, y3⟩ := b3'.2 y
    refine ⟨y1, y2, ?_⟩
    rw [y3, k76, z4]
    have hq : Pt (m 7 0) (m 7 1) R.1 := by
      rcases fr with w | w
      · exact absurd w.1 y
      · have hpos : 0 < cpS (m 10) (m 7 4) (m 7 0) (m 7 1) (fun q => decide (Sheet_isKept 7 q m = 1)) R.1 := by omega
        by_cases z : Pt (m 7 0) (m 7 1) R.1
        · exact z
        · unfold cpS at hpos
          rw [ptB_f.mpr z] at hpos
          simp at hpos
    exact ktS_c 1000 0 _ (fun x _ _ => gI_c hs (flM h) hq)
  have fC : FL_slip a0 a1 m = bE (Mender_countSlips_L5 a0 FU 0 0 m) fun x3 m5 => (if a0 < (w32 x3) then some ((if ¬ a1 = 0 then (m5 32 10) else (m5 32 9) : Int), st m5 0 0 0) else some (-1, st m5 0 0 6)) := by
    unfold FL_slip Mender_countSlips
    rw [iw (c64 (by rw [c1]; exact c1)) (by omega) (by omega) (by omega) (by omega), c0, c1, if_neg (by omega), if_pos (show 0 ≤ a1 ∧ a1 ≤ 1 by omega), if_pos (by decide)]
    rfl
  have fM : ∀ mm : Mem, Mo_slip a0 a1 mm = bE (Mo_slipsTo a0 mm) fun x4 m6 => (if a0 < (w32 x4) then some ((if ¬ a1 = 0 then (m6 75 46) else (m6 75 45) : Int), st m6 75 1 0) else some (-1, st m6 75 1 6)) := by
    intro mm
    unfold Mo_slip
    rw [c0, c1, if_neg (by omega), if_neg (by omega), if_pos (by omega)]
    rfl
  by_cases g : R.1 = -1
  · obtain ⟨mb, r1, r2, -⟩ := ref 6
    refine Stq.mk (x := -1) (m1 := st ma 0 0 6) (y := -1) (m2 := st mb 75 1 6) ?_ ?_ rfl (Rel_sl h a1' r1)
    · rw [fC, a3'.1 g, bE_some, w32_id (x := R.2) (by omega) (by omega), if_neg (by omega)]
    · show Mo_slip a0 a1 _ = _
      rw [fM, r2 g, bE_some, w32_id (x := R.2) (by omega) (by omega), if_neg (by omega)]
  · obtain ⟨mb, r1, -, r3⟩ := ref 0
    obtain ⟨r3, r4, r5⟩ := r3 g
    obtain ⟨d3, d4, d5⟩ := a3'.2 g
    have cb := cpS_b (m 10) (m 7 4) (m 7 0) (m 7 1) (fun q => decide (Sheet_isKept 7 q m = 1)) R.1
    have a0b : a0 ≤ 100000 := by omega
    refine Stq.mk (x := if ¬ a1 = 0 then (ma 32 10) else (ma 32 9)) (m1 := st ma 0 0 0) (y := if ¬ a1 = 0 then (mb 75 46) else (mb 75 45)) (m2 := st mb 75 1 0) ?_ ?_ ?_ (Rel_sl h a1' r1)
    · rw [fC, d3, bE_some, w32_id (x := R.2 + cpS (m 10) (m 7 4) (m 7 0) (m 7 1) (fun q => decide (Sheet_isKept 7 q m = 1)) R.1) (by omega) (by omega), if_pos (by omega)]
    · show Mo_slip a0 a1 _ = _
      rw [fM, r3, bE_some, w32_id (x := a0 + 1) (by omega) (by omega), if_pos (by omega)]
    · rw [d4, d5, r4, r5]
