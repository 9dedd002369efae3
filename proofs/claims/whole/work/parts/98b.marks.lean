theorem cm46 {c : Nat} {i : Int} (h1 : 46 ≤ c) (h2 : c ≤ 74) : comp c i = 6 := by
  unfold comp
  rw [if_neg (by omega), if_neg (by omega), if_neg (by omega), if_neg (by omega), if_neg (by omega), if_neg (by omega), if_neg (by omega), if_neg (by omega), if_neg (by omega), if_neg (by omega), if_neg (by omega), if_neg (by omega), if_neg (by omega), if_neg (by omega), if_pos (by omega)]
theorem cm76 {i : Int} (h1 : 580 ≤ i) (h2 : i < 2320) : comp 76 i = 6 := by
  show (if i = 14 then 5 else if 0 ≤ i ∧ i < 208 then 4 else if 208 ≤ i ∧ i < 580 then 5 else if 580 ≤ i ∧ i < 2320 then 6 else 0) = 6
  rw [if_neg (by omega), if_neg (by omega), if_neg (by omega), if_pos (by omega)]
theorem s_mark {m : Mem} (h : Rel m) : Stq w32 (FL_mark m) (fun m1 => Mo_mark m1) := by
  obtain ⟨r1, r2, r3, r4⟩ := h.2.2.2.2.2.1
  by_cases g : m 0 16 = 3
  · refine Stq.mk (x := -1) (m1 := st m 0 0 4) (y := -1) (m2 := st (st m 0 0 4) 75 1 4) ?_ ?_ rfl (h.stat 4)
    · simp (disch := omega) only [bP, bE, bV, ltM, ltI, st_eq, st_ne, w32_id, w64_id, ↓reduceIte, ilt_t, ilt_f, ile_t, ile_f, ieq_t, ieq_f, not_true_eq_false, not_false_eq_true, and_true, true_and, and_self, and_false, false_and, Int.reduceMod, FL_mark, FL_isWithin, FL_no, FL_yes, FL_none, FL_answer]
    · simp (disch := omega) only [bP, bE, bV, ltM, ltI, st_eq, st_ne, w32_id, w64_id, ↓reduceIte, ilt_t, ilt_f, ile_t, ile_f, ieq_t, ieq_f, not_true_eq_false, not_false_eq_true, and_true, true_and, and_self, and_false, false_and, Int.reduceMod, Mo_mark, Mo_is, Mo_refuse, Mo_gives, Mo_isFrom]
  · have hN : (m 0 16).toNat ≤ 2 := by omega
    obtain ⟨m9, s1, s2, s3, s4, s5, s6, s7⟩ := copyS (c := 47 + 4 * (m 0 16).toNat) (c2 := 7) (by omega) m
    obtain ⟨w1, w2, w3⟩ := copyW (c := 60 + 5 * (m 0 16).toNat) (c2 := 11) (by omega) m9
    generalize hMW : Way_copyFrom (60 + 5 * (m 0 16).toNat) 11 m9 = mw at w1 w2 w3
    have f9 : ∀ x, x < 47 ∨ 59 ≤ x → m9 x = m x := fun x hx => s6 x (by omega) (by omega) (by omega) (by omega)
    have fw : ∀ x, x < 60 ∨ 75 ≤ x → mw x = m9 x := fun x hx => w3 x (by omega) (by omega) (by omega) (by omega) (by omega)
    have f0 : mw 0 = m 0 := by rw [fw 0 (by omega), f9 0 (by omega)]
    obtain ⟨m3, d1, d2, d3⟩ := m_copies (v1 := 0) (v2 := 580 * (m 0 16 + 1)) (by omega) (by omega) (by omega) (by omega) (by omega) (st (st (st mw 0 16 (m 0 16 + 1)) 0 0 0) 75 57 (m 0 16 + 1))
    have k75 : mw 75 57 = m 0 16 := by rw [fw 75 (by omega), f9 75 (by omega)]; exact r1
    have e16 : mw 0 16 = m 0 16 := by rw [f0]
    refine Stq.mk (x := m 0 16 + 1) (m1 := st (st mw 0 16 (m 0 16 + 1)) 0 0 0) (y := m 0 16 + 1) (m2 := st m3 75 1 0) ?_ ?_ rfl ?_
    · simp (disch := omega) only [bP, bE, bV, ltM, ltI, st_eq, st_ne, w32_id, w64_id, ↓reduceIte, ilt_t, ilt_f, ile_t, ile_f, ieq_t, ieq_f, not_true_eq_false, not_false_eq_true, and_true, true_and, and_self, and_false, false_and, Int.reduceMod, FL_mark, FL_isWithin, FL_no, FL_yes, FL_none, FL_answer, s1, hMW, e16]
    · have k1 : st (st mw 0 16 (m 0 16 + 1)) 0 0 0 75 57 = m 0 16 := by rw [st_ne _ _ _ (by decide), st_ne _ _ _ (by decide)]; exact k75
      have k2 : m3 75 57 = m 0 16 + 1 := by rw [d2 75 (by decide), st_eq, if_pos rfl]
      have k3 : st (st (st mw 0 16 (m 0 16 + 1)) 0 0 0) 75 57 (m 0 16 + 1) 75 57 = m 0 16 + 1 := by rw [st_eq, if_pos rfl]
      unfold Mo_mark
      rw [k1, w32_id (by omega) (by omega), if_pos g, k3, d1, bV_some]
      unfold Mo_gives
      rw [k2]
    · have c76 : ∀ i, i < 580 * (m 0 16 + 1) ∨ 580 * (m 0 16 + 1) + 580 ≤ i → m3 76 i = m 76 i := by
        intro i hi
        rw [d3, if_neg (by omega), st_ne _ _ _ (by decide), st_ne _ _ _ (by decide), st_ne _ _ _ (by decide), fw 76 (by omega), f9 76 (by omega)]
      have c76' : ∀ i, 0 ≤ i → i < 580 → m3 76 (580 * (m 0 16 + 1) + i) = m 76 (0 + i) := by
        intro i i0 i1
        rw [d3, if_pos (by omega), st_ne _ _ _ (by decide), st_ne _ _ _ (by decide), st_ne _ _ _ (by decide), fw 76 (by omega), f9 76 (by omega)]
        congr 1; omega
      have cx : ∀ x, x ≠ 0 → x ≠ 75 → x ≠ 76 → m3 x = mw x := by
        intro x x0 x1 x2
        rw [d2 x x2, st_ne _ _ _ x1, st_ne _ _ _ x0, st_ne _ _ _ x0]
      have z0 : ∀ i, i ≠ 0 → i ≠ 16 → m3 0 i = m 0 i := by
        intro i i0 i1
        rw [d2 0 (by decide), st_ne _ _ _ (by decide), st_eq, if_neg i0, st_eq, if_neg i1, f0]
      have z75 : ∀ i, i ≠ 57 → m3 75 i = m 75 i := by
        intro i i1
        rw [d2 75 (by decide), st_eq, if_neg i1, st_ne _ _ _ (by decide), st_ne _ _ _ (by decide), fw 75 (by omega), f9 75 (by omega)]
      refine h.mk ?_ ?_ ?_
      · refine Ag.st ?_ (by decide)
        intro c i q
        by_cases c0 : c = 0
        · subst c0
          exact z0 i (fun z => q (by subst z; decide)) (fun z => q (by subst z; decide))
        by_cases c75 : c = 75
        · subst c75
          exact z75 i (fun z => q (by subst z; decide))
        by_cases c6 : c = 76
        · subst c6
          exact c76 i (by
            rcases (by omega : i < 580 * (m 0 16 + 1) ∨ 580 * (m 0 16 + 1) + 580 ≤ i ∨ (580 ≤ i ∧ i < 2320)) with z | z | z
            · exact Or.inl z
            · exact Or.inr z
            · exact absurd (by rw [cm76 z.1 z.2]; decide) q)
        by_cases cm : 46 ≤ c ∧ c ≤ 74
        · exact absurd (by rw [cm46 cm.1 cm.2]; decide) q
        · rw [cx c c0 c75 c6, fw c (by omega), f9 c (by omega)]
      · refine Rst_set h.1 (k := 0) ?_ (by rw [st_eq, if_pos rfl]) ?_ ?_ ?_ ?_
        · rw [st_ne _ _ _ (by decide), d2 0 (by decide), st_ne _ _ _ (by decide), st_eq, if_pos rfl]
        · rw [st_ne _ _ _ (by decide), z0 1 (by decide) (by decide)]
        · rw [st_ne _ _ _ (by decide), z0 2 (by decide) (by decide)]
        · rw [st_eq, if_neg (by decide), z75 2 (by decide)]
        · rw [st_eq, if_neg (by decide), z75 3 (by decide)]
      · have k16 : st m3 75 1 0 0 16 = m 0 16 + 1 := by rw [st_ne _ _ _ (by decide), d2 0 (by decide), st_ne _ _ _ (by decide), st_eq, if_neg (by decide), st_eq, if_pos rfl]
        have k57 : st m3 75 1 0 75 57 = m 0 16 + 1 := by rw [st_eq, if_neg (by decide), d2 75 (by decide), st_eq, if_pos rfl]
        have cx' : ∀ x, x ≠ 0 → x ≠ 75 → x ≠ 76 → st m3 75 1 0 x = mw x := fun x x0 x1 x2 => by rw [st_ne _ _ _ x1, cx x x0 x1 x2]
        have e76 : st m3 75 1 0 76 = m3 76 := st_ne _ _ _ (by decide)
        unfold Rmk
        rw [k16, k57]
        refine ⟨rfl, by omega, by omega, fun j j0 j1 => ?_⟩
        by_cases hj : j = m 0 16
        · subst hj
          refine ⟨ShR_move h.2.2.2.1 (fun i hi => ?_) (fun k k0 k1 => ?_) (fun k k0 k1 => ?_) (fun k k0 k1 => ?_) (fun i i0 i1 i2 => ?_), WyR_move h.2.2.2.2.1 ?_ (fun k k0 k1 => ?_) (fun i i0 i1 i2 => ?_)⟩
          · rw [cx' _ (by omega) (by omega) (by omega), fw _ (by omega)]; exact s2 i hi
          · rw [cx' _ (by omega) (by omega) (by omega), fw _ (by omega)]; exact s3 k k0 k1
          · rw [cx' _ (by omega) (by omega) (by omega), fw _ (by omega)]; exact s4 k k0 k1
          · rw [cx' _ (by omega) (by omega) (by omega), fw _ (by omega)]; exact s5 k k0 k1
          · rw [e76]; exact c76' i i0 (by omega)
          · rw [cx' _ (by omega) (by omega) (by omega), w1 0 (by omega), f9 11 (by omega)]
          · rw [cx' _ (by omega) (by omega) (by omega), cx' _ (by omega) (by omega) (by omega), cx' _ (by omega) (by omega) (by omega), cx' _ (by omega) (by omega) (by omega)]
            have := w2 k k0 k1
            rw [f9 (11 + 1) (by omega), f9 (11 + 2) (by omega), f9 (11 + 3) (by omega), f9 (11 + 4) (by omega)] at this
            exact this
          · rw [e76]; exact c76' i i0 i1
        · obtain ⟨q1, q2⟩ := r4 j j0 (by omega)
          have hjN : j.toNat < (m 0 16).toNat := by omega
          have cS : ∀ x, 47 ≤ x → x < 47 + 4 * (m 0 16).toNat → st m3 75 1 0 x = m x := fun x x0 x1 => by
            rw [cx' x (by omega) (by omega) (by omega), fw x (by omega), s6 x (by omega) (by omega) (by omega) (by omega)]
          have cW : ∀ x, 60 ≤ x → x < 60 + 5 * (m 0 16).toNat → st m3 75 1 0 x = m x := fun x x0 x1 => by
            rw [cx' x (by omega) (by omega) (by omega), w3 x (by omega) (by omega) (by omega) (by omega) (by omega), f9 x (by omega)]
          refine ⟨ShR_of q1 (fun i _ => ?_) (cS _ (by omega) (by omega)) (cS _ (by omega) (by omega)) (cS _ (by omega) (by omega)) (fun i i0 i1 i2 => ?_), WyR_of q2 ?_ (cW _ (by omega) (by omega)) (cW _ (by omega) (by omega)) (cW _ (by omega) (by omega)) (cW _ (by omega) (by omega)) (fun i i0 i1 i2 => ?_)⟩
          · rw [cS _ (by omega) (by omega)]
          · rw [e76]; exact c76 i (by omega)
          · rw [cW _ (by omega) (by omega)]
          · rw [e76]; exact c76 i (by omega)
