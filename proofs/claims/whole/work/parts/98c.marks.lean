theorem s_back {m : Mem} (h : Rel m) : Stq w32 (FL_back m) (fun m1 => Mo_back m1) := by
  obtain ⟨r1, r2, r3, r4⟩ := h.2.2.2.2.2.1
  by_cases g : m 0 16 = 0
  · refine Stq.mk (x := -1) (m1 := st m 0 0 6) (y := -1) (m2 := st (st m 0 0 6) 75 1 6) ?_ ?_ rfl (h.stat 6)
    · simp (disch := omega) only [bP, bE, bV, ltM, ltI, st_eq, st_ne, w32_id, w64_id, ↓reduceIte, ilt_t, ilt_f, ile_t, ile_f, ieq_t, ieq_f, not_true_eq_false, not_false_eq_true, and_true, true_and, and_self, and_false, false_and, Int.reduceMod, FL_back, FL_isWithin, FL_no, FL_yes, FL_none, FL_answer]
    · simp (disch := omega) only [bP, bE, bV, ltM, ltI, st_eq, st_ne, w32_id, w64_id, ↓reduceIte, ilt_t, ilt_f, ile_t, ile_f, ieq_t, ieq_f, not_true_eq_false, not_false_eq_true, and_true, true_and, and_self, and_false, false_and, Int.reduceMod, Mo_back, Mo_is, Mo_refuse, Mo_gives, Mo_isFrom]
  · have hN : (m 0 16 - 1).toNat ≤ 2 := by omega
    obtain ⟨qS, qW⟩ := r4 (m 0 16 - 1) (by omega) (by omega)
    rw [show m 0 16 - 1 + 1 = m 0 16 by omega] at qS qW
    obtain ⟨m9, s1, s2, s3, s4, s5, s6, s7⟩ := copyS (c := 7) (c2 := 47 + 4 * (m 0 16 - 1).toNat) (by omega) (st m 0 16 (m 0 16 - 1))
    obtain ⟨w1, w2, w3⟩ := copyW (c := 11) (c2 := 60 + 5 * (m 0 16 - 1).toNat) (by omega) m9
    generalize hMW : Way_copyFrom 11 (60 + 5 * (m 0 16 - 1).toNat) m9 = mw at w1 w2 w3
    have f9 : ∀ x, x ≠ 0 → x < 7 ∨ 11 ≤ x → m9 x = m x := fun x x0 hx => by rw [s6 x (by omega) (by omega) (by omega) (by omega), st_ne _ _ _ x0]
    have fw : ∀ x, x < 11 ∨ 16 ≤ x → mw x = m9 x := fun x hx => w3 x (by omega) (by omega) (by omega) (by omega) (by omega)
    have f0 : mw 0 = st m 0 16 (m 0 16 - 1) 0 := by rw [fw 0 (by omega), s6 0 (by omega) (by omega) (by omega) (by omega)]
    have fx : ∀ x, x ≠ 0 → x < 7 ∨ 16 ≤ x → mw x = m x := fun x x0 hx => by rw [fw x (by omega), f9 x x0 (by omega)]
    obtain ⟨m3, d1, d2, d3⟩ := m_copies (v1 := 580 * m 0 16) (v2 := 0) (by omega) (by omega) (by omega) (by omega) (by omega) (st mw 0 0 0)
    have e16 : mw 0 16 = m 0 16 - 1 := by rw [f0, st_eq, if_pos rfl]
    have k75 : st mw 0 0 0 75 57 = m 0 16 := by rw [st_ne _ _ _ (by decide), fx 75 (by decide) (by omega)]; exact r1
    have k3 : m3 75 57 = m 0 16 := by rw [d2 75 (by decide)]; exact k75
    have i16 : st m 0 16 (m 0 16 - 1) 0 16 = m 0 16 - 1 := by rw [st_eq, if_pos rfl]
    refine Stq.mk (x := m 0 16 - 1) (m1 := st mw 0 0 0) (y := m 0 16 - 1) (m2 := st (st m3 75 57 (m 0 16 - 1)) 75 1 0) ?_ ?_ rfl ?_
    · unfold FL_back
      rw [i16]
      simp (disch := omega) only [bP, bE, bV, ltM, ltI, st_eq, st_ne, w32_id, w64_id, ↓reduceIte, ilt_t, ilt_f, ile_t, ile_f, ieq_t, ieq_f, not_true_eq_false, not_false_eq_true, and_true, true_and, and_self, and_false, false_and, Int.reduceMod, s1, hMW, e16, FL_none, FL_answer]
    · unfold Mo_back
      rw [k75, w32_id (by omega) (by omega), if_pos g, d1, bV_some, k3]
      unfold Mo_gives
      have k4 : st m3 75 57 (m 0 16 - 1) 75 57 = m 0 16 - 1 := by rw [st_eq, if_pos rfl]
      rw [k4]
    · have c76 : ∀ i, i < 0 ∨ 580 ≤ i → m3 76 i = m 76 i := by
        intro i hi
        rw [d3, if_neg (by omega), st_ne _ _ _ (by decide), fx 76 (by decide) (by omega)]
      have c76' : ∀ i, 0 ≤ i → i < 580 → m3 76 (0 + i) = m 76 (580 * m 0 16 + i) := by
        intro i i0 i1
        rw [d3, if_pos (by omega), st_ne _ _ _ (by decide), fx 76 (by decide) (by omega)]
        congr 1; omega
      have cx : ∀ x, x ≠ 0 → x ≠ 75 → x ≠ 76 → st (st m3 75 57 (m 0 16 - 1)) 75 1 0 x = mw x := by
        intro x x0 x1 x2
        rw [st_ne _ _ _ x1, st_ne _ _ _ x1, d2 x x2, st_ne _ _ _ x0]
      have z0 : ∀ i, i ≠ 0 → i ≠ 16 → st (st m3 75 57 (m 0 16 - 1)) 75 1 0 0 i = m 0 i := by
        intro i i0 i1
        rw [st_ne _ _ _ (by decide), st_ne _ _ _ (by decide), d2 0 (by decide), st_eq, if_neg i0, f0, st_eq, if_neg i1]
      have z75 : ∀ i, i ≠ 57 → i ≠ 1 → st (st m3 75 57 (m 0 16 - 1)) 75 1 0 75 i = m 75 i := by
        intro i i1 i2
        rw [st_eq, if_neg i2, st_eq, if_neg i1, d2 75 (by decide), st_ne _ _ _ (by decide), fx 75 (by decide) (by omega)]
      have e76 : st (st m3 75 57 (m 0 16 - 1)) 75 1 0 76 = m3 76 := by rw [st_ne _ _ _ (by decide), st_ne _ _ _ (by decide)]
      have k16 : st (st m3 75 57 (m 0 16 - 1)) 75 1 0 0 16 = m 0 16 - 1 := by rw [st_ne _ _ _ (by decide), st_ne _ _ _ (by decide), d2 0 (by decide), st_eq, if_neg (by decide)]; exact e16
      have k57 : st (st m3 75 57 (m 0 16 - 1)) 75 1 0 75 57 = m 0 16 - 1 := by rw [st_eq, if_neg (by decide), st_eq, if_pos rfl]
      refine h.upd [0, 1, 4, 5, 6] ?_ (fun _ => ?_) (by simp) (by simp) (fun _ => ?_) (fun _ => ?_) (fun _ => ?_) (by simp) (by simp) (by simp) (by simp)
      · intro c i q
        by_cases c0 : c = 0
        · subst c0
          exact z0 i (fun z => q (by subst z; decide)) (fun z => q (by subst z; decide))
        by_cases c75 : c = 75
        · subst c75
          exact z75 i (fun z => q (by subst z; decide)) (fun z => q (by subst z; decide))
        by_cases c6 : c = 76
        · subst c6
          rw [e76]
          refine c76 i ?_
          rcases (by omega : i < 0 ∨ 580 ≤ i ∨ (0 ≤ i ∧ i < 580)) with z | z | z
          · exact Or.inl z
          · exact Or.inr z
          · refine absurd ?_ q
            show (if i = 14 then 5 else if 0 ≤ i ∧ i < 208 then 4 else if 208 ≤ i ∧ i < 580 then 5 else _) ∈ [0, 1, 4, 5, 6]
            by_cases z14 : i = 14
            · rw [if_pos z14]; decide
            · rw [if_neg z14]
              by_cases z2 : i < 208
              · rw [if_pos (by omega)]; decide
              · rw [if_neg (by omega), if_pos (by omega)]; decide
        · rw [cx c c0 c75 c6]
          by_cases c7 : c < 7 ∨ 16 ≤ c
          · rw [fx c c0 c7]
          · rcases (by omega : c = 7 ∨ c = 8 ∨ c = 9 ∨ c = 10 ∨ c = 11 ∨ c = 12 ∨ c = 13 ∨ c = 14 ∨ c = 15) with z | z | z | z | z | z | z | z | z
            · subst z
              rw [fw 7 (by omega), s7 i (fun y => q (by show (if (0 ≤ i ∧ i ≤ 6) ∨ i = 10 then 4 else 0) ∈ _; rw [if_pos y]; decide)), st_ne _ _ _ (by decide)]
            · subst z; exact absurd (by simp [comp]) q
            · subst z; exact absurd (by simp [comp]) q
            · subst z; exact absurd (by simp [comp]) q
            · subst z
              by_cases y : i = 0
              · subst y; exact absurd (by decide) q
              · exact absurd (show comp 11 i ∈ [0, 1, 4, 5, 6] by show (if i = 0 then 5 else 0) ∈ _; rw [if_neg y]; decide) q
            · subst z; exact absurd (by simp [comp]) q
            · subst z; exact absurd (by simp [comp]) q
            · subst z; exact absurd (by simp [comp]) q
            · subst z; exact absurd (by simp [comp]) q
      · refine Rst_set h.1 (k := 0) ?_ (by rw [st_eq, if_pos rfl]) (z0 1 (by decide) (by decide)) (z0 2 (by decide) (by decide)) (z75 2 (by decide) (by decide)) (z75 3 (by decide) (by decide))
        rw [st_ne _ _ _ (by decide), st_ne _ _ _ (by decide), d2 0 (by decide), st_eq, if_pos rfl]
      · refine ShR_move qS (fun i hi => ?_) (fun k k0 k1 => ?_) (fun k k0 k1 => ?_) (fun k k0 k1 => ?_) (fun i i0 i1 i2 => ?_)
        · rw [cx 7 (by decide) (by decide) (by decide), fw 7 (by omega), s2 i hi, st_ne _ _ _ (by omega)]
        · rw [cx (7 + 1) (by decide) (by decide) (by decide), fw (7 + 1) (by omega), s3 k k0 k1, st_ne _ _ _ (by omega)]
        · rw [cx (7 + 2) (by decide) (by decide) (by decide), fw (7 + 2) (by omega), s4 k k0 k1, st_ne _ _ _ (by omega)]
        · rw [cx (7 + 3) (by decide) (by decide) (by decide), fw (7 + 3) (by omega), s5 k k0 k1, st_ne _ _ _ (by omega)]
        · rw [e76]; exact c76' i i0 (by omega)
      · refine WyR_move qW ?_ (fun k k0 k1 => ?_) (fun i i0 i1 i2 => ?_)
        · rw [cx 11 (by decide) (by decide) (by decide), w1 0 (by omega), f9 _ (by omega) (by omega)]
        · rw [cx (11 + 1) (by decide) (by decide) (by decide), cx (11 + 2) (by decide) (by decide) (by decide), cx (11 + 3) (by decide) (by decide) (by decide), cx (11 + 4) (by decide) (by decide) (by decide)]
          have := w2 k k0 k1
          rw [f9 (60 + 5 * (m 0 16 - 1).toNat + 1) (by omega) (by omega), f9 (60 + 5 * (m 0 16 - 1).toNat + 2) (by omega) (by omega), f9 (60 + 5 * (m 0 16 - 1).toNat + 3) (by omega) (by omega), f9 (60 + 5 * (m 0 16 - 1).toNat + 4) (by omega) (by omega)] at this
          exact this
        · rw [e76]; exact c76' i i0 i1
      · unfold Rmk
        rw [k16, k57]
        refine ⟨rfl, by omega, by omega, fun j j0 j1 => ?_⟩
        obtain ⟨q1, q2⟩ := r4 j j0 (by omega)
        have cS : ∀ x, 46 ≤ x → x ≤ 74 → st (st m3 75 57 (m 0 16 - 1)) 75 1 0 x = m x := fun x x0 x1 => by
          rw [cx x (by omega) (by omega) (by omega), fx x (by omega) (by omega)]
        refine ⟨ShR_of q1 (fun i _ => ?_) (cS _ (by omega) (by omega)) (cS _ (by omega) (by omega)) (cS _ (by omega) (by omega)) (fun i i0 i1 i2 => ?_), WyR_of q2 ?_ (cS _ (by omega) (by omega)) (cS _ (by omega) (by omega)) (cS _ (by omega) (by omega)) (cS _ (by omega) (by omega)) (fun i i0 i1 i2 => ?_)⟩
        · rw [cS _ (by omega) (by omega)]
        · rw [e76]; exact c76 i (by omega)
        · rw [cS _ (by omega) (by omega)]
        · rw [e76]; exact c76 i (by omega)
