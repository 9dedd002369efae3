theorem wrS_c {F G : Int → Int} {S W eye k : Int} (s : gSW S W) (e : ∀ q, Pt S W q → F q = G q) : wrS F eye S W k = wrS G eye S W k := by
  have f : ∀ v acc, 0 ≤ v → v ≤ 2 → fdS (lnU F eye S W v) k (lnS S W v - 0).toNat 0 acc = fdS (lnU G eye S W v) k (lnS S W v - 0).toNat 0 acc := by
    intro v acc v0 v2
    have bl := lnS_le s v
    exact fdS_c _ _ _ (fun x x0 x1 => lnU_c s e (isLn_of v0 v2 x0 (by omega)))
  unfold wrS
  rw [f 0 0 (by omega) (by omega), f 1 _ (by omega) (by omega), f 2 _ (by omega) (by omega)]
theorem s_where {m : Mem} (h : Rel m) {a0 a1 : Int} (c0 : w32 a0 = a0) (c1 : w32 a1 = a1) : Stq w32 (FL_where a0 a1 m) (fun m1 => Mo_where a0 a1 m1) := by
  have b0 := cn c0
  have b1 := cn c1
  obtain ⟨⟨z0, z1, z2, z3, z4, z5, z6⟩, hs, hr, hv, hp⟩ := shF h
  by_cases g : 0 ≤ a0 ∧ 0 ≤ a1 ∧ a1 ≤ 2
  · have e1 := c_find hs (flC h) (eyC h) g.1 b0.2
    have he : 0 ≤ m 76 4 ∧ m 76 4 ≤ 999 := by have := eyC h; rw [← z4] at this; exact this
    have ew : wrS (fun q => m 76 (80 + q)) (m 76 4) (m 7 0) (m 7 1) a0 = wrS (m 10) (m 7 4) (m 7 0) (m 7 1) a0 := by rw [z4]; exact wrS_c hs (flM h)
    by_cases q : (wrS (m 10) (m 7 4) (m 7 0) (m 7 1) a0).1 = 3
    · rw [if_pos q] at e1
      obtain ⟨m', d1, d2, d3⟩ := m_find (m := st m 0 0 6) hs g.1 b0.2 z0 z1 (flMb h) he
      have d2' := d2 (by show (wrS (fun q => m 76 (80 + q)) (m 76 4) (m 7 0) (m 7 1) a0).1 = 3; rw [ew]; exact q)
      have d2'' : Mo_unfairs a0 (st m 0 0 6) = some ((wrS (fun q => m 76 (80 + q)) (m 76 4) (m 7 0) (m 7 1) a0).2.2, m') ∧ (wrS (fun q => m 76 (80 + q)) (m 76 4) (m 7 0) (m 7 1) a0).2.2 ≤ a0 ∧ 0 ≤ (wrS (fun q => m 76 (80 + q)) (m 76 4) (m 7 0) (m 7 1) a0).2.2 := d2'
      rw [ew] at d2''
      obtain ⟨f1, f2, f3⟩ := d2''
      refine Stq.mk (x := -1) (m1 := st m 0 0 6) (y := -1) (m2 := st m' 75 1 6) ?_ ?_ rfl ?_
      · unfold FL_where
        rw [e1, bE_some]
        simp (disch := omega) only [bP, bE, bV, ltM, ltI, st_eq, st_ne, w32_id, w64_id, ↓reduceIte, ilt_t, ilt_f, ile_t, ile_f, ieq_t, ieq_f, not_true_eq_false, not_false_eq_true, and_true, true_and, and_self, and_false, false_and, Int.reduceMod, FL_isWithin, FL_no, FL_yes, FL_none, FL_answer]
      · show Mo_where a0 a1 (st m 0 0 6) = _
        unfold Mo_where
        rw [f1, bE_some]
        simp (disch := omega) only [bP, bE, bV, ltM, ltI, st_eq, st_ne, w32_id, w64_id, ↓reduceIte, ilt_t, ilt_f, ile_t, ile_f, ieq_t, ieq_f, not_true_eq_false, not_false_eq_true, and_true, true_and, and_self, and_false, false_and, Int.reduceMod, Mo_is, Mo_refuse, Mo_gives, Mo_isFrom]
      · refine h.ans (Ag.st (((Ag.refl m).st (by decide)).trans d1.ag) (by decide)) ?_
        refine Rst_set h.1 (k := 6) ?_ (by rw [st_eq, if_pos rfl]) ?_ ?_ ?_ ?_
        · rw [st_ne _ _ _ (by decide), d1.1 0 (by decide), st_eq, if_pos rfl]
        · rw [st_ne _ _ _ (by decide), d1.1 0 (by decide), st_eq, if_neg (by decide)]
        · rw [st_ne _ _ _ (by decide), d1.1 0 (by decide), st_eq, if_neg (by decide)]
        · rw [st_eq, if_neg (by decide), d1.2 2 (by decide), st_ne _ _ _ (by decide)]
        · rw [st_eq, if_neg (by decide), d1.2 3 (by decide), st_ne _ _ _ (by decide)]
    · rw [if_neg q] at e1
      generalize hR : wrS (m 10) (m 7 4) (m 7 0) (m 7 1) a0 = R at e1 ew q
      generalize hKT : ktS (ufS (m 10) (m 7 4) (fsS (m 7 0) R.1 R.2.1) (srS R.1)) (plS (m 7 0) (m 7 1) R.1 R.2.1 - 1 - 2).toNat 2 (a0 - R.2.2) = T at e1
      obtain ⟨m', d1, d2, d3⟩ := m_find (m := st (st (st (st m 7 11 R.1) 7 12 R.2.1) 7 13 T) 0 0 0) hs g.1 b0.2 z0 z1 (flMb h) he
      have d3' := d3 (by show (wrS (fun q => m 76 (80 + q)) (m 76 4) (m 7 0) (m 7 1) a0).1 ≠ 3; rw [ew]; exact q)
      have d3'' : Mo_unfairs a0 (st (st (st (st m 7 11 R.1) 7 12 R.2.1) 7 13 T) 0 0 0) = some (a0 + 1, m') ∧ a0 ≤ 400 ∧ (0 ≤ (wrS (fun q => m 76 (80 + q)) (m 76 4) (m 7 0) (m 7 1) a0).1 ∧ (wrS (fun q => m 76 (80 + q)) (m 76 4) (m 7 0) (m 7 1) a0).1 ≤ 2 ∧ isLn (m 7 0) (m 7 1) (wrS (fun q => m 76 (80 + q)) (m 76 4) (m 7 0) (m 7 1) a0).1 (wrS (fun q => m 76 (80 + q)) (m 76 4) (m 7 0) (m 7 1) a0).2.1) ∧ m' 75 26 = (wrS (fun q => m 76 (80 + q)) (m 76 4) (m 7 0) (m 7 1) a0).1 ∧ m' 75 27 = (wrS (fun q => m 76 (80 + q)) (m 76 4) (m 7 0) (m 7 1) a0).2.1 ∧ m' 75 28 = ktS (ufS (fun q => m 76 (80 + q)) (m 76 4) (fsS (m 7 0) (wrS (fun q => m 76 (80 + q)) (m 76 4) (m 7 0) (m 7 1) a0).1 (wrS (fun q => m 76 (80 + q)) (m 76 4) (m 7 0) (m 7 1) a0).2.1) (srS (wrS (fun q => m 76 (80 + q)) (m 76 4) (m 7 0) (m 7 1) a0).1)) (plS (m 7 0) (m 7 1) (wrS (fun q => m 76 (80 + q)) (m 76 4) (m 7 0) (m 7 1) a0).1 (wrS (fun q => m 76 (80 + q)) (m 76 4) (m 7 0) (m 7 1) a0).2.1 - 1 - 2).toNat 2 (a0 - (wrS (fun q => m 76 (80 + q)) (m 76 4) (m 7 0) (m 7 1) a0).2.2) := d3'
      rw [ew] at d3''
      obtain ⟨f1, f2, ⟨f3, f4, f5⟩, f6, f7, f8⟩ := d3''
      have f8' : m' 75 28 = T := by
        rw [f8, ← hKT, z4]
        exact ktS_c _ _ _ (fun x x0 x1 => uf_congr hs (flM h) f5 (by omega) (by omega))
      refine Stq.mk (x := if a1 = 0 then R.1 else if a1 = 1 then R.2.1 else T) (m1 := st (st (st (st m 7 11 R.1) 7 12 R.2.1) 7 13 T) 0 0 0) (y := if a1 = 0 then R.1 else if a1 = 1 then R.2.1 else T) (m2 := st m' 75 1 0) ?_ ?_ rfl ?_
      · have k1 : st (st (st m 7 11 R.1) 7 12 R.2.1) 7 13 T 7 11 = R.1 := rfl
        have k2 : st (st (st m 7 11 R.1) 7 12 R.2.1) 7 13 T 7 12 = R.2.1 := rfl
        have k3 : st (st (st m 7 11 R.1) 7 12 R.2.1) 7 13 T 7 13 = T := rfl
        unfold FL_where
        rw [e1, bE_some, k1, k2, k3]
        rcases (by omega : a1 = 0 ∨ a1 = 1 ∨ a1 = 2) with y | y | y <;> subst y <;> simp (disch := omega) only [bP, bE, bV, ltM, ltI, st_eq, st_ne, w32_id, w64_id, ↓reduceIte, ilt_t, ilt_f, ile_t, ile_f, ieq_t, ieq_f, not_true_eq_false, not_false_eq_true, and_true, true_and, and_self, and_false, false_and, Int.reduceMod, FL_isWithin, FL_no, FL_yes, FL_none, FL_answer]
      · show Mo_where a0 a1 _ = _
        unfold Mo_where
        rw [f1, bE_some, f6, f7, f8']
        rcases (by omega : a1 = 0 ∨ a1 = 1 ∨ a1 = 2) with y | y | y <;> subst y <;> simp (disch := omega) only [bP, bE, bV, ltM, ltI, st_eq, st_ne, w32_id, w64_id, ↓reduceIte, ilt_t, ilt_f, ile_t, ile_f, ieq_t, ieq_f, not_true_eq_false, not_false_eq_true, and_true, true_and, and_self, and_false, false_and, Int.reduceMod, Mo_is, Mo_refuse, Mo_gives, Mo_isFrom]
      · refine h.ans (Ag.st ((((((Ag.refl m).st (by decide)).st (by decide)).st (by decide)).st (by decide)).trans d1.ag) (by decide)) ?_
        refine Rst_set h.1 (k := 0) ?_ (by rw [st_eq, if_pos rfl]) ?_ ?_ ?_ ?_
        · rw [st_ne _ _ _ (by decide), d1.1 0 (by decide), st_eq, if_pos rfl]
        · rw [st_ne _ _ _ (by decide), d1.1 0 (by decide)]; rfl
        · rw [st_ne _ _ _ (by decide), d1.1 0 (by decide)]; rfl
        · rw [st_eq, if_neg (by decide), d1.2 2 (by decide)]; rfl
        · rw [st_eq, if_neg (by decide), d1.2 3 (by decide)]; rfl
  · have hb : a0 < 0 ∨ (0 ≤ a0 ∧ a1 < 0) ∨ (0 ≤ a0 ∧ 2 < a1) := by omega
    refine Stq.mk (x := -1) (m1 := st m 0 0 1) (y := -1) (m2 := st (st m 0 0 1) 75 1 1) ?_ ?_ rfl (h.stat 1)
    · rcases hb with q | q | q <;> simp (disch := omega) only [bP, bE, bV, ltM, ltI, st_eq, st_ne, w32_id, w64_id, ↓reduceIte, ilt_t, ilt_f, ile_t, ile_f, ieq_t, ieq_f, not_true_eq_false, not_false_eq_true, and_true, true_and, and_self, and_false, false_and, Int.reduceMod, FL_where, FL_isWithin, FL_no, FL_yes, FL_none, FL_answer]
    · rcases hb with q | q | q <;> simp (disch := omega) only [bP, bE, bV, ltM, ltI, st_eq, st_ne, w32_id, w64_id, ↓reduceIte, ilt_t, ilt_f, ile_t, ile_f, ieq_t, ieq_f, not_true_eq_false, not_false_eq_true, and_true, true_and, and_self, and_false, false_and, Int.reduceMod, Mo_where, Mo_is, Mo_refuse, Mo_gives, Mo_isFrom]
