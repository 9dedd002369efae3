/-- the places lo.. hi of a run at D hold what stood at S -/
def pc (m : Mem) (S D lo hi : Int) : Mem := fun c i => if c = 79 ∧ D + lo ≤ i ∧ i < D + hi then m 79 (S + (i - D)) else m c i
theorem pc_up {m : Mem} {S D v : Int} (h0 : 0 ≤ v) (h : D ≤ S ∨ S + v < D) : st (pc m S D 0 v) 79 (D + v) (pc m S D 0 v 79 (S + v)) = pc m S D 0 (v + 1) := by
  funext c i
  by_cases hc : c = 79
  · subst hc
    rw [st_eq]
    unfold pc
    by_cases hi : i = D + v
    · subst hi
      rw [if_pos rfl, if_neg (by omega), if_pos (by omega)]
      congr 1; omega
    · rw [if_neg hi]
      by_cases h1 : D + 0 ≤ i ∧ i < D + v
      · rw [if_pos ⟨rfl, h1⟩, if_pos (by omega)]
      · rw [if_neg (by omega), if_neg (by omega)]
  · rw [st_ne _ _ _ hc]
    unfold pc
    rw [if_neg (by omega), if_neg (by omega)]
theorem pc_dn {m : Mem} {S D v n : Int} (h0 : 0 ≤ v) (hv : v < n) (h : S ≤ D ∨ D + n ≤ S) : st (pc m S D (n - v) n) 79 (D + (n - 1 - v)) (pc m S D (n - v) n 79 (S + (n - 1 - v))) = pc m S D (n - (v + 1)) n := by
  funext c i
  by_cases hc : c = 79
  · subst hc
    rw [st_eq]
    unfold pc
    by_cases hi : i = D + (n - 1 - v)
    · subst hi
      rw [if_pos rfl, if_neg (by omega), if_pos (by omega)]
      congr 1; omega
    · rw [if_neg hi]
      by_cases h1 : D + (n - v) ≤ i ∧ i < D + n
      · rw [if_pos ⟨rfl, h1⟩, if_pos (by omega)]
      · rw [if_neg (by omega), if_neg (by omega)]
  · rw [st_ne _ _ _ hc]
    unfold pc
    rw [if_neg (by omega), if_neg (by omega)]
theorem pour_up {m : Mem} {a0 a1 a2 a3 n : Int} (g0 : 0 ≤ a0 ∧ a0 < 4) (g2 : 0 ≤ a2 ∧ a2 < 4) (g1 : 0 ≤ a1) (g3 : 0 ≤ a3) (gn : 0 ≤ n) (r1 : a1 + n ≤ 60) (r3 : a3 + n ≤ 60) (hd : a3 ≤ a1) : ∀ (f : Nat) (v : Int), 0 ≤ v → v ≤ n → (n - v).toNat < f → Mo_pour_L118 a0 a1 a2 a3 n f v (pc m (60 * a0 + a1) (60 * a2 + a3) 0 v) = some (1, st (pc m (60 * a0 + a1) (60 * a2 + a3) 0 n) 75 1 0) := by
  intro f
  induction f with
  | zero => intro v _ _ h; omega
  | succ f ih =>
    intro v h0 h1 h2
    rw [Mo_pour_L118]
    by_cases hv : n ≤ v
    · have e : v = n := by omega
      subst e
      simp (disch := omega) only [bP, bE, bV, ltM, ltI, st_eq, st_ne, w32_id, w64_id, ↓reduceIte, ilt_t, ilt_f, ile_t, ile_f, ieq_t, ieq_f, not_true_eq_false, not_false_eq_true, and_true, true_and, and_self, and_false, false_and, Int.reduceMod, Mo_isTray, Mo_is, Mo_refuse, Mo_gives, Mo_isFrom]
    · simp (disch := omega) only [bP, bE, bV, ltM, ltI, st_eq, st_ne, w32_id, w64_id, ↓reduceIte, ilt_t, ilt_f, ile_t, ile_f, ieq_t, ieq_f, not_true_eq_false, not_false_eq_true, and_true, true_and, and_self, and_false, false_and, Int.reduceMod, Mo_isTray, Mo_is, Mo_refuse, Mo_gives, Mo_isFrom]
      rw [show 60 * a0 + a1 + v = (60 * a0 + a1) + v from rfl, show 60 * a2 + a3 + v = (60 * a2 + a3) + v from rfl, pc_up h0 (by omega)]
      exact ih (v + 1) (by omega) (by omega) (by omega)
theorem pour_dn {m : Mem} {a0 a1 a2 a3 n : Int} (g0 : 0 ≤ a0 ∧ a0 < 4) (g2 : 0 ≤ a2 ∧ a2 < 4) (g1 : 0 ≤ a1) (g3 : 0 ≤ a3) (gn : 0 ≤ n) (r1 : a1 + n ≤ 60) (r3 : a3 + n ≤ 60) (hd : a1 < a3) : ∀ (f : Nat) (v : Int), 0 ≤ v → v ≤ n → (n - v).toNat < f → Mo_pour_L118 a0 a1 a2 a3 n f v (pc m (60 * a0 + a1) (60 * a2 + a3) (n - v) n) = some (1, st (pc m (60 * a0 + a1) (60 * a2 + a3) 0 n) 75 1 0) := by
  intro f
  induction f with
  | zero => intro v _ _ h; omega
  | succ f ih =>
    intro v h0 h1 h2
    rw [Mo_pour_L118]
    by_cases hv : n ≤ v
    · have e : v = n := by omega
      subst e
      rw [Int.sub_self]
      simp (disch := omega) only [bP, bE, bV, ltM, ltI, st_eq, st_ne, w32_id, w64_id, ↓reduceIte, ilt_t, ilt_f, ile_t, ile_f, ieq_t, ieq_f, not_true_eq_false, not_false_eq_true, and_true, true_and, and_self, and_false, false_and, Int.reduceMod, Mo_isTray, Mo_is, Mo_refuse, Mo_gives, Mo_isFrom]
    · simp (disch := omega) only [bP, bE, bV, ltM, ltI, st_eq, st_ne, w32_id, w64_id, ↓reduceIte, ilt_t, ilt_f, ile_t, ile_f, ieq_t, ieq_f, not_true_eq_false, not_false_eq_true, and_true, true_and, and_self, and_false, false_and, Int.reduceMod, Mo_isTray, Mo_is, Mo_refuse, Mo_gives, Mo_isFrom]
      rw [show 60 * a0 + a1 + (n - 1 - v) = (60 * a0 + a1) + (n - 1 - v) from rfl, show 60 * a2 + a3 + (n - 1 - v) = (60 * a2 + a3) + (n - 1 - v) from rfl, pc_dn h0 (by omega) (by omega)]
      exact ih (v + 1) (by omega) (by omega) (by omega)
theorem s_pour {m : Mem} (h : Rel m) {a0 a1 a2 a3 a4 : Int} (c0 : w32 a0 = a0) (c1 : w32 a1 = a1) (c2 : w32 a2 = a2) (c3 : w32 a3 = a3) (c4 : w32 a4 = a4) : Stq w32 (FL_pour a0 a1 a2 a3 a4 m) (fun m1 => Mo_pour a0 a1 a2 a3 a4 m1) := by
  have b0 := cn c0
  have b1 := cn c1
  have b2 := cn c2
  have b3 := cn c3
  have b4 := cn c4
  by_cases hg : (0 ≤ a0 ∧ a0 < 4) ∧ (0 ≤ a2 ∧ a2 < 4) ∧ 0 ≤ a1 ∧ 0 ≤ a3 ∧ 0 ≤ a4
  · obtain ⟨g0, g2, g1, g3, g4⟩ := hg
    rcases h.2.1 a0 g0.1 g0.2 with ⟨q1, q2⟩ | ⟨q1, q2, q3, q4, q5, q6, q7⟩
    · refine Stq.mk (x := 0) (m1 := st m 0 0 2) (y := 0) (m2 := st (st m 0 0 2) 75 1 2) ?_ ?_ rfl (h.stat 2)
      · simp (disch := omega) only [FL_pour, bP, bE, bV, ltM, ltI, st_eq, st_ne, w32_id, w64_id, ↓reduceIte, ilt_t, ilt_f, ile_t, ile_f, ieq_t, ieq_f, not_true_eq_false, not_false_eq_true, and_true, true_and, and_self, and_false, false_and, Int.reduceMod, Trays_lackOfPlace, Trays_isTray, Trays_isMissing, Trays_sortOf, Trays_hasRun, Trays_sizeOf, Trays_areAlike, FL_isWithin, FL_no, FL_yes, FL_none, FL_answer]
      · simp (disch := omega) only [Mo_pour, bP, bE, bV, ltM, ltI, st_eq, st_ne, w32_id, w64_id, ↓reduceIte, ilt_t, ilt_f, ile_t, ile_f, ieq_t, ieq_f, not_true_eq_false, not_false_eq_true, and_true, true_and, and_self, and_false, false_and, Int.reduceMod, Mo_isTray, Mo_is, Mo_refuse, Mo_gives, Mo_isFrom]
    rcases h.2.1 a2 g2.1 g2.2 with ⟨u1, u2⟩ | ⟨u1, u2, u3, u4, u5, u6, u7⟩
    · refine Stq.mk (x := 0) (m1 := st m 0 0 2) (y := 0) (m2 := st (st m 0 0 2) 75 1 2) ?_ ?_ rfl (h.stat 2)
      · simp (disch := omega) only [FL_pour, bP, bE, bV, ltM, ltI, st_eq, st_ne, w32_id, w64_id, ↓reduceIte, ilt_t, ilt_f, ile_t, ile_f, ieq_t, ieq_f, not_true_eq_false, not_false_eq_true, and_true, true_and, and_self, and_false, false_and, Int.reduceMod, Trays_lackOfPlace, Trays_isTray, Trays_isMissing, Trays_sortOf, Trays_hasRun, Trays_sizeOf, Trays_areAlike, FL_isWithin, FL_no, FL_yes, FL_none, FL_answer]
      · simp (disch := omega) only [Mo_pour, bP, bE, bV, ltM, ltI, st_eq, st_ne, w32_id, w64_id, ↓reduceIte, ilt_t, ilt_f, ile_t, ile_f, ieq_t, ieq_f, not_true_eq_false, not_false_eq_true, and_true, true_and, and_self, and_false, false_and, Int.reduceMod, Mo_isTray, Mo_is, Mo_refuse, Mo_gives, Mo_isFrom]
    by_cases hs : m 3 a0 = m 3 a2
    · by_cases hr : a4 ≤ m 4 a0 - a1 ∧ a4 ≤ m 4 a2 - a3
      · refine Stq.mk (x := 1) (m1 := st (cpy m 2 (60 * a0 + a1) 2 (60 * a2 + a3) a4) 0 0 0) (y := 1) (m2 := st (pc (st (cpy m 2 (60 * a0 + a1) 2 (60 * a2 + a3) a4) 0 0 0) (60 * a0 + a1) (60 * a2 + a3) 0 a4) 75 1 0) ?_ ?_ rfl ?_
        · have e0 : a0 * 60 + a1 = 60 * a0 + a1 := by omega
          have e2 : a2 * 60 + a3 = 60 * a2 + a3 := by omega
          simp (disch := omega) only [FL_pour, Trays_copyRun, bP, bE, bV, ltM, ltI, st_eq, st_ne, w32_id, w64_id, ↓reduceIte, ilt_t, ilt_f, ile_t, ile_f, ieq_t, ieq_f, not_true_eq_false, not_false_eq_true, and_true, true_and, and_self, and_false, false_and, Int.reduceMod, Trays_lackOfPlace, Trays_isTray, Trays_isMissing, Trays_sortOf, Trays_hasRun, Trays_sizeOf, Trays_areAlike, FL_isWithin, FL_no, FL_yes, FL_none, FL_answer, e0, e2]
        · have hcpy : ∀ c i, c ≠ 2 → cpy m 2 (60 * a0 + a1) 2 (60 * a2 + a3) a4 c i = m c i := fun c i hc => by unfold cpy; rw [if_neg hc]
          by_cases hd : a3 ≤ a1
          · have key := pour_up (m := st (cpy m 2 (60 * a0 + a1) 2 (60 * a2 + a3) a4) 0 0 0) g0 g2 g1 g3 g4 (by omega) (by omega) hd FU 0 (by omega) g4 (by rw [FU_eq]; omega)
            have e : pc (st (cpy m 2 (60 * a0 + a1) 2 (60 * a2 + a3) a4) 0 0 0) (60 * a0 + a1) (60 * a2 + a3) 0 0 = st (cpy m 2 (60 * a0 + a1) 2 (60 * a2 + a3) a4) 0 0 0 := by
              funext c i; unfold pc; rw [if_neg (by omega)]
            rw [e] at key
            simp (disch := omega) only [Mo_pour, bP, bE, bV, ltM, ltI, st_eq, st_ne, w32_id, w64_id, ↓reduceIte, ilt_t, ilt_f, ile_t, ile_f, ieq_t, ieq_f, not_true_eq_false, not_false_eq_true, and_true, true_and, and_self, and_false, false_and, Int.reduceMod, Mo_isTray, Mo_is, Mo_refuse, Mo_gives, Mo_isFrom, hcpy]
            exact key
          · have key := pour_dn (m := st (cpy m 2 (60 * a0 + a1) 2 (60 * a2 + a3) a4) 0 0 0) g0 g2 g1 g3 g4 (by omega) (by omega) (by omega) FU 0 (by omega) g4 (by rw [FU_eq]; omega)
            have e : pc (st (cpy m 2 (60 * a0 + a1) 2 (60 * a2 + a3) a4) 0 0 0) (60 * a0 + a1) (60 * a2 + a3) (a4 - 0) a4 = st (cpy m 2 (60 * a0 + a1) 2 (60 * a2 + a3) a4) 0 0 0 := by
              funext c i; unfold pc; rw [if_neg (by omega)]
            rw [e] at key
            simp (disch := omega) only [Mo_pour, bP, bE, bV, ltM, ltI, st_eq, st_ne, w32_id, w64_id, ↓reduceIte, ilt_t, ilt_f, ile_t, ile_f, ieq_t, ieq_f, not_true_eq_false, not_false_eq_true, and_true, true_and, and_self, and_false, false_and, Int.reduceMod, Mo_isTray, Mo_is, Mo_refuse, Mo_gives, Mo_isFrom, hcpy]
            exact key
        · have k : ∀ c, c ≠ 2 → c ≠ 79 → ∀ i, st (pc (st (cpy m 2 (60 * a0 + a1) 2 (60 * a2 + a3) a4) 0 0 0) (60 * a0 + a1) (60 * a2 + a3) 0 a4) 75 1 0 c i = st (st m 0 0 0) 75 1 0 c i := by
            intro c n2 n79 i
            by_cases e75 : c = 75
            · subst e75; simp [st, pc, cpy]
            by_cases e0 : c = 0
            · subst e0; simp [st, pc, cpy]
            simp [st, pc, cpy, e75, e0, n2, n79]
          refine h.tr ?_ ?_ ?_
          · intro c i q
            have n2 : c ≠ 2 := fun z => q (by subst z; simp [comp])
            have n79 : c ≠ 79 := fun z => q (by subst z; simp [comp])
            rw [k c n2 n79]
            exact ((Ag.refl m).st (c := 0) (i := 0) (v := 0) (by simp [comp])).st (c := 75) (i := 1) (v := 0) (by simp [comp]) c i q
          · refine Rst_set h.1 (k := 0) ?_ ?_ ?_ ?_ ?_ ?_ <;> rw [k _ (by decide) (by decide)] <;> rfl
          · intro t t0 t1
            rw [k 3 (by decide) (by decide), k 4 (by decide) (by decide), k 77 (by decide) (by decide), k 78 (by decide) (by decide)]
            have e2 : ∀ i, st (pc (st (cpy m 2 (60 * a0 + a1) 2 (60 * a2 + a3) a4) 0 0 0) (60 * a0 + a1) (60 * a2 + a3) 0 a4) 75 1 0 2 i = if 60 * a2 + a3 ≤ i ∧ i < 60 * a2 + a3 + a4 then m 2 (60 * a0 + a1 + (i - (60 * a2 + a3))) else m 2 i := by
              intro i; simp [st, pc, cpy]
            have e9 : ∀ i, st (pc (st (cpy m 2 (60 * a0 + a1) 2 (60 * a2 + a3) a4) 0 0 0) (60 * a0 + a1) (60 * a2 + a3) 0 a4) 75 1 0 79 i = if 60 * a2 + a3 ≤ i ∧ i < 60 * a2 + a3 + a4 then m 79 (60 * a0 + a1 + (i - (60 * a2 + a3))) else m 79 i := by
              intro i; simp [st, pc, cpy]
            rcases h.2.1 t t0 t1 with q | ⟨v1, v2, v3, v4, v5, v6, v7⟩
            · exact Or.inl q
            · refine Or.inr ⟨v1, v2, v3, v4, v5, v6, fun p p0 p1 => ?_⟩
              rw [e2, e9]
              by_cases z : 60 * a2 + a3 ≤ 60 * t + p ∧ 60 * t + p < 60 * a2 + a3 + a4
              · rw [if_pos z, if_pos z]
                have ez : 60 * a0 + a1 + (60 * t + p - (60 * a2 + a3)) = 60 * a0 + (a1 + (60 * t + p - (60 * a2 + a3))) := by omega
                rw [ez]
                exact q7 _ (by omega) (by omega)
              · rw [if_neg z, if_neg z]
                exact v7 p p0 p1
      · have hb : m 4 a0 - a1 < a4 ∨ (a4 ≤ m 4 a0 - a1 ∧ m 4 a2 - a3 < a4) := by omega
        refine Stq.mk (x := 0) (m1 := st m 0 0 3) (y := 0) (m2 := st (st m 0 0 3) 75 1 3) ?_ ?_ rfl (h.stat 3)
        · rcases hb with g | g <;> simp (disch := omega) only [FL_pour, bP, bE, bV, ltM, ltI, st_eq, st_ne, w32_id, w64_id, ↓reduceIte, ilt_t, ilt_f, ile_t, ile_f, ieq_t, ieq_f, not_true_eq_false, not_false_eq_true, and_true, true_and, and_self, and_false, false_and, Int.reduceMod, Trays_lackOfPlace, Trays_isTray, Trays_isMissing, Trays_sortOf, Trays_hasRun, Trays_sizeOf, Trays_areAlike, FL_isWithin, FL_no, FL_yes, FL_none, FL_answer]
        · rcases hb with g | g <;> simp (disch := omega) only [Mo_pour, bP, bE, bV, ltM, ltI, st_eq, st_ne, w32_id, w64_id, ↓reduceIte, ilt_t, ilt_f, ile_t, ile_f, ieq_t, ieq_f, not_true_eq_false, not_false_eq_true, and_true, true_and, and_self, and_false, false_and, Int.reduceMod, Mo_isTray, Mo_is, Mo_refuse, Mo_gives, Mo_isFrom]
    · refine Stq.mk (x := 0) (m1 := st m 0 0 8) (y := 0) (m2 := st (st m 0 0 8) 75 1 8) ?_ ?_ rfl (h.stat 8)
      · simp (disch := omega) only [FL_pour, bP, bE, bV, ltM, ltI, st_eq, st_ne, w32_id, w64_id, ↓reduceIte, ilt_t, ilt_f, ile_t, ile_f, ieq_t, ieq_f, not_true_eq_false, not_false_eq_true, and_true, true_and, and_self, and_false, false_and, Int.reduceMod, Trays_lackOfPlace, Trays_isTray, Trays_isMissing, Trays_sortOf, Trays_hasRun, Trays_sizeOf, Trays_areAlike, FL_isWithin, FL_no, FL_yes, FL_none, FL_answer]
      · simp (disch := omega) only [Mo_pour, bP, bE, bV, ltM, ltI, st_eq, st_ne, w32_id, w64_id, ↓reduceIte, ilt_t, ilt_f, ile_t, ile_f, ieq_t, ieq_f, not_true_eq_false, not_false_eq_true, and_true, true_and, and_self, and_false, false_and, Int.reduceMod, Mo_isTray, Mo_is, Mo_refuse, Mo_gives, Mo_isFrom]
  · have hb : a0 < 0 ∨ 4 ≤ a0 ∨ ((0 ≤ a0 ∧ a0 < 4) ∧ a2 < 0) ∨ ((0 ≤ a0 ∧ a0 < 4) ∧ 4 ≤ a2) ∨ ((0 ≤ a0 ∧ a0 < 4) ∧ (0 ≤ a2 ∧ a2 < 4) ∧ a1 < 0) ∨ ((0 ≤ a0 ∧ a0 < 4) ∧ (0 ≤ a2 ∧ a2 < 4) ∧ 0 ≤ a1 ∧ a3 < 0) ∨ ((0 ≤ a0 ∧ a0 < 4) ∧ (0 ≤ a2 ∧ a2 < 4) ∧ 0 ≤ a1 ∧ 0 ≤ a3 ∧ a4 < 0) := by omega
    refine Stq.mk (x := 0) (m1 := st m 0 0 1) (y := 0) (m2 := st (st m 0 0 1) 75 1 1) ?_ ?_ rfl (h.stat 1)
    · rcases hb with g | g | g | g | g | g | g <;> simp (disch := omega) only [FL_pour, bP, bE, bV, ltM, ltI, st_eq, st_ne, w32_id, w64_id, ↓reduceIte, ilt_t, ilt_f, ile_t, ile_f, ieq_t, ieq_f, not_true_eq_false, not_false_eq_true, and_true, true_and, and_self, and_false, false_and, Int.reduceMod, Trays_lackOfPlace, Trays_isTray, Trays_isMissing, Trays_sortOf, Trays_hasRun, Trays_sizeOf, Trays_areAlike, FL_isWithin, FL_no, FL_yes, FL_none, FL_answer]
    · rcases hb with g | g | g | g | g | g | g <;> simp (disch := omega) only [Mo_pour, bP, bE, bV, ltM, ltI, st_eq, st_ne, w32_id, w64_id, ↓reduceIte, ilt_t, ilt_f, ile_t, ile_f, ieq_t, ieq_f, not_true_eq_false, not_false_eq_true, and_true, true_and, and_self, and_false, false_and, Int.reduceMod, Mo_isTray, Mo_is, Mo_refuse, Mo_gives, Mo_isFrom]
