/-! layer 2: planks -/
theorem bit01 (t s : Int) : w32 (bAnd (bShr t s) 1) = bAnd (bShr t s) 1 ∧ 0 ≤ bAnd (bShr t s) 1 ∧ bAnd (bShr t s) 1 ≤ 1 := by
  have e := bAnd_1 (bShr t s)
  have b : 0 ≤ bAnd (bShr t s) 1 ∧ bAnd (bShr t s) 1 ≤ 1 := by rw [e]; omega
  exact ⟨w32_id (by omega) (by omega), b⟩
def hsS (t k : Int) : Nat → Int → Int → Int
  | 0, _, _ => -1
  | n + 1, a, s => if bAnd (bShr t s) 1 = 0 then hsS t k n a (s + 1) else if a = k then s else hsS t k n (a + 1) (s + 1)
def hrS (t k z : Int) : Nat → Int → Int → Int
  | 0, _, _ => z
  | n + 1, a, s => if bAnd (bShr t s) 1 = 0 then hrS t k z n a (s + 1) else if a = k then s else hrS t k z n (a + 1) (s + 1)
theorem hs_hr : ∀ (n : Fin 4) (x : Fin 16) (k : Fin 6), x.val < 2 ^ (n.val + 1) → (k.val : Int) < J_bitCount ((x.val : Int) + bShl 1 ((n.val : Int) + 1)) → hsS ((x.val : Int) + bShl 1 ((n.val : Int) + 1)) (k.val : Int) 6 0 0 = hrS (x.val : Int) (k.val : Int) ((n.val : Int) + 1) (n.val + 1) 0 0 := by decide +kernel
theorem bc_le : ∀ (n : Fin 4) (x : Fin 16), x.val < 2 ^ (n.val + 1) → J_bitCount ((x.val : Int) + bShl 1 ((n.val : Int) + 1)) ≤ 5 := by decide +kernel
theorem c_hs {m : Mem} {k : Int} (k0 : 0 ≤ k) (k1 : k < 100) : Yard_highestStripOf k m = some (hsS (m 39 6) k 6 0 0) := by
  have key : ∀ (n : Nat) (a s : Int), 0 ≤ a → a ≤ s → s ≤ 6 → (6 - s).toNat < n → Yard_highestStripOf_L4 k m n a s = some (hsS (m 39 6) k (6 - s).toNat a s) := by
    intro n
    induction n with
    | zero => intro a s _ _ _ q; omega
    | succ n ih =>
      intro a s a0 as s6 hn
      rw [Yard_highestStripOf_L4, w32_id (x := s) (by omega) (by omega)]
      by_cases q : 6 ≤ s
      · rw [if_pos q, show (6 - s).toNat = 0 by omega]; rfl
      · rw [if_neg q, (bit01 (m 39 6) s).1, w32_id (x := a) (by omega) (by omega), w32_id (x := k) (by omega) (by omega), show (6 - s).toNat = (6 - (s + 1)).toNat + 1 by omega, hsS, ih a (s + 1) (by omega) (by omega) (by omega) (by omega), ih (a + 1) (s + 1) (by omega) (by omega) (by omega) (by omega)]
        by_cases z : bAnd (bShr (m 39 6) s) 1 = 0
        · rw [if_pos z, if_pos z]
        · rw [if_neg z, if_neg z]
          by_cases y : a = k
          · rw [if_neg (by omega), if_pos y]
          · rw [if_pos y, if_neg y]
  exact key FU 0 0 (by omega) (by omega) (by omega) (by rw [FU_eq]; omega)
theorem m_hr {m : Mem} {k z : Int} (k0 : 0 ≤ k) (k1 : k < 100) (z0 : 1 ≤ z) (z1 : z ≤ 4) (ez : m 75 50 = z + 1) : ∀ (n : Nat) (a s : Int), 0 ≤ a → a ≤ s → s ≤ 6 → (z - s).toNat < n → Mo_plank_L52 k n a s m = some (hrS (m 75 47) k z (z - s).toNat a s, st m 75 1 0) := by
  intro n
  induction n with
  | zero => intro a s _ _ _ q; omega
  | succ n ih =>
    intro a s a0 as s6 hn
    rw [Mo_plank_L52, ez, w32_id (x := s) (by omega) (by omega), show z + 1 - 1 = z by omega, w32_id (x := z) (by omega) (by omega)]
    by_cases q : z ≤ s
    · rw [if_pos q, show (z - s).toNat = 0 by omega]; rfl
    · rw [if_neg q, (bit01 (m 75 47) s).1, w32_id (x := a) (by omega) (by omega), w32_id (x := k) (by omega) (by omega), show (z - s).toNat = (z - (s + 1)).toNat + 1 by omega, hrS, ih a (s + 1) (by omega) (by omega) (by omega) (by omega), ih (a + 1) (s + 1) (by omega) (by omega) (by omega) (by omega)]
      by_cases z : bAnd (bShr (m 75 47) s) 1 = 0
      · rw [if_neg (not_not_intro z), if_pos z]
      · rw [if_pos z, if_neg z]
        by_cases y : a = k
        · rw [if_neg (by omega), if_pos y]; rfl
        · rw [if_pos y, if_neg y]
theorem s_plank {m : Mem} (h : Rel m) {a0 : Int} (c0 : w32 a0 = a0) : Stq w32 (FL_plank a0 m) (fun m1 => Mo_plank a0 m1) := by
  have b0 := cn c0
  by_cases k0 : a0 < -1
  · refine Stq.mk (x := -1) (m1 := st m 0 0 1) (y := -1) (m2 := st (st m 0 0 1) 75 1 1) ?_ ?_ rfl (h.stat 1)
    · simp (disch := omega) only [bP, bE, bV, ltM, ltI, st_eq, st_ne, w32_id, w64_id, ↓reduceIte, ilt_t, ilt_f, ile_t, ile_f, ieq_t, ieq_f, not_true_eq_false, not_false_eq_true, and_true, true_and, and_self, and_false, false_and, Int.reduceMod, FL_plank, FL_isWithin, FL_no, FL_yes, FL_none, FL_answer]
    · simp (disch := omega) only [bP, bE, bV, ltM, ltI, st_eq, st_ne, w32_id, w64_id, ↓reduceIte, ilt_t, ilt_f, ile_t, ile_f, ieq_t, ieq_f, not_true_eq_false, not_false_eq_true, and_true, true_and, and_self, and_false, false_and, Int.reduceMod, Mo_plank, Mo_is, Mo_refuse, Mo_gives, Mo_isFrom]
  rcases h.2.2.2.2.2.2.2.2.2.2 with ⟨q1, q2⟩ | ⟨q1, q2, q3, q4, q5, q6, q7, q8, q9⟩
  · refine Stq.mk (x := -1) (m1 := st m 0 0 6) (y := -1) (m2 := st (st m 0 0 6) 75 1 6) ?_ ?_ rfl (h.stat 6)
    · simp (disch := omega) only [bP, bE, bV, ltM, ltI, st_eq, st_ne, w32_id, w64_id, ↓reduceIte, ilt_t, ilt_f, ile_t, ile_f, ieq_t, ieq_f, not_true_eq_false, not_false_eq_true, and_true, true_and, and_self, and_false, false_and, Int.reduceMod, FL_plank, FL_isWithin, FL_no, FL_yes, FL_none, FL_answer]
    · simp (disch := omega) only [bP, bE, bV, ltM, ltI, st_eq, st_ne, w32_id, w64_id, ↓reduceIte, ilt_t, ilt_f, ile_t, ile_f, ieq_t, ieq_f, not_true_eq_false, not_false_eq_true, and_true, true_and, and_self, and_false, false_and, Int.reduceMod, Mo_plank, Mo_is, Mo_refuse, Mo_gives, Mo_isFrom]
  obtain ⟨z, ez⟩ : ∃ z : Nat, m 75 50 = (z : Int) + 2 := ⟨(m 75 50 - 2).toNat, by omega⟩
  obtain ⟨x, ex⟩ : ∃ x : Nat, m 75 47 = (x : Int) := ⟨(m 75 47).toNat, by omega⟩
  have z3 : z < 4 := by omega
  have es : bShl 1 (m 75 50 - 1) = ((2 ^ (z + 1) : Nat) : Int) := by
    rw [bShl1 (by omega) (by omega)]; congr 1; congr 1; omega
  have es' : m 75 50 - 1 = (z : Int) + 1 := by omega
  have x2 : x < 2 ^ (z + 1) := by rw [es, ex] at q7; exact Int.ofNat_lt.mp q7
  have x16 : x < 16 := by
    have : 2 ^ (z + 1) ≤ 2 ^ 4 := Nat.pow_le_pow_right (by decide) (by omega)
    have e : 2 ^ 4 = 16 := by decide
    omega
  have bl := bc_le ⟨z, z3⟩ ⟨x, x16⟩ x2
  have e39 : m 39 6 = (x : Int) + bShl 1 ((z : Int) + 1) := by rw [q8, ex, es']
  rw [e39] at q9
  have q9b : m 39 4 ≤ 5 := by rw [q9]; exact bl
  by_cases k1 : m 39 4 ≤ a0
  · refine Stq.mk (x := -1) (m1 := st m 0 0 6) (y := -1) (m2 := st (st m 0 0 6) 75 1 6) ?_ ?_ rfl (h.stat 6)
    · simp (disch := omega) only [bP, bE, bV, ltM, ltI, st_eq, st_ne, w32_id, w64_id, ↓reduceIte, ilt_t, ilt_f, ile_t, ile_f, ieq_t, ieq_f, not_true_eq_false, not_false_eq_true, and_true, true_and, and_self, and_false, false_and, Int.reduceMod, FL_plank, FL_isWithin, FL_no, FL_yes, FL_none, FL_answer]
    · simp (disch := omega) only [bP, bE, bV, ltM, ltI, st_eq, st_ne, w32_id, w64_id, ↓reduceIte, ilt_t, ilt_f, ile_t, ile_f, ieq_t, ieq_f, not_true_eq_false, not_false_eq_true, and_true, true_and, and_self, and_false, false_and, Int.reduceMod, Mo_plank, Mo_is, Mo_refuse, Mo_gives, Mo_isFrom, q2]
  by_cases k2 : a0 = -1
  · refine Stq.mk (x := m 39 5) (m1 := st m 0 0 0) (y := m 39 5) (m2 := st (st m 0 0 0) 75 1 0) ?_ ?_ rfl (h.stat 0)
    · simp (disch := omega) only [bP, bE, bV, ltM, ltI, st_eq, st_ne, w32_id, w64_id, ↓reduceIte, ilt_t, ilt_f, ile_t, ile_f, ieq_t, ieq_f, not_true_eq_false, not_false_eq_true, and_true, true_and, and_self, and_false, false_and, Int.reduceMod, FL_plank, FL_isWithin, FL_no, FL_yes, FL_none, FL_answer]
    · simp (disch := omega) only [bP, bE, bV, ltM, ltI, st_eq, st_ne, w32_id, w64_id, ↓reduceIte, ilt_t, ilt_f, ile_t, ile_f, ieq_t, ieq_f, not_true_eq_false, not_false_eq_true, and_true, true_and, and_self, and_false, false_and, Int.reduceMod, Mo_plank, Mo_is, Mo_refuse, Mo_gives, Mo_isFrom, q2, q3]
  have e1 := c_hs (m := m) (k := a0) (by omega) (by omega)
  have e2 := m_hr (m := st m 0 0 0) (k := a0) (z := (z : Int) + 1) (by omega) (by omega) (by omega) (by omega) (by rw [st_ne _ _ _ (by decide)]; omega) FU 0 0 (by omega) (by omega) (by omega) (by rw [FU_eq]; omega)
  obtain ⟨k, ek⟩ : ∃ k : Nat, a0 = (k : Int) := ⟨a0.toNat, by omega⟩
  have e3 := hs_hr ⟨z, z3⟩ ⟨x, x16⟩ ⟨k, by omega⟩ x2 (by rw [← q9, ← ek]; omega)
  have e3' : hsS (m 39 6) a0 6 0 0 = hrS (m 75 47) a0 ((z : Int) + 1) (z + 1) 0 0 := by rw [e39, ek, ex]; exact e3
  refine Stq.mk (x := hsS (m 39 6) a0 6 0 0) (m1 := st m 0 0 0) (y := hsS (m 39 6) a0 6 0 0) (m2 := st (st m 0 0 0) 75 1 0) ?_ ?_ rfl (h.stat 0)
  · unfold FL_plank
    rw [c0, w32_id (x := m 39 4) (by omega) (by omega), if_pos (by omega), if_neg (by omega), if_pos (by omega), if_pos k2, e1, bP_some]
    rfl
  · show Mo_plank a0 (st m 0 0 0) = _
    unfold Mo_plank
    rw [st_ne m 0 0 (show 75 ≠ 0 by decide), c0, q2, w32_id (x := m 39 4) (by omega) (by omega), w32_id (x := m 75 47) (by omega) (by omega), if_pos (by omega), if_neg (by omega), if_pos (by omega), if_pos k2, e2, st_ne m 0 0 (show 75 ≠ 0 by decide), e3']
    congr 2
