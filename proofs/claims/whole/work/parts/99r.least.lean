/-! layer 2: the call least -/
theorem ovr_cP {F P P' o : Int → Int} : ∀ (d : Nat), (∀ k : Int, 0 ≤ k → k < d → P k = P' k) → ovr F P o d = ovr F P' o d
  | 0, _ => rfl
  | d + 1, h => by rw [ovr, ovr, ovr_cP d (fun k a b => h k a (by omega)), h d (by omega) (by omega)]
theorem lfT_P {F P P' : Int → Int} {eye S W : Int} {n : Nat} (h : ∀ k : Int, 0 ≤ k → k < n → P k = P' k) : lfT F P eye S W n = lfT F P' eye S W n := by
  funext o b
  have v : Vl F P o n ↔ Vl F P' o n := by
    unfold Vl
    constructor
    · intro z k hk; rw [← h k (by omega) (by omega)]; exact z k hk
    · intro z k hk; rw [h k (by omega) (by omega)]; exact z k hk
  unfold lfT
  rw [ovr_cP n h]
  simp only [v]
theorem alC_b (F : Int → Int) (eye set : Int) {S W : Int} (s : gSW S W) : 0 ≤ alC F eye set S W ∧ alC F eye set S W ≤ 400 := by
  have b0 := vwC_b F eye set s (v := 0) (by omega) (by omega)
  have b1 := vwC_b F eye set s (v := 1) (by omega) (by omega)
  have b2 := vwC_b F eye set s (v := 2) (by omega) (by omega)
  unfold alC; omega
/-- behind least of both sides -/
theorem Rel_le {m ma mb : Mem} (h : Rel m) {s : Int} (a1 : ∀ c, c ≠ 7 → c ≠ 32 → c ≠ 33 → c ≠ 34 → c ≠ 35 → c ≠ 36 → ma c = m c) (a2 : ∀ i, i ≠ 14 → i ≠ 15 → ma 7 i = m 7 i) (b1 : ∀ c, c ≠ 75 → c ≠ 89 → c ≠ 90 → c ≠ 91 → c ≠ 92 → mb c = st ma 0 0 s c) (b2 : ∀ i, i < 23 ∨ 28 < i → i ≠ 44 → mb 75 i = m 75 i) (hR : Rme mb) : Rel (st mb 75 1 s) := by
  have c0 : ∀ i, i ≠ 0 → mb 0 i = m 0 i := fun i hi => by rw [b1 0 (by decide) (by decide) (by decide) (by decide) (by decide), st_eq, if_neg hi, a1 0 (by decide) (by decide) (by decide) (by decide) (by decide) (by decide)]
  have ag : Ag [0, 1, 8] m mb := by
    intro c i q
    by_cases e75 : c = 75
    · subst e75
      by_cases hi : (i < 23 ∨ 28 < i) ∧ i ≠ 44
      · exact b2 i hi.1 hi.2
      · have : i = 23 ∨ i = 24 ∨ i = 25 ∨ i = 26 ∨ i = 27 ∨ i = 28 ∨ i = 44 := by omega
        rcases this with z | z | z | z | z | z | z <;> subst z <;> exact absurd (by decide) q
    have n89 : c ≠ 89 := fun z => q (by subst z; simp [comp])
    have n90 : c ≠ 90 := fun z => q (by subst z; simp [comp])
    have n91 : c ≠ 91 := fun z => q (by subst z; simp [comp])
    have n92 : c ≠ 92 := fun z => q (by subst z; simp [comp])
    have n33 : c ≠ 33 := fun z => q (by subst z; simp [comp])
    have n34 : c ≠ 34 := fun z => q (by subst z; simp [comp])
    have n35 : c ≠ 35 := fun z => q (by subst z; simp [comp])
    have n36 : c ≠ 36 := fun z => q (by subst z; simp [comp])
    have n32 : c ≠ 32 := fun z => q (by
      subst z
      show (if i = 7 then 8 else 0) ∈ [0, 1, 8]
      split <;> decide)
    by_cases e0 : c = 0
    · subst e0
      exact c0 i (fun z => q (by subst z; decide))
    rw [b1 c e75 n89 n90 n91 n92, st_ne _ _ _ e0]
    by_cases e7 : c = 7
    · subst e7
      exact a2 i (fun z => q (by subst z; decide)) (fun z => q (by subst z; decide))
    rw [a1 c e7 n32 n33 n34 n35 n36]
  have rs : Rst (st mb 75 1 s) := by
    refine Rst_set h.1 (k := s) ?_ (by rw [st_eq, if_pos rfl]) ?_ ?_ ?_ ?_
    · show mb 0 0 = s; rw [b1 0 (by decide) (by decide) (by decide) (by decide) (by decide), st_eq, if_pos rfl]
    · show mb 0 1 = m 0 1; exact c0 1 (by decide)
    · show mb 0 2 = m 0 2; exact c0 2 (by decide)
    · rw [st_eq, if_neg (by decide)]; exact b2 2 (by decide) (by decide)
    · rw [st_eq, if_neg (by decide)]; exact b2 3 (by decide) (by decide)
  refine h.upd [0, 1, 8] (ag.st (by decide)) (fun _ => rs) (by simp) (by simp) (by simp) (by simp) (by simp) (by simp) (fun _ => ?_) (by simp) (by simp)
  exact hR
theorem s_least {m : Mem} (h : Rel m) {a0 a1 a2 : Int} (c0 : w32 a0 = a0) (c1 : w32 a1 = a1) (c2 : w32 a2 = a2) : Stq w32 (FL_least a0 a1 a2 m) (fun m1 => Mo_least a0 a1 a2 m1) := by
  have d0 := cn c0
  have d1 := cn c1
  have d2 := cn c2
  by_cases k0 : ¬ (0 ≤ a0 ∧ a0 ≤ 3)
  · have q : a0 < 0 ∨ 3 < a0 := by omega
    refine Stq.mk (x := -1) (m1 := st m 0 0 1) (y := -1) (m2 := st (st m 0 0 1) 75 1 1) ?_ ?_ rfl (h.stat 1)
    · rcases q with q | q <;> simp (disch := omega) only [bP, bE, bV, ltM, ltI, st_eq, st_ne, w32_id, w64_id, ↓reduceIte, ilt_t, ilt_f, ile_t, ile_f, ieq_t, ieq_f, not_true_eq_false, not_false_eq_true, and_true, true_and, and_self, and_false, false_and, Int.reduceMod, FL_least, FL_isWithin, FL_no, FL_yes, FL_none, FL_answer, Trays_isTray]
    · rcases q with q | q <;> simp (disch := omega) only [bP, bE, bV, ltM, ltI, st_eq, st_ne, w32_id, w64_id, ↓reduceIte, ilt_t, ilt_f, ile_t, ile_f, ieq_t, ieq_f, not_true_eq_false, not_false_eq_true, and_true, true_and, and_self, and_false, false_and, Int.reduceMod, Mo_least, Mo_is, Mo_refuse, Mo_gives, Mo_isFrom, Mo_wrongPoints, Mo_isTray]
  replace k0 := Decidable.not_not.mp k0
  by_cases k1 : ¬ (1 ≤ a1 ∧ a1 ≤ 5)
  · have q : a1 < 1 ∨ 5 < a1 := by omega
    refine Stq.mk (x := -1) (m1 := st m 0 0 1) (y := -1) (m2 := st (st m 0 0 1) 75 1 1) ?_ ?_ rfl (h.stat 1)
    · rcases q with q | q <;> simp (disch := omega) only [bP, bE, bV, ltM, ltI, st_eq, st_ne, w32_id, w64_id, ↓reduceIte, ilt_t, ilt_f, ile_t, ile_f, ieq_t, ieq_f, not_true_eq_false, not_false_eq_true, and_true, true_and, and_self, and_false, false_and, Int.reduceMod, FL_least, FL_isWithin, FL_no, FL_yes, FL_none, FL_answer, Trays_isTray]
    · rcases q with q | q <;> simp (disch := omega) only [bP, bE, bV, ltM, ltI, st_eq, st_ne, w32_id, w64_id, ↓reduceIte, ilt_t, ilt_f, ile_t, ile_f, ieq_t, ieq_f, not_true_eq_false, not_false_eq_true, and_true, true_and, and_self, and_false, false_and, Int.reduceMod, Mo_least, Mo_is, Mo_refuse, Mo_gives, Mo_isFrom, Mo_wrongPoints, Mo_isTray]
  replace k1 := Decidable.not_not.mp k1
  by_cases k2 : ¬ (1 ≤ a2 ∧ a2 ≤ 3)
  · have q : a2 < 1 ∨ 3 < a2 := by omega
    refine Stq.mk (x := -1) (m1 := st m 0 0 1) (y := -1) (m2 := st (st m 0 0 1) 75 1 1) ?_ ?_ rfl (h.stat 1)
    · rcases q with q | q <;> simp (disch := omega) only [bP, bE, bV, ltM, ltI, st_eq, st_ne, w32_id, w64_id, ↓reduceIte, ilt_t, ilt_f, ile_t, ile_f, ieq_t, ieq_f, not_true_eq_false, not_false_eq_true, and_true, true_and, and_self, and_false, false_and, Int.reduceMod, FL_least, FL_isWithin, FL_no, FL_yes, FL_none, FL_answer, Trays_isTray]
    · rcases q with q | q <;> simp (disch := omega) only [bP, bE, bV, ltM, ltI, st_eq, st_ne, w32_id, w64_id, ↓reduceIte, ilt_t, ilt_f, ile_t, ile_f, ieq_t, ieq_f, not_true_eq_false, not_false_eq_true, and_true, true_and, and_self, and_false, false_and, Int.reduceMod, Mo_least, Mo_is, Mo_refuse, Mo_gives, Mo_isFrom, Mo_wrongPoints, Mo_isTray]
  replace k2 := Decidable.not_not.mp k2
  obtain ⟨t0, t1⟩ := k0
  obtain ⟨n0, n1⟩ := k1
  obtain ⟨l0, l1⟩ := k2
  obtain ⟨n, rfl⟩ : ∃ n : Nat, a1 = n := ⟨a1.toNat, by omega⟩
  rcases h.2.1 a0 t0 (by omega) with ⟨q1, q2⟩ | ⟨q1, q2, q3, q4, q5, q6, q7⟩
  · refine Stq.mk (x := -1) (m1 := st m 0 0 2) (y := -1) (m2 := st (st m 0 0 2) 75 1 2) ?_ ?_ rfl (h.stat 2)
    · simp (disch := omega) only [bP, bE, bV, ltM, ltI, st_eq, st_ne, w32_id, w64_id, ↓reduceIte, ilt_t, ilt_f, ile_t, ile_f, ieq_t, ieq_f, not_true_eq_false, not_false_eq_true, and_true, true_and, and_self, and_false, false_and, Int.reduceMod, FL_least, FL_isWithin, FL_no, FL_yes, FL_none, FL_answer, Trays_lackOf, Trays_isTray, Trays_isMissing, Trays_sortOf, Trays_hasRun, Trays_sizeOf]
    · simp (disch := omega) only [bP, bE, bV, ltM, ltI, st_eq, st_ne, w32_id, w64_id, ↓reduceIte, ilt_t, ilt_f, ile_t, ile_f, ieq_t, ieq_f, not_true_eq_false, not_false_eq_true, and_true, true_and, and_self, and_false, false_and, Int.reduceMod, Mo_least, Mo_is, Mo_refuse, Mo_gives, Mo_isFrom, Mo_wrongPoints, Mo_isTray]
  by_cases g2 : ¬ (n : Int) ≤ m 4 a0
  · refine Stq.mk (x := -1) (m1 := st m 0 0 3) (y := -1) (m2 := st (st m 0 0 3) 75 1 3) ?_ ?_ rfl (h.stat 3)
    · simp (disch := omega) only [bP, bE, bV, ltM, ltI, st_eq, st_ne, w32_id, w64_id, ↓reduceIte, ilt_t, ilt_f, ile_t, ile_f, ieq_t, ieq_f, not_true_eq_false, not_false_eq_true, and_true, true_and, and_self, and_false, false_and, Int.reduceMod, FL_least, FL_isWithin, FL_no, FL_yes, FL_none, FL_answer, Trays_lackOf, Trays_isTray, Trays_isMissing, Trays_sortOf, Trays_hasRun, Trays_sizeOf]
    · simp (disch := omega) only [bP, bE, bV, ltM, ltI, st_eq, st_ne, w32_id, w64_id, ↓reduceIte, ilt_t, ilt_f, ile_t, ile_f, ieq_t, ieq_f, not_true_eq_false, not_false_eq_true, and_true, true_and, and_self, and_false, false_and, Int.reduceMod, Mo_least, Mo_is, Mo_refuse, Mo_gives, Mo_isFrom, Mo_wrongPoints, Mo_isTray]
  replace g2 := Decidable.not_not.mp g2
  obtain ⟨⟨z0, z1, -, -, z4, -⟩, hs, hv, -, hp⟩ := shF h
  have ey := eyC h
  have lk : w32 (Trays_lackOf a0 n m) = 0 := by simp (disch := omega) only [bP, bE, bV, ltM, ltI, st_eq, st_ne, w32_id, w64_id, ↓reduceIte, ilt_t, ilt_f, ile_t, ile_f, ieq_t, ieq_f, not_true_eq_false, not_false_eq_true, and_true, true_and, and_self, and_false, false_and, Int.reduceMod, Trays_lackOf, Trays_isTray, Trays_isMissing, Trays_sortOf, Trays_hasRun, Trays_sizeOf]
  have fC : FL_least a0 n a2 m = bE (Mender_choose a0 n m) fun x5 m7 => (if ¬ (w32 x5) = 0 then (bE (Mender_findLeast a2 m7) fun x9 m11 => (if ¬ (w32 x9) = 0 then some (m11 32 6, st m11 0 0 0) else some (-1, st m11 0 0 6))) else some (-1, st m7 0 0 5)) := by
    simp (disch := omega) only [ltM, ltI, st_eq, st_ne, w32_id, w64_id, ↓reduceIte, ilt_t, ilt_f, ile_t, ile_f, ieq_t, ieq_f, not_true_eq_false, not_false_eq_true, and_true, true_and, and_self, and_false, false_and, Int.reduceMod, FL_least, FL_isWithin, FL_no, FL_yes, FL_none, FL_answer, Trays_isTray, lk]
  have fM : ∀ mm : Mem, mm 78 = m 78 → Mo_least a0 n a2 mm = bE (Mo_wrongPoints_L56 a0 n FU 0 mm) fun x1 m3 => (if (w32 x1) ≤ 0 then (Mo_least_L34 n a2 ((2 * a2) + 1) (fun u7 => (Mo_least_L62 n a2 ((2 * a2) + 1) u7 FU (-1) 0 0 m3)) m3 FU 1 0) else some (-1, st m3 75 1 x1)) := by
    intro mm k
    have k' : mm 78 a0 = m 4 a0 := by rw [k]; exact q6
    simp (disch := omega) only [w32_id, w64_id, ↓reduceIte, ilt_t, ilt_f, ile_t, ile_f, ieq_t, ieq_f, not_true_eq_false, not_false_eq_true, and_true, true_and, and_self, and_false, false_and, Int.reduceMod, Mo_least, Mo_wrongPoints, Mo_is, Mo_refuse, Mo_gives, Mo_isFrom, Mo_isTray]
  have hQ : ∀ k : Int, 0 ≤ k → k < n → m 2 (60 * a0 + k) = m 2 (60 * a0 + k) ∧ w64 (m 2 (60 * a0 + k)) = m 2 (60 * a0 + k) := fun k a b => ⟨rfl, (q7 k a (by omega)).2⟩
  obtain ⟨m7, x, x1, x2, x3, x4⟩ := c_choose (m := m) (t := a0) (n := n) (Q := fun k => m 2 (60 * a0 + k)) hs t0 (by omega) n0 n1 hQ FU 0 0 (st m 32 3 0) (by omega) (by omega) (by rw [FU_eq]; omega) (fun c a b => by rw [st_ne _ _ _ a]) (fun i a => by rw [st_eq, if_neg a]) (by rw [st_eq, if_pos rfl]) (fun i a b => by omega) (fun i a b => by omega) (fun q _ _ => by rw [kb_0]; exact ⟨fun z => absurd z (by decide), fun ⟨i, a, b, _⟩ => by omega⟩)
  have x1' : Mender_choose a0 n m = some (x, m7) := x1
  -- the reference's points, from any memory that the class leaves
  have ref : ∀ m1 : Mem, (∀ c, c = 76 ∨ c = 79 → m1 c = m c) → ∃ mm' x, Mo_wrongPoints_L56 a0 n FU 0 m1 = some (x, mm') ∧ (∀ c, c ≠ 89 → c ≠ 90 → mm' c = m1 c) ∧ ((x = 0 ∧ (∀ i, 0 ≤ i → i < (n : Int) → gdP m (fun k => m 2 (60 * a0 + k)) i) ∧ ∀ i, 0 ≤ i → i < (n : Int) → mm' 89 i = m 2 (60 * a0 + i) ∧ mm' 90 i = m 76 (80 + m 2 (60 * a0 + i))) ∨ (x = 5 ∧ ¬ ∀ i, 0 ≤ i → i < (n : Int) → gdP m (fun k => m 2 (60 * a0 + k)) i)) := by
    intro m1 k1
    obtain ⟨mm', x, y1, y2, y3⟩ := m_w56 (m := m1) (t := a0) (n := n) (S := m 7 0) (W := m 7 1) (Q := fun k => m 2 (60 * a0 + k)) (kp := fun q => Sheet_isKept 7 q m) hs (by rw [k1 76 (Or.inl rfl)]; exact z0) (by rw [k1 76 (Or.inl rfl)]; exact z1) t0 (by omega) n0 n1 (fun k a b => ⟨by rw [k1 79 (Or.inr rfl)]; exact (q7 k a (by omega)).1.symm, (q7 k a (by omega)).2⟩) (fun q hq => ⟨by rw [k1 76 (Or.inl rfl)]; exact (hp q hq).2.2, by have := bI01 (decide (Sheet_isKept 7 q m = 1)); have e := kp_is (m := m) (q := q); show 0 ≤ Sheet_isKept 7 q m ∧ Sheet_isKept 7 q m ≤ 1; omega⟩) FU 0 m1 (by omega) (by omega) (by rw [FU_eq]; omega) (fun _ _ _ => rfl) (fun i a b => by omega) (fun i a b => by omega)
    refine ⟨mm', x, y1, y2, ?_⟩
    rw [k1 76 (Or.inl rfl)] at y3
    exact y3
  have e7 : m7 7 = m 7 := x2 7 (by decide) (by decide)
  rcases x4 with ⟨xe, xg, xn, xp⟩ | ⟨xe, xg⟩
  rotate_left
  · -- a wrong point
    obtain ⟨mb, y, y1, y2, y3⟩ := ref (st m7 0 0 5) (fun c hc => by rw [st_ne _ _ _ (by omega)]; exact x2 c (by omega) (by omega))
    rcases y3 with ⟨ye, yg, -⟩ | ⟨ye, -⟩
    · exact absurd yg xg
    · subst ye
      refine Stq.mk (x := -1) (m1 := st m7 0 0 5) (y := -1) (m2 := st mb 75 1 5) ?_ ?_ rfl (Rel_le h (ma := m7) (fun c a b c' d e f => x2 c b c') (fun i _ _ => by rw [e7]) (fun c a b c' d e => y2 c b c') (fun i _ _ => by rw [y2 75 (by decide) (by decide), st_ne _ _ _ (by decide), x2 75 (by decide) (by decide)]) ?_)
      · rw [fC, x1', bE_some, xe, if_neg (by decide)]
      · show Mo_least a0 n a2 _ = _
        rw [fM _ (by rw [st_ne _ _ _ (by decide)]; exact x2 78 (by decide) (by decide)), y1, bE_some, if_neg (by decide)]
      · have := h.2.2.2.2.2.2.2.1
        unfold Rme at this ⊢
        rw [y2 32 (by decide) (by decide), y2 75 (by decide) (by decide), y2 92 (by decide) (by decide), y2 36 (by decide) (by decide), st_ne (c' := 32) _ _ _ (by decide), st_ne (c' := 75) _ _ _ (by decide), st_ne (c' := 92) _ _ _ (by decide), st_ne (c' := 36) _ _ _ (by decide), x3 7 (by decide), x2 75 (by decide) (by decide), x2 92 (by decide) (by decide), x2 36 (by decide) (by decide)]
        exact this
  -- good points
  obtain ⟨K, kk1, kk2⟩ := c_chosen (m := m7) (n := n) xn (by omega) n1 (fun k a b => by rw [xp k a b]; exact pt64 hs (xg k a b).1) (d := 0) (by omega) (by omega)
  have u1 := c_unfB (m := m7) K (by rw [e7]; exact hs) (by rw [e7, x2 10 (by decide) (by decide)]; exact flC h) (by rw [e7]; exact ey)
  rw [e7, x2 10 (by decide) (by decide)] at u1
  obtain ⟨B, hB⟩ : ∃ B, lfS (lfT (m 10) (m7 33) (m 7 4) (m 7 0) (m 7 1) n) a2 n ((0 : Nat) : Int) (fun _ => 0) (1073741824, 1073741824, fun _ => 0) = B := ⟨_, rfl⟩
  have cls : ∃ mf, Mender_findLeast a2 m7 = (if ¬ B.1 = 1073741824 then some (1, (cpy (st mf 32 7 n) 35 0 36 0 5)) else some (0, mf)) ∧ (∀ c, c ≠ 7 → c ≠ 32 → c ≠ 33 → c ≠ 34 → c ≠ 35 → mf c = m c) ∧ (∀ i, i ≠ 14 → i ≠ 15 → mf 7 i = m 7 i) ∧ mf 32 7 = m 32 7 ∧ (¬ B.1 = 1073741824 → mf 32 6 = B.1 ∧ ∀ k, 0 ≤ k → k < (n : Int) → mf 35 k = B.2.2 k) := by
    by_cases al : alC (m 10) (m 7 4) K (m 7 0) (m 7 1) = 0
    · have hal := (alC_0 (m 10) (m 7 4) K hs).mp al
      have fr : ∀ c, c ≠ 32 → (st (st (st m7 32 4 a2) 32 6 1073741824) 32 5 1073741824) c = m7 c := fun c a => by rw [st_ne _ _ _ a, st_ne _ _ _ a, st_ne _ _ _ a]
      have fr32 : ∀ i, i ≠ 4 → i ≠ 5 → i ≠ 6 → (st (st (st m7 32 4 a2) 32 6 1073741824) 32 5 1073741824) 32 i = m7 32 i := fun i i4 i5 i6 => by rw [st_eq, if_neg i5, st_eq, if_neg i6, st_eq, if_neg i4]
      obtain ⟨mB, eB⟩ : ∃ mB, st (st (st m7 32 4 a2) 32 6 1073741824) 32 5 1073741824 = mB := ⟨_, rfl⟩
      have b4 : mB 32 4 = a2 := by rw [← eB, st_eq, if_neg (by decide), st_eq, if_neg (by decide), st_eq, if_pos rfl]
      have b6 : mB 32 6 = 1073741824 := by rw [← eB, st_eq, if_neg (by decide), st_eq, if_pos rfl]
      have b5 : mB 32 5 = 1073741824 := by rw [← eB, st_eq, if_pos rfl]
      rw [eB] at fr fr32
      have f10 : mB 10 = m 10 := by rw [fr 10 (by decide), x2 10 (by decide) (by decide)]
      have f7 : mB 7 = m 7 := by rw [fr 7 (by decide), e7]
      have f33 : mB 33 = m7 33 := fr 33 (by decide)
      have lq : Lq mB n a2 := by
        unfold Lq
        rw [f10, f7, f33]
        exact ⟨hs, by rw [fr32 3 (by decide) (by decide) (by decide)]; exact xn, b4, by omega, l0, l1, ey, fun k a b => by rw [xp k a b]; exact (xg k a b).1, fun i k a b c => by rw [xp i a (by omega), xp k (by omega) c]; exact (xg k (by omega) c).2.2 i a b, flC h⟩
      obtain ⟨mf, w1, w2, -⟩ := c_try lq n 8 0 (fun _ => 0) (1073741824, 1073741824, fun _ => 0) mB (by omega) (by omega) ⟨⟨fun _ _ _ _ _ _ => rfl, fun _ _ _ => rfl, fun _ _ _ => rfl⟩, rfl, ⟨b6, b5⟩, by decide, Or.inl rfl⟩ (fun k a b => by omega) (fun k a b => by omega) (by
        intro v l p hpl hk
        rw [ovr, f10]
        rw [f7] at hpl hk ⊢
        refine hal v l p hpl ((hold_tc hs hpl kk2).mpr (fun k a b => ?_))
        rw [← f33]; exact hk k (by omega) b)
      rw [f10, f7, f33, hB] at w2
      obtain ⟨⟨v1, v2, v3⟩, v4, ⟨v5, -⟩, v6, v7⟩ := w2
      refine ⟨mf, ?_, fun c a b c' d e => ?_, fun i a b => by rw [v2 i a b, f7], by rw [v3 7 (by decide) (by decide), fr32 7 (by decide) (by decide) (by decide), x3 7 (by decide)], fun z => ⟨v5, ?_⟩⟩
      · unfold Mender_findLeast
        rw [kk1, bP_some, u1, bP_some, al, if_pos (by decide), eB]
        unfold Mender_tryFrom
        have w1' : Mender_tryFromR 8 0 0 0 mB = some mf := w1
        rw [w1', bV_some, v5, w32_id (x := B.1) (by omega) (by omega), v3 3 (by decide) (by decide), fr32 3 (by decide) (by decide) (by decide), xn]
      · by_cases c10 : c = 10
        · rw [c10, v4]; rfl
        · rw [v1 c a c10 b d e, fr c b, x2 c b c']
      · rcases v7 with v7 | v7
        · exact absurd v7 z
        · exact v7
    · have hb : B = (1073741824, 1073741824, fun _ => 0) := by
        rw [← hB]
        refine lfS_id n _ _ (fun o' _ => ?_)
        unfold lfT
        rw [if_neg]
        rintro ⟨-, af, -⟩
        apply al
        refine (alC_0 (m 10) (m 7 4) K hs).mpr (fun v l p hpl hw => ?_)
        have hw' := (hold_tc hs hpl kk2).mp hw
        have := (alU_0 _ _ hs).mp af v l p hpl
        have e := uf_ov (F := m 10) (P := m7 33) (o := o') (eye := m 7 4) (f := fsS (m 7 0) v l) (a := srS v) (p := p) 0 n (fun k a b => hw' k (by omega) (by omega))
        rw [Nat.zero_add] at e
        rw [e] at this
        exact this
      have ab := alC_b (m 10) (m 7 4) K hs
      refine ⟨m7, ?_, fun c _ b c' _ _ => x2 c b c', fun i _ _ => by rw [e7], x3 7 (by decide), fun z => absurd (by rw [hb]) z⟩
      unfold Mender_findLeast
      rw [kk1, bP_some, u1, bP_some, w32_id (x := alC (m 10) (m 7 4) K (m 7 0) (m 7 1)) (by omega) (by omega), if_neg al, hb, if_neg (by decide)]
  obtain ⟨mf, w1, w2, w3, w4, w5⟩ := cls
  have rfn : ∀ m1 : Mem, (∀ c, c = 76 ∨ c = 79 ∨ c = 78 → m1 c = m c) → ∃ (v7 : Int) (mb : Mem), Mo_least a0 n a2 m1 = (if ¬ v7 = -1 then some (v7, st mb 75 1 0) else some (-1, st mb 75 1 6)) ∧ (∀ c, c ≠ 75 → c ≠ 89 → c ≠ 90 → c ≠ 91 → c ≠ 92 → mb c = m1 c) ∧ (∀ i, i < 23 ∨ 28 < i → i ≠ 44 → mb 75 i = m1 75 i) ∧ ((v7 = -1 ∧ B.1 = 1073741824 ∧ mb 75 44 = m1 75 44 ∧ mb 92 = m1 92) ∨ (0 ≤ v7 ∧ v7 ≤ 100 ∧ B.1 = v7 ∧ mb 75 44 = n ∧ ∀ k, 0 ≤ k → k < (n : Int) → mb 92 k = B.2.2 k)) := by
    intro m1 k1
    obtain ⟨m3, y, y1, y2, y3⟩ := ref m1 (fun c hc => k1 c (by omega))
    rcases y3 with ⟨ye, yg, yp⟩ | ⟨ye, yg⟩
    rotate_left
    · exact absurd xg yg
    have g76 : m3 76 = m 76 := by rw [y2 76 (by decide) (by decide), k1 76 (by omega)]
    have mq : Mq m3 n (m 7 0) (m 7 1) := by
      unfold Mq
      rw [g76]
      exact ⟨hs, ⟨z0, z1⟩, by omega, flMb h, fun k a b => by rw [(yp k a b).1]; exact (xg k a b).1, fun k a b => by rw [(yp k a b).1]; exact (yp k a b).2⟩
    have nb := wd_b (n := n) (wd := 2 * a2 + 1) (by omega) (by omega) (by omega) (by omega)
    obtain ⟨v7, v8, mb, b1, b2, b3, b4⟩ := m_l62 (m := m3) (n := n) (r := a2) (wd := 2 * a2 + 1) (N := (2 * a2 + 1) ^ n) (by omega) (by omega) mq rfl l0 l1 nb.1 nb.2 FU (-1) 0 0 (1073741824, 1073741824, fun _ => 0) m3 (by omega) nb.1 (by rw [FU_eq]; omega) ⟨fun _ _ _ _ => rfl, fun _ _ _ => rfl, Or.inl ⟨rfl, rfl, rfl, rfl, rfl, rfl⟩⟩
    obtain ⟨wn, ewn⟩ : ∃ wn : Nat, (wn : Int) = 2 * a2 + 1 := ⟨(2 * a2 + 1).toNat, by omega⟩
    have ef : foS (fun w b => lfT (fun q => m3 76 (80 + q)) (m3 89) (m3 76 4) (m 7 0) (m 7 1) n (vwS (2 * a2 + 1) a2 n w) b) ((2 * a2 + 1) ^ n - 0).toNat 0 (1073741824, 1073741824, fun _ => 0) = B := by
      rw [← hB, g76, z4, lfT_F (G := m 10) hs (flM h) (fun k a b => by rw [(yp k a b).1]; exact (xg k a b).1), lfT_P (P' := m7 33) (fun k a b => by rw [(yp k a b).1, xp k a b])]
      have v := vw_fold (T := lfT (m 10) (m7 33) (m 7 4) (m 7 0) (m 7 1) n) (r := a2) (n := n) l0 (fun o o' b ho => lfT_c ho b) ewn n 0 (fun _ => 0) (1073741824, 1073741824, fun _ => 0) (Nat.le_refl _) (by omega) (fun k a b => by omega)
      rw [Nat.sub_self, Int.zero_mul] at v
      rw [show ((2 * a2 + 1) ^ n - 0).toNat = wn ^ n by rw [← ewn, ← Int.natCast_pow]; omega, ← ewn]
      exact v
    rw [ef] at b4
    refine ⟨v7, mb, ?_, fun c a b c' d e => by rw [b2 c a d e, y2 c b c'], fun i a b => by rw [b3 i a b, y2 75 (by decide) (by decide)], ?_⟩
    · rw [fM m1 (k1 78 (by omega)), y1, bE_some, ye, if_pos (by decide)]
      have e34 := m_l34 (n := n) (r := a2) (wd := 2 * a2 + 1) (m := m3) (by omega) (K0 := fun u7 => (Mo_least_L62 n a2 ((2 * a2) + 1) u7 FU (-1) 0 0 m3)) n FU 0 (by omega) (by rw [FU_eq]; omega)
      rw [Int.pow_zero] at e34
      exact e34.trans b1
    · rcases b4 with ⟨b, -, c, d, e, f⟩ | ⟨a, b, c, d, e⟩
      · exact Or.inl ⟨b, c, by rw [e, y2 75 (by decide) (by decide)], by rw [f, y2 92 (by decide) (by decide)]⟩
      · exact Or.inr ⟨a.1, a.2.1, b, d, e⟩
  by_cases gB : B.1 = 1073741824
  · rw [if_neg (not_not_intro gB)] at w1
    have kf : ∀ c, c = 76 ∨ c = 79 ∨ c = 78 → st mf 0 0 6 c = m c := fun c hc => by rw [st_ne _ _ _ (by omega)]; exact w2 c (by omega) (by omega) (by omega) (by omega) (by omega)
    obtain ⟨v7, mb, r1, r2, r3, r4⟩ := rfn (st mf 0 0 6) kf
    have f75 : st mf 0 0 6 75 = m 75 := by rw [st_ne _ _ _ (by decide)]; exact w2 75 (by decide) (by decide) (by decide) (by decide) (by decide)
    rcases r4 with ⟨y1, -, y3, y4⟩ | ⟨y1, y2, y3, -⟩
    · rw [if_neg (not_not_intro y1)] at r1
      refine Stq.mk (x := -1) (m1 := st mf 0 0 6) (y := -1) (m2 := st mb 75 1 6) ?_ r1 rfl (Rel_le h (ma := mf) (fun c a b c' d e f => w2 c a b c' d e) w3 r2 (fun i a b => by rw [r3 i a b, f75]) ?_)
      · rw [fC, x1', bE_some, xe, if_pos (by decide), w1, bE_some, if_neg (by decide)]
      · have := h.2.2.2.2.2.2.2.1
        unfold Rme at this ⊢
        rw [y3, y4, r2 32 (by decide) (by decide) (by decide) (by decide) (by decide), r2 36 (by decide) (by decide) (by decide) (by decide) (by decide), f75, st_ne (c' := 92) _ _ _ (by decide), st_ne (c' := 32) _ _ _ (by decide), st_ne (c' := 36) _ _ _ (by decide), w4, w2 36 (by decide) (by decide) (by decide) (by decide) (by decide), w2 92 (by decide) (by decide) (by decide) (by decide) (by decide)]
        exact this
    · omega
  · rw [if_pos gB] at w1
    obtain ⟨v5, v6⟩ := w5 gB
    obtain ⟨mg, eg⟩ : ∃ mg, cpy (st mf 32 7 n) 35 0 36 0 5 = mg := ⟨_, rfl⟩
    rw [eg] at w1
    have g1 : ∀ c, c ≠ 32 → c ≠ 36 → mg c = mf c := fun c a b => by
      rw [← eg]; funext i; unfold cpy; rw [if_neg b, st_ne _ _ _ a]
    have g32 : ∀ i, i ≠ 7 → mg 32 i = mf 32 i := fun i a => by
      rw [← eg]; unfold cpy; rw [if_neg (by decide), st_eq, if_neg a]
    have g7 : mg 32 7 = n := by rw [← eg]; unfold cpy; rw [if_neg (by decide), st_eq, if_pos rfl]
    have g36 : ∀ k, 0 ≤ k → k < 5 → mg 36 k = mf 35 k := fun k a b => by
      rw [← eg]; unfold cpy; rw [if_pos rfl, if_pos (by omega), st_ne _ _ _ (by decide), show (0 : Int) + (k - 0) = k by omega]
    have kf : ∀ c, c = 76 ∨ c = 79 ∨ c = 78 → st mg 0 0 0 c = m c := fun c hc => by rw [st_ne _ _ _ (by omega), g1 c (by omega) (by omega)]; exact w2 c (by omega) (by omega) (by omega) (by omega) (by omega)
    obtain ⟨v7, mb, r1, r2, r3, r4⟩ := rfn (st mg 0 0 0) kf
    have f75 : st mg 0 0 0 75 = m 75 := by rw [st_ne _ _ _ (by decide), g1 75 (by decide) (by decide)]; exact w2 75 (by decide) (by decide) (by decide) (by decide) (by decide)
    rcases r4 with ⟨-, y2, -⟩ | ⟨y1, y2, y3, y4, y5⟩
    · exact absurd y2 gB
    · rw [if_pos (by omega)] at r1
      refine Stq.mk (x := mg 32 6) (m1 := st mg 0 0 0) (y := v7) (m2 := st mb 75 1 0) ?_ r1 ?_ (Rel_le h (ma := mg) (fun c a b c' d e f => by rw [g1 c b f]; exact w2 c a b c' d e) (fun i a b => by rw [g1 7 (by decide) (by decide)]; exact w3 i a b) r2 (fun i a b => by rw [r3 i a b, f75]) ?_)
      · rw [fC, x1', bE_some, xe, if_pos (by decide), w1, bE_some, if_pos (by decide)]
      · rw [g32 6 (by decide), v5, y3]
      · have e32 : mb 32 7 = n := by rw [r2 32 (by decide) (by decide) (by decide) (by decide) (by decide), st_ne _ _ _ (by decide), g7]
        unfold Rme
        rw [e32, y4]
        refine Or.inr ⟨by omega, by omega, rfl, fun k a b => ?_⟩
        rw [y5 k a b, r2 36 (by decide) (by decide) (by decide) (by decide) (by decide), st_ne _ _ _ (by decide), g36 k a (by omega), v6 k a b]
