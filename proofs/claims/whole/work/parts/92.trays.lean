/-! layer 2: one call of class and reference -/
def Stq (w : Int → Int) (F : Option (Int × Mem)) (K : Mem → Option (Int × Mem)) : Prop := ∃ x m1 y m2, F = some (x, m1) ∧ K m1 = some (y, m2) ∧ w x = w y ∧ Rel m2
theorem Stq.mk {w : Int → Int} {F : Option (Int × Mem)} {K : Mem → Option (Int × Mem)} {x y : Int} {m1 m2 : Mem} (h1 : F = some (x, m1)) (h2 : K m1 = some (y, m2)) (h3 : w x = w y) (h4 : Rel m2) : Stq w F K := ⟨x, m1, y, m2, h1, h2, h3, h4⟩
theorem cn {a : Int} (h : w32 a = a) : -2147483648 ≤ a ∧ a < 2147483648 := by
  have h1 := w32_lo a; have h2 := w32_hi a; rw [h] at h1 h2; exact ⟨h1, h2⟩
theorem Rel.tr {m m' : Mem} (h : Rel m) (e : Ag [0, 1, 2] m m') (s : Rst m') (t : Rtr m') : Rel m' := h.upd [0, 1, 2] e (fun _ => s) (fun _ => t) (by simp) (by simp) (by simp) (by simp) (by simp) (by simp) (by simp) (by simp)
theorem Rel.tp {m m' : Mem} (h : Rel m) (e : Ag [0, 1, 3] m m') (s : Rst m') (t : Rtp m') : Rel m' := h.upd [0, 1, 3] e (fun _ => s) (by simp) (fun _ => t) (by simp) (by simp) (by simp) (by simp) (by simp) (by simp) (by simp)
theorem Rel.sh {m m' : Mem} (h : Rel m) (e : Ag [0, 1, 4] m m') (s : Rst m') (t : Rsh m') : Rel m' := h.upd [0, 1, 4] e (fun _ => s) (by simp) (by simp) (fun _ => t) (by simp) (by simp) (by simp) (by simp) (by simp) (by simp)
theorem Rel.wy {m m' : Mem} (h : Rel m) (e : Ag [0, 1, 5] m m') (s : Rst m') (t : Rwy m') : Rel m' := h.upd [0, 1, 5] e (fun _ => s) (by simp) (by simp) (by simp) (fun _ => t) (by simp) (by simp) (by simp) (by simp) (by simp)
theorem Rel.mk {m m' : Mem} (h : Rel m) (e : Ag [0, 1, 6] m m') (s : Rst m') (t : Rmk m') : Rel m' := h.upd [0, 1, 6] e (fun _ => s) (by simp) (by simp) (by simp) (by simp) (fun _ => t) (by simp) (by simp) (by simp) (by simp)
theorem Rel.rd {m m' : Mem} (h : Rel m) (e : Ag [0, 1, 7] m m') (s : Rst m') (t : Rrd m') : Rel m' := h.upd [0, 1, 7] e (fun _ => s) (by simp) (by simp) (by simp) (by simp) (by simp) (fun _ => t) (by simp) (by simp) (by simp)
theorem Rel.me {m m' : Mem} (h : Rel m) (e : Ag [0, 1, 8] m m') (s : Rst m') (t : Rme m') : Rel m' := h.upd [0, 1, 8] e (fun _ => s) (by simp) (by simp) (by simp) (by simp) (by simp) (by simp) (fun _ => t) (by simp) (by simp)
theorem Rel.ru {m m' : Mem} (h : Rel m) (e : Ag [0, 1, 9] m m') (s : Rst m') (t : Rru m') : Rel m' := h.upd [0, 1, 9] e (fun _ => s) (by simp) (by simp) (by simp) (by simp) (by simp) (by simp) (by simp) (fun _ => t) (by simp)
theorem Rel.yd {m m' : Mem} (h : Rel m) (e : Ag [0, 1, 10] m m') (s : Rst m') (t : Ryd m') : Rel m' := h.upd [0, 1, 10] e (fun _ => s) (by simp) (by simp) (by simp) (by simp) (by simp) (by simp) (by simp) (by simp) (fun _ => t)
theorem s_status {m : Mem} (h : Rel m) : w32 (FL_status m) = w32 (Mo_status m) := h.1.1
theorem s_top {m : Mem} (h : Rel m) : w64 (FL_top m) = w64 (Mo_top m) := h.1.2.1
theorem s_bottom {m : Mem} (h : Rel m) : w64 (FL_bottom m) = w64 (Mo_bottom m) := h.1.2.2
theorem s_fault {m : Mem} (h : Rel m) (a : Int) : FL_fault a m = Mo_fault a m := by
  unfold FL_fault Mo_fault
  rw [h.2.2.1.2.2.2.2.1, h.2.2.1.2.2.2.2.2]
theorem put0 {t p : Int} {m : Mem} (t0 : 0 ≤ t) (t1 : t < 4) (p0 : 0 ≤ p) (p1 : p < 60) : Trays_put t p 0 m = st m 2 (60 * t + p) 0 := by
  have e : w32 (t * 60 + p) = 60 * t + p := by rw [w32_id (by omega) (by omega)]; omega
  have z8 : w32 (w8 0) = 0 := by decide
  have z16 : w32 (w16 0) = 0 := by decide
  have z32 : w32 0 = 0 := by decide
  unfold Trays_put
  rw [e, if_neg (by omega), if_pos (by omega), z8, z16, z32]
  simp
theorem lay_loop {t many : Int} (t0 : 0 ≤ t) (t1 : t < 4) (n0 : 0 ≤ many) (n1 : many ≤ 60) : ∀ (n : Nat) (v : Int) (m : Mem), 0 ≤ v → v ≤ 60 → (many - v).toNat < n → ∃ m', Trays_lay_L40 t many n v m = some m' ∧ (∀ c, c ≠ 2 → m' c = m c) ∧ (∀ i, m' 2 i = if 60 * t + v ≤ i ∧ i < 60 * t + many then 0 else m 2 i) := by
  intro n
  induction n with
  | zero => intro v m _ _ h; omega
  | succ n ih =>
    intro v m h0 h60 h1
    rw [Trays_lay_L40, w32_id (x := many) (by omega) (by omega), w32_id (x := v) (by omega) (by omega)]
    by_cases hv : many ≤ v
    · refine ⟨m, if_pos hv, fun _ _ => rfl, fun i => ?_⟩
      rw [if_neg (by omega)]
    · rw [if_neg hv, put0 t0 t1 h0 (by omega)]
      obtain ⟨m', e1, e2, e3⟩ := ih (v + 1) (st m 2 (60 * t + v) 0) (by omega) (by omega) (by omega)
      refine ⟨m', e1, fun c hc => by rw [e2 c hc, st_ne _ _ _ hc], fun i => ?_⟩
      rw [e3 i, st_eq]
      by_cases q : i = 60 * t + v
      · rw [if_neg (by omega), if_pos q, if_pos (by omega)]
      · rw [if_neg q]
        by_cases q2 : 60 * t + (v + 1) ≤ i ∧ i < 60 * t + many
        · rw [if_pos q2, if_pos (by omega)]
        · rw [if_neg q2, if_neg (by omega)]
theorem mtray_loop {t many : Int} (t0 : 0 ≤ t) (t1 : t < 4) (n0 : 0 ≤ many) (n1 : many ≤ 60) : ∀ (n : Nat) (v : Int) (m : Mem), 0 ≤ v → v ≤ 60 → (many - v).toNat < n → ∃ m', Mo_tray_L49 t many n v m = some (1, st m' 75 1 0) ∧ (∀ c, c ≠ 79 → m' c = m c) ∧ (∀ i, m' 79 i = if 60 * t + v ≤ i ∧ i < 60 * t + many then 0 else m 79 i) := by
  intro n
  induction n with
  | zero => intro v m _ _ h; omega
  | succ n ih =>
    intro v m h0 h60 h1
    rw [Mo_tray_L49, w32_id (x := many) (by omega) (by omega), w32_id (x := v) (by omega) (by omega)]
    by_cases hv : many ≤ v
    · refine ⟨m, by rw [if_pos hv]; rfl, fun _ _ => rfl, fun i => ?_⟩
      rw [if_neg (by omega)]
    · rw [if_neg hv, w32_id (x := 60 * t + v) (by omega) (by omega), if_pos (by omega)]
      obtain ⟨m', e1, e2, e3⟩ := ih (v + 1) (st m 79 (60 * t + v) 0) (by omega) (by omega) (by omega)
      refine ⟨m', e1, fun c hc => by rw [e2 c hc, st_ne _ _ _ hc], fun i => ?_⟩
      rw [e3 i, st_eq]
      by_cases q : i = 60 * t + v
      · rw [if_neg (by omega), if_pos q, if_pos (by omega)]
      · rw [if_neg q]
        by_cases q2 : 60 * t + (v + 1) ≤ i ∧ i < 60 * t + many
        · rw [if_pos q2, if_pos (by omega)]
        · rw [if_neg q2, if_neg (by omega)]
theorem lk0 {m : Mem} (h : Rel m) {a0 a1 : Int} (c0 : w32 a0 = a0) (c1 : w32 a1 = a1) : ∃ k : Int, 0 ≤ k ∧ k ≤ 3 ∧ Trays_lackOfPlace a0 a1 m = k ∧ (∀ m', m' 78 = m 78 → Mo_wrongPlace a0 a1 m' = some k) ∧ (k = 0 → 0 ≤ a0 ∧ a0 < 4 ∧ 0 ≤ a1 ∧ a1 < m 4 a0 ∧ 0 ≤ m 3 a0 ∧ m 3 a0 ≤ 3 ∧ m 77 a0 = m 3 a0 ∧ m 4 a0 ≤ 60 ∧ m 2 (60 * a0 + a1) = m 79 (60 * a0 + a1)) := by
  have b0 := cn c0
  have b1 := cn c1
  by_cases h0 : 0 ≤ a0 ∧ a0 < 4
  · rcases h.2.1 a0 h0.1 h0.2 with ⟨q1, q2⟩ | ⟨q1, q2, q3, q4, q5, q6, q7⟩
    · refine ⟨2, by omega, by omega, ?_, fun m' e => ?_, by omega⟩
      · simp (disch := omega) only [FL_write, FL_read, Trays_lackOfPlace, Trays_isTray, Trays_isMissing, Trays_sortOf, Trays_hasRun, Trays_sizeOf, w32_id, w64_id, if_pos, if_neg, reduceIte, not_true_eq_false, not_false_eq_true, FL_no, FL_yes, FL_none, Int.reduceMod]
      · have e' : m' 78 a0 = -1 := by rw [e]; exact q2
        simp (disch := omega) only [Mo_write, Mo_read, Mo_wrongPlace, Mo_isTray, w32_id, w64_id, if_pos, if_neg, reduceIte, not_true_eq_false, not_false_eq_true, bP, Mo_is, Int.reduceMod, st_ne, st_eq]
    · by_cases h1 : 0 ≤ a1 ∧ a1 < m 4 a0
      · refine ⟨0, by omega, by omega, ?_, fun m' e => ?_, fun _ => ⟨h0.1, h0.2, h1.1, h1.2, q1, q2, q3, q5, (q7 a1 h1.1 h1.2).1⟩⟩
        · simp (disch := omega) only [FL_write, FL_read, Trays_lackOfPlace, Trays_isTray, Trays_isMissing, Trays_sortOf, Trays_hasRun, Trays_sizeOf, w32_id, w64_id, if_pos, if_neg, reduceIte, not_true_eq_false, not_false_eq_true, FL_no, FL_yes, FL_none, Int.reduceMod]
        · have e' : m' 78 a0 = m 4 a0 := by rw [e]; exact q6
          simp (disch := omega) only [Mo_write, Mo_read, Mo_wrongPlace, Mo_isTray, w32_id, w64_id, if_pos, if_neg, reduceIte, not_true_eq_false, not_false_eq_true, bP, Mo_is, Int.reduceMod, st_ne, st_eq]
      · refine ⟨3, by omega, by omega, ?_, fun m' e => ?_, by omega⟩
        · by_cases h2 : a1 < 0
          · simp (disch := omega) only [FL_write, FL_read, Trays_lackOfPlace, Trays_isTray, Trays_isMissing, Trays_sortOf, Trays_hasRun, Trays_sizeOf, w32_id, w64_id, if_pos, if_neg, reduceIte, not_true_eq_false, not_false_eq_true, FL_no, FL_yes, FL_none, Int.reduceMod]
          · simp (disch := omega) only [FL_write, FL_read, Trays_lackOfPlace, Trays_isTray, Trays_isMissing, Trays_sortOf, Trays_hasRun, Trays_sizeOf, w32_id, w64_id, if_pos, if_neg, reduceIte, not_true_eq_false, not_false_eq_true, FL_no, FL_yes, FL_none, Int.reduceMod]
        · have e' : m' 78 a0 = m 4 a0 := by rw [e]; exact q6
          by_cases h2 : a1 < 0
          · simp (disch := omega) only [Mo_write, Mo_read, Mo_wrongPlace, Mo_isTray, w32_id, w64_id, if_pos, if_neg, reduceIte, not_true_eq_false, not_false_eq_true, bP, Mo_is, Int.reduceMod, st_ne, st_eq]
          · simp (disch := omega) only [Mo_write, Mo_read, Mo_wrongPlace, Mo_isTray, w32_id, w64_id, if_pos, if_neg, reduceIte, not_true_eq_false, not_false_eq_true, bP, Mo_is, Int.reduceMod, st_ne, st_eq]
  · refine ⟨1, by omega, by omega, ?_, fun m' e => ?_, by omega⟩
    · by_cases h2 : a0 < 0
      · simp (disch := omega) only [FL_write, FL_read, Trays_lackOfPlace, Trays_isTray, Trays_isMissing, Trays_sortOf, Trays_hasRun, Trays_sizeOf, w32_id, w64_id, if_pos, if_neg, reduceIte, not_true_eq_false, not_false_eq_true, FL_no, FL_yes, FL_none, Int.reduceMod]
      · simp (disch := omega) only [FL_write, FL_read, Trays_lackOfPlace, Trays_isTray, Trays_isMissing, Trays_sortOf, Trays_hasRun, Trays_sizeOf, w32_id, w64_id, if_pos, if_neg, reduceIte, not_true_eq_false, not_false_eq_true, FL_no, FL_yes, FL_none, Int.reduceMod]
    · by_cases h2 : a0 < 0
      · simp (disch := omega) only [Mo_write, Mo_read, Mo_wrongPlace, Mo_isTray, w32_id, w64_id, if_pos, if_neg, reduceIte, not_true_eq_false, not_false_eq_true, bP, Mo_is, Int.reduceMod, st_ne, st_eq]
      · simp (disch := omega) only [Mo_write, Mo_read, Mo_wrongPlace, Mo_isTray, w32_id, w64_id, if_pos, if_neg, reduceIte, not_true_eq_false, not_false_eq_true, bP, Mo_is, Int.reduceMod, st_ne, st_eq]
theorem s_read {m : Mem} (h : Rel m) {a0 a1 : Int} (c0 : w32 a0 = a0) (c1 : w32 a1 = a1) : Stq w64 (some (FL_read a0 a1 m)) (fun m1 => Mo_read a0 a1 m1) := by
  obtain ⟨k, k0, k3, e1, e2, e3⟩ := lk0 h c0 c1
  unfold FL_read Mo_read
  by_cases hk : k = 0
  · subst hk
    obtain ⟨p1, p2, p3, p4, p5, p6, p7, p8, p9⟩ := e3 rfl
    refine Stq.mk (x := m 2 (60 * a0 + a1)) (m1 := st m 0 0 0) (y := m 79 (60 * a0 + a1)) (m2 := st (st m 0 0 0) 75 1 0) ?_ ?_ (by rw [p9]) (h.stat 0)
    · rw [e1, if_pos (by decide)]
      have e : w32 (a0 * 60 + a1) = 60 * a0 + a1 := by rw [w32_id (by omega) (by omega)]; omega
      unfold Trays_at
      rw [e, if_neg (by omega), if_neg (by omega), st_ne _ _ _ (by decide)]
    · show bP (Mo_wrongPlace a0 a1 (st m 0 0 0)) _ = _
      rw [e2 (st m 0 0 0) (st_ne _ _ _ (by decide))]
      simp (disch := omega) only [bP, bE, bV, ltM, ltI, st_eq, st_ne, w32_id, w64_id, ↓reduceIte, ilt_t, ilt_f, ile_t, ile_f, ieq_t, ieq_f, not_true_eq_false, not_false_eq_true, and_true, true_and, and_self, and_false, false_and, Int.reduceMod]
  · refine Stq.mk (x := -1) (m1 := st m 0 0 k) (y := -1) (m2 := st (st m 0 0 k) 75 1 k) ?_ ?_ rfl (h.stat k)
    · rw [e1, if_neg (by rw [w32_id (by omega) (by omega)]; exact hk)]
      rfl
    · show bP (Mo_wrongPlace a0 a1 (st m 0 0 k)) _ = _
      rw [e2 (st m 0 0 k) (st_ne _ _ _ (by decide))]
      show (if _ then _ else _) = _
      rw [st_eq, if_pos rfl, if_neg (by rw [w32_id (by omega) (by omega)]; omega)]
theorem cut_put {m : Mem} {a0 a1 a2 : Int} (p1 : 0 ≤ a0) (p2 : a0 < 4) (p3 : 0 ≤ a1) (p4 : a1 < 60) (p5 : 0 ≤ m 3 a0) (p6 : m 3 a0 ≤ 3) : Trays_put a0 a1 a2 m = st m 2 (60 * a0 + a1) (Mo_cut a2 (m 3 a0)) := by
  have e : w32 (a0 * 60 + a1) = 60 * a0 + a1 := by rw [w32_id (by omega) (by omega)]; omega
  have es : Trays_sortOf a0 m = m 3 a0 := by
    unfold Trays_sortOf
    rw [w32_id (x := a0) (by omega) (by omega), if_neg (by omega), if_neg (by omega)]
  unfold Trays_put Mo_cut
  rw [e, es, if_neg (by omega), if_pos (by omega), w32_id (x := m 3 a0) (by omega) (by omega)]
  by_cases h0 : m 3 a0 = 0
  · simp [h0]
  by_cases h1 : m 3 a0 = 1
  · simp [h1]
  by_cases h2 : m 3 a0 = 2
  · simp [h2]
  simp [h0, h1, h2]
theorem w64_w32 (x : Int) : w64 (w32 x) = w32 x := w64_id (by have := w32_lo x; omega) (by have := w32_hi x; omega)
theorem cut_can {a2 k : Int} (h : w64 a2 = a2) : w64 (Mo_cut a2 k) = Mo_cut a2 k := by
  unfold Mo_cut
  split
  · split
    · split
      · exact h
      · exact w64_w32 _
    · exact w64_w32 _
  · exact w64_w32 _
theorem s_write {m : Mem} (h : Rel m) {a0 a1 a2 : Int} (c0 : w32 a0 = a0) (c1 : w32 a1 = a1) (c2 : w64 a2 = a2) : Stq w32 (some (FL_write a0 a1 a2 m)) (fun m1 => Mo_write a0 a1 a2 m1) := by
  obtain ⟨k, k0, k3, e1, e2, e3⟩ := lk0 h c0 c1
  unfold FL_write Mo_write
  by_cases hk : k = 0
  · subst hk
    obtain ⟨p1, p2, p3, p4, p5, p6, p7, p8, p9⟩ := e3 rfl
    refine Stq.mk (x := 1) (m1 := st (st m 2 (60 * a0 + a1) (Mo_cut a2 (m 3 a0))) 0 0 0) (y := 1) (m2 := st (st (st (st m 2 (60 * a0 + a1) (Mo_cut a2 (m 3 a0))) 0 0 0) 79 (60 * a0 + a1) (Mo_cut a2 (m 3 a0))) 75 1 0) ?_ ?_ rfl ?_
    · rw [e1, if_pos (by decide), cut_put p1 p2 p3 (by omega) p5 p6]
      rfl
    · show bP (Mo_wrongPlace a0 a1 _) _ = _
      rw [e2 _ (by rw [st_ne _ _ _ (by decide), st_ne _ _ _ (by decide)])]
      simp (disch := omega) only [bP, bE, bV, ltM, ltI, st_eq, st_ne, w32_id, w64_id, ↓reduceIte, ilt_t, ilt_f, ile_t, ile_f, ieq_t, ieq_f, not_true_eq_false, not_false_eq_true, and_true, true_and, and_self, and_false, false_and, Int.reduceMod, p7, Mo_is]
    · refine h.tr ((((((Ag.refl m).st (by simp [comp])).st (by simp [comp])).st (by simp [comp]))).st (by simp [comp])) (Rst_set h.1 (k := 0) rfl rfl rfl rfl rfl rfl) ?_
      intro t t0 t1
      have hr := h.2.1 t t0 t1
      simp only [st, Nat.reduceEqDiff, reduceIte]
      rcases hr with hr | ⟨q1, q2, q3, q4, q5, q6, q7⟩
      · exact Or.inl hr
      · refine Or.inr ⟨q1, q2, q3, q4, q5, q6, fun p g0 g1 => ?_⟩
        by_cases g : 60 * t + p = 60 * a0 + a1
        · simp [g]; exact cut_can c2
        · simp [g]; exact q7 p g0 g1
  · refine Stq.mk (x := 0) (m1 := st m 0 0 k) (y := 0) (m2 := st (st m 0 0 k) 75 1 k) ?_ ?_ rfl (h.stat k)
    · rw [e1, if_neg (by rw [w32_id (by omega) (by omega)]; exact hk)]
      rfl
    · show bP (Mo_wrongPlace a0 a1 (st m 0 0 k)) _ = _
      rw [e2 (st m 0 0 k) (st_ne _ _ _ (by decide))]
      show (if _ then _ else _) = _
      rw [if_pos (by rw [w32_id (by omega) (by omega)]; exact hk)]
      unfold Mo_is
      rw [w32_id (by omega) (by omega), if_pos hk]
      rfl
theorem s_tray {m : Mem} (h : Rel m) {a0 a1 a2 : Int} (c0 : w32 a0 = a0) (c1 : w32 a1 = a1) (c2 : w32 a2 = a2) : Stq w32 (FL_tray a0 a1 a2 m) (fun m1 => Mo_tray a0 a1 a2 m1) := by
  have b0 := cn c0
  have b1 := cn c1
  have b2 := cn c2
  by_cases hg : (0 ≤ a0 ∧ a0 < 4) ∧ (0 ≤ a1 ∧ a1 ≤ 3) ∧ 0 ≤ a2 ∧ a2 ≤ 60
  · obtain ⟨g0, g1, g2⟩ := hg
    obtain ⟨m5, e1, e2, e3⟩ := lay_loop g0.1 g0.2 g2.1 g2.2 FU 0 (st (st m 3 a0 a1) 4 a0 a2) (by omega) (by omega) (by rw [FU_eq]; omega)
    obtain ⟨m6, f1, f2, f3⟩ := mtray_loop g0.1 g0.2 g2.1 g2.2 FU 0 (st (st (st m5 0 0 0) 77 a0 a1) 78 a0 a2) (by omega) (by omega) (by rw [FU_eq]; omega)
    refine Stq.mk (x := 1) (m1 := st m5 0 0 0) (y := 1) (m2 := st m6 75 1 0) ?_ ?_ rfl ?_
    · simp (disch := omega) only [FL_tray, Trays_lay, bP, bE, bV, ltM, ltI, st_eq, st_ne, w32_id, w64_id, ↓reduceIte, ilt_t, ilt_f, ile_t, ile_f, ieq_t, ieq_f, not_true_eq_false, not_false_eq_true, and_true, true_and, and_self, and_false, false_and, Int.reduceMod, Trays_lackOfPlace, Trays_isTray, Trays_isMissing, Trays_sortOf, Trays_hasRun, Trays_sizeOf, Trays_areAlike, FL_isWithin, FL_no, FL_yes, FL_none, FL_answer, e1]
    · simp (disch := omega) only [Mo_tray, bP, bE, bV, ltM, ltI, st_eq, st_ne, w32_id, w64_id, ↓reduceIte, ilt_t, ilt_f, ile_t, ile_f, ieq_t, ieq_f, not_true_eq_false, not_false_eq_true, and_true, true_and, and_self, and_false, false_and, Int.reduceMod, Mo_isTray, Mo_is, Mo_refuse, Mo_gives, Mo_isFrom, f1]
    · have k : ∀ c, c ≠ 2 → c ≠ 79 → c ≠ 3 → c ≠ 4 → c ≠ 77 → c ≠ 78 → c ≠ 0 → m6 c = m c := by
        intro c n2 n79 n3 n4 n77 n78 n0
        rw [f2 c n79, st_ne _ _ _ n78, st_ne _ _ _ n77, st_ne _ _ _ n0, e2 c n2, st_ne _ _ _ n4, st_ne _ _ _ n3]
      have k0 : m6 0 = st m 0 0 0 0 := by
        rw [f2 0 (by decide), st_ne _ _ _ (by decide), st_ne _ _ _ (by decide)]
        funext i
        rw [st_eq, st_eq, e2 0 (by decide), st_ne _ _ _ (by decide), st_ne _ _ _ (by decide)]
      have k2 : ∀ i, m6 2 i = if 60 * a0 + 0 ≤ i ∧ i < 60 * a0 + a2 then 0 else m 2 i := by
        intro i
        rw [f2 2 (by decide), st_ne _ _ _ (by decide), st_ne _ _ _ (by decide), st_ne _ _ _ (by decide), e3, st_ne _ _ _ (by decide), st_ne _ _ _ (by decide)]
      have k79 : ∀ i, m6 79 i = if 60 * a0 + 0 ≤ i ∧ i < 60 * a0 + a2 then 0 else m 79 i := by
        intro i
        rw [f3, st_ne _ _ _ (by decide), st_ne _ _ _ (by decide), st_ne _ _ _ (by decide), e2 79 (by decide), st_ne _ _ _ (by decide), st_ne _ _ _ (by decide)]
      have k3 : ∀ i, m6 3 i = if i = a0 then a1 else m 3 i := by
        intro i
        rw [f2 3 (by decide), st_ne _ _ _ (by decide), st_ne _ _ _ (by decide), st_ne _ _ _ (by decide), e2 3 (by decide), st_ne _ _ _ (by decide), st_eq]
      have k4 : ∀ i, m6 4 i = if i = a0 then a2 else m 4 i := by
        intro i
        rw [f2 4 (by decide), st_ne _ _ _ (by decide), st_ne _ _ _ (by decide), st_ne _ _ _ (by decide), e2 4 (by decide), st_eq, st_ne _ _ _ (by decide)]
      have k77 : ∀ i, m6 77 i = if i = a0 then a1 else m 77 i := by
        intro i
        rw [f2 77 (by decide), st_ne _ _ _ (by decide), st_eq, st_ne _ _ _ (by decide), e2 77 (by decide), st_ne _ _ _ (by decide), st_ne _ _ _ (by decide)]
      have k78 : ∀ i, m6 78 i = if i = a0 then a2 else m 78 i := by
        intro i
        rw [f2 78 (by decide), st_eq, st_ne _ _ _ (by decide), st_ne _ _ _ (by decide), e2 78 (by decide), st_ne _ _ _ (by decide), st_ne _ _ _ (by decide)]
      refine h.tr ?_ ?_ ?_
      · refine Ag.st ?_ (by simp [comp])
        intro c i q
        by_cases n0 : c = 0
        · subst n0
          rw [k0, st_eq]
          by_cases z : i = 0
          · subst z; exact absurd (by simp [comp]) q
          · rw [if_neg z]
        · refine congrFun (k c ?_ ?_ ?_ ?_ ?_ ?_ n0) i <;> intro z <;> subst z <;> exact q (by simp [comp])
      · refine Rst_set h.1 (k := 0) ?_ (by rw [st_eq, if_pos rfl]) ?_ ?_ ?_ ?_
        · rw [st_ne _ _ _ (by decide), k0, st_eq, if_pos rfl]
        · rw [st_ne _ _ _ (by decide), k0, st_eq, if_neg (by decide)]
        · rw [st_ne _ _ _ (by decide), k0, st_eq, if_neg (by decide)]
        · rw [st_eq, if_neg (by decide), k 75 (by decide) (by decide) (by decide) (by decide) (by decide) (by decide) (by decide)]
        · rw [st_eq, if_neg (by decide), k 75 (by decide) (by decide) (by decide) (by decide) (by decide) (by decide) (by decide)]
      · intro t t0 t1
        rw [st_ne _ _ _ (by decide), st_ne _ _ _ (by decide), st_ne _ _ _ (by decide), st_ne _ _ _ (by decide), st_ne _ _ _ (by decide), st_ne _ _ _ (by decide), k3, k4, k77, k78]
        by_cases ht : t = a0
        · subst ht
          simp only [if_pos]
          refine Or.inr ⟨g1.1, g1.2, trivial, g2.1, g2.2, trivial, fun p p0 p1 => ?_⟩
          rw [k2, k79, if_pos (by omega), if_pos (by omega)]
          exact ⟨rfl, by decide⟩
        · simp only [if_neg ht]
          rcases h.2.1 t t0 t1 with q | ⟨q1, q2, q3, q4, q5, q6, q7⟩
          · exact Or.inl q
          · refine Or.inr ⟨q1, q2, q3, q4, q5, q6, fun p p0 p1 => ?_⟩
            rw [k2, k79, if_neg (by omega), if_neg (by omega)]
            exact q7 p p0 p1
  · have hb : a0 < 0 ∨ 4 ≤ a0 ∨ ((0 ≤ a0 ∧ a0 < 4) ∧ a1 < 0) ∨ ((0 ≤ a0 ∧ a0 < 4) ∧ 3 < a1) ∨ ((0 ≤ a0 ∧ a0 < 4) ∧ (0 ≤ a1 ∧ a1 ≤ 3) ∧ a2 < 0) ∨ ((0 ≤ a0 ∧ a0 < 4) ∧ (0 ≤ a1 ∧ a1 ≤ 3) ∧ 60 < a2) := by omega
    refine Stq.mk (x := 0) (m1 := st m 0 0 1) (y := 0) (m2 := st (st m 0 0 1) 75 1 1) ?_ ?_ rfl (h.stat 1)
    · rcases hb with g | g | g | g | g | g <;> simp (disch := omega) only [FL_tray, bP, bE, bV, ltM, ltI, st_eq, st_ne, w32_id, w64_id, ↓reduceIte, ilt_t, ilt_f, ile_t, ile_f, ieq_t, ieq_f, not_true_eq_false, not_false_eq_true, and_true, true_and, and_self, and_false, false_and, Int.reduceMod, Trays_lackOfPlace, Trays_isTray, Trays_isMissing, Trays_sortOf, Trays_hasRun, Trays_sizeOf, Trays_areAlike, FL_isWithin, FL_no, FL_yes, FL_none, FL_answer]
    · rcases hb with g | g | g | g | g | g <;> simp (disch := omega) only [Mo_tray, bP, bE, bV, ltM, ltI, st_eq, st_ne, w32_id, w64_id, ↓reduceIte, ilt_t, ilt_f, ile_t, ile_f, ieq_t, ieq_f, not_true_eq_false, not_false_eq_true, and_true, true_and, and_self, and_false, false_and, Int.reduceMod, Mo_isTray, Mo_is, Mo_refuse, Mo_gives, Mo_isFrom]
