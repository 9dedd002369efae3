/-! layer 2: widths, lengths -/
noncomputable def rtS (x : Int) : Int := (Sheet_root x (fun _ _ => 0)).getD 0
theorem rtS_is {x : Int} (x0 : 0 ≤ x) (x1 : x < 4004001) : isRt x (rtS x) := by
  obtain ⟨r, e, hr⟩ := c_root (fun _ _ => 0) x0 (show x < 4194304 by omega)
  unfold rtS; rw [e]; exact hr
theorem c_rt {x : Int} (m : Mem) (x0 : 0 ≤ x) (x1 : x < 4004001) : Sheet_root x m = some (rtS x) := by
  obtain ⟨r, e, hr⟩ := c_root m x0 (show x < 4194304 by omega)
  rw [e, isRt_u hr (rtS_is x0 x1)]
theorem m_rt {x : Int} (m : Mem) (x0 : 0 ≤ x) (x1 : x < 4004001) : Mo_root x m = some (rtS x) := by
  obtain ⟨r, e, hr⟩ := m_root m x0 x1
  rw [e, isRt_u hr (rtS_is x0 x1)]
theorem rtS_b {x : Int} (x0 : 0 ≤ x) (x1 : x < 4004001) : 0 ≤ rtS x ∧ rtS x ≤ 2000 := by
  obtain ⟨a, b, c⟩ := rtS_is x0 x1
  refine ⟨a, ?_⟩
  rcases (by omega : rtS x ≤ 2000 ∨ 2001 ≤ rtS x) with q | q
  · exact q
  · have := sq_le (by omega) q; omega
theorem sq_b {d B : Int} (h1 : -B ≤ d) (h2 : d ≤ B) : 0 ≤ d * d ∧ d * d ≤ B * B := by
  rcases (by omega : 0 ≤ d ∨ d < 0) with q | q
  · exact ⟨Int.mul_nonneg q q, sq_le q h2⟩
  · rw [← Int.neg_mul_neg]
    exact ⟨Int.mul_nonneg (by omega) (by omega), sq_le (by omega) (by omega)⟩
def hyS (R a b : Int) : Int := R * R + (b - a) * (b - a)
theorem hyS_b {R a b : Int} (r0 : 0 ≤ R) (r1 : R ≤ 999) (a0 : 0 ≤ a) (a1 : a ≤ 999) (b0 : 0 ≤ b) (b1 : b ≤ 999) : 0 ≤ hyS R a b ∧ hyS R a b < 4004001 := by
  have h1 := sq_b (d := R) (B := 999) (by omega) (by omega)
  have h2 := sq_b (d := b - a) (B := 999) (by omega) (by omega)
  unfold hyS; omega
theorem pt8 {S W s w : Int} (hs : gSW S W) (s0 : 0 ≤ s) (s1 : s < S) (w0 : 0 ≤ w) (w1 : w < W) : Pt S W (8 * s + w) := by unfold Pt; omega
theorem m_floor {m : Mem} {s w : Int} (h0 : 0 ≤ 8 * s + w) (h1 : 8 * s + w < 64) : Mo_floor s w m = some (m 76 (80 + (8 * s + w))) := by
  unfold Mo_floor
  rw [show 80 + 8 * s + w = 80 + (8 * s + w) by omega, w32_id (by omega) (by omega), if_pos (by omega)]
theorem m_slant {m : Mem} {R a b : Int} (r0 : 0 ≤ R) (r1 : R ≤ 999) (a0 : 0 ≤ a) (a1 : a ≤ 999) (b0 : 0 ≤ b) (b1 : b ≤ 999) : Mo_slant R a b m = some (rtS (hyS R a b)) := by
  have hb := hyS_b r0 r1 a0 a1 b0 b1
  unfold Mo_slant
  rw [show R * R + (a - b) * (a - b) = hyS R a b by unfold hyS; rw [← Int.neg_mul_neg (a - b)]; congr 2 <;> omega, m_rt m hb.1 hb.2]
  rfl
theorem c_width {m : Mem} {k s : Int} (hs : gSW (m 7 0) (m 7 1)) (hfl : ∀ q, Pt (m 7 0) (m 7 1) q → 0 ≤ m 10 q ∧ m 10 q ≤ 999) (hr : 0 ≤ m 7 3 ∧ m 7 3 ≤ 999) (k0 : 0 ≤ k) (k1 : k < m 7 1 - 1) (s0 : 0 ≤ s) (s1 : s < m 7 0) : Sheet_widthOf 7 k s m = some (rtS (hyS (m 7 3) (m 10 (8 * s + k)) (m 10 (8 * s + (k + 1))))) := by
  have p1 := pt8 hs s0 s1 k0 (show k < m 7 1 by omega)
  have p2 := pt8 hs s0 s1 (show 0 ≤ k + 1 by omega) (show k + 1 < m 7 1 by omega)
  have f1 := hfl _ p1
  have f2 := hfl _ p2
  have q1 := pt64 hs p1
  have q2 := pt64 hs p2
  have hb := hyS_b hr.1 hr.2 f1.1 f1.2 f2.1 f2.2
  unfold Sheet_widthOf
  rw [show 8 * s + k + 1 = 8 * s + (k + 1) by omega, c_at q1.1 q1.2, c_at q2.1 q2.2]
  rw [show m 7 3 * m 7 3 + (m 10 (8 * s + (k + 1)) - m 10 (8 * s + k)) * (m 10 (8 * s + (k + 1)) - m 10 (8 * s + k)) = hyS (m 7 3) (m 10 (8 * s + k)) (m 10 (8 * s + (k + 1))) from rfl, c_rt m hb.1 hb.2]
  rfl
theorem m_width {m : Mem} {S W k s : Int} (hs : gSW S W) (hfl : ∀ q, Pt S W q → 0 ≤ m 76 (80 + q) ∧ m 76 (80 + q) ≤ 999) (hr : 0 ≤ m 76 3 ∧ m 76 3 ≤ 999) (k0 : 0 ≤ k) (k1 : k < W - 1) (s0 : 0 ≤ s) (s1 : s < S) : Mo_widthOf k s m = some (rtS (hyS (m 76 3) (m 76 (80 + (8 * s + k))) (m 76 (80 + (8 * s + (k + 1)))))) := by
  have p1 := pt8 hs s0 s1 k0 (show k < W by omega)
  have p2 := pt8 hs s0 s1 (show 0 ≤ k + 1 by omega) (show k + 1 < W by omega)
  have f1 := hfl _ p1
  have f2 := hfl _ p2
  have q1 := pt64 hs p1
  have q2 := pt64 hs p2
  unfold Mo_widthOf
  rw [m_floor q1.1 q1.2, m_floor q2.1 q2.2]
  simp only [bP]
  rw [m_slant hr.1 hr.2 f1.1 f1.2 f2.1 f2.2]
theorem s_width {m : Mem} (h : Rel m) {a0 a1 : Int} (c0 : w32 a0 = a0) (c1 : w32 a1 = a1) : Stq w32 (FL_width a0 a1 m) (fun m1 => Mo_width a0 a1 m1) := by
  have b0 := cn c0
  have b1 := cn c1
  obtain ⟨⟨z0, z1, z2, z3, z4, z5, z6⟩, hs, hr, hv, hp⟩ := shF h
  by_cases g : (0 ≤ a0 ∧ a0 < m 7 1 - 1) ∧ 0 ≤ a1 ∧ a1 < m 7 0
  · have p1 := pt8 hs g.2.1 g.2.2 g.1.1 (show a0 < m 7 1 by omega)
    have p2 := pt8 hs g.2.1 g.2.2 (show 0 ≤ a0 + 1 by omega) (show a0 + 1 < m 7 1 by omega)
    have e1 := c_width hs (flC h) (show 0 ≤ m 7 3 ∧ m 7 3 ≤ 999 by omega) g.1.1 g.1.2 g.2.1 g.2.2
    have e2 := m_width (m := st m 0 0 0) hs (flMb h) (show 0 ≤ m 76 3 ∧ m 76 3 ≤ 999 by omega) g.1.1 g.1.2 g.2.1 g.2.2
    refine Stq.mk (x := rtS (hyS (m 7 3) (m 10 (8 * a1 + a0)) (m 10 (8 * a1 + (a0 + 1))))) (m1 := st m 0 0 0) (y := rtS (hyS (m 76 3) (m 76 (80 + (8 * a1 + a0))) (m 76 (80 + (8 * a1 + (a0 + 1)))))) (m2 := st (st m 0 0 0) 75 1 0) ?_ ?_ (by rw [flM h _ p1, flM h _ p2, z3]) (h.stat 0)
    · simp (disch := omega) only [bP, bE, bV, ltM, ltI, st_eq, st_ne, w32_id, w64_id, ↓reduceIte, ilt_t, ilt_f, ile_t, ile_f, ieq_t, ieq_f, not_true_eq_false, not_false_eq_true, and_true, true_and, and_self, and_false, false_and, Int.reduceMod, FL_width, FL_isWithin, FL_no, FL_yes, FL_none, FL_answer, Sheet_hasStrip, Sheet_hasStation, e1]
    · simp (disch := omega) only [st_ne] at e2
      simp (disch := omega) only [bP, bE, bV, ltM, ltI, st_eq, st_ne, w32_id, w64_id, ↓reduceIte, ilt_t, ilt_f, ile_t, ile_f, ieq_t, ieq_f, not_true_eq_false, not_false_eq_true, and_true, true_and, and_self, and_false, false_and, Int.reduceMod, Mo_width, Mo_is, Mo_refuse, Mo_gives, Mo_isFrom, Mo_isStrip, e2]
  · have hb : a0 < 0 ∨ (0 ≤ a0 ∧ m 7 1 - 1 ≤ a0) ∨ ((0 ≤ a0 ∧ a0 < m 7 1 - 1) ∧ a1 < 0) ∨ ((0 ≤ a0 ∧ a0 < m 7 1 - 1) ∧ 0 ≤ a1 ∧ m 7 0 ≤ a1) := by omega
    refine Stq.mk (x := -1) (m1 := st m 0 0 1) (y := -1) (m2 := st (st m 0 0 1) 75 1 1) ?_ ?_ rfl (h.stat 1)
    · rcases hb with g | g | g | g <;> simp (disch := omega) only [bP, bE, bV, ltM, ltI, st_eq, st_ne, w32_id, w64_id, ↓reduceIte, ilt_t, ilt_f, ile_t, ile_f, ieq_t, ieq_f, not_true_eq_false, not_false_eq_true, and_true, true_and, and_self, and_false, false_and, Int.reduceMod, FL_width, FL_isWithin, FL_no, FL_yes, FL_none, FL_answer, Sheet_hasStrip, Sheet_hasStation]
    · rcases hb with g | g | g | g <;> simp (disch := omega) only [bP, bE, bV, ltM, ltI, st_eq, st_ne, w32_id, w64_id, ↓reduceIte, ilt_t, ilt_f, ile_t, ile_f, ieq_t, ieq_f, not_true_eq_false, not_false_eq_true, and_true, true_and, and_self, and_false, false_and, Int.reduceMod, Mo_width, Mo_is, Mo_refuse, Mo_gives, Mo_isFrom, Mo_isStrip]
theorem c_len_loop {m : Mem} {w : Int} (hs : gSW (m 7 0) (m 7 1)) (hfl : ∀ q, Pt (m 7 0) (m 7 1) q → 0 ≤ m 10 q ∧ m 10 q ≤ 999) (hr : 0 ≤ m 7 2 ∧ m 7 2 ≤ 999) (w0 : 0 ≤ w) (w1 : w < m 7 1) : ∀ (n : Nat) (acc s : Int), 0 ≤ s → s ≤ 20 → (m 7 0 - 1 - s).toNat < n → Sheet_lengthOf_L4 7 w m n acc s = some (acc + suS (fun s => rtS (hyS (m 7 2) (m 10 (8 * s + w)) (m 10 (8 * (s + 1) + w)))) (m 7 0 - 1 - s).toNat s) := by
  intro n
  induction n with
  | zero => intro acc s _ _ q; omega
  | succ n ih =>
    intro acc s s0 s20 hn
    rw [Sheet_lengthOf_L4, w32_id (x := s) (by omega) (by omega), w32_id (x := m 7 0 - 1) (by omega) (by omega)]
    by_cases q : m 7 0 - 1 ≤ s
    · rw [if_pos q, show (m 7 0 - 1 - s).toNat = 0 by omega]; simp [suS]
    · have p1 := pt8 hs s0 (show s < m 7 0 by omega) w0 w1
      have p2 := pt8 hs (show 0 ≤ s + 1 by omega) (show s + 1 < m 7 0 by omega) w0 w1
      have f1 := hfl _ p1
      have f2 := hfl _ p2
      have q1 := pt64 hs p1
      have q2 := pt64 hs p2
      have hb := hyS_b hr.1 hr.2 f1.1 f1.2 f2.1 f2.2
      rw [if_neg q, show 8 * s + w + 8 = 8 * (s + 1) + w by omega, c_at q1.1 q1.2, c_at q2.1 q2.2, show m 7 2 * m 7 2 + (m 10 (8 * (s + 1) + w) - m 10 (8 * s + w)) * (m 10 (8 * (s + 1) + w) - m 10 (8 * s + w)) = hyS (m 7 2) (m 10 (8 * s + w)) (m 10 (8 * (s + 1) + w)) from rfl, c_rt m hb.1 hb.2]
      simp only [bP]
      rw [ih _ (s + 1) (by omega) (by omega) (by omega), show (m 7 0 - 1 - s).toNat = (m 7 0 - 1 - (s + 1)).toNat + 1 by omega, suS_succ]
      congr 1; omega
theorem m_len_loop {m : Mem} {S W w : Int} (hs : gSW S W) (z0 : m 76 0 = S) (hfl : ∀ q, Pt S W q → 0 ≤ m 76 (80 + q) ∧ m 76 (80 + q) ≤ 999) (hr : 0 ≤ m 76 2 ∧ m 76 2 ≤ 999) (w0 : 0 ≤ w) (w1 : w < W) : ∀ (n : Nat) (acc s : Int), 0 ≤ s → s ≤ 20 → (S - 1 - s).toNat < n → Mo_lengthOf_L4 w m n acc s = some (acc + suS (fun s => rtS (hyS (m 76 2) (m 76 (80 + (8 * s + w))) (m 76 (80 + (8 * (s + 1) + w))))) (S - 1 - s).toNat s) := by
  intro n
  induction n with
  | zero => intro acc s _ _ q; omega
  | succ n ih =>
    intro acc s s0 s20 hn
    rw [Mo_lengthOf_L4, z0, w32_id (x := s + 1) (by omega) (by omega), w32_id (x := S) (by omega) (by omega)]
    by_cases q : S ≤ s + 1
    · rw [if_pos q, show (S - 1 - s).toNat = 0 by omega]; simp [suS]
    · have p1 := pt8 hs s0 (show s < S by omega) w0 w1
      have p2 := pt8 hs (show 0 ≤ s + 1 by omega) (show s + 1 < S by omega) w0 w1
      have f1 := hfl _ p1
      have f2 := hfl _ p2
      have q1 := pt64 hs p1
      have q2 := pt64 hs p2
      rw [if_neg q, m_floor q1.1 q1.2, m_floor q2.1 q2.2]
      simp only [bP]
      rw [m_slant hr.1 hr.2 f1.1 f1.2 f2.1 f2.2]
      simp only []
      rw [ih _ (s + 1) (by omega) (by omega) (by omega), show (S - 1 - s).toNat = (S - 1 - (s + 1)).toNat + 1 by omega, suS_succ]
      congr 1; omega
noncomputable def leS (F : Int → Int) (sp S w : Int) : Int := 0 + suS (fun s => rtS (hyS sp (F (8 * s + w)) (F (8 * (s + 1) + w)))) (S - 1 - 0).toNat 0
theorem c_len {m : Mem} (h : Rel m) {w : Int} (w0 : 0 ≤ w) (w1 : w < m 7 1) : Sheet_lengthOf 7 w m = some (leS (m 10) (m 7 2) (m 7 0) w) := by
  obtain ⟨⟨z0, z1, z2, z3, z4, z5, z6⟩, hs, hr, hv, hp⟩ := shF h
  exact c_len_loop hs (flC h) (by omega) w0 w1 FU 0 0 (by omega) (by omega) (by rw [FU_eq]; omega)
theorem m_len {m : Mem} (h : Rel m) (k : Int) {w : Int} (w0 : 0 ≤ w) (w1 : w < m 7 1) : Mo_lengthOf w (st m 0 0 k) = some (leS (m 10) (m 7 2) (m 7 0) w) := by
  obtain ⟨⟨z0, z1, z2, z3, z4, z5, z6⟩, hs, hr, hv, hp⟩ := shF h
  have e := m_len_loop (m := st m 0 0 k) hs z0 (flMb h) (show 0 ≤ m 76 2 ∧ m 76 2 ≤ 999 by omega) w0 w1 FU 0 0 (by omega) (by omega) (by rw [FU_eq]; omega)
  simp (disch := omega) only [st_ne] at e
  have e' := suS_congr (g := fun s => rtS (hyS (m 76 2) (m 76 (80 + (8 * s + w))) (m 76 (80 + (8 * (s + 1) + w))))) (g' := fun s => rtS (hyS (m 7 2) (m 10 (8 * s + w)) (m 10 (8 * (s + 1) + w)))) (m 7 0 - 1 - 0).toNat 0 (fun s s0 s1 => by
    rw [flM h _ (pt8 hs (by omega) (by omega) w0 w1), flM h _ (pt8 hs (by omega) (by omega) w0 w1), z2])
  unfold Mo_lengthOf leS
  rw [e, e']
theorem s_length {m : Mem} (h : Rel m) {a0 : Int} (c0 : w32 a0 = a0) : Stq w32 (FL_length a0 m) (fun m1 => Mo_length a0 m1) := by
  have b0 := cn c0
  obtain ⟨⟨z0, z1, z2, z3, z4, z5, z6⟩, hs, hr, hv, hp⟩ := shF h
  by_cases g : 0 ≤ a0 ∧ a0 < m 7 1
  · have e1 := c_len h g.1 g.2
    have e2 := m_len h 0 g.1 g.2
    refine Stq.mk (x := leS (m 10) (m 7 2) (m 7 0) a0) (m1 := st m 0 0 0) (y := leS (m 10) (m 7 2) (m 7 0) a0) (m2 := st (st m 0 0 0) 75 1 0) ?_ ?_ rfl (h.stat 0)
    · simp (disch := omega) only [bP, bE, bV, ltM, ltI, st_eq, st_ne, w32_id, w64_id, ↓reduceIte, ilt_t, ilt_f, ile_t, ile_f, ieq_t, ieq_f, not_true_eq_false, not_false_eq_true, and_true, true_and, and_self, and_false, false_and, Int.reduceMod, FL_length, FL_isWithin, FL_no, FL_yes, FL_none, FL_answer, Sheet_hasWater, e1]
    · simp (disch := omega) only [bP, bE, bV, ltM, ltI, st_eq, st_ne, w32_id, w64_id, ↓reduceIte, ilt_t, ilt_f, ile_t, ile_f, ieq_t, ieq_f, not_true_eq_false, not_false_eq_true, and_true, true_and, and_self, and_false, false_and, Int.reduceMod, Mo_length, Mo_is, Mo_refuse, Mo_gives, Mo_isFrom, e2]
  · have hb : a0 < 0 ∨ (0 ≤ a0 ∧ m 7 1 ≤ a0) := by omega
    refine Stq.mk (x := -1) (m1 := st m 0 0 1) (y := -1) (m2 := st (st m 0 0 1) 75 1 1) ?_ ?_ rfl (h.stat 1)
    · rcases hb with g | g <;> simp (disch := omega) only [bP, bE, bV, ltM, ltI, st_eq, st_ne, w32_id, w64_id, ↓reduceIte, ilt_t, ilt_f, ile_t, ile_f, ieq_t, ieq_f, not_true_eq_false, not_false_eq_true, and_true, true_and, and_self, and_false, false_and, Int.reduceMod, FL_length, FL_isWithin, FL_no, FL_yes, FL_none, FL_answer, Sheet_hasWater]
    · rcases hb with g | g <;> simp (disch := omega) only [bP, bE, bV, ltM, ltI, st_eq, st_ne, w32_id, w64_id, ↓reduceIte, ilt_t, ilt_f, ile_t, ile_f, ieq_t, ieq_f, not_true_eq_false, not_false_eq_true, and_true, true_and, and_self, and_false, false_and, Int.reduceMod, Mo_length, Mo_is, Mo_refuse, Mo_gives, Mo_isFrom]
theorem s_banana {m : Mem} (h : Rel m) {a0 : Int} (c0 : w32 a0 = a0) : Stq w32 (FL_banana a0 m) (fun m1 => Mo_banana a0 m1) := by
  have b0 := cn c0
  obtain ⟨⟨z0, z1, z2, z3, z4, z5, z6⟩, hs, hr, hv, hp⟩ := shF h
  by_cases g : 0 ≤ a0 ∧ a0 < m 7 1 - 1
  · have e1 := c_len h g.1 (show a0 < m 7 1 by omega)
    have e2 := m_len h 0 g.1 (show a0 < m 7 1 by omega)
    have e3 := c_len h (show 0 ≤ a0 + 1 by omega) (show a0 + 1 < m 7 1 by omega)
    have e4 := m_len h 0 (show 0 ≤ a0 + 1 by omega) (show a0 + 1 < m 7 1 by omega)
    refine Stq.mk (x := leS (m 10) (m 7 2) (m 7 0) (a0 + 1) - leS (m 10) (m 7 2) (m 7 0) a0) (m1 := st m 0 0 0) (y := leS (m 10) (m 7 2) (m 7 0) (a0 + 1) - leS (m 10) (m 7 2) (m 7 0) a0) (m2 := st (st m 0 0 0) 75 1 0) ?_ ?_ rfl (h.stat 0)
    · simp (disch := omega) only [bP, bE, bV, ltM, ltI, st_eq, st_ne, w32_id, w64_id, ↓reduceIte, ilt_t, ilt_f, ile_t, ile_f, ieq_t, ieq_f, not_true_eq_false, not_false_eq_true, and_true, true_and, and_self, and_false, false_and, Int.reduceMod, FL_banana, FL_isWithin, FL_no, FL_yes, FL_none, FL_answer, Sheet_hasStrip, e1, e3]
    · simp (disch := omega) only [bP, bE, bV, ltM, ltI, st_eq, st_ne, w32_id, w64_id, ↓reduceIte, ilt_t, ilt_f, ile_t, ile_f, ieq_t, ieq_f, not_true_eq_false, not_false_eq_true, and_true, true_and, and_self, and_false, false_and, Int.reduceMod, Mo_banana, Mo_is, Mo_refuse, Mo_gives, Mo_isFrom, Mo_isStrip, e2, e4]
  · have hb : a0 < 0 ∨ (0 ≤ a0 ∧ m 7 1 - 1 ≤ a0) := by omega
    refine Stq.mk (x := -1) (m1 := st m 0 0 1) (y := -1) (m2 := st (st m 0 0 1) 75 1 1) ?_ ?_ rfl (h.stat 1)
    · rcases hb with g | g <;> simp (disch := omega) only [bP, bE, bV, ltM, ltI, st_eq, st_ne, w32_id, w64_id, ↓reduceIte, ilt_t, ilt_f, ile_t, ile_f, ieq_t, ieq_f, not_true_eq_false, not_false_eq_true, and_true, true_and, and_self, and_false, false_and, Int.reduceMod, FL_banana, FL_isWithin, FL_no, FL_yes, FL_none, FL_answer, Sheet_hasStrip]
    · rcases hb with g | g <;> simp (disch := omega) only [bP, bE, bV, ltM, ltI, st_eq, st_ne, w32_id, w64_id, ↓reduceIte, ilt_t, ilt_f, ile_t, ile_f, ieq_t, ieq_f, not_true_eq_false, not_false_eq_true, and_true, true_and, and_self, and_false, false_and, Int.reduceMod, Mo_banana, Mo_is, Mo_refuse, Mo_gives, Mo_isFrom, Mo_isStrip]
