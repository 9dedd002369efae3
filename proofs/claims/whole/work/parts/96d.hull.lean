/-! layer 2: bevels, what the hull carries -/
theorem mulb {a b A B : Int} (a0 : 0 ≤ a) (a1 : a ≤ A) (b0 : 0 ≤ b) (b1 : b ≤ B) : 0 ≤ a * b ∧ a * b ≤ A * B := ⟨Int.mul_nonneg a0 b0, Int.mul_le_mul a1 b1 b0 (by omega)⟩
theorem tell_step {m : Mem} (h : Rel m) {a b : Int} (a0 : -4611686018427387904 < a) (a1 : a < 4611686018427387904) (b0 : 0 < b) (b1 : b < 4611686018427387904) : ∃ m1 m2, FL_tell a b m = some (1, m1) ∧ (∀ c, c ≠ 0 → m1 c = m c) ∧ Mo_tells a b m1 = some (1, m2) ∧ Rel m2 :=
  ⟨_, _, c_tell a0 a1 b0 b1, fun c hc => by rw [st_ne _ _ _ hc, st_ne _ _ _ hc, st_ne _ _ _ hc], m_tell a0 a1 b0 b1, h.tell _ _⟩
theorem s_bevel {m : Mem} (h : Rel m) {a0 : Int} (c0 : w32 a0 = a0) : Stq w32 (FL_bevel a0 m) (fun m1 => Mo_bevel a0 m1) := by
  have b0 := cn c0
  obtain ⟨⟨z0, z1, z2, z3, z4, z5, z6⟩, hs, hr, hv, hp⟩ := shF h
  by_cases gp : Pt (m 7 0) (m 7 1) a0
  · have f1 := hpT hs gp
    have gp' := gp
    unfold Pt at gp'
    have td : Int.tdiv a0 8 = a0 / 8 := Int.tdiv_eq_ediv_of_nonneg (by omega)
    have tm : Int.tmod a0 8 = a0 % 8 := Int.tmod_eq_emod_of_nonneg (by omega)
    by_cases ge : a0 / 8 = 0 ∨ a0 / 8 = m 7 0 - 1
    · have f2 : ∀ k, Mo_isPoint a0 (st m 0 0 k) = 1 := fun k => mpT hs z0 z1 gp
      refine Stq.mk (x := 0) (m1 := st m 0 0 6) (y := 0) (m2 := st (st m 0 0 6) 75 1 6) ?_ ?_ rfl (h.stat 6)
      · by_cases gz : a0 / 8 = 0
        · simp (disch := omega) only [bP, bE, bV, ltM, ltI, st_eq, st_ne, w32_id, w64_id, ↓reduceIte, ilt_t, ilt_f, ile_t, ile_f, ieq_t, ieq_f, not_true_eq_false, not_false_eq_true, and_true, true_and, and_self, and_false, false_and, Int.reduceMod, FL_bevel, FL_isWithin, FL_no, FL_yes, FL_none, FL_answer, f1, bShr3]
        · simp (disch := omega) only [bP, bE, bV, ltM, ltI, st_eq, st_ne, w32_id, w64_id, ↓reduceIte, ilt_t, ilt_f, ile_t, ile_f, ieq_t, ieq_f, not_true_eq_false, not_false_eq_true, and_true, true_and, and_self, and_false, false_and, Int.reduceMod, FL_bevel, FL_isWithin, FL_no, FL_yes, FL_none, FL_answer, f1, bShr3]
      · by_cases gz : a0 / 8 = 0
        · simp (disch := omega) only [bP, bE, bV, ltM, ltI, st_eq, st_ne, w32_id, w64_id, ↓reduceIte, ilt_t, ilt_f, ile_t, ile_f, ieq_t, ieq_f, not_true_eq_false, not_false_eq_true, and_true, true_and, and_self, and_false, false_and, Int.reduceMod, Mo_bevel, Mo_is, Mo_refuse, Mo_gives, Mo_isFrom, f2, td]
        · simp (disch := omega) only [bP, bE, bV, ltM, ltI, st_eq, st_ne, w32_id, w64_id, ↓reduceIte, ilt_t, ilt_f, ile_t, ile_f, ieq_t, ieq_f, not_true_eq_false, not_false_eq_true, and_true, true_and, and_self, and_false, false_and, Int.reduceMod, Mo_bevel, Mo_is, Mo_refuse, Mo_gives, Mo_isFrom, f2, td]
    · have p1 : Pt (m 7 0) (m 7 1) (a0 + 8) := by unfold Pt; omega
      have p2 : Pt (m 7 0) (m 7 1) (a0 - 8) := by unfold Pt; omega
      have q1 := pt64 hs p1
      have q2 := pt64 hs p2
      have g1 := flC h _ p1
      have g2 := flC h _ p2
      have e1 : Sheet_at 7 (a0 + 8) m = m 10 (a0 + 8) := c_at q1.1 q1.2
      have e2 : Sheet_at 7 (a0 - 8) m = m 10 (a0 - 8) := c_at q2.1 q2.2
      obtain ⟨m1, m2, e3, n1, e4, hR⟩ := tell_step h (a := m 10 (a0 + 8) - m 10 (a0 - 8)) (b := 2 * m 7 2) (by omega) (by omega) (by omega) (by omega)
      have f2 : Mo_isPoint a0 m1 = 1 := mpT hs (by rw [n1 76 (by decide)]; exact z0) (by rw [n1 76 (by decide)]; exact z1) gp
      have k1 : Mo_floor (a0 / 8 + 1) (a0 % 8) m1 = some (m 10 (a0 + 8)) := by
        rw [m_floor (by omega) (by omega), show 8 * (a0 / 8 + 1) + a0 % 8 = a0 + 8 by omega, n1 76 (by decide), flM h _ p1]
      have k2 : Mo_floor (a0 / 8 - 1) (a0 % 8) m1 = some (m 10 (a0 - 8)) := by
        rw [m_floor (by omega) (by omega), show 8 * (a0 / 8 - 1) + a0 % 8 = a0 - 8 by omega, n1 76 (by decide), flM h _ p2]
      have k3 : m1 76 0 = m 7 0 := by rw [n1 76 (by decide)]; exact z0
      have k4 : m1 76 2 = m 7 2 := by rw [n1 76 (by decide)]; exact z2
      refine Stq.mk (x := 1) (m1 := m1) (y := 1) (m2 := m2) ?_ ?_ rfl hR
      · simp (disch := omega) only [bP, bE, bV, ltM, ltI, st_eq, st_ne, w32_id, w64_id, ↓reduceIte, ilt_t, ilt_f, ile_t, ile_f, ieq_t, ieq_f, not_true_eq_false, not_false_eq_true, and_true, true_and, and_self, and_false, false_and, Int.reduceMod, FL_bevel, FL_isWithin, FL_no, FL_yes, FL_none, FL_answer, f1, bShr3, e1, e2, e3]
      · simp (disch := omega) only [bP, bE, bV, ltM, ltI, st_eq, st_ne, w32_id, w64_id, ↓reduceIte, ilt_t, ilt_f, ile_t, ile_f, ieq_t, ieq_f, not_true_eq_false, not_false_eq_true, and_true, true_and, and_self, and_false, false_and, Int.reduceMod, Mo_bevel, Mo_is, Mo_refuse, Mo_gives, Mo_isFrom, f2, td, tm, k1, k2, k3, k4, e4]
  · have f1 := hpF hs (c64 c0) gp
    have f2 : ∀ k, Mo_isPoint a0 (st m 0 0 k) = 0 := fun k => mpF hs z0 z1 (c64 c0) gp
    refine Stq.mk (x := 0) (m1 := st m 0 0 1) (y := 0) (m2 := st (st m 0 0 1) 75 1 1) ?_ ?_ rfl (h.stat 1)
    · simp (disch := omega) only [bP, bE, bV, ltM, ltI, st_eq, st_ne, w32_id, w64_id, ↓reduceIte, ilt_t, ilt_f, ile_t, ile_f, ieq_t, ieq_f, not_true_eq_false, not_false_eq_true, and_true, true_and, and_self, and_false, false_and, Int.reduceMod, FL_bevel, FL_isWithin, FL_no, FL_yes, FL_none, FL_answer, f1]
    · simp (disch := omega) only [bP, bE, bV, ltM, ltI, st_eq, st_ne, w32_id, w64_id, ↓reduceIte, ilt_t, ilt_f, ile_t, ile_f, ieq_t, ieq_f, not_true_eq_false, not_false_eq_true, and_true, true_and, and_self, and_false, false_and, Int.reduceMod, Mo_bevel, Mo_is, Mo_refuse, Mo_gives, Mo_isFrom, f2]
def arS (F : Int → Int) (wt s : Int) : Int := 0 + suS (fun w => F (8 * s + w) + F (8 * s + (w + 1))) (wt - 0).toNat 0
theorem arS_b {F : Int → Int} {S W wt s : Int} (hs : gSW S W) (hfl : ∀ q, Pt S W q → 0 ≤ F q ∧ F q ≤ 999) (w0 : 0 ≤ wt) (w1 : wt < W) (s0 : 0 ≤ s) (s1 : s < S) : 0 ≤ arS F wt s ∧ arS F wt s ≤ 9990 := by
  have := suS_b (g := fun w => F (8 * s + w) + F (8 * s + (w + 1))) (B := 1998) (wt - 0).toNat 0 (fun x x0 x1 => by
    have f1 := hfl _ (pt8 hs s0 s1 (w := x) (by omega) (by omega))
    have f2 := hfl _ (pt8 hs s0 s1 (w := x + 1) (by omega) (by omega))
    omega)
  unfold arS
  have e : ((wt - 0).toNat : Int) * 1998 ≤ 9990 := by omega
  omega
theorem c_area {m : Mem} {wt s : Int} (hs : gSW (m 7 0) (m 7 1)) (hfl : ∀ q, Pt (m 7 0) (m 7 1) q → 0 ≤ m 10 q ∧ m 10 q ≤ 999) (w0 : 0 ≤ wt) (w1 : wt < m 7 1) (s0 : 0 ≤ s) (s1 : s < m 7 0) : Sheet_areaOf 7 s wt m = some (arS (m 10) wt s) := by
  have key : ∀ (n : Nat) (acc w : Int), 0 ≤ w → w ≤ 20 → (wt - w).toNat < n → Sheet_areaOf_L5 7 s wt m n acc w = some (acc + suS (fun w => m 10 (8 * s + w) + m 10 (8 * s + (w + 1))) (wt - w).toNat w) := by
    intro n
    induction n with
    | zero => intro acc w _ _ q; omega
    | succ n ih =>
      intro acc w x0 x20 hn
      rw [Sheet_areaOf_L5, w32_id (x := w) (by omega) (by omega), w32_id (x := wt) (by omega) (by omega)]
      by_cases q : wt ≤ w
      · rw [if_pos q, show (wt - w).toNat = 0 by omega]; simp [suS]
      · have p1 := pt8 hs s0 s1 (w := w) (by omega) (by omega)
        have p2 := pt8 hs s0 s1 (w := w + 1) (by omega) (by omega)
        have f1 := hfl _ p1
        have f2 := hfl _ p2
        rw [if_neg q, show 8 * s + w + 1 = 8 * s + (w + 1) by omega, c_at (pt64 hs p1).1 (pt64 hs p1).2, c_at (pt64 hs p2).1 (pt64 hs p2).2, w32_id (by omega) (by omega), ih _ (w + 1) (by omega) (by omega) (by omega), show (wt - w).toNat = (wt - (w + 1)).toNat + 1 by omega, suS_succ]
        congr 1; omega
  exact key FU 0 0 (by omega) (by omega) (by rw [FU_eq]; omega)
theorem m_area {m : Mem} {S W wt s : Int} (hs : gSW S W) (hfl : ∀ q, Pt S W q → 0 ≤ m 76 (80 + q) ∧ m 76 (80 + q) ≤ 999) (w0 : 0 ≤ wt) (w1 : wt < W) (s0 : 0 ≤ s) (s1 : s < S) : Mo_areaOf s wt m = some (arS (fun q => m 76 (80 + q)) wt s) := by
  have key : ∀ (n : Nat) (acc w : Int), 0 ≤ w → w ≤ 20 → (wt - w).toNat < n → Mo_areaOf_L5 s wt m n acc w = some (acc + suS (fun w => m 76 (80 + (8 * s + w)) + m 76 (80 + (8 * s + (w + 1)))) (wt - w).toNat w) := by
    intro n
    induction n with
    | zero => intro acc w _ _ q; omega
    | succ n ih =>
      intro acc w x0 x20 hn
      rw [Mo_areaOf_L5, w32_id (x := w) (by omega) (by omega), w32_id (x := wt) (by omega) (by omega)]
      by_cases q : wt ≤ w
      · rw [if_pos q, show (wt - w).toNat = 0 by omega]; simp [suS]
      · have p1 := pt8 hs s0 s1 (w := w) (by omega) (by omega)
        have p2 := pt8 hs s0 s1 (w := w + 1) (by omega) (by omega)
        have f1 := hfl _ p1
        have f2 := hfl _ p2
        rw [if_neg q, m_floor (pt64 hs p1).1 (pt64 hs p1).2, m_floor (pt64 hs p2).1 (pt64 hs p2).2]
        simp only [bP]
        rw [w32_id (by omega) (by omega), ih _ (w + 1) (by omega) (by omega) (by omega), show (wt - w).toNat = (wt - (w + 1)).toNat + 1 by omega, suS_succ]
        congr 1; omega
  exact key FU 0 0 (by omega) (by omega) (by rw [FU_eq]; omega)
def agS (F : Int → Int) (wt S : Int) : Int := 0 + suS (fun s => arS F wt s + arS F wt (s + 1)) (S - 1 - 0).toNat 0
def moS (F : Int → Int) (wt S : Int) : Int := 0 + suS (fun s => arS F wt s * s + arS F wt (s + 1) * (s + 1)) (S - 1 - 0).toNat 0
theorem agS_b {F : Int → Int} {S W wt : Int} (hs : gSW S W) (hfl : ∀ q, Pt S W q → 0 ≤ F q ∧ F q ≤ 999) (w0 : 0 ≤ wt) (w1 : wt < W) : 0 ≤ agS F wt S ∧ agS F wt S ≤ 139860 := by
  have := suS_b (g := fun s => arS F wt s + arS F wt (s + 1)) (B := 19980) (S - 1 - 0).toNat 0 (fun x x0 x1 => by
    have f1 := arS_b hs hfl w0 w1 (s := x) (by omega) (by omega)
    have f2 := arS_b hs hfl w0 w1 (s := x + 1) (by omega) (by omega)
    omega)
  unfold agS
  have e : ((S - 1 - 0).toNat : Int) * 19980 ≤ 139860 := by omega
  omega
theorem moS_b {F : Int → Int} {S W wt : Int} (hs : gSW S W) (hfl : ∀ q, Pt S W q → 0 ≤ F q ∧ F q ≤ 999) (w0 : 0 ≤ wt) (w1 : wt < W) : 0 ≤ moS F wt S ∧ moS F wt S ≤ 1118880 := by
  have := suS_b (g := fun s => arS F wt s * s + arS F wt (s + 1) * (s + 1)) (B := 159840) (S - 1 - 0).toNat 0 (fun x x0 x1 => by
    have f1 := arS_b hs hfl w0 w1 (s := x) (by omega) (by omega)
    have f2 := arS_b hs hfl w0 w1 (s := x + 1) (by omega) (by omega)
    have g1 := mulb f1.1 f1.2 (b := x) (B := 8) (by omega) (by omega)
    have g2 := mulb f2.1 f2.2 (b := x + 1) (B := 8) (by omega) (by omega)
    omega)
  unfold moS
  have e : ((S - 1 - 0).toNat : Int) * 159840 ≤ 1118880 := by omega
  omega
theorem c_areas {m : Mem} {wt : Int} (hs : gSW (m 7 0) (m 7 1)) (hfl : ∀ q, Pt (m 7 0) (m 7 1) q → 0 ≤ m 10 q ∧ m 10 q ≤ 999) (w0 : 0 ≤ wt) (w1 : wt < m 7 1) : Sheet_areasTogether 7 wt m = some (agS (m 10) wt (m 7 0)) := by
  have key : ∀ (n : Nat) (acc s : Int), 0 ≤ s → s ≤ 20 → (m 7 0 - 1 - s).toNat < n → Sheet_areasTogether_L5 7 wt m n acc s = some (acc + suS (fun s => arS (m 10) wt s + arS (m 10) wt (s + 1)) (m 7 0 - 1 - s).toNat s) := by
    intro n
    induction n with
    | zero => intro acc s _ _ q; omega
    | succ n ih =>
      intro acc s x0 x20 hn
      rw [Sheet_areasTogether_L5, w32_id (x := s) (by omega) (by omega), w32_id (x := m 7 0 - 1) (by omega) (by omega)]
      by_cases q : m 7 0 - 1 ≤ s
      · rw [if_pos q, show (m 7 0 - 1 - s).toNat = 0 by omega]; simp [suS]
      · rw [if_neg q, c_area hs hfl w0 w1 x0 (by omega), c_area hs hfl w0 w1 (show 0 ≤ s + 1 by omega) (by omega)]
        simp only [bP]
        rw [ih _ (s + 1) (by omega) (by omega) (by omega), show (m 7 0 - 1 - s).toNat = (m 7 0 - 1 - (s + 1)).toNat + 1 by omega, suS_succ]
        congr 1; omega
  exact key FU 0 0 (by omega) (by omega) (by rw [FU_eq]; omega)
theorem c_moms {m : Mem} {wt : Int} (hs : gSW (m 7 0) (m 7 1)) (hfl : ∀ q, Pt (m 7 0) (m 7 1) q → 0 ≤ m 10 q ∧ m 10 q ≤ 999) (w0 : 0 ≤ wt) (w1 : wt < m 7 1) : Sheet_momentsTogether 7 wt m = some (moS (m 10) wt (m 7 0)) := by
  have key : ∀ (n : Nat) (acc s : Int), 0 ≤ s → s ≤ 20 → (m 7 0 - 1 - s).toNat < n → Sheet_momentsTogether_L5 7 wt m n acc s = some (acc + suS (fun s => arS (m 10) wt s * s + arS (m 10) wt (s + 1) * (s + 1)) (m 7 0 - 1 - s).toNat s) := by
    intro n
    induction n with
    | zero => intro acc s _ _ q; omega
    | succ n ih =>
      intro acc s x0 x20 hn
      rw [Sheet_momentsTogether_L5, w32_id (x := s) (by omega) (by omega), w32_id (x := s + 1) (by omega) (by omega), w32_id (x := m 7 0 - 1) (by omega) (by omega)]
      by_cases q : m 7 0 - 1 ≤ s
      · rw [if_pos q, show (m 7 0 - 1 - s).toNat = 0 by omega]; simp [suS]
      · rw [if_neg q, c_area hs hfl w0 w1 x0 (by omega), c_area hs hfl w0 w1 (show 0 ≤ s + 1 by omega) (by omega)]
        simp only [bP]
        rw [ih _ (s + 1) (by omega) (by omega) (by omega), show (m 7 0 - 1 - s).toNat = (m 7 0 - 1 - (s + 1)).toNat + 1 by omega, suS_succ]
        congr 1; omega
  exact key FU 0 0 (by omega) (by omega) (by rw [FU_eq]; omega)
theorem c_vol {m : Mem} {wt : Int} (hs : gSW (m 7 0) (m 7 1)) (hfl : ∀ q, Pt (m 7 0) (m 7 1) q → 0 ≤ m 10 q ∧ m 10 q ≤ 999) (h2 : 0 ≤ m 7 2 ∧ m 7 2 ≤ 999) (h3 : 0 ≤ m 7 3 ∧ m 7 3 ≤ 999) (w0 : 0 ≤ wt) (w1 : wt < m 7 1) : Sheet_twiceVolume 7 wt m = some (agS (m 10) wt (m 7 0) * m 7 2 * m 7 3) := by
  unfold Sheet_twiceVolume
  rw [c_areas hs hfl w0 w1, w32_id (x := m 7 2) (by omega) (by omega), w32_id (x := m 7 3) (by omega) (by omega)]
  rfl
theorem m_vol {m : Mem} {S W wt : Int} (hs : gSW S W) (z0 : m 76 0 = S) (hfl : ∀ q, Pt S W q → 0 ≤ m 76 (80 + q) ∧ m 76 (80 + q) ≤ 999) (h2 : 0 ≤ m 76 2 ∧ m 76 2 ≤ 999) (h3 : 0 ≤ m 76 3 ∧ m 76 3 ≤ 999) (w0 : 0 ≤ wt) (w1 : wt < W) : Mo_volumeOf wt m = some (agS (fun q => m 76 (80 + q)) wt S * m 76 2 * m 76 3) := by
  have key : ∀ (n : Nat) (acc s : Int), 0 ≤ s → s ≤ 20 → (S - 1 - s).toNat < n → Mo_volumeOf_L5 wt m n acc s = some ((acc + suS (fun s => arS (fun q => m 76 (80 + q)) wt s + arS (fun q => m 76 (80 + q)) wt (s + 1)) (S - 1 - s).toNat s) * m 76 2 * m 76 3) := by
    intro n
    induction n with
    | zero => intro acc s _ _ q; omega
    | succ n ih =>
      intro acc s x0 x20 hn
      rw [Mo_volumeOf_L5, z0, w32_id (x := s + 1) (by omega) (by omega), w32_id (x := S) (by omega) (by omega), w32_id (x := m 76 2) (by omega) (by omega), w32_id (x := m 76 3) (by omega) (by omega)]
      by_cases q : S ≤ s + 1
      · rw [if_pos q, show (S - 1 - s).toNat = 0 by omega]; simp [suS]
      · rw [if_neg q, m_area hs hfl w0 w1 x0 (by omega), m_area hs hfl w0 w1 (show 0 ≤ s + 1 by omega) (by omega)]
        simp only [bP]
        rw [ih _ (s + 1) (by omega) (by omega) (by omega), show (S - 1 - s).toNat = (S - 1 - (s + 1)).toNat + 1 by omega, suS_succ]
        congr 3; omega
  exact key FU 0 0 (by omega) (by omega) (by rw [FU_eq]; omega)
theorem arS_c {F G : Int → Int} {S W wt s : Int} (hs : gSW S W) (e : ∀ q, Pt S W q → F q = G q) (w0 : 0 ≤ wt) (w1 : wt < W) (s0 : 0 ≤ s) (s1 : s < S) : arS F wt s = arS G wt s := by
  unfold arS
  rw [suS_congr (g' := fun w => G (8 * s + w) + G (8 * s + (w + 1))) _ _ (fun x x0 x1 => by rw [e _ (pt8 hs s0 s1 (w := x) (by omega) (by omega)), e _ (pt8 hs s0 s1 (w := x + 1) (by omega) (by omega))])]
theorem agS_c {F G : Int → Int} {S W wt : Int} (hs : gSW S W) (e : ∀ q, Pt S W q → F q = G q) (w0 : 0 ≤ wt) (w1 : wt < W) : agS F wt S = agS G wt S := by
  unfold agS
  rw [suS_congr (g' := fun s => arS G wt s + arS G wt (s + 1)) _ _ (fun x x0 x1 => by rw [arS_c hs e w0 w1 (by omega) (by omega), arS_c hs e w0 w1 (show 0 ≤ x + 1 by omega) (by omega)])]
theorem moS_c {F G : Int → Int} {S W wt : Int} (hs : gSW S W) (e : ∀ q, Pt S W q → F q = G q) (w0 : 0 ≤ wt) (w1 : wt < W) : moS F wt S = moS G wt S := by
  unfold moS
  rw [suS_congr (g' := fun s => arS G wt s * s + arS G wt (s + 1) * (s + 1)) _ _ (fun x x0 x1 => by rw [arS_c hs e w0 w1 (by omega) (by omega), arS_c hs e w0 w1 (show 0 ≤ x + 1 by omega) (by omega)])]
theorem vol_b {ag sp ri : Int} (h1 : 0 ≤ ag) (h2 : ag ≤ 139860) (h3 : 0 ≤ sp) (h4 : sp ≤ 999) (h5 : 0 ≤ ri) (h6 : ri ≤ 999) : 0 ≤ ag * sp * ri ∧ ag * sp * ri ≤ 139580419860 := by
  have q1 := mulb h1 h2 h3 h4
  have q2 := mulb q1.1 q1.2 h5 h6
  omega
theorem s_volume {m : Mem} (h : Rel m) {a0 : Int} (c0 : w32 a0 = a0) : Stq w32 (FL_volume a0 m) (fun m1 => Mo_volume a0 m1) := by
  have b0 := cn c0
  obtain ⟨⟨z0, z1, z2, z3, z4, z5, z6⟩, hs, hr, hv, hp⟩ := shF h
  by_cases g : 1 ≤ a0 ∧ a0 < m 7 1
  · have e1 := c_vol hs (flC h) (show 0 ≤ m 7 2 ∧ m 7 2 ≤ 999 by omega) (show 0 ≤ m 7 3 ∧ m 7 3 ≤ 999 by omega) (show 0 ≤ a0 by omega) g.2
    have ba := agS_b hs (flC h) (show 0 ≤ a0 by omega) g.2
    have bv := vol_b ba.1 ba.2 (show 0 ≤ m 7 2 by omega) (by omega) (show 0 ≤ m 7 3 by omega) (by omega)
    obtain ⟨m1, m2, e3, n1, e4, hR⟩ := tell_step h (a := agS (m 10) a0 (m 7 0) * m 7 2 * m 7 3) (b := 2) (by omega) (by omega) (by omega) (by omega)
    have k76 := n1 76 (by decide)
    have e2 : Mo_volumeOf a0 m1 = some (agS (m 10) a0 (m 7 0) * m 7 2 * m 7 3) := by
      rw [m_vol (m := m1) hs (by rw [k76]; exact z0) (by rw [k76]; exact flMb h) (by rw [k76]; omega) (by rw [k76]; omega) (show 0 ≤ a0 by omega) g.2, k76, agS_c hs (flM h) (by omega) g.2, z2, z3]
    have k1 : m1 76 1 = m 7 1 := by rw [k76]; exact z1
    refine Stq.mk (x := 1) (m1 := m1) (y := 1) (m2 := m2) ?_ ?_ rfl hR
    · simp (disch := omega) only [bP, bE, bV, ltM, ltI, st_eq, st_ne, w32_id, w64_id, ↓reduceIte, ilt_t, ilt_f, ile_t, ile_f, ieq_t, ieq_f, not_true_eq_false, not_false_eq_true, and_true, true_and, and_self, and_false, false_and, Int.reduceMod, FL_volume, FL_isWithin, FL_no, FL_yes, FL_none, FL_answer, Sheet_hasWater, e1, e3]
    · simp (disch := omega) only [bP, bE, bV, ltM, ltI, st_eq, st_ne, w32_id, w64_id, ↓reduceIte, ilt_t, ilt_f, ile_t, ile_f, ieq_t, ieq_f, not_true_eq_false, not_false_eq_true, and_true, true_and, and_self, and_false, false_and, Int.reduceMod, Mo_volume, Mo_is, Mo_refuse, Mo_gives, Mo_isFrom, Mo_isUpTo, k1, e2, e4]
  · have hb : a0 < 1 ∨ (1 ≤ a0 ∧ m 7 1 ≤ a0) := by omega
    refine Stq.mk (x := 0) (m1 := st m 0 0 1) (y := 0) (m2 := st (st m 0 0 1) 75 1 1) ?_ ?_ rfl (h.stat 1)
    · rcases hb with g | g <;> simp (disch := omega) only [bP, bE, bV, ltM, ltI, st_eq, st_ne, w32_id, w64_id, ↓reduceIte, ilt_t, ilt_f, ile_t, ile_f, ieq_t, ieq_f, not_true_eq_false, not_false_eq_true, and_true, true_and, and_self, and_false, false_and, Int.reduceMod, FL_volume, FL_isWithin, FL_no, FL_yes, FL_none, FL_answer, Sheet_hasWater]
    · rcases hb with g | g <;> simp (disch := omega) only [bP, bE, bV, ltM, ltI, st_eq, st_ne, w32_id, w64_id, ↓reduceIte, ilt_t, ilt_f, ile_t, ile_f, ieq_t, ieq_f, not_true_eq_false, not_false_eq_true, and_true, true_and, and_self, and_false, false_and, Int.reduceMod, Mo_volume, Mo_is, Mo_refuse, Mo_gives, Mo_isFrom, Mo_isUpTo]
theorem m_centre_loop {m : Mem} {S W wt : Int} (hs : gSW S W) (z0 : m 76 0 = S) (hfl : ∀ q, Pt S W q → 0 ≤ m 76 (80 + q) ∧ m 76 (80 + q) ≤ 999) (w0 : 0 ≤ wt) (w1 : wt < W) : ∀ (n : Nat) (up low s : Int), 0 ≤ s → s ≤ 20 → (S - 1 - s).toNat < n → ∀ U L, up + suS (fun s => arS (fun q => m 76 (80 + q)) wt s * s + arS (fun q => m 76 (80 + q)) wt (s + 1) * (s + 1)) (S - 1 - s).toNat s = U → low + suS (fun s => arS (fun q => m 76 (80 + q)) wt s + arS (fun q => m 76 (80 + q)) wt (s + 1)) (S - 1 - s).toNat s = L → Mo_centre_L22 wt n up low s m = (if ¬ (w64 L) = 0 then (bE (Mo_tells (U * (w32 (m 76 2))) L m) fun x6 m8 => some ((x6 % 2), m8)) else some (((Mo_is 6 m).1 % 2), (Mo_is 6 m).2)) := by
  intro n
  induction n with
  | zero => intro up low s _ _ q; omega
  | succ n ih =>
    intro up low s x0 x20 hn U L hU hL
    rw [Mo_centre_L22, z0, w32_id (x := s + 1) (by omega) (by omega), w32_id (x := s) (by omega) (by omega), w32_id (x := S) (by omega) (by omega)]
    by_cases q : S ≤ s + 1
    · rw [show (S - 1 - s).toNat = 0 by omega] at hU hL
      simp only [suS, Int.add_zero] at hU hL
      subst hU; subst hL
      rw [if_pos q]
    · rw [show (S - 1 - s).toNat = (S - 1 - (s + 1)).toNat + 1 by omega, suS_succ] at hU hL
      rw [if_neg q, m_area hs hfl w0 w1 x0 (by omega), m_area hs hfl w0 w1 (show 0 ≤ s + 1 by omega) (by omega)]
      simp only [bP]
      exact ih _ _ (s + 1) (by omega) (by omega) (by omega) U L (by omega) (by omega)
theorem s_centre {m : Mem} (h : Rel m) {a0 : Int} (c0 : w32 a0 = a0) : Stq w32 (FL_centre a0 m) (fun m1 => Mo_centre a0 m1) := by
  have b0 := cn c0
  obtain ⟨⟨z0, z1, z2, z3, z4, z5, z6⟩, hs, hr, hv, hp⟩ := shF h
  by_cases g : 1 ≤ a0 ∧ a0 < m 7 1
  · have w0 : 0 ≤ a0 := by omega
    have e1 := c_areas hs (flC h) w0 g.2
    have e1' := c_moms hs (flC h) w0 g.2
    have ba := agS_b hs (flC h) w0 g.2
    have bm := moS_b hs (flC h) w0 g.2
    have bv := mulb bm.1 bm.2 (show 0 ≤ m 7 2 by omega) (show m 7 2 ≤ 999 by omega)
    have key : ∀ m1 : Mem, m1 76 = m 76 → Mo_centre_L22 a0 FU 0 0 0 m1 = (if ¬ (w64 (agS (m 10) a0 (m 7 0))) = 0 then (bE (Mo_tells (moS (m 10) a0 (m 7 0) * (w32 (m1 76 2))) (agS (m 10) a0 (m 7 0)) m1) fun x6 m8 => some ((x6 % 2), m8)) else some (((Mo_is 6 m1).1 % 2), (Mo_is 6 m1).2)) := by
      intro m1 k76
      refine m_centre_loop (m := m1) (S := m 7 0) (W := m 7 1) hs (by rw [k76]; exact z0) (by rw [k76]; exact flMb h) w0 g.2 FU 0 0 0 (by omega) (by omega) (by rw [FU_eq]; omega) _ _ ?_ ?_
      · rw [k76]; exact moS_c hs (flM h) w0 g.2
      · rw [k76]; exact agS_c hs (flM h) w0 g.2
    by_cases ga : agS (m 10) a0 (m 7 0) = 0
    · refine Stq.mk (x := 0) (m1 := st m 0 0 6) (y := 0) (m2 := st (st m 0 0 6) 75 1 6) ?_ ?_ rfl (h.stat 6)
      · simp (disch := omega) only [bP, bE, bV, ltM, ltI, st_eq, st_ne, w32_id, w64_id, ↓reduceIte, ilt_t, ilt_f, ile_t, ile_f, ieq_t, ieq_f, not_true_eq_false, not_false_eq_true, and_true, true_and, and_self, and_false, false_and, Int.reduceMod, FL_centre, FL_isWithin, FL_no, FL_yes, FL_none, FL_answer, Sheet_hasWater, e1]
      · have k := key (st m 0 0 6) rfl
        simp (disch := omega) only [bP, bE, bV, ltM, ltI, st_eq, st_ne, w32_id, w64_id, ↓reduceIte, ilt_t, ilt_f, ile_t, ile_f, ieq_t, ieq_f, not_true_eq_false, not_false_eq_true, and_true, true_and, and_self, and_false, false_and, Int.reduceMod, Mo_centre, Mo_is, Mo_refuse, Mo_gives, Mo_isFrom, Mo_isUpTo, k]
    · obtain ⟨m1, m2, e3, n1, e4, hR⟩ := tell_step h (a := moS (m 10) a0 (m 7 0) * m 7 2) (b := agS (m 10) a0 (m 7 0)) (by omega) (by omega) (by omega) (by omega)
      have k76 := n1 76 (by decide)
      have k := key m1 k76
      have k1 : m1 76 1 = m 7 1 := by rw [k76]; exact z1
      have k2 : m1 76 2 = m 7 2 := by rw [k76]; exact z2
      refine Stq.mk (x := 1) (m1 := m1) (y := 1) (m2 := m2) ?_ ?_ rfl hR
      · simp (disch := omega) only [bP, bE, bV, ltM, ltI, st_eq, st_ne, w32_id, w64_id, ↓reduceIte, ilt_t, ilt_f, ile_t, ile_f, ieq_t, ieq_f, not_true_eq_false, not_false_eq_true, and_true, true_and, and_self, and_false, false_and, Int.reduceMod, FL_centre, FL_isWithin, FL_no, FL_yes, FL_none, FL_answer, Sheet_hasWater, e1, e1', e3]
      · simp (disch := omega) only [bP, bE, bV, ltM, ltI, st_eq, st_ne, w32_id, w64_id, ↓reduceIte, ilt_t, ilt_f, ile_t, ile_f, ieq_t, ieq_f, not_true_eq_false, not_false_eq_true, and_true, true_and, and_self, and_false, false_and, Int.reduceMod, Mo_centre, Mo_is, Mo_refuse, Mo_gives, Mo_isFrom, Mo_isUpTo, k1, k, k2, e4]
  · have hb : a0 < 1 ∨ (1 ≤ a0 ∧ m 7 1 ≤ a0) := by omega
    refine Stq.mk (x := 0) (m1 := st m 0 0 1) (y := 0) (m2 := st (st m 0 0 1) 75 1 1) ?_ ?_ rfl (h.stat 1)
    · rcases hb with g | g <;> simp (disch := omega) only [bP, bE, bV, ltM, ltI, st_eq, st_ne, w32_id, w64_id, ↓reduceIte, ilt_t, ilt_f, ile_t, ile_f, ieq_t, ieq_f, not_true_eq_false, not_false_eq_true, and_true, true_and, and_self, and_false, false_and, Int.reduceMod, FL_centre, FL_isWithin, FL_no, FL_yes, FL_none, FL_answer, Sheet_hasWater]
    · rcases hb with g | g <;> simp (disch := omega) only [bP, bE, bV, ltM, ltI, st_eq, st_ne, w32_id, w64_id, ↓reduceIte, ilt_t, ilt_f, ile_t, ile_f, ieq_t, ieq_f, not_true_eq_false, not_false_eq_true, and_true, true_and, and_self, and_false, false_and, Int.reduceMod, Mo_centre, Mo_is, Mo_refuse, Mo_gives, Mo_isFrom, Mo_isUpTo]
theorem st_back (m : Mem) (c : Nat) (i v : Int) : st (st m c i v) c i (m c i) = m := by
  funext c' i'
  by_cases h : c' = c
  · subst h
    rw [st_eq, st_eq]
    by_cases q : i' = i
    · rw [if_pos q, q]
    · rw [if_neg q, if_neg q]
  · rw [st_ne _ _ _ h, st_ne _ _ _ h]
theorem s_carried {m : Mem} (h : Rel m) {a0 a1 a2 : Int} (c0 : w32 a0 = a0) (c1 : w32 a1 = a1) (c2 : w32 a2 = a2) : Stq w32 (FL_carried a0 a1 a2 m) (fun m1 => Mo_carried a0 a1 a2 m1) := by
  have b0 := cn c0
  have b1 := cn c1
  have b2 := cn c2
  obtain ⟨⟨z0, z1, z2, z3, z4, z5, z6⟩, hs, hr, hv, hp⟩ := shF h
  by_cases g : 1 ≤ a0 ∧ a0 < m 7 1
  · by_cases gp : Pt (m 7 0) (m 7 1) a1
    · have f1 := hpT hs gp
      have gp' := pt64 hs gp
      by_cases gb : 0 ≤ a2 ∧ a2 ≤ 999
      · have w0 : 0 ≤ a0 := by omega
        have e1 := c_vol hs (flC h) (show 0 ≤ m 7 2 ∧ m 7 2 ≤ 999 by omega) (show 0 ≤ m 7 3 ∧ m 7 3 ≤ 999 by omega) w0 g.2
        have hfl' : ∀ q, Pt (m 7 0) (m 7 1) q → 0 ≤ (st m 10 a1 a2) 10 q ∧ (st m 10 a1 a2) 10 q ≤ 999 := by
          intro q hq
          rw [st_eq]
          split
          · exact gb
          · exact flC h q hq
        have e1' := c_vol (m := st m 10 a1 a2) hs hfl' (show 0 ≤ m 7 2 ∧ m 7 2 ≤ 999 by omega) (show 0 ≤ m 7 3 ∧ m 7 3 ≤ 999 by omega) w0 g.2
        have ba := agS_b hs (flC h) w0 g.2
        have bv := vol_b ba.1 ba.2 (show 0 ≤ m 7 2 by omega) (by omega) (show 0 ≤ m 7 3 by omega) (by omega)
        have ba' := agS_b hs hfl' w0 g.2
        have bv' := vol_b ba'.1 ba'.2 (show 0 ≤ m 7 2 by omega) (by omega) (show 0 ≤ m 7 3 by omega) (by omega)
        have e1'' : Sheet_twiceVolume 7 a0 (st m 10 a1 a2) = some (agS (st m 10 a1 a2 10) a0 (m 7 0) * m 7 2 * m 7 3) := e1'
        obtain ⟨m1, m2, e3, n1, e4, hR⟩ := tell_step h (a := agS (st m 10 a1 a2 10) a0 (m 7 0) * m 7 2 * m 7 3 - agS (m 10) a0 (m 7 0) * m 7 2 * m 7 3) (b := 2) (by omega) (by omega) (by omega) (by omega)
        have k76 := n1 76 (by decide)
        have e2 : Mo_volumeOf a0 m1 = some (agS (m 10) a0 (m 7 0) * m 7 2 * m 7 3) := by
          rw [m_vol (m := m1) hs (by rw [k76]; exact z0) (by rw [k76]; exact flMb h) (by rw [k76]; omega) (by rw [k76]; omega) w0 g.2, k76, agS_c hs (flM h) w0 g.2, z2, z3]
        have hm' : ∀ q, Pt (m 7 0) (m 7 1) q → (st m1 76 (80 + a1) a2) 76 (80 + q) = st m 10 a1 a2 10 q := by
          intro q hq
          rw [st_eq, st_eq, k76]
          by_cases e : q = a1
          · rw [if_pos (by omega), if_pos e]
          · rw [if_neg (by omega), if_neg e]; exact flM h q hq
        have i0 : st m1 76 (80 + a1) a2 76 0 = m 7 0 := by rw [st_eq, if_neg (by omega), k76]; exact z0
        have i2 : st m1 76 (80 + a1) a2 76 2 = m 7 2 := by rw [st_eq, if_neg (by omega), k76]; exact z2
        have i3 : st m1 76 (80 + a1) a2 76 3 = m 7 3 := by rw [st_eq, if_neg (by omega), k76]; exact z3
        have e2' : Mo_volumeOf a0 (st m1 76 (80 + a1) a2) = some (agS (st m 10 a1 a2 10) a0 (m 7 0) * m 7 2 * m 7 3) := by
          rw [m_vol (m := st m1 76 (80 + a1) a2) hs i0 (fun q hq => by rw [hm' q hq]; exact hfl' q hq) (by rw [i2]; omega) (by rw [i3]; omega) w0 g.2, agS_c hs hm' w0 g.2, i2, i3]
        have k1 : m1 76 1 = m 7 1 := by rw [k76]; exact z1
        have f2 : Mo_isPoint a1 m1 = 1 := mpT hs (by rw [k76]; exact z0) k1 gp
        have e5 : Sheet_put 7 a1 a2 m = st m 10 a1 a2 := by simp (disch := omega) only [bP, bE, bV, ltM, ltI, st_eq, st_ne, w32_id, w64_id, ↓reduceIte, ilt_t, ilt_f, ile_t, ile_f, ieq_t, ieq_f, not_true_eq_false, not_false_eq_true, and_true, true_and, and_self, and_false, false_and, Int.reduceMod, Sheet_put, Nat.reduceAdd]
        have e6 : Sheet_at 7 a1 m = m 10 a1 := c_at gp'.1 gp'.2
        have e7 : Sheet_put 7 a1 (m 10 a1) (st m 10 a1 a2) = m := by
          have : Sheet_put 7 a1 (m 10 a1) (st m 10 a1 a2) = st (st m 10 a1 a2) 10 a1 (m 10 a1) := by simp (disch := omega) only [bP, bE, bV, ltM, ltI, st_eq, st_ne, w32_id, w64_id, ↓reduceIte, ilt_t, ilt_f, ile_t, ile_f, ieq_t, ieq_f, not_true_eq_false, not_false_eq_true, and_true, true_and, and_self, and_false, false_and, Int.reduceMod, Sheet_put, Nat.reduceAdd]
          rw [this, st_back]
        have e8 : st (st m1 76 (80 + a1) a2) 76 (80 + a1) (m1 76 (80 + a1)) = m1 := st_back _ _ _ _
        refine Stq.mk (x := 1) (m1 := m1) (y := 1) (m2 := m2) ?_ ?_ rfl hR
        · simp (disch := omega) only [bP, bE, bV, ltM, ltI, st_eq, st_ne, w32_id, w64_id, ↓reduceIte, ilt_t, ilt_f, ile_t, ile_f, ieq_t, ieq_f, not_true_eq_false, not_false_eq_true, and_true, true_and, and_self, and_false, false_and, Int.reduceMod, FL_carried, FL_isWithin, FL_no, FL_yes, FL_none, FL_answer, Sheet_hasWater, f1, e1, e5, e6, e7, e1'', e3]
        · simp (disch := omega) only [bP, bE, bV, ltM, ltI, st_eq, st_ne, w32_id, w64_id, ↓reduceIte, ilt_t, ilt_f, ile_t, ile_f, ieq_t, ieq_f, not_true_eq_false, not_false_eq_true, and_true, true_and, and_self, and_false, false_and, Int.reduceMod, Mo_carried, Mo_is, Mo_refuse, Mo_gives, Mo_isFrom, Mo_isUpTo, k1, f2, e2, e2', e8, e4]
      · have f2 : ∀ k, Mo_isPoint a1 (st m 0 0 k) = 1 := fun k => mpT hs z0 z1 gp
        have hb : a2 < 0 ∨ 999 < a2 := by omega
        refine Stq.mk (x := 0) (m1 := st m 0 0 1) (y := 0) (m2 := st (st m 0 0 1) 75 1 1) ?_ ?_ rfl (h.stat 1)
        · rcases hb with q | q <;> simp (disch := omega) only [bP, bE, bV, ltM, ltI, st_eq, st_ne, w32_id, w64_id, ↓reduceIte, ilt_t, ilt_f, ile_t, ile_f, ieq_t, ieq_f, not_true_eq_false, not_false_eq_true, and_true, true_and, and_self, and_false, false_and, Int.reduceMod, FL_carried, FL_isWithin, FL_no, FL_yes, FL_none, FL_answer, Sheet_hasWater, f1]
        · rcases hb with q | q <;> simp (disch := omega) only [bP, bE, bV, ltM, ltI, st_eq, st_ne, w32_id, w64_id, ↓reduceIte, ilt_t, ilt_f, ile_t, ile_f, ieq_t, ieq_f, not_true_eq_false, not_false_eq_true, and_true, true_and, and_self, and_false, false_and, Int.reduceMod, Mo_carried, Mo_is, Mo_refuse, Mo_gives, Mo_isFrom, Mo_isUpTo, f2]
    · have f1 := hpF hs (c64 c1) gp
      have f2 : ∀ k, Mo_isPoint a1 (st m 0 0 k) = 0 := fun k => mpF hs z0 z1 (c64 c1) gp
      refine Stq.mk (x := 0) (m1 := st m 0 0 1) (y := 0) (m2 := st (st m 0 0 1) 75 1 1) ?_ ?_ rfl (h.stat 1)
      · simp (disch := omega) only [bP, bE, bV, ltM, ltI, st_eq, st_ne, w32_id, w64_id, ↓reduceIte, ilt_t, ilt_f, ile_t, ile_f, ieq_t, ieq_f, not_true_eq_false, not_false_eq_true, and_true, true_and, and_self, and_false, false_and, Int.reduceMod, FL_carried, FL_isWithin, FL_no, FL_yes, FL_none, FL_answer, Sheet_hasWater, f1]
      · simp (disch := omega) only [bP, bE, bV, ltM, ltI, st_eq, st_ne, w32_id, w64_id, ↓reduceIte, ilt_t, ilt_f, ile_t, ile_f, ieq_t, ieq_f, not_true_eq_false, not_false_eq_true, and_true, true_and, and_self, and_false, false_and, Int.reduceMod, Mo_carried, Mo_is, Mo_refuse, Mo_gives, Mo_isFrom, Mo_isUpTo, f2]
  · have hb : a0 < 1 ∨ (1 ≤ a0 ∧ m 7 1 ≤ a0) := by omega
    refine Stq.mk (x := 0) (m1 := st m 0 0 1) (y := 0) (m2 := st (st m 0 0 1) 75 1 1) ?_ ?_ rfl (h.stat 1)
    · rcases hb with g | g <;> simp (disch := omega) only [bP, bE, bV, ltM, ltI, st_eq, st_ne, w32_id, w64_id, ↓reduceIte, ilt_t, ilt_f, ile_t, ile_f, ieq_t, ieq_f, not_true_eq_false, not_false_eq_true, and_true, true_and, and_self, and_false, false_and, Int.reduceMod, FL_carried, FL_isWithin, FL_no, FL_yes, FL_none, FL_answer, Sheet_hasWater]
    · rcases hb with g | g <;> simp (disch := omega) only [bP, bE, bV, ltM, ltI, st_eq, st_ne, w32_id, w64_id, ↓reduceIte, ilt_t, ilt_f, ile_t, ile_f, ieq_t, ieq_f, not_true_eq_false, not_false_eq_true, and_true, true_and, and_self, and_false, false_and, Int.reduceMod, Mo_carried, Mo_is, Mo_refuse, Mo_gives, Mo_isFrom, Mo_isUpTo]
