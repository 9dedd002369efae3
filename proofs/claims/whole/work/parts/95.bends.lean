/-! layer 2: bends along a line -/
def suS (g : Int → Int) : Nat → Int → Int
  | 0, _ => 0
  | k + 1, a => g a + suS g k (a + 1)
theorem suS_succ (g : Int → Int) (k : Nat) (a : Int) : suS g (k + 1) a = g a + suS g k (a + 1) := rfl
theorem suS_b {g : Int → Int} {B : Int} : ∀ (k : Nat) (a : Int), (∀ x, a ≤ x → x < a + k → 0 ≤ g x ∧ g x ≤ B) → 0 ≤ suS g k a ∧ suS g k a ≤ k * B
  | 0, _, _ => by simp [suS]
  | k + 1, a, h => by
    have h1 := h a (by omega) (by omega)
    have h2 := suS_b (g := g) (B := B) k (a + 1) (fun x q1 q2 => h x (by omega) (by omega))
    unfold suS
    have e : ((k + 1 : Nat) : Int) * B = k * B + B := by rw [Int.natCast_add, Int.add_mul]; simp
    rw [e]; omega
theorem suS_congr {g g' : Int → Int} : ∀ (k : Nat) (a : Int), (∀ x, a ≤ x → x < a + k → g x = g' x) → suS g k a = suS g' k a
  | 0, _, _ => rfl
  | k + 1, a, h => by
    unfold suS
    rw [h a (by omega) (by omega), suS_congr k (a + 1) (fun x q1 q2 => h x (by omega) (by omega))]
def iab (x : Int) : Int := if 0 ≤ x then x else -x
def jmS (F : Int → Int) (f a p : Int) : Int := bdS F f a p - bdS F f a (p - 1)
def ufS (F : Int → Int) (eye f a p : Int) : Int := if iab (jmS F f a p) ≤ eye then 0 else 1
theorem ufS01 (F : Int → Int) (eye f a p : Int) : 0 ≤ ufS F eye f a p ∧ ufS F eye f a p ≤ 1 := by unfold ufS; split <;> omega
theorem jabs {x : Int} (h1 : -2147483647 ≤ x) (h2 : x ≤ 2147483647) : J_abs x = iab x := by
  unfold J_abs iab; rw [w32_id (by omega) (by omega)]
theorem iab_b {x B : Int} (h1 : -B ≤ x) (h2 : x ≤ B) : 0 ≤ iab x ∧ iab x ≤ B := by unfold iab; split <;> omega
theorem c_jump {m : Mem} {f a p : Int} (a0 : 1 ≤ a) (a1 : a ≤ 9) (h0 : 0 ≤ f + a * (p - 2) ∧ f + a * (p - 2) < 64) (h1 : 0 ≤ f + a * (p - 1) ∧ f + a * (p - 1) < 64) (h2 : 0 ≤ f + a * p ∧ f + a * p < 64) (h3 : 0 ≤ f + a * (p + 1) ∧ f + a * (p + 1) < 64) : Sheet_jumpAt 7 (f + a * p) a m = some (jmS (m 10) f a p) := by
  have e0 : f + a * p - 2 * a = f + a * (p - 2) := by rw [Int.mul_sub]; omega
  have e1 : f + a * p - a = f + a * (p - 1) := by rw [Int.mul_sub]; omega
  have e3 : f + a * p + a = f + a * (p + 1) := by rw [Int.mul_add]; omega
  unfold Sheet_jumpAt
  rw [e0, e1, e3]
  simp (disch := omega) only [bP, bE, bV, ltM, ltI, st_eq, st_ne, w32_id, w64_id, ↓reduceIte, ilt_t, ilt_f, ile_t, ile_f, ieq_t, ieq_f, not_true_eq_false, not_false_eq_true, and_true, true_and, and_self, and_false, false_and, Int.reduceMod, Nat.reduceAdd]
  unfold jmS bdS
  rw [show p - 1 - 1 = p - 2 by omega, show p - 1 + 1 = p by omega]
  congr 1; omega
theorem srS_b (v : Int) : 1 ≤ srS v ∧ srS v ≤ 9 := by unfold srS; split <;> (try split) <;> omega
theorem c_unf {m : Mem} {v l p : Int} (s : gSW (m 7 0) (m 7 1)) (hfl : ∀ q, Pt (m 7 0) (m 7 1) q → 0 ≤ m 10 q ∧ m 10 q ≤ 999) (he : 0 ≤ m 7 4 ∧ m 7 4 ≤ 999) (h : isLn (m 7 0) (m 7 1) v l) (p0 : 2 ≤ p) (p1 : p < plS (m 7 0) (m 7 1) v l - 1) : Sheet_isUnfair 7 (fsS (m 7 0) v l + srS v * p) (srS v) m = some (ufS (m 10) (m 7 4) (fsS (m 7 0) v l) (srS v) p) := by
  have t0 := pt_in s h (p := p - 2) (by omega) (by omega)
  have t1 := pt_in s h (p := p - 1) (by omega) (by omega)
  have t2 := pt_in s h (p := p) (by omega) (by omega)
  have t3 := pt_in s h (p := p + 1) (by omega) (by omega)
  have b := srS_b v
  have f0 := hfl _ t0
  have f1 := hfl _ t1
  have f2 := hfl _ t2
  have f3 := hfl _ t3
  unfold Sheet_isUnfair
  rw [c_jump b.1 b.2 (pt64 s t0) (pt64 s t1) (pt64 s t2) (pt64 s t3)]
  have bj : -7992 ≤ jmS (m 10) (fsS (m 7 0) v l) (srS v) p ∧ jmS (m 10) (fsS (m 7 0) v l) (srS v) p ≤ 7992 := by
    unfold jmS bdS
    rw [show p - 1 - 1 = p - 2 by omega, show p - 1 + 1 = p by omega]
    omega
  have bi := iab_b (B := 7992) bj.1 bj.2
  unfold ufS
  simp only [bP]
  rw [jabs (by omega) (by omega), w32_id (by omega) (by omega), w32_id (by omega) (by omega)]
theorem m_unf {m : Mem} {S W v l p : Int} (s : gSW S W) (hfl : ∀ q, Pt S W q → 0 ≤ m 76 (80 + q) ∧ m 76 (80 + q) ≤ 999) (he : 0 ≤ m 76 4 ∧ m 76 4 ≤ 999) (h : isLn S W v l) (e23 : m 75 23 = fsS S v l) (e24 : m 75 24 = srS v) (e25 : m 75 25 = plS S W v l) (p0 : 2 ≤ p) (p1 : p < plS S W v l - 1) : Mo_isUnfair p m = some (ufS (fun q => m 76 (80 + q)) (m 76 4) (fsS S v l) (srS v) p) := by
  have g := plS_le s h
  have f0 := hfl _ (pt_in s h (p := p - 2) (by omega) (by omega))
  have f1 := hfl _ (pt_in s h (p := p - 1) (by omega) (by omega))
  have f2 := hfl _ (pt_in s h (p := p) (by omega) (by omega))
  have f3 := hfl _ (pt_in s h (p := p + 1) (by omega) (by omega))
  have q1 := m_bend s h e23 e24 (p := p) (by omega) (by omega)
  have q2 := m_bend s h e23 e24 (p := p - 1) (by omega) (by omega)
  have bj : -7992 ≤ jmS (fun q => m 76 (80 + q)) (fsS S v l) (srS v) p ∧ jmS (fun q => m 76 (80 + q)) (fsS S v l) (srS v) p ≤ 7992 := by
    unfold jmS bdS
    rw [show p - 1 - 1 = p - 2 by omega, show p - 1 + 1 = p by omega]
    dsimp only
    omega
  have bi := iab_b (B := 7992) bj.1 bj.2
  unfold Mo_isUnfair
  rw [q1, q2, e25, w32_id (x := p) (by omega) (by omega), w32_id (x := plS S W v l - 1) (by omega) (by omega), if_neg (by omega), if_neg (by omega)]
  simp only [bP]
  unfold ufS
  rw [show bdS (fun q => m 76 (80 + q)) (fsS S v l) (srS v) p - bdS (fun q => m 76 (80 + q)) (fsS S v l) (srS v) (p - 1) = jmS (fun q => m 76 (80 + q)) (fsS S v l) (srS v) p from rfl, jabs (by omega) (by omega), w32_id (by omega) (by omega), w32_id (by omega) (by omega)]
theorem m_unf0 {m : Mem} {pl p : Int} (e25 : m 75 25 = pl) (b1 : -100 ≤ p) (b2 : p < 100) (g1 : 0 ≤ pl) (g2 : pl ≤ 8) (h : p < 2 ∨ pl - 1 ≤ p) : Mo_isUnfair p m = some 0 := by
  unfold Mo_isUnfair
  rw [e25, w32_id (x := p) (by omega) (by omega), w32_id (x := pl - 1) (by omega) (by omega)]
  by_cases q : p ≤ 1
  · rw [if_pos q]
  · rw [if_neg q, if_pos (by omega)]
theorem c_unfOn_loop {m : Mem} {v l : Int} (s : gSW (m 7 0) (m 7 1)) (hfl : ∀ q, Pt (m 7 0) (m 7 1) q → 0 ≤ m 10 q ∧ m 10 q ≤ 999) (he : 0 ≤ m 7 4 ∧ m 7 4 ≤ 999) (h : isLn (m 7 0) (m 7 1) v l) : ∀ (n : Nat) (acc p : Int), 2 ≤ p → p ≤ 20 → (plS (m 7 0) (m 7 1) v l - 1 - p).toNat < n → Sheet_unfairOn_L20 7 v l (srS v) (plS (m 7 0) (m 7 1) v l) m n acc p = some (acc + suS (ufS (m 10) (m 7 4) (fsS (m 7 0) v l) (srS v)) (plS (m 7 0) (m 7 1) v l - 1 - p).toNat p) := by
  have g := plS_le s h
  intro n
  induction n with
  | zero => intro acc p _ _ q; omega
  | succ n ih =>
    intro acc p p0 p20 hn
    rw [Sheet_unfairOn_L20, w32_id (x := p) (by omega) (by omega), w32_id (by omega) (by omega)]
    by_cases hp : plS (m 7 0) (m 7 1) v l - 1 ≤ p
    · rw [if_pos hp, show (plS (m 7 0) (m 7 1) v l - 1 - p).toNat = 0 by omega]
      simp [suS]
    · rw [if_neg hp]
      unfold Sheet_pointAt
      rw [c_first s h, c_stride h.1.1 h.1.2, Int.mul_comm p, c_unf s hfl he h p0 (by omega)]
      simp only [bP]
      have b := ufS01 (m 10) (m 7 4) (fsS (m 7 0) v l) (srS v) p
      rw [ih _ (p + 1) (by omega) (by omega) (by omega), show (plS (m 7 0) (m 7 1) v l - 1 - p).toNat = (plS (m 7 0) (m 7 1) v l - 1 - (p + 1)).toNat + 1 by omega]
      rw [suS_succ, w32_id (by omega) (by omega)]
      congr 1
      split <;> omega
theorem c_unfOn {m : Mem} {v l : Int} (s : gSW (m 7 0) (m 7 1)) (hfl : ∀ q, Pt (m 7 0) (m 7 1) q → 0 ≤ m 10 q ∧ m 10 q ≤ 999) (he : 0 ≤ m 7 4 ∧ m 7 4 ≤ 999) (h : isLn (m 7 0) (m 7 1) v l) : Sheet_unfairOn 7 v l m = some (suS (ufS (m 10) (m 7 4) (fsS (m 7 0) v l) (srS v)) (plS (m 7 0) (m 7 1) v l - 3).toNat 2) := by
  have g := plS_le s h
  unfold Sheet_unfairOn
  rw [c_stride h.1.1 h.1.2, c_places s h, c_unfOn_loop s hfl he h FU 0 2 (by omega) (by omega) (by rw [FU_eq]; omega)]
  rw [show plS (m 7 0) (m 7 1) v l - 1 - 2 = plS (m 7 0) (m 7 1) v l - 3 by omega]
  simp
theorem m_unfair_loop {m : Mem} {S W v l : Int} (s : gSW S W) (hfl : ∀ q, Pt S W q → 0 ≤ m 76 (80 + q) ∧ m 76 (80 + q) ≤ 999) (he : 0 ≤ m 76 4 ∧ m 76 4 ≤ 999) (h : isLn S W v l) (e23 : m 75 23 = fsS S v l) (e24 : m 75 24 = srS v) (e25 : m 75 25 = plS S W v l) : ∀ (n : Nat) (acc p : Int), 0 ≤ p → p ≤ 20 → (plS S W v l - p).toNat < n → Mo_unfair_L26 n acc p m = some (acc + suS (ufS (fun q => m 76 (80 + q)) (m 76 4) (fsS S v l) (srS v)) (plS S W v l - 1 - (if p < 2 then 2 else p)).toNat (if p < 2 then 2 else p), st m 75 1 0) := by
  have g := plS_le s h
  intro n
  induction n with
  | zero => intro acc p _ _ q; omega
  | succ n ih =>
    intro acc p p0 p20 hn
    rw [Mo_unfair_L26, e25, w32_id (x := p) (by omega) (by omega), w32_id (x := plS S W v l) (by omega) (by omega)]
    by_cases hp : plS S W v l ≤ p
    · rw [if_pos hp, show (plS S W v l - 1 - (if p < 2 then 2 else p)).toNat = 0 by split <;> omega]
      simp [suS, Mo_gives]
    · rw [if_neg hp]
      by_cases h2 : p < 2 ∨ plS S W v l - 1 ≤ p
      · rw [m_unf0 e25 (by omega) (by omega) (by omega) (by omega) h2]
        simp only [bP]
        rw [ih _ (p + 1) (by omega) (by omega) (by omega), w32_id (by omega) (by omega), if_pos rfl]
        rcases (by omega : p + 1 < 2 ∨ p + 1 = 2 ∨ plS S W v l - 1 ≤ p) with q | q | q
        · rw [if_pos q, if_pos (by omega)]; simp
        · rw [if_neg (by omega), if_pos (by omega), q]; simp
        · rw [show (plS S W v l - 1 - (if p + 1 < 2 then 2 else p + 1)).toNat = 0 by split <;> omega, show (plS S W v l - 1 - (if p < 2 then 2 else p)).toNat = 0 by split <;> omega]
          simp [suS]
      · have b := ufS01 (fun q => m 76 (80 + q)) (m 76 4) (fsS S v l) (srS v) p
        rw [m_unf s hfl he h e23 e24 e25 (by omega) (by omega)]
        simp only [bP]
        rw [ih _ (p + 1) (by omega) (by omega) (by omega), if_neg (show ¬ p + 1 < 2 by omega), if_neg (show ¬ p < 2 by omega), show (plS S W v l - 1 - p).toNat = (plS S W v l - 1 - (p + 1)).toNat + 1 by omega]
        rw [suS_succ, w32_id (by omega) (by omega)]
        congr 2
        split <;> omega
theorem flC {m : Mem} (h : Rel m) : ∀ q, Pt (m 7 0) (m 7 1) q → 0 ≤ m 10 q ∧ m 10 q ≤ 999 := fun q hq => (((shF h).2.2.2.2 q hq).2.1).2
theorem flM {m : Mem} (h : Rel m) : ∀ q, Pt (m 7 0) (m 7 1) q → m 76 (80 + q) = m 10 q := fun q hq => (((shF h).2.2.2.2 q hq).2.1).1
theorem flMb {m : Mem} (h : Rel m) : ∀ q, Pt (m 7 0) (m 7 1) q → 0 ≤ m 76 (80 + q) ∧ m 76 (80 + q) ≤ 999 := fun q hq => by rw [flM h q hq]; exact flC h q hq
theorem eyC {m : Mem} (h : Rel m) : 0 ≤ m 7 4 ∧ m 7 4 ≤ 999 := by have := (shF h).2.2.1; omega
theorem uf_congr {F G : Int → Int} {S W v l p eye : Int} (s : gSW S W) (e : ∀ q, Pt S W q → F q = G q) (h : isLn S W v l) (p0 : 2 ≤ p) (p1 : p < plS S W v l - 1) : ufS F eye (fsS S v l) (srS v) p = ufS G eye (fsS S v l) (srS v) p := by
  unfold ufS jmS bdS
  rw [show p - 1 - 1 = p - 2 by omega, show p - 1 + 1 = p by omega]
  rw [e _ (pt_in s h (p := p - 2) (by omega) (by omega)), e _ (pt_in s h (p := p - 1) (by omega) (by omega)), e _ (pt_in s h (p := p) (by omega) (by omega)), e _ (pt_in s h (p := p + 1) (by omega) (by omega))]
theorem s_unfair {m : Mem} (h : Rel m) {a0 a1 : Int} (c0 : w32 a0 = a0) (c1 : w32 a1 = a1) : Stq w32 (FL_unfair a0 a1 m) (fun m1 => Mo_unfair a0 a1 m1) := by
  obtain ⟨⟨z0, z1, z2, z3, z4, z5, z6⟩, hs, hr, hv, hp⟩ := shF h
  by_cases gl : isLn (m 7 0) (m 7 1) a0 a1
  · have g := plS_le hs gl
    have e1 := c_hasLineT hs gl
    have e2 := c_unfOn hs (flC h) (eyC h) gl
    have e3 : ∀ k, Mo_isLine a0 a1 (st m 0 0 k) = 1 := fun k => m_isLineT hs z0 z1 gl
    have e4 : ∀ k, Mo_takes a0 a1 (st m 0 0 k) = _ := fun k => m_takes hs z0 z1 gl
    have e5 := m_unfair_loop (m := tk (st m 0 0 0) (fsS (m 7 0) a0 a1) (srS a0) (plS (m 7 0) (m 7 1) a0 a1)) hs (flMb h) (by have := eyC h; rw [← z4] at this; exact this) gl rfl rfl rfl FU 0 0 (by omega) (by omega) (by rw [FU_eq]; omega)
    rw [if_pos (by decide)] at e5
    refine Stq.mk (x := suS (ufS (m 10) (m 7 4) (fsS (m 7 0) a0 a1) (srS a0)) (plS (m 7 0) (m 7 1) a0 a1 - 3).toNat 2) (m1 := st m 0 0 0) (y := 0 + suS (ufS (fun q => m 76 (80 + q)) (m 76 4) (fsS (m 7 0) a0 a1) (srS a0)) (plS (m 7 0) (m 7 1) a0 a1 - 1 - 2).toNat 2) (m2 := st (tk (st m 0 0 0) (fsS (m 7 0) a0 a1) (srS a0) (plS (m 7 0) (m 7 1) a0 a1)) 75 1 0) ?_ ?_ ?_ (h.tk _ _ _ _)
    · simp (disch := omega) only [bP, bE, bV, ltM, ltI, st_eq, st_ne, w32_id, w64_id, ↓reduceIte, ilt_t, ilt_f, ile_t, ile_f, ieq_t, ieq_f, not_true_eq_false, not_false_eq_true, and_true, true_and, and_self, and_false, false_and, Int.reduceMod, FL_unfair, FL_isWithin, FL_no, FL_yes, FL_none, FL_answer, e1, e2]
    · simp (disch := omega) only [bP, bE, bV, ltM, ltI, st_eq, st_ne, w32_id, w64_id, ↓reduceIte, ilt_t, ilt_f, ile_t, ile_f, ieq_t, ieq_f, not_true_eq_false, not_false_eq_true, and_true, true_and, and_self, and_false, false_and, Int.reduceMod, Mo_unfair, Mo_is, Mo_refuse, Mo_gives, Mo_isFrom, e3, e4]
      exact e5
    · rw [Int.zero_add, show plS (m 7 0) (m 7 1) a0 a1 - 1 - 2 = plS (m 7 0) (m 7 1) a0 a1 - 3 by omega, z4]
      congr 1
      exact suS_congr _ _ (fun x x0 x1 => (uf_congr hs (flM h) gl (by omega) (by omega)).symm)
  · have e1 := c_hasLineF hs c0 c1 gl
    have e3 : ∀ k, Mo_isLine a0 a1 (st m 0 0 k) = 0 := fun k => m_isLineF hs z0 z1 c0 c1 gl
    refine Stq.mk (x := -1) (m1 := st m 0 0 1) (y := -1) (m2 := st (st m 0 0 1) 75 1 1) ?_ ?_ rfl (h.stat 1)
    · simp (disch := omega) only [bP, bE, bV, ltM, ltI, st_eq, st_ne, w32_id, w64_id, ↓reduceIte, ilt_t, ilt_f, ile_t, ile_f, ieq_t, ieq_f, not_true_eq_false, not_false_eq_true, and_true, true_and, and_self, and_false, false_and, Int.reduceMod, FL_unfair, FL_isWithin, FL_no, FL_yes, FL_none, FL_answer, e1]
    · simp (disch := omega) only [bP, bE, bV, ltM, ltI, st_eq, st_ne, w32_id, w64_id, ↓reduceIte, ilt_t, ilt_f, ile_t, ile_f, ieq_t, ieq_f, not_true_eq_false, not_false_eq_true, and_true, true_and, and_self, and_false, false_and, Int.reduceMod, Mo_unfair, Mo_is, Mo_refuse, Mo_gives, Mo_isFrom, e3]
theorem c_strain_loop {m : Mem} {v l : Int} (s : gSW (m 7 0) (m 7 1)) (hfl : ∀ q, Pt (m 7 0) (m 7 1) q → 0 ≤ m 10 q ∧ m 10 q ≤ 999) (h : isLn (m 7 0) (m 7 1) v l) : ∀ (n : Nat) (acc p : Int), 1 ≤ p → p ≤ 20 → (plS (m 7 0) (m 7 1) v l - 1 - p).toNat < n → Sheet_strainOn_L13 7 v l (plS (m 7 0) (m 7 1) v l) m n acc p = some (acc + suS (fun p => bdS (m 10) (fsS (m 7 0) v l) (srS v) p * bdS (m 10) (fsS (m 7 0) v l) (srS v) p) (plS (m 7 0) (m 7 1) v l - 1 - p).toNat p) := by
  have g := plS_le s h
  intro n
  induction n with
  | zero => intro acc p _ _ q; omega
  | succ n ih =>
    intro acc p p0 p20 hn
    rw [Sheet_strainOn_L13, w32_id (x := p) (by omega) (by omega), w32_id (x := plS (m 7 0) (m 7 1) v l - 1) (by omega) (by omega)]
    by_cases hp : plS (m 7 0) (m 7 1) v l - 1 ≤ p
    · rw [if_pos hp, show (plS (m 7 0) (m 7 1) v l - 1 - p).toNat = 0 by omega]
      simp [suS]
    · rw [if_neg hp, c_bend s h p0 (by omega)]
      have f1 := hfl _ (pt_in s h (p := p - 1) (by omega) (by omega))
      have f2 := hfl _ (pt_in s h (p := p) (by omega) (by omega))
      have f3 := hfl _ (pt_in s h (p := p + 1) (by omega) (by omega))
      have bb : -1998 ≤ bdS (m 10) (fsS (m 7 0) v l) (srS v) p ∧ bdS (m 10) (fsS (m 7 0) v l) (srS v) p ≤ 1998 := by unfold bdS; omega
      rw [w32_id (by omega) (by omega)]
      unfold ltI
      dsimp only
      rw [ih _ (p + 1) (by omega) (by omega) (by omega), show (plS (m 7 0) (m 7 1) v l - 1 - p).toNat = (plS (m 7 0) (m 7 1) v l - 1 - (p + 1)).toNat + 1 by omega, suS_succ]
      congr 1; omega
theorem m_strain_loop {m : Mem} {S W v l : Int} (s : gSW S W) (hfl : ∀ q, Pt S W q → 0 ≤ m 76 (80 + q) ∧ m 76 (80 + q) ≤ 999) (h : isLn S W v l) (e23 : m 75 23 = fsS S v l) (e24 : m 75 24 = srS v) (e25 : m 75 25 = plS S W v l) : ∀ (n : Nat) (acc p : Int), 1 ≤ p → p ≤ 20 → (plS S W v l - 1 - p).toNat < n → Mo_strain_L27 n acc p m = some (acc + suS (fun p => bdS (fun q => m 76 (80 + q)) (fsS S v l) (srS v) p * bdS (fun q => m 76 (80 + q)) (fsS S v l) (srS v) p) (plS S W v l - 1 - p).toNat p, st m 75 1 0) := by
  have g := plS_le s h
  intro n
  induction n with
  | zero => intro acc p _ _ q; omega
  | succ n ih =>
    intro acc p p0 p20 hn
    rw [Mo_strain_L27, e25, w32_id (x := p) (by omega) (by omega), w32_id (x := plS S W v l - 1) (by omega) (by omega)]
    by_cases hp : plS S W v l - 1 ≤ p
    · rw [if_pos hp, show (plS S W v l - 1 - p).toNat = 0 by omega]
      simp [suS]
    · rw [if_neg hp, m_bend s h e23 e24 p0 (by omega)]
      have f1 := hfl _ (pt_in s h (p := p - 1) (by omega) (by omega))
      have f2 := hfl _ (pt_in s h (p := p) (by omega) (by omega))
      have f3 := hfl _ (pt_in s h (p := p + 1) (by omega) (by omega))
      have bb : -1998 ≤ bdS (fun q => m 76 (80 + q)) (fsS S v l) (srS v) p ∧ bdS (fun q => m 76 (80 + q)) (fsS S v l) (srS v) p ≤ 1998 := by unfold bdS; dsimp only; omega
      simp only [bP]
      rw [w32_id (by omega) (by omega), ih _ (p + 1) (by omega) (by omega) (by omega), show (plS S W v l - 1 - p).toNat = (plS S W v l - 1 - (p + 1)).toNat + 1 by omega, suS_succ]
      congr 2; omega
theorem bd_congr {F G : Int → Int} {S W v l p : Int} (s : gSW S W) (e : ∀ q, Pt S W q → F q = G q) (h : isLn S W v l) (p0 : 1 ≤ p) (p1 : p < plS S W v l - 1) : bdS F (fsS S v l) (srS v) p = bdS G (fsS S v l) (srS v) p := by
  unfold bdS
  rw [e _ (pt_in s h (p := p - 1) (by omega) (by omega)), e _ (pt_in s h (p := p) (by omega) (by omega)), e _ (pt_in s h (p := p + 1) (by omega) (by omega))]
theorem s_strain {m : Mem} (h : Rel m) {a0 a1 : Int} (c0 : w32 a0 = a0) (c1 : w32 a1 = a1) : Stq w64 (FL_strain a0 a1 m) (fun m1 => Mo_strain a0 a1 m1) := by
  obtain ⟨⟨z0, z1, z2, z3, z4, z5, z6⟩, hs, hr, hv, hp⟩ := shF h
  by_cases gl : isLn (m 7 0) (m 7 1) a0 a1
  · have g := plS_le hs gl
    have e1 := c_hasLineT hs gl
    have e2 := c_places (m := st m 0 0 0) hs gl
    have e6 := c_strain_loop (m := st m 0 0 0) hs (fun q hq => flC h q hq) gl FU 0 1 (by omega) (by omega) (by rw [FU_eq]; show (plS (m 7 0) (m 7 1) a0 a1 - 1 - 1).toNat < 20000; omega)
    have e3 : ∀ k, Mo_isLine a0 a1 (st m 0 0 k) = 1 := fun k => m_isLineT hs z0 z1 gl
    have e4 : ∀ k, Mo_takes a0 a1 (st m 0 0 k) = _ := fun k => m_takes hs z0 z1 gl
    have e5 := m_strain_loop (m := tk (st m 0 0 0) (fsS (m 7 0) a0 a1) (srS a0) (plS (m 7 0) (m 7 1) a0 a1)) hs (flMb h) gl rfl rfl rfl FU 0 1 (by omega) (by omega) (by rw [FU_eq]; omega)
    have e7 : Sheet_strainOn 7 a0 a1 (st m 0 0 0) = some (0 + suS (fun p => bdS (m 10) (fsS (m 7 0) a0 a1) (srS a0) p * bdS (m 10) (fsS (m 7 0) a0 a1) (srS a0) p) (plS (m 7 0) (m 7 1) a0 a1 - 1 - 1).toNat 1) := by
      unfold Sheet_strainOn
      rw [e2]
      exact e6
    refine Stq.mk (x := (0 + suS (fun p => bdS (m 10) (fsS (m 7 0) a0 a1) (srS a0) p * bdS (m 10) (fsS (m 7 0) a0 a1) (srS a0) p) (plS (m 7 0) (m 7 1) a0 a1 - 1 - 1).toNat 1)) (m1 := st m 0 0 0) (y := (0 + suS (fun p => bdS (fun q => m 76 (80 + q)) (fsS (m 7 0) a0 a1) (srS a0) p * bdS (fun q => m 76 (80 + q)) (fsS (m 7 0) a0 a1) (srS a0) p) (plS (m 7 0) (m 7 1) a0 a1 - 1 - 1).toNat 1)) (m2 := st (tk (st m 0 0 0) (fsS (m 7 0) a0 a1) (srS a0) (plS (m 7 0) (m 7 1) a0 a1)) 75 1 0) ?_ ?_ ?_ (h.tk _ _ _ _)
    · simp (disch := omega) only [bP, bE, bV, ltM, ltI, st_eq, st_ne, w32_id, w64_id, ↓reduceIte, ilt_t, ilt_f, ile_t, ile_f, ieq_t, ieq_f, not_true_eq_false, not_false_eq_true, and_true, true_and, and_self, and_false, false_and, Int.reduceMod, FL_strain, FL_isWithin, FL_no, FL_yes, FL_none, FL_answer, e1, e7]
    · simp (disch := omega) only [bP, bE, bV, ltM, ltI, st_eq, st_ne, w32_id, w64_id, ↓reduceIte, ilt_t, ilt_f, ile_t, ile_f, ieq_t, ieq_f, not_true_eq_false, not_false_eq_true, and_true, true_and, and_self, and_false, false_and, Int.reduceMod, Mo_strain, Mo_is, Mo_refuse, Mo_gives, Mo_isFrom, e3, e4]
      exact e5
    · congr 2
      exact suS_congr _ _ (fun x x0 x1 => by rw [bd_congr hs (flM h) gl (by omega) (by omega)])
  · have e1 := c_hasLineF hs c0 c1 gl
    have e3 : ∀ k, Mo_isLine a0 a1 (st m 0 0 k) = 0 := fun k => m_isLineF hs z0 z1 c0 c1 gl
    refine Stq.mk (x := -1) (m1 := st m 0 0 1) (y := -1) (m2 := st (st m 0 0 1) 75 1 1) ?_ ?_ rfl (h.stat 1)
    · simp (disch := omega) only [bP, bE, bV, ltM, ltI, st_eq, st_ne, w32_id, w64_id, ↓reduceIte, ilt_t, ilt_f, ile_t, ile_f, ieq_t, ieq_f, not_true_eq_false, not_false_eq_true, and_true, true_and, and_self, and_false, false_and, Int.reduceMod, FL_strain, FL_isWithin, FL_no, FL_yes, FL_none, FL_answer, e1]
    · simp (disch := omega) only [bP, bE, bV, ltM, ltI, st_eq, st_ne, w32_id, w64_id, ↓reduceIte, ilt_t, ilt_f, ile_t, ile_f, ieq_t, ieq_f, not_true_eq_false, not_false_eq_true, and_true, true_and, and_self, and_false, false_and, Int.reduceMod, Mo_strain, Mo_is, Mo_refuse, Mo_gives, Mo_isFrom, e3]
