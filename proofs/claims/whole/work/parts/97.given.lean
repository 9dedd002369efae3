/-! layer 2: given, crook -/
def ptB (S W p : Int) : Bool := decide (0 ≤ p) && decide (p < 8 * S) && decide (p % 8 < W)
theorem ptB_t {S W p : Int} : ptB S W p = true ↔ Pt S W p := by unfold ptB Pt; simp [and_assoc]
theorem ptB_f {S W p : Int} : ptB S W p = false ↔ ¬ Pt S W p := by rw [← ptB_t]; simp
def gvS (F T : Int → Int) (S W p : Int) : Int := if ptB S W p then iab (F p - T p) else 0
theorem gvS_b {F T : Int → Int} {S W : Int} (hF : ∀ q, Pt S W q → 0 ≤ F q ∧ F q ≤ 999) (hT : ∀ q, Pt S W q → 0 ≤ T q ∧ T q ≤ 999) (p : Int) : 0 ≤ gvS F T S W p ∧ gvS F T S W p ≤ 999 := by
  unfold gvS
  split
  · rename_i q
    have f := hF p (ptB_t.mp q)
    have g := hT p (ptB_t.mp q)
    exact iab_b (by omega) (by omega)
  · omega
def mxS (g : Int → Int) : Nat → Int → Int → Int
  | 0, _, x => x
  | k + 1, a, x => mxS g k (a + 1) (if x < g a then g a else x)
theorem mxS_b {g : Int → Int} {B : Int} (h : ∀ x, 0 ≤ g x ∧ g x ≤ B) : ∀ (k : Nat) (a x : Int), 0 ≤ x → x ≤ B → 0 ≤ mxS g k a x ∧ mxS g k a x ≤ B
  | 0, _, _, h0, h1 => ⟨h0, h1⟩
  | k + 1, a, x, h0, h1 => by
    unfold mxS
    have := h a
    exact mxS_b h k (a + 1) _ (by split <;> omega) (by split <;> omega)
theorem toC {m : Mem} (h : Rel m) : ∀ q, Pt (m 7 0) (m 7 1) q → 0 ≤ m 9 q ∧ m 9 q ≤ 999 := fun q hq => (((shF h).2.2.2.2 q hq).1).2
theorem toM {m : Mem} (h : Rel m) : ∀ q, Pt (m 7 0) (m 7 1) q → m 76 (16 + q) = m 9 q := fun q hq => (((shF h).2.2.2.2 q hq).1).1
theorem c_givenAt {m : Mem} (h : Rel m) {p : Int} (p0 : 0 ≤ p) (p1 : p < 64) : Sheet_givenAt 7 p m = gvS (m 10) (m 9) (m 7 0) (m 7 1) p := by
  obtain ⟨-, hs, hr, hv, hp⟩ := shF h
  unfold Sheet_givenAt gvS
  rw [w32_id (x := p) (by omega) (by omega)]
  by_cases q : Pt (m 7 0) (m 7 1) p
  · have f1 := flC h p q
    have f2 := toC h p q
    rw [hpT hs q, if_neg (by decide), if_pos (ptB_t.mpr q), c_at p0 p1]
    have e : Sheet_toldAt 7 p m = m 9 p := by simp (disch := omega) only [bP, bE, bV, ltM, ltI, st_eq, st_ne, w32_id, w64_id, ↓reduceIte, ilt_t, ilt_f, ile_t, ile_f, ieq_t, ieq_f, not_true_eq_false, not_false_eq_true, and_true, true_and, and_self, and_false, false_and, Int.reduceMod, Sheet_toldAt, Nat.reduceAdd]
    rw [e, jabs (by omega) (by omega)]
  · rw [hpF hs (w64_id (by omega) (by omega)) q, if_pos rfl, ptB_f.mpr q]; rfl
theorem c_givenSum {m : Mem} (h : Rel m) : Sheet_givenSum 7 m = some (0 + suS (gvS (m 10) (m 9) (m 7 0) (m 7 1)) (64 - 0 : Int).toNat 0) := by
  have key : ∀ (n : Nat) (acc p : Int), 0 ≤ p → p ≤ 64 → 0 ≤ acc → acc ≤ 999 * p + 999 → (64 - p).toNat < n → Sheet_givenSum_L4 7 m n acc p = some (acc + suS (gvS (m 10) (m 9) (m 7 0) (m 7 1)) (64 - p).toNat p) := by
    intro n
    induction n with
    | zero => intro acc p _ _ _ _ q; omega
    | succ n ih =>
      intro acc p x0 x1 a0 a1 hn
      rw [Sheet_givenSum_L4, w32_id (x := p) (by omega) (by omega)]
      by_cases q : 64 ≤ p
      · rw [if_pos q, show (64 - p).toNat = 0 by omega]; simp [suS, mxS]
      · have b := gvS_b (flC h) (toC h) p
        rw [if_neg q, c_givenAt h x0 (by omega)]
        rw [ih _ (p + 1) (by omega) (by omega) (by omega) (by omega) (by omega), show (64 - p).toNat = (64 - (p + 1)).toNat + 1 by omega, suS_succ]
        congr 1; omega
  exact key FU 0 0 (by omega) (by omega) (by omega) (by omega) (by rw [FU_eq]; omega)
theorem c_givenMost {m : Mem} (h : Rel m) : Sheet_givenMost 7 m = some (mxS (gvS (m 10) (m 9) (m 7 0) (m 7 1)) (64 - 0 : Int).toNat 0 0) := by
  have key : ∀ (n : Nat) (acc p : Int), 0 ≤ p → p ≤ 64 → 0 ≤ acc → acc ≤ 999 * p + 999 → (64 - p).toNat < n → Sheet_givenMost_L4 7 m n acc p = some (mxS (gvS (m 10) (m 9) (m 7 0) (m 7 1)) (64 - p).toNat p acc) := by
    intro n
    induction n with
    | zero => intro acc p _ _ _ _ q; omega
    | succ n ih =>
      intro acc p x0 x1 a0 a1 hn
      rw [Sheet_givenMost_L4, w32_id (x := p) (by omega) (by omega)]
      by_cases q : 64 ≤ p
      · rw [if_pos q, show (64 - p).toNat = 0 by omega]; simp [suS, mxS]
      · have b := gvS_b (flC h) (toC h) p
        rw [if_neg q, c_givenAt h x0 (by omega)]
        have ej : J_max acc (gvS (m 10) (m 9) (m 7 0) (m 7 1) p) = if acc < gvS (m 10) (m 9) (m 7 0) (m 7 1) p then gvS (m 10) (m 9) (m 7 0) (m 7 1) p else acc := by
          unfold J_max; rw [w32_id (by omega) (by omega), w32_id (by omega) (by omega)]
        rw [ej, ih _ (p + 1) (by omega) (by omega) (by split <;> omega) (by split <;> omega) (by omega), show (64 - p).toNat = (64 - (p + 1)).toNat + 1 by omega]
        rfl
  exact key FU 0 0 (by omega) (by omega) (by omega) (by omega) (by rw [FU_eq]; omega)
theorem c_givenMany {m : Mem} (h : Rel m) : Sheet_givenMany 7 m = some (0 + suS (fun p => if (gvS (m 10) (m 9) (m 7 0) (m 7 1)) p ≤ 0 then 0 else 1) (64 - 0 : Int).toNat 0) := by
  have key : ∀ (n : Nat) (acc p : Int), 0 ≤ p → p ≤ 64 → 0 ≤ acc → acc ≤ 999 * p + 999 → (64 - p).toNat < n → Sheet_givenMany_L4 7 m n acc p = some (acc + suS (fun p => if (gvS (m 10) (m 9) (m 7 0) (m 7 1)) p ≤ 0 then 0 else 1) (64 - p).toNat p) := by
    intro n
    induction n with
    | zero => intro acc p _ _ _ _ q; omega
    | succ n ih =>
      intro acc p x0 x1 a0 a1 hn
      rw [Sheet_givenMany_L4, w32_id (x := p) (by omega) (by omega)]
      by_cases q : 64 ≤ p
      · rw [if_pos q, show (64 - p).toNat = 0 by omega]; simp [suS, mxS]
      · have b := gvS_b (flC h) (toC h) p
        rw [if_neg q, c_givenAt h x0 (by omega)]
        rw [w32_id (by omega) (by omega), ih _ (p + 1) (by omega) (by omega) (by split <;> omega) (by split <;> omega) (by omega), show (64 - p).toNat = (64 - (p + 1)).toNat + 1 by omega, suS_succ]
        congr 1
        by_cases z : gvS (m 10) (m 9) (m 7 0) (m 7 1) p = 0
        · rw [if_neg (by omega), if_pos (by omega)]; omega
        · rw [if_pos z, if_neg (by omega)]; omega
  exact key FU 0 0 (by omega) (by omega) (by omega) (by omega) (by rw [FU_eq]; omega)
theorem m_given_loop {m : Mem} {S W a0 : Int} (hs : gSW S W) (z0 : m 76 0 = S) (z1 : m 76 1 = W) (hF : ∀ q, Pt S W q → 0 ≤ m 76 (80 + q) ∧ m 76 (80 + q) ≤ 999) (hT : ∀ q, Pt S W q → 0 ≤ m 76 (16 + q) ∧ m 76 (16 + q) ≤ 999) (a00 : 0 ≤ a0) (a02 : a0 ≤ 2) : ∀ (n : Nat) (su mx ct p : Int), 0 ≤ p → p ≤ 64 → 0 ≤ mx → mx ≤ 999 → (64 - p).toNat < n → Mo_given_L25 a0 n su mx ct p m = some ((if ¬ a0 = 0 then (if ¬ a0 = 1 then (ct + suS (fun p => if gvS (fun q => m 76 (80 + q)) (fun q => m 76 (16 + q)) S W p ≤ 0 then 0 else 1) (64 - p).toNat p) else mxS (gvS (fun q => m 76 (80 + q)) (fun q => m 76 (16 + q)) S W) (64 - p).toNat p mx : Int) else (su + suS (gvS (fun q => m 76 (80 + q)) (fun q => m 76 (16 + q)) S W) (64 - p).toNat p) : Int), st m 75 1 0) := by
  intro n
  induction n with
  | zero => intro su mx ct p _ _ _ _ q; omega
  | succ n ih =>
    intro su mx ct p x0 x1 y0 y1 hn
    rw [Mo_given_L25, w32_id (x := p) (by omega) (by omega), w32_id (x := a0) (by omega) (by omega)]
    by_cases q : 64 ≤ p
    · rw [if_pos q, show (64 - p).toNat = 0 by omega]; simp [suS, mxS, Mo_gives]
    · have b := gvS_b hF hT p
      rw [if_neg q]
      rw [show (64 - p).toNat = (64 - (p + 1)).toNat + 1 by omega, suS_succ, suS_succ, mxS]
      by_cases g : Pt S W p
      · have e : gvS (fun q => m 76 (80 + q)) (fun q => m 76 (16 + q)) S W p = iab (m 76 (80 + p) - m 76 (16 + p)) := by unfold gvS; rw [if_pos (ptB_t.mpr g)]
        have f1 := hF p g
        have f2 := hT p g
        rw [e] at b
        rw [mpT hs z0 z1 g, if_neg (by decide), w32_id (x := 80 + p) (by omega) (by omega), if_pos (by omega), w32_id (x := 16 + p) (by omega) (by omega), if_pos (by omega), jabs (by omega) (by omega), w32_id (by omega) (by omega)]
        have ej : J_max mx (iab (m 76 (80 + p) - m 76 (16 + p))) = if mx < iab (m 76 (80 + p) - m 76 (16 + p)) then iab (m 76 (80 + p) - m 76 (16 + p)) else mx := by
          unfold J_max; rw [w32_id (by omega) (by omega), w32_id (by omega) (by omega)]
        rw [ej, ih _ _ _ (p + 1) (by omega) (by omega) (by split <;> omega) (by split <;> omega) (by omega), e]
        simp only [Int.add_assoc]
      · have e : gvS (fun q => m 76 (80 + q)) (fun q => m 76 (16 + q)) S W p = 0 := by unfold gvS; rw [ptB_f.mpr g]; rfl
        have ej : J_max mx 0 = if mx < 0 then 0 else mx := by
          unfold J_max; rw [w32_id (by omega) (by omega), w32_id (by omega) (by omega)]
        rw [mpF hs z0 z1 (w64_id (by omega) (by omega)) g, if_pos rfl, ej, ih _ _ _ (p + 1) (by omega) (by omega) (by split <;> omega) (by split <;> omega) (by omega), e]
        simp only [Int.add_assoc]
        rfl
theorem gvS_c {F T F' T' : Int → Int} {S W : Int} (e1 : ∀ q, Pt S W q → F q = F' q) (e2 : ∀ q, Pt S W q → T q = T' q) : gvS F T S W = gvS F' T' S W := by
  funext p
  unfold gvS
  by_cases g : ptB S W p = true
  · rw [if_pos g, if_pos g, e1 p (ptB_t.mp g), e2 p (ptB_t.mp g)]
  · rw [if_neg g, if_neg g]
theorem s_given {m : Mem} (h : Rel m) {a0 : Int} (c0 : w32 a0 = a0) : Stq w32 (FL_given a0 m) (fun m1 => Mo_given a0 m1) := by
  have b0 := cn c0
  obtain ⟨⟨z0, z1, z2, z3, z4, z5, z6⟩, hs, hr, hv, hp⟩ := shF h
  by_cases g : 0 ≤ a0 ∧ a0 ≤ 2
  · have hT : ∀ q, Pt (m 7 0) (m 7 1) q → 0 ≤ m 76 (16 + q) ∧ m 76 (16 + q) ≤ 999 := fun q hq => by rw [toM h q hq]; exact toC h q hq
    have e := m_given_loop (m := st m 0 0 0) hs z0 z1 (flMb h) hT g.1 g.2 FU 0 0 0 0 (by omega) (by omega) (by omega) (by omega) (by rw [FU_eq]; omega)
    simp (disch := omega) only [st_ne] at e
    rw [gvS_c (flM h) (toM h)] at e
    have e1 := c_givenSum h
    have e2 := c_givenMost h
    have e3 := c_givenMany h
    rcases (by omega : a0 = 0 ∨ a0 = 1 ∨ a0 = 2) with q | q | q
    · subst q
      refine Stq.mk (x := 0 + suS (gvS (m 10) (m 9) (m 7 0) (m 7 1)) (64 - 0 : Int).toNat 0) (m1 := st m 0 0 0) (y := 0 + suS (gvS (m 10) (m 9) (m 7 0) (m 7 1)) (64 - 0 : Int).toNat 0) (m2 := st (st m 0 0 0) 75 1 0) ?_ ?_ rfl (h.stat 0)
      · simp (disch := omega) only [bP, bE, bV, ltM, ltI, st_eq, st_ne, w32_id, w64_id, ↓reduceIte, ilt_t, ilt_f, ile_t, ile_f, ieq_t, ieq_f, not_true_eq_false, not_false_eq_true, and_true, true_and, and_self, and_false, false_and, Int.reduceMod, FL_given, FL_isWithin, FL_no, FL_yes, FL_none, FL_answer, e1]
      · simp (disch := omega) only [bP, bE, bV, ltM, ltI, st_eq, st_ne, w32_id, w64_id, ↓reduceIte, ilt_t, ilt_f, ile_t, ile_f, ieq_t, ieq_f, not_true_eq_false, not_false_eq_true, and_true, true_and, and_self, and_false, false_and, Int.reduceMod, Mo_given, Mo_is, Mo_refuse, Mo_gives, Mo_isFrom, e]
    · subst q
      refine Stq.mk (x := mxS (gvS (m 10) (m 9) (m 7 0) (m 7 1)) (64 - 0 : Int).toNat 0 0) (m1 := st m 0 0 0) (y := mxS (gvS (m 10) (m 9) (m 7 0) (m 7 1)) (64 - 0 : Int).toNat 0 0) (m2 := st (st m 0 0 0) 75 1 0) ?_ ?_ rfl (h.stat 0)
      · simp (disch := omega) only [bP, bE, bV, ltM, ltI, st_eq, st_ne, w32_id, w64_id, ↓reduceIte, ilt_t, ilt_f, ile_t, ile_f, ieq_t, ieq_f, not_true_eq_false, not_false_eq_true, and_true, true_and, and_self, and_false, false_and, Int.reduceMod, FL_given, FL_isWithin, FL_no, FL_yes, FL_none, FL_answer, e2]
      · simp (disch := omega) only [bP, bE, bV, ltM, ltI, st_eq, st_ne, w32_id, w64_id, ↓reduceIte, ilt_t, ilt_f, ile_t, ile_f, ieq_t, ieq_f, not_true_eq_false, not_false_eq_true, and_true, true_and, and_self, and_false, false_and, Int.reduceMod, Mo_given, Mo_is, Mo_refuse, Mo_gives, Mo_isFrom, e]
    · subst q
      refine Stq.mk (x := 0 + suS (fun p => if (gvS (m 10) (m 9) (m 7 0) (m 7 1)) p ≤ 0 then 0 else 1) (64 - 0 : Int).toNat 0) (m1 := st m 0 0 0) (y := 0 + suS (fun p => if (gvS (m 10) (m 9) (m 7 0) (m 7 1)) p ≤ 0 then 0 else 1) (64 - 0 : Int).toNat 0) (m2 := st (st m 0 0 0) 75 1 0) ?_ ?_ rfl (h.stat 0)
      · simp (disch := omega) only [bP, bE, bV, ltM, ltI, st_eq, st_ne, w32_id, w64_id, ↓reduceIte, ilt_t, ilt_f, ile_t, ile_f, ieq_t, ieq_f, not_true_eq_false, not_false_eq_true, and_true, true_and, and_self, and_false, false_and, Int.reduceMod, FL_given, FL_isWithin, FL_no, FL_yes, FL_none, FL_answer, e3]
      · simp (disch := omega) only [bP, bE, bV, ltM, ltI, st_eq, st_ne, w32_id, w64_id, ↓reduceIte, ilt_t, ilt_f, ile_t, ile_f, ieq_t, ieq_f, not_true_eq_false, not_false_eq_true, and_true, true_and, and_self, and_false, false_and, Int.reduceMod, Mo_given, Mo_is, Mo_refuse, Mo_gives, Mo_isFrom, e]
  · have hb : a0 < 0 ∨ 2 < a0 := by omega
    refine Stq.mk (x := -1) (m1 := st m 0 0 1) (y := -1) (m2 := st (st m 0 0 1) 75 1 1) ?_ ?_ rfl (h.stat 1)
    · rcases hb with g | g <;> simp (disch := omega) only [bP, bE, bV, ltM, ltI, st_eq, st_ne, w32_id, w64_id, ↓reduceIte, ilt_t, ilt_f, ile_t, ile_f, ieq_t, ieq_f, not_true_eq_false, not_false_eq_true, and_true, true_and, and_self, and_false, false_and, Int.reduceMod, FL_given, FL_isWithin, FL_no, FL_yes, FL_none, FL_answer]
    · rcases hb with g | g <;> simp (disch := omega) only [bP, bE, bV, ltM, ltI, st_eq, st_ne, w32_id, w64_id, ↓reduceIte, ilt_t, ilt_f, ile_t, ile_f, ieq_t, ieq_f, not_true_eq_false, not_false_eq_true, and_true, true_and, and_self, and_false, false_and, Int.reduceMod, Mo_given, Mo_is, Mo_refuse, Mo_gives, Mo_isFrom]
def ckS (F : Int → Int) (W s : Int) : Int := 0 + suS (fun p => iab (bdS F (8 * s) 1 p)) (W - 1 - 1).toNat 1
theorem ln0 {S W s : Int} (s0 : 0 ≤ s) (s1 : s < S) : isLn S W 0 s := ⟨⟨by omega, by omega⟩, s0, by unfold lnS; rw [if_neg (by omega), if_pos rfl]; exact s1⟩
theorem bd8_b {F : Int → Int} {S W s p : Int} (hs : gSW S W) (hF : ∀ q, Pt S W q → 0 ≤ F q ∧ F q ≤ 999) (s0 : 0 ≤ s) (s1 : s < S) (p0 : 1 ≤ p) (p1 : p < W - 1) : -1998 ≤ bdS F (8 * s) 1 p ∧ bdS F (8 * s) 1 p ≤ 1998 := by
  have f1 := hF _ (pt8 hs s0 s1 (w := p - 1) (by omega) (by omega))
  have f2 := hF _ (pt8 hs s0 s1 (w := p) (by omega) (by omega))
  have f3 := hF _ (pt8 hs s0 s1 (w := p + 1) (by omega) (by omega))
  unfold bdS
  simp only [Int.one_mul]
  omega
theorem ckS_b {F : Int → Int} {S W s : Int} (hs : gSW S W) (hF : ∀ q, Pt S W q → 0 ≤ F q ∧ F q ≤ 999) (s0 : 0 ≤ s) (s1 : s < S) : 0 ≤ ckS F W s ∧ ckS F W s ≤ 7992 := by
  have := suS_b (g := fun p => iab (bdS F (8 * s) 1 p)) (B := 1998) (W - 1 - 1).toNat 1 (fun x x0 x1 => by
    have b := bd8_b hs hF s0 s1 (p := x) (by omega) (by omega)
    exact iab_b (by omega) (by omega))
  unfold ckS
  have e : ((W - 1 - 1).toNat : Int) * 1998 ≤ 7992 := by omega
  omega
theorem ckS_c {F G : Int → Int} {S W s : Int} (hs : gSW S W) (e : ∀ q, Pt S W q → F q = G q) (s0 : 0 ≤ s) (s1 : s < S) : ckS F W s = ckS G W s := by
  unfold ckS
  rw [suS_congr (g' := fun p => iab (bdS G (8 * s) 1 p)) _ _ (fun x x0 x1 => by
    have e1 := e _ (pt8 hs s0 s1 (w := x - 1) (by omega) (by omega))
    have e2 := e _ (pt8 hs s0 s1 (w := x) (by omega) (by omega))
    have e3 := e _ (pt8 hs s0 s1 (w := x + 1) (by omega) (by omega))
    unfold bdS
    simp only [Int.one_mul]
    rw [e1, e2, e3])]
theorem c_crook {m : Mem} {s : Int} (hs : gSW (m 7 0) (m 7 1)) (hfl : ∀ q, Pt (m 7 0) (m 7 1) q → 0 ≤ m 10 q ∧ m 10 q ≤ 999) (s0 : 0 ≤ s) (s1 : s < m 7 0) : Sheet_crookOf 7 s m = some (ckS (m 10) (m 7 1) s) := by
  have key : ∀ (n : Nat) (acc p : Int), 1 ≤ p → p ≤ 20 → (m 7 1 - 1 - p).toNat < n → Sheet_crookOf_L4 7 s m n acc p = some (acc + suS (fun p => iab (bdS (m 10) (8 * s) 1 p)) (m 7 1 - 1 - p).toNat p) := by
    intro n
    induction n with
    | zero => intro acc p _ _ q; omega
    | succ n ih =>
      intro acc p x0 x20 hn
      rw [Sheet_crookOf_L4, w32_id (x := p) (by omega) (by omega), w32_id (x := m 7 1 - 1) (by omega) (by omega)]
      by_cases q : m 7 1 - 1 ≤ p
      · rw [if_pos q, show (m 7 1 - 1 - p).toNat = 0 by omega]; simp [suS]
      · have b := bd8_b hs hfl s0 s1 (p := p) (by omega) (by omega)
        have e : Sheet_bendAt 7 (8 * s + p) 1 m = bdS (m 10) (8 * s) 1 p := by
          unfold Sheet_bendAt bdS
          simp only [Int.one_mul]
          rw [show 8 * s + p - 1 = 8 * s + (p - 1) by omega, show 8 * s + p + 1 = 8 * s + (p + 1) by omega, c_at (by omega) (by omega), c_at (by omega) (by omega), c_at (by omega) (by omega)]
        rw [if_neg q, e, jabs (by omega) (by omega), ih _ (p + 1) (by omega) (by omega) (by omega), show (m 7 1 - 1 - p).toNat = (m 7 1 - 1 - (p + 1)).toNat + 1 by omega, suS_succ]
        congr 1; omega
  exact key FU 0 1 (by omega) (by omega) (by rw [FU_eq]; omega)
theorem m_crook {m : Mem} {S W s : Int} (hs : gSW S W) (z0 : m 76 0 = S) (z1 : m 76 1 = W) (hfl : ∀ q, Pt S W q → 0 ≤ m 76 (80 + q) ∧ m 76 (80 + q) ≤ 999) (s0 : 0 ≤ s) (s1 : s < S) : Mo_crookOf s m = some (ckS (fun q => m 76 (80 + q)) W s, tk m (8 * s) 1 W) := by
  have hl := ln0 (W := W) s0 s1
  have et : Mo_takes 0 s m = tk m (8 * s) 1 W := m_takes hs z0 z1 hl
  have key : ∀ (n : Nat) (acc p : Int), 1 ≤ p → p ≤ 20 → (W - 1 - p).toNat < n → Mo_crookOf_L10 (tk m (8 * s) 1 W) n acc p = some (acc + suS (fun p => iab (bdS (fun q => m 76 (80 + q)) (8 * s) 1 p)) (W - 1 - p).toNat p, tk m (8 * s) 1 W) := by
    intro n
    induction n with
    | zero => intro acc p _ _ q; omega
    | succ n ih =>
      intro acc p x0 x20 hn
      have e25 : tk m (8 * s) 1 W 75 25 = W := rfl
      rw [Mo_crookOf_L10, e25, w32_id (x := p) (by omega) (by omega), w32_id (x := W - 1) (by omega) (by omega)]
      by_cases q : W - 1 ≤ p
      · rw [if_pos q, show (W - 1 - p).toNat = 0 by omega]; simp [suS]
      · have b := bd8_b hs hfl s0 s1 (p := p) (by omega) (by omega)
        have e : Mo_bendAt p (tk m (8 * s) 1 W) = some (bdS (fun q => m 76 (80 + q)) (8 * s) 1 p) := m_bend hs hl rfl rfl x0 (by show p < W - 1; omega)
        rw [if_neg q, e]
        simp only [bP]
        rw [jabs (by omega) (by omega), ih _ (p + 1) (by omega) (by omega) (by omega), show (W - 1 - p).toNat = (W - 1 - (p + 1)).toNat + 1 by omega, suS_succ]
        congr 2; omega
  unfold Mo_crookOf
  rw [et]
  exact key FU 0 1 (by omega) (by omega) (by rw [FU_eq]; omega)
theorem s_crook {m : Mem} (h : Rel m) {a0 : Int} (c0 : w32 a0 = a0) : Stq w32 (FL_crook a0 m) (fun m1 => Mo_crook a0 m1) := by
  have b0 := cn c0
  obtain ⟨⟨z0, z1, z2, z3, z4, z5, z6⟩, hs, hr, hv, hp⟩ := shF h
  by_cases g : 0 ≤ a0 ∧ a0 < m 7 0
  · have e1 := c_crook hs (flC h) g.1 g.2
    have e2 := m_crook (m := st m 0 0 0) hs z0 z1 (flMb h) g.1 g.2
    have e3 : ∀ k, Mo_isLine 0 a0 (st m 0 0 k) = 1 := fun k => m_isLineT hs z0 z1 (ln0 g.1 g.2)
    simp (disch := omega) only [st_ne] at e2
    rw [ckS_c hs (flM h) g.1 g.2] at e2
    refine Stq.mk (x := ckS (m 10) (m 7 1) a0) (m1 := st m 0 0 0) (y := ckS (m 10) (m 7 1) a0) (m2 := st (tk (st m 0 0 0) (8 * a0) 1 (m 7 1)) 75 1 0) ?_ ?_ rfl (h.tk _ _ _ _)
    · simp (disch := omega) only [bP, bE, bV, ltM, ltI, st_eq, st_ne, w32_id, w64_id, ↓reduceIte, ilt_t, ilt_f, ile_t, ile_f, ieq_t, ieq_f, not_true_eq_false, not_false_eq_true, and_true, true_and, and_self, and_false, false_and, Int.reduceMod, FL_crook, FL_isWithin, FL_no, FL_yes, FL_none, FL_answer, Sheet_hasStation, e1]
    · simp (disch := omega) only [bP, bE, bV, ltM, ltI, st_eq, st_ne, w32_id, w64_id, ↓reduceIte, ilt_t, ilt_f, ile_t, ile_f, ieq_t, ieq_f, not_true_eq_false, not_false_eq_true, and_true, true_and, and_self, and_false, false_and, Int.reduceMod, Mo_crook, Mo_is, Mo_refuse, Mo_gives, Mo_isFrom, e3, e2]
  · have hb : a0 < 0 ∨ (0 ≤ a0 ∧ m 7 0 ≤ a0) := by omega
    have e3 : ∀ k, Mo_isLine 0 a0 (st m 0 0 k) = 0 := fun k => m_isLineF hs z0 z1 (by decide) c0 (fun q => by have := isLn_pos hs q; omega)
    refine Stq.mk (x := -1) (m1 := st m 0 0 1) (y := -1) (m2 := st (st m 0 0 1) 75 1 1) ?_ ?_ rfl (h.stat 1)
    · rcases hb with g | g <;> simp (disch := omega) only [bP, bE, bV, ltM, ltI, st_eq, st_ne, w32_id, w64_id, ↓reduceIte, ilt_t, ilt_f, ile_t, ile_f, ieq_t, ieq_f, not_true_eq_false, not_false_eq_true, and_true, true_and, and_self, and_false, false_and, Int.reduceMod, FL_crook, FL_isWithin, FL_no, FL_yes, FL_none, FL_answer, Sheet_hasStation]
    · simp (disch := omega) only [bP, bE, bV, ltM, ltI, st_eq, st_ne, w32_id, w64_id, ↓reduceIte, ilt_t, ilt_f, ile_t, ile_f, ieq_t, ieq_f, not_true_eq_false, not_false_eq_true, and_true, true_and, and_self, and_false, false_and, Int.reduceMod, Mo_crook, Mo_is, Mo_refuse, Mo_gives, Mo_isFrom, e3]
