/-! layer 2: what was measured -/
theorem trA {m : Mem} {t p : Int} (t0 : 0 ≤ t) (t1 : t < 4) (p0 : 0 ≤ p) (p1 : p < 60) : Trays_at t p m = m 2 (60 * t + p) := by
  have e : w32 (t * 60 + p) = 60 * t + p := by rw [w32_id (by omega) (by omega)]; omega
  unfold Trays_at; rw [e, if_neg (by omega), if_neg (by omega)]
/-- the measures of a tray, one behind the other -/
def meS (T : Int → Int) (S W : Int) : Nat → Int → Bool
  | 0, _ => true
  | n + 1, v => ptB S W (T (2 * v)) && decide (0 ≤ T (2 * v + 1)) && decide (T (2 * v + 1) ≤ 999) && meS T S W n (v + 1)
theorem meS_s (T : Int → Int) (S W : Int) (n : Nat) (v : Int) : meS T S W (n + 1) v = (ptB S W (T (2 * v)) && decide (0 ≤ T (2 * v + 1)) && decide (T (2 * v + 1) ≤ 999) && meS T S W n (v + 1)) := rfl
theorem meS_at {T : Int → Int} {S W : Int} : ∀ (n : Nat) (v : Int), meS T S W n v = true → ∀ x, v ≤ x → x < v + n → Pt S W (T (2 * x)) ∧ 0 ≤ T (2 * x + 1) ∧ T (2 * x + 1) ≤ 999
  | 0, _, _, x, a, b => by omega
  | n + 1, v, h, x, a, b => by
    rw [meS_s] at h
    simp only [Bool.and_eq_true, decide_eq_true_eq] at h
    by_cases z : x = v
    · subst z; exact ⟨ptB_t.mp h.1.1.1, h.1.1.2, h.1.2⟩
    · exact meS_at n (v + 1) h.2 x (by omega) (by omega)
theorem c_meas {m : Mem} {t many : Int} (hs : gSW (m 7 0) (m 7 1)) (t0 : 0 ≤ t) (t1 : t < 4) (y0 : 0 ≤ many) (y1 : many ≤ 20) (hc : ∀ p, 0 ≤ p → p < 2 * many → w64 (m 2 (60 * t + p)) = m 2 (60 * t + p)) : FL_areMeasures t many m = some (if meS (fun p => m 2 (60 * t + p)) (m 7 0) (m 7 1) (many - 0).toNat 0 then 1 else 0) := by
  have key : ∀ (n : Nat) (v : Int), 0 ≤ v → v ≤ 20 → (many - v).toNat < n → FL_areMeasures_L2 t many m n v = some (if meS (fun p => m 2 (60 * t + p)) (m 7 0) (m 7 1) (many - v).toNat v then 1 else 0) := by
    intro n
    induction n with
    | zero => intro v _ _ q; omega
    | succ n ih =>
      intro v v0 v1 hn
      rw [FL_areMeasures_L2, w32_id (x := v) (by omega) (by omega), w32_id (x := many) (by omega) (by omega)]
      by_cases q : many ≤ v
      · rw [if_pos q, show (many - v).toNat = 0 by omega]; rfl
      · have e1 := hc (2 * v) (by omega) (by omega)
        have e2 := hc (2 * v + 1) (by omega) (by omega)
        rw [if_neg q, trA t0 t1 (by omega) (by omega), trA t0 t1 (by omega) (by omega), show (many - v).toNat = (many - (v + 1)).toNat + 1 by omega, meS_s]
        by_cases g : Pt (m 7 0) (m 7 1) (m 2 (60 * t + 2 * v))
        · rw [hpT hs g, if_neg (by decide), ptB_t.mpr g]
          unfold FL_isWithin
          rw [e2, w64_id (x := 0) (by omega) (by omega), w64_id (x := 999) (by omega) (by omega)]
          by_cases r1 : m 2 (60 * t + (2 * v + 1)) < 0
          · rw [if_pos r1, if_neg (by decide)]
            have : decide (0 ≤ m 2 (60 * t + (2 * v + 1))) = false := by simp; omega
            rw [this]; rfl
          · have d1 : decide (0 ≤ m 2 (60 * t + (2 * v + 1))) = true := by simp; omega
            by_cases r2 : 999 < m 2 (60 * t + (2 * v + 1))
            · have d2 : decide (m 2 (60 * t + (2 * v + 1)) ≤ 999) = false := by simp; omega
              rw [if_neg r1, if_pos r2, if_neg (by decide), d1, d2]; rfl
            · have d2 : decide (m 2 (60 * t + (2 * v + 1)) ≤ 999) = true := by simp; omega
              rw [if_neg r1, if_neg r2, if_pos (by decide), ih (v + 1) (by omega) (by omega) (by omega), d1, d2]; rfl
        · rw [hpF hs e1 g, if_pos rfl, ptB_f.mpr g]; rfl
  exact key FU 0 (by omega) (by omega) (by rw [FU_eq]; omega)
theorem m_meas {m : Mem} {S W t many v1 v2 v3 v6 v7 : Int} (hs : gSW S W) (z0 : m 76 0 = S) (z1 : m 76 1 = W) (t0 : 0 ≤ t) (t1 : t < 4) (y0 : 0 ≤ many) (y1 : many ≤ 20) (hc : ∀ p, 0 ≤ p → p < 2 * many → w64 (m 79 (60 * t + p)) = m 79 (60 * t + p)) {K : Mem → Option (Int × Mem)} : ∀ (n : Nat) (v : Int), 0 ≤ v → v ≤ 20 → (many - v).toNat < n → Mo_built_L116 v1 v2 v3 many v6 v7 (60 * t) K n v m = if meS (fun p => m 79 (60 * t + p)) S W (many - v).toNat v then K m else some (-1, st m 75 1 5) := by
  intro n
  induction n with
  | zero => intro v _ _ q; omega
  | succ n ih =>
    intro v x0 x1 hn
    rw [Mo_built_L116, w32_id (x := v) (by omega) (by omega), w32_id (x := many) (by omega) (by omega)]
    by_cases q : many ≤ v
    · rw [if_pos q, show (many - v).toNat = 0 by omega]; rfl
    · have e1 := hc (2 * v) (by omega) (by omega)
      have e2 := hc (2 * v + 1) (by omega) (by omega)
      rw [if_neg q, show 60 * t + 2 * v + 1 = 60 * t + (2 * v + 1) by omega, w32_id (x := 60 * t + 2 * v) (by omega) (by omega), w32_id (x := 60 * t + (2 * v + 1)) (by omega) (by omega), if_pos (show 0 ≤ 60 * t + 2 * v ∧ 60 * t + 2 * v < 240 by omega), show (many - v).toNat = (many - (v + 1)).toNat + 1 by omega, meS_s]
      by_cases g : Pt S W (m 79 (60 * t + 2 * v))
      · rw [mpT hs z0 z1 g, if_neg (by decide), if_pos (show 0 ≤ 60 * t + (2 * v + 1) ∧ 60 * t + (2 * v + 1) < 240 by omega), ptB_t.mpr g]
        unfold Mo_isFrom
        rw [e2, w64_id (x := 0) (by omega) (by omega), w64_id (x := 999) (by omega) (by omega)]
        by_cases r1 : m 79 (60 * t + (2 * v + 1)) < 0
        · rw [if_pos r1, if_neg (by decide)]
          have : decide (0 ≤ m 79 (60 * t + (2 * v + 1))) = false := by simp; omega
          rw [this]; rfl
        · have d1 : decide (0 ≤ m 79 (60 * t + (2 * v + 1))) = true := by simp; omega
          by_cases r2 : 999 < m 79 (60 * t + (2 * v + 1))
          · have d2 : decide (m 79 (60 * t + (2 * v + 1)) ≤ 999) = false := by simp; omega
            rw [if_neg r1, if_pos r2, if_neg (by decide), d1, d2]; rfl
          · have d2 : decide (m 79 (60 * t + (2 * v + 1)) ≤ 999) = true := by simp; omega
            rw [if_neg r1, if_neg r2, if_pos (by decide), ih (v + 1) (by omega) (by omega) (by omega), d1, d2]; rfl
      · rw [mpF hs z0 z1 e1 g, if_pos rfl, ptB_f.mpr g]; rfl
/-- a boat is as it was measured -/
def asS (T B : Int → Int) (sl : Int) : Nat → Int → Bool
  | 0, _ => true
  | n + 1, v => decide (iab (T (2 * v + 1) - B (T (2 * v))) ≤ sl) && asS T B sl n (v + 1)
theorem asS_s (T B : Int → Int) (sl : Int) (n : Nat) (v : Int) : asS T B sl (n + 1) v = (decide (iab (T (2 * v + 1) - B (T (2 * v))) ≤ sl) && asS T B sl n (v + 1)) := rfl
theorem c_asM {m : Mem} {S W t many sl : Int} (hs : gSW S W) (t0 : 0 ≤ t) (t1 : t < 4) (y0 : 0 ≤ many) (y1 : many ≤ 20) (l0 : 0 ≤ sl) (l1 : sl ≤ 99) (hm : ∀ x, 0 ≤ x → x < many → Pt S W (m 2 (60 * t + 2 * x)) ∧ 0 ≤ m 2 (60 * t + (2 * x + 1)) ∧ m 2 (60 * t + (2 * x + 1)) ≤ 999) (hb : ∀ q, Pt S W q → 0 ≤ m 43 q ∧ m 43 q ≤ 999) : FL_isBoatAsMeasured t many sl m = some (if asS (fun p => m 2 (60 * t + p)) (m 43) sl (many - 0).toNat 0 then 1 else 0) := by
  have key : ∀ (n : Nat) (v : Int), 0 ≤ v → v ≤ 20 → (many - v).toNat < n → FL_isBoatAsMeasured_L3 t many sl m n v = some (if asS (fun p => m 2 (60 * t + p)) (m 43) sl (many - v).toNat v then 1 else 0) := by
    intro n
    induction n with
    | zero => intro v _ _ q; omega
    | succ n ih =>
      intro v v0 v1 hn
      rw [FL_isBoatAsMeasured_L3, w32_id (x := v) (by omega) (by omega), w32_id (x := many) (by omega) (by omega)]
      by_cases q : many ≤ v
      · rw [if_pos q, show (many - v).toNat = 0 by omega]; rfl
      · obtain ⟨g1, g2, g3⟩ := hm v v0 (by omega)
        have p64 := pt64 hs g1
        have b := hb _ g1
        have eb : Yard_boatAt (m 2 (60 * t + 2 * v)) m = m 43 (m 2 (60 * t + 2 * v)) := by simp (disch := omega) only [bP, bE, bV, ltM, ltI, st_eq, st_ne, w32_id, w64_id, ↓reduceIte, ilt_t, ilt_f, ile_t, ile_f, ieq_t, ieq_f, not_true_eq_false, not_false_eq_true, and_true, true_and, and_self, and_false, false_and, Int.reduceMod, Yard_boatAt]
        have ij : J_absL (m 2 (60 * t + (2 * v + 1)) - m 43 (m 2 (60 * t + 2 * v))) = iab (m 2 (60 * t + (2 * v + 1)) - m 43 (m 2 (60 * t + 2 * v))) := by unfold J_absL iab; rw [w64_id (by omega) (by omega)]
        have ib := iab_b (x := m 2 (60 * t + (2 * v + 1)) - m 43 (m 2 (60 * t + 2 * v))) (B := 999) (by omega) (by omega)
        rw [if_neg q, trA t0 t1 (by omega) (by omega), trA t0 t1 (by omega) (by omega), eb, w32_id (x := m 43 (m 2 (60 * t + 2 * v))) (by omega) (by omega), ij, w64_id (by omega) (by omega), w32_id (x := sl) (by omega) (by omega), w64_id (x := sl) (by omega) (by omega), show (many - v).toNat = (many - (v + 1)).toNat + 1 by omega, asS_s]
        by_cases z : iab (m 2 (60 * t + (2 * v + 1)) - m 43 (m 2 (60 * t + 2 * v))) ≤ sl
        · rw [if_pos z, ih (v + 1) (by omega) (by omega) (by omega), decide_eq_true z]; rfl
        · rw [if_neg z, decide_eq_false z]; rfl
  exact key FU 0 (by omega) (by omega) (by rw [FU_eq]; omega)
