/-! layer 2: rounds, one point after the other -/
theorem neg_iff32 (x : Int32) : x.toInt < 0 ↔ x.toBitVec.msb = true := by
  show x.toBitVec.toInt < 0 ↔ _
  rw [BitVec.msb_eq_toInt]; simp
theorem xor_sg {x d : Int} (hd : 0 ≤ w32 d) : 0 ≤ w32 (bXor x d) ↔ 0 ≤ w32 x := by
  have e : w32 (bXor x d) = (Int32.ofInt x ^^^ Int32.ofInt d).toInt := by
    unfold bXor; rw [← t32, Int32.ofInt_toInt]
  rw [e]
  have h1 := neg_iff32 (Int32.ofInt x ^^^ Int32.ofInt d)
  have h2 := neg_iff32 (Int32.ofInt x)
  have h3 := neg_iff32 (Int32.ofInt d)
  rw [Int32.toBitVec_xor, BitVec.msb_xor] at h1
  rw [t32] at h2 h3
  have hd' : (Int32.ofInt d).toBitVec.msb = false := by
    cases q : (Int32.ofInt d).toBitVec.msb with
    | true => have := h3.mpr q; omega
    | false => rfl
  rw [hd', Bool.xor_false] at h1
  constructor
  · intro a
    by_cases b : w32 x < 0
    · have := h1.mpr (h2.mp b); omega
    · omega
  · intro a
    by_cases b : (Int32.ofInt x ^^^ Int32.ofInt d).toInt < 0
    · have := h2.mpr (h1.mp b); omega
    · omega
theorem fdiv_p {x d : Int} (x0 : -2147483648 ≤ x) (x1 : x < 2147483648) (d0 : 0 < d) (d1 : d < 2147483648) : J_floorDiv x d = some (x / d) := by
  have ex : w32 x = x := w32_id x0 x1
  have ed : w32 d = d := w32_id (by omega) d1
  unfold J_floorDiv
  rw [ed, ex, if_neg (by omega)]
  have hx := xor_sg (x := x) (d := d) (by omega)
  rw [ex] at hx
  by_cases q : 0 ≤ x
  · rw [if_pos (hx.mpr q), Int.tdiv_eq_ediv_of_nonneg q]
  · rw [if_neg (fun z => q (hx.mp z))]
    have hd := Int.mul_ediv_add_emod x d
    have r0 := Int.emod_nonneg x (show d ≠ 0 by omega)
    have r1 := Int.emod_lt_of_pos x d0
    have ht : Int.tdiv x d = if x % d = 0 then x / d else x / d + 1 := by
      rw [Int.tdiv_eq_ediv]
      have : ¬ 0 ≤ x := q
      by_cases z : x % d = 0
      · rw [if_pos (Or.inr (Int.dvd_of_emod_eq_zero z)), if_pos z]; omega
      · rw [if_neg (by rintro (a | a); · exact this a
                       · exact z (Int.emod_eq_zero_of_dvd a)), if_neg z]
        have : d.sign = 1 := Int.sign_eq_one_of_pos d0
        omega
    have hb : -2147483648 ≤ x / d ∧ x / d < 0 := by
      constructor
      · have : -2147483648 ≤ x / d := by
          have h5 : x ≤ x / d := by
            rw [Int.le_ediv_iff_mul_le d0]
            have : x * d ≤ x * 1 := Int.mul_le_mul_of_nonpos_left (by omega) (by omega)
            omega
          omega
        exact this
      · exact Int.ediv_neg_of_neg_of_pos (by omega) d0
    by_cases z : x % d = 0
    · rw [ht, if_pos z]
      have e : x / d * d = x := by rw [Int.mul_comm]; omega
      rw [e, ex, if_pos rfl]
    · rw [ht, if_neg z]
      have e : (x / d + 1) * d = x + (d - x % d) := by rw [Int.add_mul, Int.one_mul, Int.mul_comm (x / d)]; omega
      have hne : ¬ w32 ((x / d + 1) * d) = x := by
        rw [e]
        have : x + (d - x % d) ≤ 0 + d := by omega
        rw [w32_id (by omega) (by omega)]; omega
      rw [if_neg hne]
      congr 1; omega
def nwS (now stp wish : Int) : Int := if now - stp < (if wish < now + stp then wish else now + stp) then (if wish < now + stp then wish else now + stp) else now - stp
theorem nwS_b {now stp wish : Int} (n0 : 0 ≤ now) (n1 : now ≤ 999) (s0 : 1 ≤ stp) (s1 : stp ≤ 99) : -99 ≤ nwS now stp wish ∧ nwS now stp wish ≤ 1098 := by
  unfold nwS; split <;> split <;> omega
def ndS (stp : Int) (F : Int → Int) (q a : Int) : Int := clS (nwS (F q) stp ((4 * (F (q - a) + F (q + a)) - (F (q - 2 * a) + F (q + 2 * a)) + 3) / 6))
def bI (b : Bool) : Int := if b then 1 else 0
theorem bI01 (b : Bool) : bI b = 0 ∨ bI b = 1 := by cases b <;> simp [bI]
/-- a floor with one point moved -/
def upF (F : Int → Int) (q v : Int) : Int → Int := fun i => if i = q then v else F i
/-- the class's floor is F, all else as in m -/
def Fl (m mm : Mem) (F : Int → Int) : Prop := (∀ c, c ≠ 10 → mm c = m c) ∧ mm 10 = F
theorem Fl.up {m mm : Mem} {F : Int → Int} (h : Fl m mm F) (q v : Int) : Fl m (st mm 10 q v) (upF F q v) := ⟨fun c hc => by rw [st_ne _ _ _ hc]; exact h.1 c hc, by funext i; rw [st_eq, h.2]; rfl⟩
/-- the reference's floor is F, all else but the line in hand as in m -/
def Fm (m mm : Mem) (F : Int → Int) : Prop := (∀ c, c ≠ 75 → c ≠ 76 → mm c = m c) ∧ (∀ i, i < 23 ∨ 25 < i → mm 75 i = m 75 i) ∧ ∀ i, mm 76 i = F (i - 80)
theorem Fm.up {m mm : Mem} {F : Int → Int} (h : Fm m mm F) (q v : Int) : Fm m (st mm 76 (80 + q) v) (upF F q v) := by
  refine ⟨fun c c1 c2 => by rw [st_ne _ _ _ c2]; exact h.1 c c1 c2, fun i hi => by rw [st_ne _ _ _ (by decide)]; exact h.2.1 i hi, fun i => ?_⟩
  rw [st_eq, h.2.2]
  unfold upF
  by_cases z : i = 80 + q
  · rw [if_pos z, if_pos (by omega)]
  · rw [if_neg z, if_neg (by omega)]
theorem Fm.tk {m mm : Mem} {F : Int → Int} (h : Fm m mm F) (f a p : Int) : Fm m (tk mm f a p) F := by
  refine ⟨fun c c1 c2 => by rw [tk_96 _ _ _ _ c1]; exact h.1 c c1 c2, fun i hi => ?_, fun i => by rw [tk_96 _ _ _ _ (by decide)]; exact h.2.2 i⟩
  unfold _root_.Jvm.Pilot.CFairLinesLaw_law_r6635_d18a2e.tk
  rw [st_eq, if_neg (by omega), st_eq, if_neg (by omega), st_eq, if_neg (by omega)]; exact h.2.1 i hi
/-- bounds of a floor -/
def Fb (S W : Int) (F : Int → Int) : Prop := ∀ q, Pt S W q → 0 ≤ F q ∧ F q ≤ 999
theorem Fb.up {S W : Int} {F : Int → Int} (h : Fb S W F) (q : Int) {v : Int} (v0 : 0 ≤ v) (v1 : v ≤ 999) : Fb S W (upF F q v) := by
  intro i hi
  unfold upF
  split
  · exact ⟨v0, v1⟩
  · exact h i hi
theorem lin_pt {S W v l p : Int} (s : gSW S W) (h : isLn S W v l) (p0 : 2 ≤ p) (p1 : p < plS S W v l - 2) : Pt S W (fsS S v l + srS v * p) ∧ Pt S W (fsS S v l + srS v * p - srS v) ∧ Pt S W (fsS S v l + srS v * p + srS v) ∧ Pt S W (fsS S v l + srS v * p - 2 * srS v) ∧ Pt S W (fsS S v l + srS v * p + 2 * srS v) := by
  have a0 := pt_in s h (show 0 ≤ p by omega) (show p < plS S W v l by omega)
  have a1 := pt_in s h (show 0 ≤ p - 1 by omega) (show p - 1 < plS S W v l by omega)
  have a2 := pt_in s h (show 0 ≤ p + 1 by omega) (show p + 1 < plS S W v l by omega)
  have a3 := pt_in s h (show 0 ≤ p - 2 by omega) (show p - 2 < plS S W v l by omega)
  have a4 := pt_in s h (show 0 ≤ p + 2 by omega) (show p + 2 < plS S W v l by omega)
  rw [Int.mul_sub, Int.mul_one] at a1
  rw [Int.mul_add, Int.mul_one] at a2
  rw [Int.mul_sub] at a3
  rw [Int.mul_add] at a4
  refine ⟨a0, ?_, ?_, ?_, ?_⟩
  · rw [show fsS S v l + srS v * p - srS v = fsS S v l + (srS v * p - srS v) by omega]; exact a1
  · rw [show fsS S v l + srS v * p + srS v = fsS S v l + (srS v * p + srS v) by omega]; exact a2
  · rw [show fsS S v l + srS v * p - 2 * srS v = fsS S v l + (srS v * p - srS v * 2) by omega]; exact a3
  · rw [show fsS S v l + srS v * p + 2 * srS v = fsS S v l + (srS v * p + srS v * 2) by omega]; exact a4
theorem wish_b {x0 x1 x2 x3 : Int} (a0 : 0 ≤ x0 ∧ x0 ≤ 999) (a1 : 0 ≤ x1 ∧ x1 ≤ 999) (a2 : 0 ≤ x2 ∧ x2 ≤ 999) (a3 : 0 ≤ x3 ∧ x3 ≤ 999) : (-2000 ≤ 4 * (x0 + x1) - (x2 + x3) + 3 ∧ 4 * (x0 + x1) - (x2 + x3) + 3 ≤ 8000) ∧ -400 ≤ (4 * (x0 + x1) - (x2 + x3) + 3) / 6 ∧ (4 * (x0 + x1) - (x2 + x3) + 3) / 6 ≤ 1400 := by omega
theorem c_nudge {m : Mem} {S W q a stp : Int} (s : gSW S W) (hF : Fb S W (m 10)) (e5 : m 7 5 = stp) (s0 : 1 ≤ stp) (s1 : stp ≤ 99) (a0 : 1 ≤ a) (a1 : a ≤ 9) (h0 : Pt S W q) (h1 : Pt S W (q - a)) (h2 : Pt S W (q + a)) (h3 : Pt S W (q - 2 * a)) (h4 : Pt S W (q + 2 * a)) : Sheet_nudge 7 q a m = some (bI (decide (¬ ndS stp (m 10) q a = m 10 q)), st m 10 q (ndS stp (m 10) q a)) := by
  have p0 := pt64 s h0
  have p1 := pt64 s h1
  have p2 := pt64 s h2
  have p3 := pt64 s h3
  have p4 := pt64 s h4
  have f0 := hF _ h0
  have f1 := hF _ h1
  have f2 := hF _ h2
  have f3 := hF _ h3
  have f4 := hF _ h4
  have wb := wish_b f1 f2 f3 f4
  have ef := fdiv_p (x := 4 * (m 10 (q - a) + m 10 (q + a)) - (m 10 (q - 2 * a) + m 10 (q + 2 * a)) + 3) (d := 6) (by omega) (by omega) (by omega) (by omega)
  have nb := nwS_b (wish := (4 * (m 10 (q - a) + m 10 (q + a)) - (m 10 (q - 2 * a) + m 10 (q + 2 * a)) + 3) / 6) f0.1 f0.2 s0 s1
  have cb := clS_b (nwS (m 10 q) stp ((4 * (m 10 (q - a) + m 10 (q + a)) - (m 10 (q - 2 * a) + m 10 (q + 2 * a)) + 3) / 6))
  unfold Sheet_nudge
  rw [w32_id (x := a) (by omega) (by omega), w32_id (x := q - 2 * a) (by omega) (by omega), w32_id (x := q + 2 * a) (by omega) (by omega), w32_id (x := q - a) (by omega) (by omega), w32_id (x := q + a) (by omega) (by omega), w32_id (x := q) (by omega) (by omega), w32_id (x := 2 * a) (by omega) (by omega), w32_id (x := 64 - 2 * a) (by omega) (by omega), if_neg (by omega), if_neg (by omega), if_pos (show q < 64 - 2 * a by omega), if_pos (show 0 ≤ q - a ∧ q - a < 64 by omega), if_pos (show 0 ≤ q + a ∧ q + a < 64 by omega), if_pos (show 0 ≤ q - 2 * a ∧ q - 2 * a < 64 by omega), if_pos (show 0 ≤ q + 2 * a ∧ q + 2 * a < 64 by omega), if_pos (show 0 ≤ q ∧ q < 64 by omega)]
  show bP (J_floorDiv (4 * (m 10 (q - a) + m 10 (q + a)) - (m 10 (q - 2 * a) + m 10 (q + 2 * a)) + 3) 6) _ = _
  rw [ef, bP_some, if_pos (show 0 ≤ q ∧ q < 64 by omega)]
  show (some (if w32 (J_max 0 (J_min 999 (J_max (m 10 q - m 7 5) (J_min (m 10 q + m 7 5) _)))) = w32 (m 10 q) then 0 else 1, st m 10 q (J_max 0 (J_min 999 (J_max (m 10 q - m 7 5) (J_min (m 10 q + m 7 5) _))))) : Option (Int × Mem)) = _
  have en : J_max (m 10 q - m 7 5) (J_min (m 10 q + m 7 5) ((4 * (m 10 (q - a) + m 10 (q + a)) - (m 10 (q - 2 * a) + m 10 (q + 2 * a)) + 3) / 6)) = nwS (m 10 q) stp ((4 * (m 10 (q - a) + m 10 (q + a)) - (m 10 (q - 2 * a) + m 10 (q + 2 * a)) + 3) / 6) := by
    rw [e5]
    generalize (4 * (m 10 (q - a) + m 10 (q + a)) - (m 10 (q - 2 * a) + m 10 (q + 2 * a)) + 3) / 6 = w at wb nb cb
    unfold J_max J_min nwS
    rw [w32_id (x := w) (by omega) (by omega), w32_id (x := m 10 q + stp) (by omega) (by omega), w32_id (x := m 10 q - stp) (by omega) (by omega)]
    by_cases z : w < m 10 q + stp
    · rw [if_pos z, w32_id (x := w) (by omega) (by omega)]
    · rw [if_neg z, w32_id (x := m 10 q + stp) (by omega) (by omega)]
  rw [en, clJ (by omega) (by omega), w32_id (x := clS (nwS (m 10 q) stp ((4 * (m 10 (q - a) + m 10 (q + a)) - (m 10 (q - 2 * a) + m 10 (q + 2 * a)) + 3) / 6))) (by omega) (by omega), w32_id (x := m 10 q) (by omega) (by omega)]
  have eb : (if clS (nwS (m 10 q) stp ((4 * (m 10 (q - a) + m 10 (q + a)) - (m 10 (q - 2 * a) + m 10 (q + 2 * a)) + 3) / 6)) = m 10 q then 0 else 1 : Int) = bI (decide (¬ ndS stp (m 10) q a = m 10 q)) := by
    show (if ndS stp (m 10) q a = m 10 q then 0 else 1 : Int) = _
    unfold bI
    by_cases z : ndS stp (m 10) q a = m 10 q
    · rw [if_pos z]; simp [z]
    · rw [if_neg z]; simp [z]
  rw [eb]
  rfl
theorem dn6 {x : Int} (x0 : -100000 ≤ x) (x1 : x ≤ 100000) : Mo_downBy6 x = x / 6 := by
  unfold Mo_downBy6
  rw [w32_id (x := x) (by omega) (by omega), w32_id (x := 5 - x) (by omega) (by omega)]
  by_cases q : x < 0
  · rw [if_pos q, Int.tdiv_eq_ediv_of_nonneg (by omega)]; omega
  · rw [if_neg q, Int.tdiv_eq_ediv_of_nonneg (by omega)]
theorem m_wish {m mm : Mem} {S W v l p stp : Int} {F : Int → Int} {kp : Int → Bool} (s : gSW S W) (hl : isLn S W v l) (hm : Fm m mm F) (hF : Fb S W F) (e23 : mm 75 23 = fsS S v l) (e24 : mm 75 24 = srS v) (e5 : F (5 - 80) = stp) (s0 : 1 ≤ stp) (s1 : stp ≤ 99) (hk : ∀ q, Pt S W q → F (144 + q - 80) = bI (kp q)) (p0 : 2 ≤ p) (p1 : p < plS S W v l - 2) : Mo_wishes p mm = some (if kp (fsS S v l + srS v * p) then (0, mm) else (bI (decide (¬ ndS stp F (fsS S v l + srS v * p) (srS v) = F (fsS S v l + srS v * p))), st mm 76 (80 + (fsS S v l + srS v * p)) (ndS stp F (fsS S v l + srS v * p) (srS v)))) := by
  obtain ⟨h0, h1, h2, h3, h4⟩ := lin_pt s hl p0 p1
  have sb := srS_b v
  have r0 := pt64 s h0
  have f0 := hF _ h0
  have f1 := hF _ h1
  have f2 := hF _ h2
  have f3 := hF _ h3
  have f4 := hF _ h4
  have i1 : fsS S v l + srS v * (p - 1) = fsS S v l + srS v * p - srS v := by rw [Int.mul_sub, Int.mul_one]; omega
  have i2 : fsS S v l + srS v * (p + 1) = fsS S v l + srS v * p + srS v := by rw [Int.mul_add, Int.mul_one]; omega
  have i3 : fsS S v l + srS v * (p - 2) = fsS S v l + srS v * p - 2 * srS v := by rw [Int.mul_sub]; omega
  have i4 : fsS S v l + srS v * (p + 2) = fsS S v l + srS v * p + 2 * srS v := by rw [Int.mul_add]; omega
  have b0 := m_breadth (m := mm) (q := p) e23 e24 (by have := pt64 s h0; omega) (by have := pt64 s h0; omega)
  have b1 := m_breadth (m := mm) (q := p - 1) e23 e24 (by rw [i1]; have := pt64 s h1; omega) (by rw [i1]; have := pt64 s h1; omega)
  have b2 := m_breadth (m := mm) (q := p + 1) e23 e24 (by rw [i2]; have := pt64 s h2; omega) (by rw [i2]; have := pt64 s h2; omega)
  have b3 := m_breadth (m := mm) (q := p - 2) e23 e24 (by rw [i3]; have := pt64 s h3; omega) (by rw [i3]; have := pt64 s h3; omega)
  have b4 := m_breadth (m := mm) (q := p + 2) e23 e24 (by rw [i4]; have := pt64 s h4; omega) (by rw [i4]; have := pt64 s h4; omega)
  rw [i1] at b1; rw [i2] at b2; rw [i3] at b3; rw [i4] at b4
  have eq : mm 75 23 + mm 75 24 * p = fsS S v l + srS v * p := by rw [e23, e24]
  generalize fsS S v l + srS v * p = q at *
  have ec : ∀ x : Int, 80 + x - 80 = x := fun x => by omega
  rw [hm.2.2, ec] at b0 b1 b2 b3 b4
  have wb := wish_b f1 f2 f3 f4
  have nb := nwS_b (wish := (4 * (F (q - srS v) + F (q + srS v)) - (F (q - 2 * srS v) + F (q + 2 * srS v)) + 3) / 6) f0.1 f0.2 s0 s1
  have cb := clS_b (nwS (F q) stp ((4 * (F (q - srS v) + F (q + srS v)) - (F (q - 2 * srS v) + F (q + 2 * srS v)) + 3) / 6))
  have kb := bI01 (kp q)
  unfold Mo_wishes
  rw [b0, b1, b2, b3, b4, bP_some, bP_some, bP_some, bP_some, bP_some, eq, w32_id (x := 144 + q) (by omega) (by omega), if_pos (show 0 ≤ 144 + q ∧ 144 + q < 2900 by omega), hm.2.2, hk q h0, w32_id (x := bI (kp q)) (by omega) (by omega)]
  by_cases k : kp q = true
  · rw [k, if_pos rfl, if_neg (show ¬ ¬ bI true = 1 by simp [bI])]
  · have k' : kp q = false := by simpa using k
    rw [k', if_neg (show ¬ false = true by decide), if_pos (show ¬ bI false = 1 by simp [bI]), w32_id (x := 80 + q) (by omega) (by omega), if_pos (show 0 ≤ 80 + q ∧ 80 + q < 2900 by omega)]
    simp only [ltM]
    rw [if_pos (show 0 ≤ 80 + q ∧ 80 + q < 2900 by omega), st_eq, if_pos rfl, hm.2.2 5, e5]
    have ed : Mo_downBy6 (4 * (F (q - srS v) + F (q + srS v)) - F (q - 2 * srS v) - F (q + 2 * srS v) + 3) = (4 * (F (q - srS v) + F (q + srS v)) - (F (q - 2 * srS v) + F (q + 2 * srS v)) + 3) / 6 := by
      rw [dn6 (by omega) (by omega)]; congr 1; omega
    have en : F q + J_max (-stp) (J_min stp ((4 * (F (q - srS v) + F (q + srS v)) - (F (q - 2 * srS v) + F (q + 2 * srS v)) + 3) / 6 - F q)) = nwS (F q) stp ((4 * (F (q - srS v) + F (q + srS v)) - (F (q - 2 * srS v) + F (q + 2 * srS v)) + 3) / 6) := by
      generalize (4 * (F (q - srS v) + F (q + srS v)) - (F (q - 2 * srS v) + F (q + 2 * srS v)) + 3) / 6 = w at wb nb cb
      unfold J_max J_min nwS
      rw [w32_id (x := w - F q) (by omega) (by omega), w32_id (x := stp) (by omega) (by omega), w32_id (x := -stp) (by omega) (by omega)]
      by_cases z : w < F q + stp
      · rw [if_pos (show w - F q < stp by omega), if_pos z, w32_id (x := w - F q) (by omega) (by omega)]
        by_cases y : F q - stp < w
        · rw [if_pos (show -stp < w - F q by omega), if_pos y]; omega
        · rw [if_neg (show ¬ -stp < w - F q by omega), if_neg y]; omega
      · rw [if_neg (show ¬ w - F q < stp by omega), if_neg z, w32_id (x := stp) (by omega) (by omega)]
        by_cases y : F q - stp < F q + stp
        · rw [if_pos (show -stp < stp by omega), if_pos y]
        · omega
    rw [ed, en, clJ (by omega) (by omega), w32_id (x := clS (nwS (F q) stp ((4 * (F (q - srS v) + F (q + srS v)) - (F (q - 2 * srS v) + F (q + 2 * srS v)) + 3) / 6))) (by omega) (by omega), w32_id (x := F q) (by omega) (by omega)]
    have eb : (if clS (nwS (F q) stp ((4 * (F (q - srS v) + F (q + srS v)) - (F (q - 2 * srS v) + F (q + 2 * srS v)) + 3) / 6)) = F q then 0 else 1 : Int) = bI (decide (¬ ndS stp F q (srS v) = F q)) := by
      show (if ndS stp F q (srS v) = F q then 0 else 1 : Int) = _
      unfold bI
      by_cases z : ndS stp F q (srS v) = F q
      · rw [if_pos z]; simp [z]
      · rw [if_neg z]; simp [z]
    rw [eb]
    rfl
/-- one line, one view, one round -/
def lwS (kp : Int → Bool) (stp f a : Int) : Nat → Int → (Int → Int) × Bool → (Int → Int) × Bool
  | 0, _, X => X
  | n + 1, p, X => lwS kp stp f a n (p + 1) (if kp (f + a * p) then X else (upF X.1 (f + a * p) (ndS stp X.1 (f + a * p) a), X.2 || decide (¬ ndS stp X.1 (f + a * p) a = X.1 (f + a * p))))
theorem lwS_s (kp : Int → Bool) (stp f a : Int) (n : Nat) (p : Int) (X : (Int → Int) × Bool) : lwS kp stp f a (n + 1) p X = lwS kp stp f a n (p + 1) (if kp (f + a * p) then X else (upF X.1 (f + a * p) (ndS stp X.1 (f + a * p) a), X.2 || decide (¬ ndS stp X.1 (f + a * p) a = X.1 (f + a * p)))) := rfl
def vrS (kp : Int → Bool) (stp S W v : Int) : Nat → Int → (Int → Int) × Bool → (Int → Int) × Bool
  | 0, _, X => X
  | n + 1, l, X => vrS kp stp S W v n (l + 1) (lwS kp stp (fsS S v l) (srS v) (plS S W v l - 2 - 2).toNat 2 X)
theorem vrS_s (kp : Int → Bool) (stp S W v : Int) (n : Nat) (l : Int) (X : (Int → Int) × Bool) : vrS kp stp S W v (n + 1) l X = vrS kp stp S W v n (l + 1) (lwS kp stp (fsS S v l) (srS v) (plS S W v l - 2 - 2).toNat 2 X) := rfl
def rwS (kp : Int → Bool) (stp S W : Int) (o : Int → Int) : Nat → Int → (Int → Int) × Bool → (Int → Int) × Bool
  | 0, _, X => X
  | n + 1, k, X => rwS kp stp S W o n (k + 1) (vrS kp stp S W (o k) (lnS S W (o k) - 0).toNat 0 X)
theorem rwS_s (kp : Int → Bool) (stp S W : Int) (o : Int → Int) (n : Nat) (k : Int) (X : (Int → Int) × Bool) : rwS kp stp S W o (n + 1) k X = rwS kp stp S W o n (k + 1) (vrS kp stp S W (o k) (lnS S W (o k) - 0).toNat 0 X) := rfl
/-- what a step keeps: bounds, and all that is no point -/
def Kp (S W : Int) (F G : Int → Int) : Prop := Fb S W G ∧ ∀ q, ¬ Pt S W q → G q = F q
theorem Kp.up {S W : Int} {F G : Int → Int} (h : Kp S W F G) {q : Int} (hq : Pt S W q) {v : Int} (v0 : 0 ≤ v) (v1 : v ≤ 999) : Kp S W F (upF G q v) := by
  refine ⟨h.1.up q v0 v1, fun i hi => ?_⟩
  unfold upF
  rw [if_neg (fun z => hi (by rw [z]; exact hq))]
  exact h.2 i hi
theorem ndS_b (stp : Int) (F : Int → Int) (q a : Int) : 0 ≤ ndS stp F q a ∧ ndS stp F q a ≤ 999 := clS_b _
/-- two floors alike at the points go on alike -/
def Lk (S W : Int) (X Y : (Int → Int) × Bool) : Prop := (∀ q, Pt S W q → X.1 q = Y.1 q) ∧ X.2 = Y.2
theorem lwS_lk {S W v l stp : Int} {kp kq : Int → Bool} (s : gSW S W) (hl : isLn S W v l) (hk : ∀ q, Pt S W q → kp q = kq q) : ∀ (n : Nat) (p : Int) (X Y : (Int → Int) × Bool), 2 ≤ p → p + n ≤ plS S W v l - 2 ∨ n = 0 → Lk S W X Y → Lk S W (lwS kp stp (fsS S v l) (srS v) n p X) (lwS kq stp (fsS S v l) (srS v) n p Y)
  | 0, _, _, _, _, _, h => h
  | n + 1, p, X, Y, p0, pn, h => by
    obtain ⟨h0, h1, h2, h3, h4⟩ := lin_pt s hl p0 (by omega)
    rw [lwS_s, lwS_s, hk _ h0]
    have en : ndS stp X.1 (fsS S v l + srS v * p) (srS v) = ndS stp Y.1 (fsS S v l + srS v * p) (srS v) := by
      unfold ndS
      rw [h.1 _ h0, h.1 _ h1, h.1 _ h2, h.1 _ h3, h.1 _ h4]
    refine lwS_lk s hl hk n (p + 1) _ _ (by omega) (by omega) ?_
    by_cases z : kq (fsS S v l + srS v * p) = true
    · rw [if_pos z, if_pos z]; exact h
    · rw [if_neg z, if_neg z, en, h.1 _ h0, h.2]
      refine ⟨fun q hq => ?_, rfl⟩
      show upF _ _ _ q = upF _ _ _ q
      unfold upF
      rw [h.1 q hq]
theorem vrS_lk {S W v stp : Int} {kp kq : Int → Bool} (s : gSW S W) (v0 : 0 ≤ v) (v2 : v ≤ 2) (hk : ∀ q, Pt S W q → kp q = kq q) : ∀ (n : Nat) (l : Int) (X Y : (Int → Int) × Bool), 0 ≤ l → l + n ≤ lnS S W v ∨ n = 0 → Lk S W X Y → Lk S W (vrS kp stp S W v n l X) (vrS kq stp S W v n l Y)
  | 0, _, _, _, _, _, h => h
  | n + 1, l, X, Y, l0, ln, h => by
    rw [vrS_s, vrS_s]
    exact vrS_lk s v0 v2 hk n (l + 1) _ _ (by omega) (by omega) (lwS_lk s (isLn_of v0 v2 l0 (by omega)) hk _ 2 _ _ (by omega) (by omega) h)
theorem rwS_lk {S W stp : Int} {o o' : Int → Int} {kp kq : Int → Bool} (s : gSW S W) (hk : ∀ q, Pt S W q → kp q = kq q) : ∀ (n : Nat) (k : Int) (X Y : (Int → Int) × Bool), (∀ x, k ≤ x → x < k + n → o x = o' x ∧ 0 ≤ o x ∧ o x ≤ 2) → Lk S W X Y → Lk S W (rwS kp stp S W o n k X) (rwS kq stp S W o' n k Y)
  | 0, _, _, _, _, h => h
  | n + 1, k, X, Y, ho, h => by
    have a := ho k (by omega) (by omega)
    have b := lnS_le s (o k)
    rw [rwS_s, rwS_s, ← a.1]
    exact rwS_lk s hk n (k + 1) _ _ (fun x x0 x1 => ho x (by omega) (by omega)) (vrS_lk s a.2.1 a.2.2 hk _ 0 _ _ (by omega) (by omega) h)
theorem lwS_or (kp : Int → Bool) (stp f a : Int) : ∀ (n : Nat) (p : Int) (F : Int → Int) (b : Bool), lwS kp stp f a n p (F, b) = ((lwS kp stp f a n p (F, false)).1, b || (lwS kp stp f a n p (F, false)).2)
  | 0, _, _, b => by simp [lwS]
  | n + 1, p, F, b => by
    rw [lwS_s, lwS_s]
    by_cases z : kp (f + a * p) = true
    · rw [if_pos z, if_pos z]
      exact lwS_or kp stp f a n (p + 1) F b
    · rw [if_neg z, if_neg z]
      show lwS kp stp f a n (p + 1) (upF F (f + a * p) (ndS stp F (f + a * p) a), b || decide (¬ ndS stp F (f + a * p) a = F (f + a * p))) = ((lwS kp stp f a n (p + 1) (upF F (f + a * p) (ndS stp F (f + a * p) a), false || decide (¬ ndS stp F (f + a * p) a = F (f + a * p)))).1, b || (lwS kp stp f a n (p + 1) (upF F (f + a * p) (ndS stp F (f + a * p) a), false || decide (¬ ndS stp F (f + a * p) a = F (f + a * p)))).2)
      rw [lwS_or kp stp f a n (p + 1) _ (b || _), lwS_or kp stp f a n (p + 1) _ (false || _)]
      simp only [Bool.false_or, Bool.or_assoc]
theorem lwS_kp {S W v l stp : Int} {kp : Int → Bool} (s : gSW S W) (hl : isLn S W v l) {F : Int → Int} : ∀ (n : Nat) (p : Int) (X : (Int → Int) × Bool), 2 ≤ p → p + n ≤ plS S W v l - 2 ∨ n = 0 → Kp S W F X.1 → Kp S W F (lwS kp stp (fsS S v l) (srS v) n p X).1
  | 0, _, _, _, _, h => h
  | n + 1, p, X, p0, pn, h => by
    obtain ⟨h0, -⟩ := lin_pt s hl p0 (by omega)
    rw [lwS_s]
    refine lwS_kp s hl n (p + 1) _ (by omega) (by omega) ?_
    split
    · exact h
    · have b := ndS_b stp X.1 (fsS S v l + srS v * p) (srS v)
      exact h.up h0 b.1 b.2
theorem vrS_kp {S W v stp : Int} {kp : Int → Bool} (s : gSW S W) (v0 : 0 ≤ v) (v2 : v ≤ 2) {F : Int → Int} : ∀ (n : Nat) (l : Int) (X : (Int → Int) × Bool), 0 ≤ l → l + n ≤ lnS S W v ∨ n = 0 → Kp S W F X.1 → Kp S W F (vrS kp stp S W v n l X).1
  | 0, _, _, _, _, h => h
  | n + 1, l, X, l0, ln, h => by
    rw [vrS_s]
    exact vrS_kp s v0 v2 n (l + 1) _ (by omega) (by omega) (lwS_kp s (isLn_of v0 v2 l0 (by omega)) _ 2 _ (by omega) (by omega) h)
theorem rwS_kp {S W stp : Int} {o : Int → Int} {kp : Int → Bool} (s : gSW S W) {F : Int → Int} : ∀ (n : Nat) (k : Int) (X : (Int → Int) × Bool), (∀ x, k ≤ x → x < k + n → 0 ≤ o x ∧ o x ≤ 2) → Kp S W F X.1 → Kp S W F (rwS kp stp S W o n k X).1
  | 0, _, _, _, h => h
  | n + 1, k, X, ho, h => by
    have a := ho k (by omega) (by omega)
    have b := lnS_le s (o k)
    rw [rwS_s]
    exact rwS_kp s n (k + 1) _ (fun x x0 x1 => ho x (by omega) (by omega)) (vrS_kp s a.1 a.2 _ 0 _ (by omega) (by omega) h)
