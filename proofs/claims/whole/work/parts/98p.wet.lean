/-! layer 2: a wet floor -/
theorem iw {x lo hi : Int} (cx : w64 x = x) (l0 : -99999 ≤ lo) (l1 : lo ≤ 99999) (h0 : -99999 ≤ hi) (h1 : hi ≤ 99999) : FL_isWithin x lo hi = if lo ≤ x ∧ x ≤ hi then 1 else 0 := by
  unfold FL_isWithin
  rw [cx, w64_id (x := lo) (by omega) (by omega), w64_id (x := hi) (by omega) (by omega)]
  by_cases a : lo ≤ x
  · rw [if_neg (by omega)]
    by_cases b : x ≤ hi
    · rw [if_neg (by omega), if_pos ⟨a, b⟩]
    · rw [if_pos (by omega), if_neg (fun z => b z.2)]
  · rw [if_pos (by omega), if_neg (fun z => a z.1)]
theorem iwM (x lo hi : Int) : Mo_isFrom x lo hi = FL_isWithin x lo hi := rfl
def bnS (p : Int) : Int := if p % 3 = 0 then 9999 else if p % 3 = 1 then 19999 else 1
def sqS (T : Int → Int) : Nat → Int → Bool
  | 0, _ => true
  | n + 1, p => decide (0 ≤ T p ∧ T p ≤ bnS p) && sqS T n (p + 1)
theorem sqS_s (T : Int → Int) (n : Nat) (p : Int) : sqS T (n + 1) p = (decide (0 ≤ T p ∧ T p ≤ bnS p) && sqS T n (p + 1)) := rfl
theorem sqS_at {T : Int → Int} : ∀ (n : Nat) (v : Int), sqS T n v = true → ∀ x, v ≤ x → x < v + n → 0 ≤ T x ∧ T x ≤ bnS x
  | 0, _, _, x, a, b => by omega
  | n + 1, v, h, x, a, b => by
    rw [sqS_s] at h
    simp only [Bool.and_eq_true, decide_eq_true_eq] at h
    by_cases z : x = v
    · subst z; exact h.1
    · exact sqS_at n (v + 1) h.2 x (by omega) (by omega)
theorem sqS_c {T T' : Int → Int} : ∀ (n : Nat) (v : Int), (∀ x, v ≤ x → x < v + n → T x = T' x) → sqS T n v = sqS T' n v
  | 0, _, _ => rfl
  | n + 1, v, h => by
    rw [sqS_s, sqS_s, h v (by omega) (by omega), sqS_c n (v + 1) (fun x a b => h x (by omega) (by omega))]
theorem c_sq {m : Mem} {t many : Int} (t0 : 0 ≤ t) (t1 : t < 4) (y0 : 0 ≤ many) (y1 : many ≤ 20) (hc : ∀ p, 0 ≤ p → p < 3 * many → w64 (m 2 (60 * t + p)) = m 2 (60 * t + p)) : FL_areSquares t many m = some (if sqS (fun p => m 2 (60 * t + p)) (3 * many - 0).toNat 0 then 1 else 0) := by
  have key : ∀ (n : Nat) (v : Int), 0 ≤ v → v ≤ 20 → (many - v).toNat < n → FL_areSquares_L2 t many m n v = some (if sqS (fun p => m 2 (60 * t + p)) (3 * many - 3 * v).toNat (3 * v) then 1 else 0) := by
    intro n
    induction n with
    | zero => intro v _ _ q; omega
    | succ n ih =>
      intro v v0 v1 hn
      rw [FL_areSquares_L2, w32_id (x := v) (by omega) (by omega), w32_id (x := many) (by omega) (by omega)]
      by_cases q : many ≤ v
      · rw [if_pos q, show (3 * many - 3 * v).toNat = 0 by omega]; rfl
      · have e0 := hc (3 * v) (by omega) (by omega)
        have e1 := hc (3 * v + 1) (by omega) (by omega)
        have e2 := hc (3 * v + 2) (by omega) (by omega)
        have b0 : bnS (3 * v) = 9999 := by unfold bnS; rw [if_pos (by omega)]
        have b1 : bnS (3 * v + 1) = 19999 := by unfold bnS; rw [if_neg (by omega), if_pos (by omega)]
        have b2 : bnS (3 * v + 1 + 1) = 1 := by unfold bnS; rw [if_neg (by omega), if_neg (by omega)]
        rw [if_neg q, trA t0 t1 (by omega) (by omega), trA t0 t1 (by omega) (by omega), trA t0 t1 (by omega) (by omega), iw e0 (by omega) (by omega) (by omega) (by omega), iw e1 (by omega) (by omega) (by omega) (by omega), iw e2 (by omega) (by omega) (by omega) (by omega), show (3 * many - 3 * v).toNat = (3 * many - 3 * (v + 1)).toNat + 1 + 1 + 1 by omega, sqS_s, sqS_s, sqS_s, b0, b1, b2, ih (v + 1) (by omega) (by omega) (by omega), show 3 * v + 1 + 1 = 3 * v + 2 by omega, show 3 * v + 2 + 1 = 3 * (v + 1) by omega]
        by_cases z0 : 0 ≤ m 2 (60 * t + 3 * v) ∧ m 2 (60 * t + 3 * v) ≤ 9999
        · by_cases z1 : 0 ≤ m 2 (60 * t + (3 * v + 1)) ∧ m 2 (60 * t + (3 * v + 1)) ≤ 19999
          · by_cases z2 : 0 ≤ m 2 (60 * t + (3 * v + 2)) ∧ m 2 (60 * t + (3 * v + 2)) ≤ 1
            · rw [if_pos z0, if_pos z1, if_pos z2, if_neg (by decide), if_neg (by decide), if_pos (by decide), decide_eq_true z0, decide_eq_true z1, decide_eq_true z2]; rfl
            · rw [if_pos z0, if_pos z1, if_neg z2, if_neg (by decide), if_neg (by decide), if_neg (by decide), decide_eq_true z0, decide_eq_true z1, decide_eq_false z2]; rfl
          · rw [if_pos z0, if_neg z1, if_neg (by decide), if_pos (by decide), decide_eq_true z0, decide_eq_false z1]; rfl
        · rw [if_neg z0, if_pos (by decide), decide_eq_false z0]; rfl
  exact key FU 0 (by omega) (by omega) (by rw [FU_eq]; omega)
theorem m_sq {m : Mem} {t many v3 : Int} (t0 : 0 ≤ t) (t1 : t < 4) (y0 : 0 ≤ many) (y1 : many ≤ 20) (hc : ∀ p, 0 ≤ p → p < 3 * many → w64 (m 79 (60 * t + p)) = m 79 (60 * t + p)) {K : Mem → Option (Int × Mem)} : ∀ (n : Nat) (v : Int), 0 ≤ v → v ≤ 60 → (3 * many - v).toNat < n → Mo_wet_L76 many v3 (60 * t) K n v m = if sqS (fun p => m 79 (60 * t + p)) (3 * many - v).toNat v then K m else some (-1, st m 75 1 5) := by
  intro n
  induction n with
  | zero => intro v _ _ q; omega
  | succ n ih =>
    intro v v0 v1 hn
    rw [Mo_wet_L76, w32_id (x := v) (by omega) (by omega), w32_id (x := 3 * many) (by omega) (by omega)]
    by_cases q : 3 * many ≤ v
    · rw [if_pos q, show (3 * many - v).toNat = 0 by omega]; rfl
    · have e0 := hc v v0 (by omega)
      have et : w32 (Int.tmod v 3) = v % 3 := by rw [Int.tmod_eq_emod_of_nonneg v0, w32_id (by omega) (by omega)]
      have eb : (if ¬ (w32 (Int.tmod v 3)) = 0 then (if ¬ (w32 (Int.tmod v 3)) = 1 then 1 else 19999 : Int) else 9999 : Int) = bnS v := by
        rw [et]; unfold bnS
        by_cases z0 : v % 3 = 0
        · rw [if_neg (by omega), if_pos z0]
        · rw [if_pos z0, if_neg z0]
          by_cases z1 : v % 3 = 1
          · rw [if_neg (by omega), if_pos z1]
          · rw [if_pos z1, if_neg z1]
      have bb : 1 ≤ bnS v ∧ bnS v ≤ 19999 := by unfold bnS; split <;> (try split) <;> omega
      rw [if_neg q, w32_id (x := 60 * t + v) (by omega) (by omega), if_pos (by omega), eb, iwM, iw e0 (by omega) (by omega) (by omega) (by omega), show (3 * many - v).toNat = (3 * many - (v + 1)).toNat + 1 by omega, sqS_s, ih (v + 1) (by omega) (by omega) (by omega)]
      simp only [ltI]
      by_cases z : 0 ≤ m 79 (60 * t + v) ∧ m 79 (60 * t + v) ≤ bnS v
      · rw [if_pos z, w32_id (by omega) (by omega), if_pos (by decide), decide_eq_true z]; rfl
      · rw [if_neg z, w32_id (by omega) (by omega), if_neg (by decide), decide_eq_false z]; rfl
def duS (T : Int → Int) (r v : Int) : Int := iab (T (3 * v + 1) - (T (3 * v) + Int.tdiv (T (3 * v) * r) 1000))
def rfS (T : Int → Int) (side r : Int) : Nat → Int → Bool
  | 0, _ => true
  | n + 1, v => (decide (¬ T (3 * v + 2) = side) || decide (duS T r v ≤ 1)) && rfS T side r n (v + 1)
theorem rfS_s (T : Int → Int) (side r : Int) (n : Nat) (v : Int) : rfS T side r (n + 1) v = ((decide (¬ T (3 * v + 2) = side) || decide (duS T r v ≤ 1)) && rfS T side r n (v + 1)) := rfl
theorem rfS_c {T T' : Int → Int} {side r : Int} : ∀ (n : Nat) (v : Int), (∀ x, 3 * v ≤ x → x < 3 * (v + n) → T x = T' x) → rfS T side r n v = rfS T' side r n v
  | 0, _, _ => rfl
  | n + 1, v, h => by
    rw [rfS_s, rfS_s]
    unfold duS
    rw [h (3 * v) (by omega) (by omega), h (3 * v + 1) (by omega) (by omega), h (3 * v + 2) (by omega) (by omega), rfS_c n (v + 1) (fun x a b => h x (by omega) (by omega))]
theorem tdv {a r : Int} (a0 : 0 ≤ a) (a1 : a ≤ 9999) (r0 : -50 ≤ r) (r1 : r ≤ 50) : (-499950 ≤ a * r ∧ a * r ≤ 499950) ∧ -500 ≤ Int.tdiv (a * r) 1000 ∧ Int.tdiv (a * r) 1000 ≤ 500 := by
  have u1 : a * r ≤ a * 50 := Int.mul_le_mul_of_nonneg_left r1 a0
  have u2 : a * (-50) ≤ a * r := Int.mul_le_mul_of_nonneg_left r0 a0
  have u : -499950 ≤ a * r ∧ a * r ≤ 499950 := by omega
  refine ⟨u, ?_⟩
  generalize a * r = x at u
  by_cases z : 0 ≤ x
  · rw [Int.tdiv_eq_ediv_of_nonneg z]; omega
  · have e : x = -(-x) := by omega
    rw [e, Int.neg_tdiv, Int.tdiv_eq_ediv_of_nonneg (by omega)]; omega
theorem duJ {a b r : Int} (a0 : 0 ≤ a) (a1 : a ≤ 9999) (b0 : 0 ≤ b) (b1 : b ≤ 19999) (r0 : -50 ≤ r) (r1 : r ≤ 50) : w64 (J_absL (b - (a + (Int.tdiv (w64 (a * (w32 r))) 1000)))) = iab (b - (a + Int.tdiv (a * r) 1000)) ∧ 0 ≤ iab (b - (a + Int.tdiv (a * r) 1000)) ∧ iab (b - (a + Int.tdiv (a * r) 1000)) ≤ 40000 := by
  have u := tdv a0 a1 r0 r1
  rw [w32_id (x := r) (by omega) (by omega), w64_id (x := a * r) (by omega) (by omega)]
  have i := iab_b (x := b - (a + Int.tdiv (a * r) 1000)) (B := 40000) (by omega) (by omega)
  have e : J_absL (b - (a + Int.tdiv (a * r) 1000)) = iab (b - (a + Int.tdiv (a * r) 1000)) := by
    unfold J_absL iab; rw [w64_id (by omega) (by omega)]
  rw [e, w64_id (by omega) (by omega)]
  exact ⟨rfl, i⟩
theorem c_rf {m : Mem} {t many side r : Int} (t0 : 0 ≤ t) (t1 : t < 4) (y0 : 0 ≤ many) (y1 : many ≤ 20) (s0 : 0 ≤ side) (s1 : side ≤ 1) (r0 : -50 ≤ r) (r1 : r ≤ 50) (hm : ∀ x, 0 ≤ x → x < 3 * many → 0 ≤ m 2 (60 * t + x) ∧ m 2 (60 * t + x) ≤ bnS x) : FL_isRateFitting t many side r m = some (if rfS (fun p => m 2 (60 * t + p)) side r (many - 0).toNat 0 then 1 else 0) := by
  have key : ∀ (n : Nat) (v : Int), 0 ≤ v → v ≤ 20 → (many - v).toNat < n → FL_isRateFitting_L3 t many side r m n v = some (if rfS (fun p => m 2 (60 * t + p)) side r (many - v).toNat v then 1 else 0) := by
    intro n
    induction n with
    | zero => intro v _ _ q; omega
    | succ n ih =>
      intro v v0 v1 hn
      rw [FL_isRateFitting_L3, w32_id (x := v) (by omega) (by omega), w32_id (x := many) (by omega) (by omega)]
      by_cases q : many ≤ v
      · rw [if_pos q, show (many - v).toNat = 0 by omega]; rfl
      · have h0 := hm (3 * v) (by omega) (by omega)
        have h1 := hm (3 * v + 1) (by omega) (by omega)
        have h2 := hm (3 * v + 2) (by omega) (by omega)
        have b0 : bnS (3 * v) = 9999 := by unfold bnS; rw [if_pos (by omega)]
        have b1 : bnS (3 * v + 1) = 19999 := by unfold bnS; rw [if_neg (by omega), if_pos (by omega)]
        have b2 : bnS (3 * v + 2) = 1 := by unfold bnS; rw [if_neg (by omega), if_neg (by omega)]
        rw [b0] at h0; rw [b1] at h1; rw [b2] at h2
        obtain ⟨j1, j2⟩ := duJ (a := m 2 (60 * t + 3 * v)) (b := m 2 (60 * t + (3 * v + 1))) (r := r) h0.1 h0.2 h1.1 h1.2 r0 r1
        rw [if_neg q, trA t0 t1 (by omega) (by omega), trA t0 t1 (by omega) (by omega), trA t0 t1 (by omega) (by omega), j1, w32_id (x := side) (by omega) (by omega), w64_id (x := side) (by omega) (by omega), w64_id (x := m 2 (60 * t + (3 * v + 2))) (by omega) (by omega), ih (v + 1) (by omega) (by omega) (by omega), show (many - v).toNat = (many - (v + 1)).toNat + 1 by omega, rfS_s]
        by_cases z : m 2 (60 * t + (3 * v + 2)) = side
        · have d1 : decide (¬ m 2 (60 * t + (3 * v + 2)) = side) = false := by simp [z]
          rw [if_neg (by omega), d1]
          by_cases y : iab (m 2 (60 * t + (3 * v + 1)) - (m 2 (60 * t + 3 * v) + Int.tdiv (m 2 (60 * t + 3 * v) * r) 1000)) ≤ 1
          · have d2 : decide (duS (fun p => m 2 (60 * t + p)) r v ≤ 1) = true := decide_eq_true y
            rw [if_pos y, d2]; rfl
          · have d2 : decide (duS (fun p => m 2 (60 * t + p)) r v ≤ 1) = false := decide_eq_false y
            rw [if_neg y, d2]; rfl
        · have d1 : decide (¬ m 2 (60 * t + (3 * v + 2)) = side) = true := by simp [z]
          rw [if_pos z, if_pos rfl, d1]; rfl
  exact key FU 0 (by omega) (by omega) (by rw [FU_eq]; omega)
theorem m_rf {m : Mem} {t many v3 side r c lo hi : Int} (t0 : 0 ≤ t) (t1 : t < 4) (y0 : 0 ≤ many) (y1 : many ≤ 20) (w0 : 0 ≤ v3) (w1 : v3 ≤ 5) (es : Int.tdiv v3 3 = side) (s0 : 0 ≤ side) (s1 : side ≤ 1) (r0 : -50 ≤ r) (r1 : r ≤ 50) (c0 : 0 ≤ c) (c1 : c ≤ 200) (hm : ∀ x, 0 ≤ x → x < 3 * many → 0 ≤ m 79 (60 * t + x) ∧ m 79 (60 * t + x) ≤ bnS x) {K : Int → Int → Int → Int → Option (Int × Mem)} : ∀ (n : Nat) (g v : Int), g = 0 ∨ g = 1 → 0 ≤ v → v ≤ 20 → (many - v).toNat < n → Mo_wet_L167 many v3 (60 * t) K m n c lo hi r g v = if g = 1 ∧ rfS (fun p => m 79 (60 * t + p)) side r (many - v).toNat v = true then K (c + 1) (if c = 0 then r else lo) r (r + 1) else K c lo hi (r + 1) := by
  intro n
  induction n with
  | zero => intro g v _ _ _ q; omega
  | succ n ih =>
    intro g v hg v0 v1 hn
    rw [Mo_wet_L167, w32_id (x := v) (by omega) (by omega), w32_id (x := many) (by omega) (by omega), w32_id (x := g) (by omega) (by omega), w32_id (x := c) (by omega) (by omega)]
    by_cases q : many ≤ v
    · rw [if_pos q, show (many - v).toNat = 0 by omega]
      have ec : (if ¬ c = 0 then lo else r : Int) = (if c = 0 then r else lo) := by
        by_cases y : c = 0
        · rw [if_neg (by omega), if_pos y]
        · rw [if_pos y, if_neg y]
      rw [ec]
      rcases hg with z | z
      · subst z
        rw [if_neg (by decide)]; exact (if_neg (fun y => absurd y.1 (by decide))).symm
      · subst z
        rw [if_pos (by decide)]; exact (if_pos ⟨rfl, rfl⟩).symm
    · have h0 := hm (3 * v) (by omega) (by omega)
      have h1 := hm (3 * v + 1) (by omega) (by omega)
      have h2 := hm (3 * v + 2) (by omega) (by omega)
      have b0 : bnS (3 * v) = 9999 := by unfold bnS; rw [if_pos (by omega)]
      have b1 : bnS (3 * v + 1) = 19999 := by unfold bnS; rw [if_neg (by omega), if_pos (by omega)]
      have b2 : bnS (3 * v + 2) = 1 := by unfold bnS; rw [if_neg (by omega), if_neg (by omega)]
      rw [b0] at h0; rw [b1] at h1; rw [b2] at h2
      obtain ⟨j1, j2⟩ := duJ (a := m 79 (60 * t + 3 * v)) (b := m 79 (60 * t + (3 * v + 1))) (r := r) h0.1 h0.2 h1.1 h1.2 r0 r1
      rw [if_neg q, show 60 * t + 3 * v + 2 = 60 * t + (3 * v + 2) by omega, show 60 * t + 3 * v + 1 = 60 * t + (3 * v + 1) by omega, w32_id (x := 60 * t + (3 * v + 2)) (by omega) (by omega), w32_id (x := 60 * t + (3 * v + 1)) (by omega) (by omega), w32_id (x := 60 * t + 3 * v) (by omega) (by omega), w32_id (x := v3) (by omega) (by omega), es, w32_id (x := side) (by omega) (by omega), w64_id (x := side) (by omega) (by omega), w64_id (x := m 79 (60 * t + (3 * v + 2))) (by omega) (by omega), if_pos (show 0 ≤ 60 * t + (3 * v + 2) ∧ 60 * t + (3 * v + 2) < 240 by omega), if_pos (show 0 ≤ 60 * t + 3 * v ∧ 60 * t + 3 * v < 240 by omega), if_pos (show 0 ≤ 60 * t + 3 * v ∧ 60 * t + 3 * v < 240 by omega), if_pos (show 0 ≤ 60 * t + (3 * v + 1) ∧ 60 * t + (3 * v + 1) < 240 by omega), j1, show (many - v).toNat = (many - (v + 1)).toNat + 1 by omega, rfS_s]
      simp only [ltI]
      by_cases z : m 79 (60 * t + (3 * v + 2)) = side
      · have d1 : decide (¬ m 79 (60 * t + (3 * v + 2)) = side) = false := by simp [z]
        rw [if_pos z, d1]
        rcases hg with y | y
        · rw [if_pos y, ih 0 (v + 1) (Or.inl rfl) (by omega) (by omega) (by omega), if_neg (fun x => by omega), if_neg (fun x => by omega)]
        · rw [if_neg (by omega)]
          by_cases x : iab (m 79 (60 * t + (3 * v + 1)) - (m 79 (60 * t + 3 * v) + Int.tdiv (m 79 (60 * t + 3 * v) * r) 1000)) ≤ 1
          · have d2 : decide (duS (fun p => m 79 (60 * t + p)) r v ≤ 1) = true := decide_eq_true x
            rw [if_neg (by omega), d2, ih 1 (v + 1) (Or.inr rfl) (by omega) (by omega) (by omega), y]; rfl
          · have d2 : decide (duS (fun p => m 79 (60 * t + p)) r v ≤ 1) = false := decide_eq_false x
            rw [if_pos (by omega), d2, ih 0 (v + 1) (Or.inl rfl) (by omega) (by omega) (by omega), if_neg (fun x => by omega), if_neg (fun x => by simp at x)]
      · have d1 : decide (¬ m 79 (60 * t + (3 * v + 2)) = side) = true := by simp [z]
        rw [if_neg z, ih g (v + 1) hg (by omega) (by omega) (by omega), d1]; rfl
def wtS (g : Int → Bool) : Nat → Int → Int → Int → Int → Int × Int × Int
  | 0, _, c, lo, hi => (c, lo, hi)
  | n + 1, r, c, lo, hi => if g r then wtS g n (r + 1) (c + 1) (if c = 0 then r else lo) r else wtS g n (r + 1) c lo hi
theorem wtS_s (g : Int → Bool) (n : Nat) (r c lo hi : Int) : wtS g (n + 1) r c lo hi = if g r then wtS g n (r + 1) (c + 1) (if c = 0 then r else lo) r else wtS g n (r + 1) c lo hi := rfl
theorem wtS_b (g : Int → Bool) : ∀ (n : Nat) (r c lo hi : Int), c ≤ (wtS g n r c lo hi).1 ∧ (wtS g n r c lo hi).1 ≤ c + n
  | 0, r, c, lo, hi => ⟨Int.le_refl _, by show c ≤ _; omega⟩
  | n + 1, r, c, lo, hi => by
    rw [wtS_s]
    split
    · have := wtS_b g n (r + 1) (c + 1) (if c = 0 then r else lo) r; omega
    · have := wtS_b g n (r + 1) c lo hi; omega
theorem wtS_e (g : Int → Bool) : ∀ (n : Nat) (r c lo hi lo' hi' : Int), 0 ≤ c → (c = 0 ∨ (lo = lo' ∧ hi = hi')) → (wtS g n r c lo hi).1 = (wtS g n r c lo' hi').1 ∧ ((wtS g n r c lo hi).1 = 0 ∨ (wtS g n r c lo hi).2 = (wtS g n r c lo' hi').2)
  | 0, r, c, lo, hi, lo', hi', c0, h => ⟨rfl, by
      rcases h with z | z
      · exact Or.inl z
      · right; show (lo, hi) = (lo', hi'); rw [z.1, z.2]⟩
  | n + 1, r, c, lo, hi, lo', hi', c0, h => by
    rw [wtS_s, wtS_s]
    by_cases q : g r = true
    · rw [if_pos q, if_pos q]
      have e : (if c = 0 then r else lo) = (if c = 0 then r else lo') := by
        by_cases z : c = 0
        · rw [if_pos z, if_pos z]
        · rw [if_neg z, if_neg z]; rcases h with y | y
          · exact absurd y z
          · exact y.1
      rw [e]
      exact ⟨rfl, Or.inr rfl⟩
    · rw [if_neg q, if_neg q]
      exact wtS_e g n (r + 1) c lo hi lo' hi' c0 h
theorem c_wt {m : Mem} {t many side asked : Int} (t0 : 0 ≤ t) (t1 : t < 4) (y0 : 0 ≤ many) (y1 : many ≤ 20) (s0 : 0 ≤ side) (s1 : side ≤ 1) (hm : ∀ x, 0 ≤ x → x < 3 * many → 0 ≤ m 2 (60 * t + x) ∧ m 2 (60 * t + x) ≤ bnS x) {K : Int → Int → Int → Option (Int × Mem)} : ∀ (n : Nat) (c lo hi r : Int), 0 ≤ c → c ≤ 51 + r → -50 ≤ r → r ≤ 51 → (51 - r).toNat < n → ∀ R, wtS (fun r => rfS (fun p => m 2 (60 * t + p)) side r (many - 0).toNat 0) (51 - r).toNat r c lo hi = R → FL_tellRates_L13 t many side asked K m n c lo hi r = K R.1 R.2.1 R.2.2 := by
  intro n
  induction n with
  | zero => intro c lo hi r _ _ _ _ q; omega
  | succ n ih =>
    intro c lo hi r c0 c1 r0 r1 hn R hR
    rw [FL_tellRates_L13, w32_id (x := r) (by omega) (by omega), w32_id (x := c) (by omega) (by omega)]
    by_cases q : 50 < r
    · rw [show (51 - r).toNat = 0 by omega] at hR
      subst hR
      rw [if_pos q]; rfl
    · rw [if_neg q, c_rf t0 t1 y0 y1 s0 s1 r0 (by omega) hm, bP_some]
      rw [show (51 - r).toNat = (51 - (r + 1)).toNat + 1 by omega, wtS_s] at hR
      by_cases g : (fun r => rfS (fun p => m 2 (60 * t + p)) side r (many - 0).toNat 0) r = true
      · rw [if_pos g] at hR ⊢
        rw [w32_id (by omega) (by omega), if_neg (by decide)]
        have e : (if ¬ c = 0 then lo else r : Int) = if c = 0 then r else lo := by
          by_cases z : c = 0
          · rw [if_neg (by omega), if_pos z]
          · rw [if_pos z, if_neg z]
        rw [e]
        exact ih (c + 1) _ r (r + 1) (by omega) (by omega) (by omega) (by omega) (by omega) R hR
      · rw [if_neg g] at hR ⊢
        rw [w32_id (by omega) (by omega), if_pos rfl]
        exact ih c lo hi (r + 1) (by omega) (by omega) (by omega) (by omega) (by omega) R hR
theorem m_wt {m : Mem} {t many v3 side : Int} (t0 : 0 ≤ t) (t1 : t < 4) (y0 : 0 ≤ many) (y1 : many ≤ 20) (w0 : 0 ≤ v3) (w1 : v3 ≤ 5) (es : Int.tdiv v3 3 = side) (s0 : 0 ≤ side) (s1 : side ≤ 1) (hm : ∀ x, 0 ≤ x → x < 3 * many → 0 ≤ m 79 (60 * t + x) ∧ m 79 (60 * t + x) ≤ bnS x) {K : Int → Int → Int → Option (Int × Mem)} : ∀ (n : Nat) (c lo hi r : Int), 0 ≤ c → c ≤ 51 + r → -50 ≤ r → r ≤ 51 → (51 - r).toNat < n → ∀ R, wtS (fun r => rfS (fun p => m 79 (60 * t + p)) side r (many - 0).toNat 0) (51 - r).toNat r c lo hi = R → Mo_wet_L154 many v3 (60 * t) K m n c lo hi r = K R.1 R.2.1 R.2.2 := by
  intro n
  induction n with
  | zero => intro c lo hi r _ _ _ _ q; omega
  | succ n ih =>
    intro c lo hi r c0 c1 r0 r1 hn R hR
    rw [Mo_wet_L154, w32_id (x := r) (by omega) (by omega)]
    by_cases q : 50 < r
    · rw [show (51 - r).toNat = 0 by omega] at hR
      subst hR
      rw [if_pos q]; rfl
    · rw [if_neg q, m_rf t0 t1 y0 y1 w0 w1 es s0 s1 r0 (by omega) c0 (by omega) hm FU 1 0 (Or.inr rfl) (by omega) (by omega) (by rw [FU_eq]; omega)]
      rw [show (51 - r).toNat = (51 - (r + 1)).toNat + 1 by omega, wtS_s] at hR
      by_cases g : (fun r => rfS (fun p => m 79 (60 * t + p)) side r (many - 0).toNat 0) r = true
      · rw [if_pos g] at hR
        rw [if_pos ⟨rfl, g⟩]
        exact ih (c + 1) _ r (r + 1) (by omega) (by omega) (by omega) (by omega) (by omega) R hR
      · rw [if_neg g] at hR
        rw [if_neg (fun x => g x.2)]
        exact ih c lo hi (r + 1) (by omega) (by omega) (by omega) (by omega) (by omega) R hR
theorem s_wet {m : Mem} (h : Rel m) {a0 a1 a2 : Int} (c0 : w32 a0 = a0) (c1 : w32 a1 = a1) (c2 : w32 a2 = a2) : Stq w32 (FL_wet a0 a1 a2 m) (fun m1 => Mo_wet a0 a1 a2 m1) := by
  have b0 := cn c0
  have b1 := cn c1
  have b2 := cn c2
  by_cases k0 : ¬ (0 ≤ a0 ∧ a0 ≤ 3)
  · have q : a0 < 0 ∨ 3 < a0 := by omega
    refine Stq.mk (x := -1) (m1 := st m 0 0 1) (y := -1) (m2 := st (st m 0 0 1) 75 1 1) ?_ ?_ rfl (h.stat 1)
    · rcases q with q | q <;> simp (disch := omega) only [bP, bE, bV, ltM, ltI, st_eq, st_ne, w32_id, w64_id, ↓reduceIte, ilt_t, ilt_f, ile_t, ile_f, ieq_t, ieq_f, not_true_eq_false, not_false_eq_true, and_true, true_and, and_self, and_false, false_and, Int.reduceMod, FL_wet, FL_isWithin, FL_no, FL_yes, FL_none, FL_answer, Trays_isTray]
    · rcases q with q | q <;> simp (disch := omega) only [bP, bE, bV, ltM, ltI, st_eq, st_ne, w32_id, w64_id, ↓reduceIte, ilt_t, ilt_f, ile_t, ile_f, ieq_t, ieq_f, not_true_eq_false, not_false_eq_true, and_true, true_and, and_self, and_false, false_and, Int.reduceMod, Mo_wet, Mo_is, Mo_refuse, Mo_gives, Mo_isFrom, Mo_isTray]
  replace k0 := Decidable.not_not.mp k0
  by_cases k1 : ¬ (1 ≤ a1 ∧ a1 ≤ 20)
  · have q : a1 < 1 ∨ 20 < a1 := by omega
    refine Stq.mk (x := -1) (m1 := st m 0 0 1) (y := -1) (m2 := st (st m 0 0 1) 75 1 1) ?_ ?_ rfl (h.stat 1)
    · rcases q with q | q <;> simp (disch := omega) only [bP, bE, bV, ltM, ltI, st_eq, st_ne, w32_id, w64_id, ↓reduceIte, ilt_t, ilt_f, ile_t, ile_f, ieq_t, ieq_f, not_true_eq_false, not_false_eq_true, and_true, true_and, and_self, and_false, false_and, Int.reduceMod, FL_wet, FL_isWithin, FL_no, FL_yes, FL_none, FL_answer, Trays_isTray]
    · rcases q with q | q <;> simp (disch := omega) only [bP, bE, bV, ltM, ltI, st_eq, st_ne, w32_id, w64_id, ↓reduceIte, ilt_t, ilt_f, ile_t, ile_f, ieq_t, ieq_f, not_true_eq_false, not_false_eq_true, and_true, true_and, and_self, and_false, false_and, Int.reduceMod, Mo_wet, Mo_is, Mo_refuse, Mo_gives, Mo_isFrom, Mo_isTray]
  replace k1 := Decidable.not_not.mp k1
  by_cases k2 : ¬ (0 ≤ a2 ∧ a2 ≤ 5)
  · have q : a2 < 0 ∨ 5 < a2 := by omega
    refine Stq.mk (x := -1) (m1 := st m 0 0 1) (y := -1) (m2 := st (st m 0 0 1) 75 1 1) ?_ ?_ rfl (h.stat 1)
    · rcases q with q | q <;> simp (disch := omega) only [bP, bE, bV, ltM, ltI, st_eq, st_ne, w32_id, w64_id, ↓reduceIte, ilt_t, ilt_f, ile_t, ile_f, ieq_t, ieq_f, not_true_eq_false, not_false_eq_true, and_true, true_and, and_self, and_false, false_and, Int.reduceMod, FL_wet, FL_isWithin, FL_no, FL_yes, FL_none, FL_answer, Trays_isTray]
    · rcases q with q | q <;> simp (disch := omega) only [bP, bE, bV, ltM, ltI, st_eq, st_ne, w32_id, w64_id, ↓reduceIte, ilt_t, ilt_f, ile_t, ile_f, ieq_t, ieq_f, not_true_eq_false, not_false_eq_true, and_true, true_and, and_self, and_false, false_and, Int.reduceMod, Mo_wet, Mo_is, Mo_refuse, Mo_gives, Mo_isFrom, Mo_isTray]
  replace k2 := Decidable.not_not.mp k2
  obtain ⟨t0, t1⟩ := k0
  obtain ⟨n0, n1⟩ := k1
  obtain ⟨w0, w1⟩ := k2
  rcases h.2.1 a0 t0 (by omega) with ⟨q1, q2⟩ | ⟨q1, q2, q3, q4, q5, q6, q7⟩
  · refine Stq.mk (x := -1) (m1 := st m 0 0 2) (y := -1) (m2 := st (st m 0 0 2) 75 1 2) ?_ ?_ rfl (h.stat 2)
    · simp (disch := omega) only [bP, bE, bV, ltM, ltI, st_eq, st_ne, w32_id, w64_id, ↓reduceIte, ilt_t, ilt_f, ile_t, ile_f, ieq_t, ieq_f, not_true_eq_false, not_false_eq_true, and_true, true_and, and_self, and_false, false_and, Int.reduceMod, FL_wet, FL_isWithin, FL_no, FL_yes, FL_none, FL_answer, Trays_lackOf, Trays_isTray, Trays_isMissing, Trays_sortOf, Trays_hasRun, Trays_sizeOf]
    · simp (disch := omega) only [bP, bE, bV, ltM, ltI, st_eq, st_ne, w32_id, w64_id, ↓reduceIte, ilt_t, ilt_f, ile_t, ile_f, ieq_t, ieq_f, not_true_eq_false, not_false_eq_true, and_true, true_and, and_self, and_false, false_and, Int.reduceMod, Mo_wet, Mo_is, Mo_refuse, Mo_gives, Mo_isFrom, Mo_isTray]
  by_cases g2 : 3 * a1 ≤ m 4 a0
  · have hc : ∀ p, 0 ≤ p → p < 3 * a1 → w64 (m 2 (60 * a0 + p)) = m 2 (60 * a0 + p) := fun p p0 p1 => (q7 p p0 (by omega)).2
    have he : ∀ p, 0 ≤ p → p < 3 * a1 → m 79 (60 * a0 + p) = m 2 (60 * a0 + p) := fun p p0 p1 => (q7 p p0 (by omega)).1.symm
    have lk : w32 (Trays_lackOf a0 (3 * a1) m) = 0 := by simp (disch := omega) only [bP, bE, bV, ltM, ltI, st_eq, st_ne, w32_id, w64_id, ↓reduceIte, ilt_t, ilt_f, ile_t, ile_f, ieq_t, ieq_f, not_true_eq_false, not_false_eq_true, and_true, true_and, and_self, and_false, false_and, Int.reduceMod, Trays_lackOf, Trays_isTray, Trays_isMissing, Trays_sortOf, Trays_hasRun, Trays_sizeOf]
    obtain ⟨side, es, s0, s1⟩ : ∃ s, Int.tdiv a2 3 = s ∧ 0 ≤ s ∧ s ≤ 1 := ⟨_, rfl, by rw [Int.tdiv_eq_ediv_of_nonneg w0]; omega, by rw [Int.tdiv_eq_ediv_of_nonneg w0]; omega⟩
    obtain ⟨asked, ea, x0, x1⟩ : ∃ s, Int.tmod a2 3 = s ∧ 0 ≤ s ∧ s ≤ 2 := ⟨_, rfl, by rw [Int.tmod_eq_emod_of_nonneg w0]; omega, by rw [Int.tmod_eq_emod_of_nonneg w0]; omega⟩
    have e1 := c_sq (many := a1) t0 (show a0 < 4 by omega) (by omega) n1 hc
    have em : sqS (fun p => m 79 (60 * a0 + p)) (3 * a1 - 0).toNat 0 = sqS (fun p => m 2 (60 * a0 + p)) (3 * a1 - 0).toNat 0 := sqS_c _ _ (fun x xa xb => he x xa (by omega))
    have fC : FL_wet a0 a1 a2 m = bP (FL_areSquares a0 a1 m) fun x5 => (if ¬ (w32 x5) = 0 then (bE (FL_tellRates a0 a1 side asked m) fun x8 m10 => some (x8, m10)) else some ((FL_none 5 m).1, (FL_none 5 m).2)) := by
      simp (disch := omega) only [ltM, ltI, st_eq, st_ne, w32_id, w64_id, ↓reduceIte, ilt_t, ilt_f, ile_t, ile_f, ieq_t, ieq_f, not_true_eq_false, not_false_eq_true, and_true, true_and, and_self, and_false, false_and, Int.reduceMod, FL_wet, FL_isWithin, FL_no, FL_yes, FL_none, FL_answer, Trays_isTray, lk, es, ea]
    have fM : ∀ mm : Mem, mm 78 = m 78 → Mo_wet a0 a1 a2 mm = Mo_wet_L76 a1 a2 (60 * a0) (fun m17 => (Mo_wet_L154 a1 a2 (60 * a0) (fun u41 u42 u43 => (if ¬ asked = 0 then (if ¬ (w32 u41) = 0 then some ((if ¬ asked = 1 then u43 else u42 : Int), st m17 75 1 0) else some (-1, st m17 75 1 6)) else some (u41, st m17 75 1 0))) m17 FU 0 (-1) (-1) (-50))) FU 0 mm := by
      intro mm k
      have k' : mm 78 a0 = m 4 a0 := by rw [k]; exact q6
      simp (disch := omega) only [w32_id, w64_id, ↓reduceIte, ilt_t, ilt_f, ile_t, ile_f, ieq_t, ieq_f, not_true_eq_false, not_false_eq_true, and_true, true_and, and_self, and_false, false_and, Mo_wet, Mo_is, Mo_refuse, Mo_gives, Mo_isTray, ea]
    by_cases g3 : sqS (fun p => m 2 (60 * a0 + p)) (3 * a1 - 0).toNat 0 = true
    · have hm0 := sqS_at _ _ g3
      have hm : ∀ x, 0 ≤ x → x < 3 * a1 → 0 ≤ m 2 (60 * a0 + x) ∧ m 2 (60 * a0 + x) ≤ bnS x := fun x xa xb => hm0 x xa (by omega)
      have eg : (fun r => rfS (fun p => m 79 (60 * a0 + p)) side r (a1 - 0).toNat 0) = (fun r => rfS (fun p => m 2 (60 * a0 + p)) side r (a1 - 0).toNat 0) := by
        funext r
        exact rfS_c _ _ (fun x xa xb => he x (by omega) (by omega))
      obtain ⟨R, hR⟩ : ∃ R, wtS (fun r => rfS (fun p => m 2 (60 * a0 + p)) side r (a1 - 0).toNat 0) (51 - (-50) : Int).toNat (-50) 0 0 0 = R := ⟨_, rfl⟩
      obtain ⟨R', hR'⟩ : ∃ R, wtS (fun r => rfS (fun p => m 2 (60 * a0 + p)) side r (a1 - 0).toNat 0) (51 - (-50) : Int).toNat (-50) 0 (-1) (-1) = R := ⟨_, rfl⟩
      have wb := wtS_b (fun r => rfS (fun p => m 2 (60 * a0 + p)) side r (a1 - 0).toNat 0) (51 - (-50) : Int).toNat (-50) 0 0 0
      have we := wtS_e (fun r => rfS (fun p => m 2 (60 * a0 + p)) side r (a1 - 0).toNat 0) (51 - (-50) : Int).toNat (-50) 0 0 0 (-1) (-1) (by omega) (Or.inl rfl)
      rw [hR] at wb
      rw [hR, hR'] at we
      have f1 : FL_tellRates a0 a1 side asked m = (if ¬ asked = 0 then (if ¬ R.1 = 0 then some ((if ¬ asked = 1 then R.2.2 else R.2.1 : Int), st m 0 0 0) else some (-1, st m 0 0 6)) else some (R.1, st m 0 0 0)) := by
        unfold FL_tellRates
        rw [c_wt t0 (show a0 < 4 by omega) (by omega) n1 s0 s1 hm FU 0 0 0 (-50) (by omega) (by omega) (by omega) (by omega) (by rw [FU_eq]; omega) R hR, w32_id (x := asked) (by omega) (by omega), w32_id (x := R.1) (by omega) (by omega)]
        rfl
      have f2 : ∀ mm : Mem, mm 78 = m 78 → mm 79 = m 79 → Mo_wet a0 a1 a2 mm = (if ¬ asked = 0 then (if ¬ R.1 = 0 then some ((if ¬ asked = 1 then R.2.2 else R.2.1 : Int), st mm 75 1 0) else some (-1, st mm 75 1 6)) else some (R.1, st mm 75 1 0)) := by
        intro mm k k2
        have e2 := m_sq (m := mm) (many := a1) (v3 := a2) (K := fun m17 => (Mo_wet_L154 a1 a2 (60 * a0) (fun u41 u42 u43 => (if ¬ asked = 0 then (if ¬ (w32 u41) = 0 then some ((if ¬ asked = 1 then u43 else u42 : Int), st m17 75 1 0) else some (-1, st m17 75 1 6)) else some (u41, st m17 75 1 0))) m17 FU 0 (-1) (-1) (-50))) t0 (show a0 < 4 by omega) (by omega) n1 (fun p pa pb => by rw [k2, he p pa pb]; exact hc p pa pb) FU 0 (by omega) (by omega) (by rw [FU_eq]; omega)
        rw [k2, em, if_pos g3] at e2
        rw [fM mm k]
        refine e2.trans ?_
        rw [m_wt (m := mm) t0 (show a0 < 4 by omega) (by omega) n1 w0 w1 es s0 s1 (fun x xa xb => by rw [k2, he x xa xb]; exact hm x xa xb) FU 0 (-1) (-1) (-50) (by omega) (by omega) (by omega) (by omega) (by rw [FU_eq]; omega) R' (by rw [k2, eg]; exact hR'), ← we.1, w32_id (x := R.1) (by omega) (by omega)]
        by_cases z : R.1 = 0
        · rw [if_neg (not_not_intro z), if_neg (not_not_intro z)]
        · rcases we.2 with y | y
          · exact absurd y z
          · rw [y]
      have o : ∃ x s : Int, FL_tellRates a0 a1 side asked m = some (x, st m 0 0 s) ∧ ∀ mm : Mem, mm 78 = m 78 → mm 79 = m 79 → Mo_wet a0 a1 a2 mm = some (x, st mm 75 1 s) := by
        by_cases o1 : ¬ asked = 0
        · by_cases o2 : ¬ R.1 = 0
          · exact ⟨_, 0, by rw [f1, if_pos o1, if_pos o2], fun mm k k2 => by rw [f2 mm k k2, if_pos o1, if_pos o2]⟩
          · exact ⟨-1, 6, by rw [f1, if_pos o1, if_neg o2], fun mm k k2 => by rw [f2 mm k k2, if_pos o1, if_neg o2]⟩
        · exact ⟨R.1, 0, by rw [f1, if_neg o1], fun mm k k2 => by rw [f2 mm k k2, if_neg o1]⟩
      obtain ⟨x, s, o1, o2⟩ := o
      refine Stq.mk (x := x) (m1 := st m 0 0 s) (y := x) (m2 := st (st m 0 0 s) 75 1 s) ?_ ?_ rfl (h.stat s)
      · rw [fC, e1, bP_some, if_pos g3, if_pos (by decide), o1, bE_some]
      · exact o2 _ (st_ne _ _ _ (by decide)) (st_ne _ _ _ (by decide))
    · have e2 := m_sq (m := st m 0 0 5) (many := a1) (v3 := a2) (K := fun m17 => (Mo_wet_L154 a1 a2 (60 * a0) (fun u41 u42 u43 => (if ¬ asked = 0 then (if ¬ (w32 u41) = 0 then some ((if ¬ asked = 1 then u43 else u42 : Int), st m17 75 1 0) else some (-1, st m17 75 1 6)) else some (u41, st m17 75 1 0))) m17 FU 0 (-1) (-1) (-50))) t0 (show a0 < 4 by omega) (by omega) n1 (fun p pa pb => by rw [st_ne _ _ _ (by decide), he p pa pb]; exact hc p pa pb) FU 0 (by omega) (by omega) (by rw [FU_eq]; omega)
      rw [st_ne m 0 5 (show 79 ≠ 0 by decide), em, if_neg g3] at e2
      refine Stq.mk (x := -1) (m1 := st m 0 0 5) (y := -1) (m2 := st (st m 0 0 5) 75 1 5) ?_ ?_ rfl (h.stat 5)
      · rw [fC, e1, bP_some, if_neg g3, if_neg (by decide)]; rfl
      · show Mo_wet a0 a1 a2 _ = _
        rw [fM _ (st_ne _ _ _ (by decide)), e2]
  · refine Stq.mk (x := -1) (m1 := st m 0 0 3) (y := -1) (m2 := st (st m 0 0 3) 75 1 3) ?_ ?_ rfl (h.stat 3)
    · simp (disch := omega) only [bP, bE, bV, ltM, ltI, st_eq, st_ne, w32_id, w64_id, ↓reduceIte, ilt_t, ilt_f, ile_t, ile_f, ieq_t, ieq_f, not_true_eq_false, not_false_eq_true, and_true, true_and, and_self, and_false, false_and, Int.reduceMod, FL_wet, FL_isWithin, FL_no, FL_yes, FL_none, FL_answer, Trays_lackOf, Trays_isTray, Trays_isMissing, Trays_sortOf, Trays_hasRun, Trays_sizeOf]
    · simp (disch := omega) only [bP, bE, bV, ltM, ltI, st_eq, st_ne, w32_id, w64_id, ↓reduceIte, ilt_t, ilt_f, ile_t, ile_f, ieq_t, ieq_f, not_true_eq_false, not_false_eq_true, and_true, true_and, and_self, and_false, false_and, Int.reduceMod, Mo_wet, Mo_is, Mo_refuse, Mo_gives, Mo_isFrom, Mo_isTray]
