theorem m_bu207 {m : Mem} {S W t many sl v1 v2 v3 v7 c f b : Int} (hs : gSW S W) (t0 : 0 ≤ t) (t1 : t < 4) (y0 : 0 ≤ many) (y1 : many ≤ 20) (l0 : 0 ≤ sl) (l1 : sl ≤ 99) (c0 : 0 ≤ c) (c1 : c ≤ 40) (hm : ∀ x, 0 ≤ x → x < many → Pt S W (m 79 (60 * t + 2 * x)) ∧ 0 ≤ m 79 (60 * t + (2 * x + 1)) ∧ m 79 (60 * t + (2 * x + 1)) ≤ 999) (hb : ∀ q, Pt S W q → 0 ≤ m 93 q ∧ m 93 q ≤ 999) {K : Int → Int → Int → Mem → Option (Int × Mem)} : ∀ (n : Nat) (g v : Int), g = 0 ∨ g = 1 → 0 ≤ v → v ≤ 20 → (many - v).toNat < n → Mo_built_L207 v1 v2 v3 many sl v7 (60 * t) K m n c f b g v = if g = 1 ∧ asS (fun p => m 79 (60 * t + p)) (m 93) sl (many - v).toNat v = true then K (c + 1) (if c = 0 then b else f) (b + 1) m else K c f (b + 1) m := by
  have fin : ∀ g : Int, g = 0 ∨ g = 1 → (if ¬ (w32 g) = 0 then (K (c + 1) (if ¬ (w32 c) = 0 then f else b : Int) (b + 1) m) else (K c f (b + 1) m)) = if g = 1 then K (c + 1) (if c = 0 then b else f) (b + 1) m else K c f (b + 1) m := by
    intro g hg
    rw [w32_id (x := c) (by omega) (by omega), w32_id (x := g) (by omega) (by omega)]
    rcases hg with z | z
    · rw [if_neg (by omega), if_neg (by omega)]
    · rw [if_pos (by omega), if_pos z]
      congr 1
      by_cases y : c = 0
      · rw [if_neg (by omega), if_pos y]
      · rw [if_pos y, if_neg y]
  intro n
  induction n with
  | zero => intro g v _ _ _ q; omega
  | succ n ih =>
    intro g v hg x0 x1 hn
    rw [Mo_built_L207, fin g hg, w32_id (x := v) (by omega) (by omega), w32_id (x := many) (by omega) (by omega)]
    by_cases q : many ≤ v
    · rw [if_pos q, show (many - v).toNat = 0 by omega]
      by_cases z : g = 1
      · rw [if_pos z]; exact (if_pos ⟨z, rfl⟩).symm
      · rw [if_neg z]; exact (if_neg (fun y => z y.1)).symm
    · rw [if_neg q, w32_id (x := g) (by omega) (by omega)]
      rcases hg with z | z
      · rw [if_pos z, if_neg (by omega), if_neg (fun y => by omega)]
      · obtain ⟨g1, g2, g3⟩ := hm v x0 (by omega)
        have p64 := pt64 hs g1
        have bb := hb _ g1
        have ib := iab_b (x := m 79 (60 * t + (2 * v + 1)) - m 93 (m 79 (60 * t + 2 * v))) (B := 999) (by omega) (by omega)
        have ij : J_abs (m 93 (m 79 (60 * t + 2 * v)) - m 79 (60 * t + (2 * v + 1))) = iab (m 79 (60 * t + (2 * v + 1)) - m 93 (m 79 (60 * t + 2 * v))) := by
          rw [jabs (by omega) (by omega), ← iab_neg]; congr 1; omega
        rw [if_neg (by omega), show 60 * t + 2 * v + 1 = 60 * t + (2 * v + 1) by omega, w32_id (x := 60 * t + 2 * v) (by omega) (by omega), if_pos (by omega), w32_id (x := m 79 (60 * t + 2 * v)) (by omega) (by omega), if_pos (by omega), w32_id (x := 60 * t + (2 * v + 1)) (by omega) (by omega), if_pos (by omega), ij, w32_id (x := sl) (by omega) (by omega), w32_id (by omega) (by omega), ih _ (v + 1) (by split <;> omega) (by omega) (by omega) (by omega), show (many - v).toNat = (many - (v + 1)).toNat + 1 by omega, asS_s]
        by_cases y : iab (m 79 (60 * t + (2 * v + 1)) - m 93 (m 79 (60 * t + 2 * v))) ≤ sl
        · rw [if_neg (show ¬ sl < iab (m 79 (60 * t + (2 * v + 1)) - m 93 (m 79 (60 * t + 2 * v))) by omega), decide_eq_true y, Bool.true_and]
          simp only [z, true_and]
        · rw [if_pos (show sl < iab (m 79 (60 * t + (2 * v + 1)) - m 93 (m 79 (60 * t + 2 * v))) by omega), decide_eq_false y, Bool.false_and, if_neg (fun k => by omega), if_neg (fun k => by cases k.2)]
theorem m_bu {m m1 : Mem} (h : Rel m) (k76 : m1 76 = m 76) {seed hand t many sl what boats : Int} (s0 : 0 ≤ seed) (s1 : seed ≤ 9999) (h0 : 0 ≤ hand) (h1 : hand ≤ 20) (t0 : 0 ≤ t) (t1 : t < 4) (y0 : 0 ≤ many) (y1 : many ≤ 20) (l0 : 0 ≤ sl) (l1 : sl ≤ 99) (w0 : 0 ≤ what) (w1 : what ≤ 1) (n0 : 0 ≤ boats) (n1 : boats ≤ 40) (hm : ∀ x, 0 ≤ x → x < many → Pt (m 7 0) (m 7 1) (m 2 (60 * t + 2 * x)) ∧ 0 ≤ m 2 (60 * t + (2 * x + 1)) ∧ m 2 (60 * t + (2 * x + 1)) ≤ 999) (ht : ∀ p, 0 ≤ p → p < 2 * many → m1 79 (60 * t + p) = m 2 (60 * t + p)) : ∀ (n : Nat) (k c f : Int) (mm : Mem), 0 ≤ k → k ≤ 40 → 0 ≤ c → c ≤ k → (boats - k).toNat < n → (∀ x, x ≠ 93 → mm x = m1 x) → ∀ R, biS (fun b => asS (fun p => m 2 (60 * t + p)) (fun q => bSp m seed hand b q) sl (many - 0).toNat 0) (boats - k).toNat k c f = R → ∃ m', (∀ x, x ≠ 93 → m' x = m1 x) ∧ Mo_built_L187 seed hand boats many sl what (60 * t) n c f k mm = (if ¬ what = 0 then (if ¬ R.1 = 0 then some (R.2, st m' 75 1 0) else some (-1, st m' 75 1 6)) else some (R.1, st m' 75 1 0)) := by
  obtain ⟨⟨z0, z1, z2, z3, z4, z5, z6⟩, hs, hr, hv, hp⟩ := shF h
  intro n
  induction n with
  | zero => intro k c f mm _ _ _ _ q; omega
  | succ n ih =>
    intro k c f mm k0 k1 c0 ck hn hc R hR
    by_cases q : boats ≤ k
    · rw [show (boats - k).toNat = 0 by omega] at hR
      subst hR
      refine ⟨mm, hc, ?_⟩
      rw [Mo_built_L187, w32_id (x := k) (by omega) (by omega), w32_id (x := boats) (by omega) (by omega), if_pos q, w32_id (x := what) (by omega) (by omega), w32_id (x := c) (by omega) (by omega)]
      rfl
    · have e76 : mm 76 = m 76 := by rw [hc 76 (by decide)]; exact k76
      obtain ⟨ma, a1, a2, a3⟩ := m_boat h s0 s1 h0 h1 k0 (show k < 41 by omega) mm e76
      have hc' : ∀ x, x ≠ 93 → ma x = m1 x := fun x hx => by rw [a2 x hx, hc x hx]
      have e79 : ∀ p, 0 ≤ p → p < 2 * many → ma 79 (60 * t + p) = m 2 (60 * t + p) := fun p p0 p1 => by rw [hc' 79 (by decide)]; exact ht p p0 p1
      have el := m_bu207 (m := ma) (S := m 7 0) (W := m 7 1) (t := t) (many := many) (sl := sl) (v1 := seed) (v2 := hand) (v3 := boats) (v7 := what) (c := c) (f := f) (b := k) hs t0 t1 y0 y1 l0 l1 c0 (by omega) (fun x x0 x1 => by rw [e79 _ (by omega) (by omega), e79 _ (by omega) (by omega)]; exact hm x x0 x1) (fun q hq => by rw [a3 q hq]; exact bSp_b hs hq) (K := Mo_built_L187 seed hand boats many sl what (60 * t) n) FU 1 0 (Or.inr rfl) (by omega) (by omega) (by rw [FU_eq]; omega)
      have eg : asS (fun p => ma 79 (60 * t + p)) (ma 93) sl (many - 0).toNat 0 = (fun b => asS (fun p => m 2 (60 * t + p)) (fun q => bSp m seed hand b q) sl (many - 0).toNat 0) k := by
        refine asS_c _ _ (fun x x0 x1 => ?_)
        rw [e79 _ (by omega) (by omega), e79 _ (by omega) (by omega)]
        exact ⟨rfl, rfl, a3 _ (hm x x0 (by omega)).1⟩
      rw [eg] at el
      rw [show (boats - k).toNat = (boats - (k + 1)).toNat + 1 by omega, biS_s] at hR
      have e0 : Mo_built_L187 seed hand boats many sl what (60 * t) (n + 1) c f k mm = if (fun b => asS (fun p => m 2 (60 * t + p)) (fun q => bSp m seed hand b q) sl (many - 0).toNat 0) k = true then Mo_built_L187 seed hand boats many sl what (60 * t) n (c + 1) (if c = 0 then k else f) (k + 1) ma else Mo_built_L187 seed hand boats many sl what (60 * t) n c f (k + 1) ma := by
        rw [Mo_built_L187, w32_id (x := k) (by omega) (by omega), w32_id (x := boats) (by omega) (by omega), if_neg q, a1, bV_some, el]
        simp only [true_and]
      rw [e0]
      by_cases g : (fun b => asS (fun p => m 2 (60 * t + p)) (fun q => bSp m seed hand b q) sl (many - 0).toNat 0) k = true
      · rw [if_pos g] at hR ⊢
        exact ih (k + 1) (c + 1) _ ma (by omega) (by omega) (by omega) (by omega) (by omega) hc' R hR
      · rw [if_neg g] at hR ⊢
        exact ih (k + 1) c f ma (by omega) (by omega) (by omega) (by omega) (by omega) hc' R hR
