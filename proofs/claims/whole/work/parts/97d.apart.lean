theorem m_ap72 {v1 v2 v3 v4 k : Int} (k0 : 0 ≤ k) (k1 : k ≤ 40) {K : Int → Mem → Option (Int × Mem)} : ∀ (n : Nat) (p : Int) (m : Mem), 0 ≤ p → p ≤ 64 → (64 - p).toNat < n → ∃ m', Mo_apart_L72 v1 v2 v3 v4 K n k p m = K (k + 1) m' ∧ (∀ c, c ≠ 94 → c ≠ 95 → m' c = m c) ∧ (∀ q, p ≤ q → q < 64 → (k = 0 → m' 94 q = m 93 q ∧ m' 95 q = m 93 q) ∧ (k ≠ 0 → m' 94 q = J_min (m 94 q) (m 93 q) ∧ m' 95 q = J_max (m 95 q) (m 93 q))) ∧ (∀ q, q < p → m' 94 q = m 94 q ∧ m' 95 q = m 95 q) := by
  intro n
  induction n with
  | zero => intro p m _ _ q; omega
  | succ n ih =>
    intro p m p0 p1 hn
    rw [Mo_apart_L72]
    by_cases q : 64 ≤ p
    · exact ⟨m, by simp (disch := omega) only [bP, bE, bV, ltM, ltI, st_eq, st_ne, w32_id, w64_id, ↓reduceIte, ilt_t, ilt_f, ile_t, ile_f, ieq_t, ieq_f, not_true_eq_false, not_false_eq_true, and_true, true_and, and_self, and_false, false_and, Int.reduceMod], fun _ _ _ => rfl, fun x h1 h2 => by omega, fun _ _ => ⟨rfl, rfl⟩⟩
    · by_cases hk : k = 0
      · obtain ⟨m', j1, j2, j3, j4⟩ := ih (p + 1) (st (st m 94 p (m 93 p)) 95 p (m 93 p)) (by omega) (by omega) (by omega)
        refine ⟨m', ?_, fun c h1 h2 => by rw [j2 c h1 h2, st_ne _ _ _ h2, st_ne _ _ _ h1], fun x h1 h2 => ⟨fun _ => ?_, fun z => absurd hk z⟩, fun x h1 => ?_⟩
        · simp (disch := omega) only [bP, bE, bV, ltM, ltI, st_eq, st_ne, w32_id, w64_id, ↓reduceIte, ilt_t, ilt_f, ile_t, ile_f, ieq_t, ieq_f, not_true_eq_false, not_false_eq_true, and_true, true_and, and_self, and_false, false_and, Int.reduceMod]
          exact j1
        · by_cases z : x = p
          · subst z
            obtain ⟨i1, i2⟩ := j4 x (by omega)
            rw [i1, i2]
            simp (disch := omega) only [bP, bE, bV, ltM, ltI, st_eq, st_ne, w32_id, w64_id, ↓reduceIte, ilt_t, ilt_f, ile_t, ile_f, ieq_t, ieq_f, not_true_eq_false, not_false_eq_true, and_true, true_and, and_self, and_false, false_and, Int.reduceMod]
          · obtain ⟨i1, i2⟩ := (j3 x (by omega) h2).1 hk
            rw [i1, i2]
            simp (disch := omega) only [bP, bE, bV, ltM, ltI, st_eq, st_ne, w32_id, w64_id, ↓reduceIte, ilt_t, ilt_f, ile_t, ile_f, ieq_t, ieq_f, not_true_eq_false, not_false_eq_true, and_true, true_and, and_self, and_false, false_and, Int.reduceMod]
        · obtain ⟨i1, i2⟩ := j4 x (by omega)
          rw [i1, i2]
          simp (disch := omega) only [bP, bE, bV, ltM, ltI, st_eq, st_ne, w32_id, w64_id, ↓reduceIte, ilt_t, ilt_f, ile_t, ile_f, ieq_t, ieq_f, not_true_eq_false, not_false_eq_true, and_true, true_and, and_self, and_false, false_and, Int.reduceMod]
      · obtain ⟨m', j1, j2, j3, j4⟩ := ih (p + 1) (st (st m 94 p (J_min (m 94 p) (m 93 p))) 95 p (J_max (m 95 p) (m 93 p))) (by omega) (by omega) (by omega)
        refine ⟨m', ?_, fun c h1 h2 => by rw [j2 c h1 h2, st_ne _ _ _ h2, st_ne _ _ _ h1], fun x h1 h2 => ⟨fun z => absurd z hk, fun _ => ?_⟩, fun x h1 => ?_⟩
        · simp (disch := omega) only [bP, bE, bV, ltM, ltI, st_eq, st_ne, w32_id, w64_id, ↓reduceIte, ilt_t, ilt_f, ile_t, ile_f, ieq_t, ieq_f, not_true_eq_false, not_false_eq_true, and_true, true_and, and_self, and_false, false_and, Int.reduceMod]
          exact j1
        · by_cases z : x = p
          · subst z
            obtain ⟨i1, i2⟩ := j4 x (by omega)
            rw [i1, i2]
            simp (disch := omega) only [bP, bE, bV, ltM, ltI, st_eq, st_ne, w32_id, w64_id, ↓reduceIte, ilt_t, ilt_f, ile_t, ile_f, ieq_t, ieq_f, not_true_eq_false, not_false_eq_true, and_true, true_and, and_self, and_false, false_and, Int.reduceMod]
          · obtain ⟨i1, i2⟩ := (j3 x (by omega) h2).2 hk
            rw [i1, i2]
            simp (disch := omega) only [bP, bE, bV, ltM, ltI, st_eq, st_ne, w32_id, w64_id, ↓reduceIte, ilt_t, ilt_f, ile_t, ile_f, ieq_t, ieq_f, not_true_eq_false, not_false_eq_true, and_true, true_and, and_self, and_false, false_and, Int.reduceMod]
        · obtain ⟨i1, i2⟩ := j4 x (by omega)
          rw [i1, i2]
          simp (disch := omega) only [bP, bE, bV, ltM, ltI, st_eq, st_ne, w32_id, w64_id, ↓reduceIte, ilt_t, ilt_f, ile_t, ile_f, ieq_t, ieq_f, not_true_eq_false, not_false_eq_true, and_true, true_and, and_self, and_false, false_and, Int.reduceMod]
theorem m_ap55 {m m1 : Mem} (h : Rel m) (k76 : m1 76 = m 76) {seed hand many v4 : Int} (s0 : 0 ≤ seed) (s1 : seed ≤ 9999) (h0 : 0 ≤ hand) (h1 : hand ≤ 20) (y0 : 1 ≤ many) (y1 : many ≤ 40) {K : Mem → Option (Int × Mem)} : ∀ (n : Nat) (k : Nat) (mm : Mem), (k : Int) ≤ many → (many - k).toNat < n → (∀ c, c ≠ 93 → c ≠ 94 → c ≠ 95 → mm c = m1 c) → (k ≠ 0 → ∀ q, Pt (m 7 0) (m 7 1) q → mm 94 q = loS (fun k q => bSp m seed hand k q) k q ∧ mm 95 q = hiS (fun k q => bSp m seed hand k q) k q) → ∃ m', Mo_apart_L55 seed hand many v4 K n (k : Int) mm = K m' ∧ (∀ c, c ≠ 93 → c ≠ 94 → c ≠ 95 → m' c = m1 c) ∧ (∀ q, Pt (m 7 0) (m 7 1) q → m' 94 q = loS (fun k q => bSp m seed hand k q) many.toNat q ∧ m' 95 q = hiS (fun k q => bSp m seed hand k q) many.toNat q) := by
  obtain ⟨⟨z0, z1, z2, z3, z4, z5, z6⟩, hs, hr, hv, hp⟩ := shF h
  intro n
  induction n with
  | zero => intro k mm _ q; omega
  | succ n ih =>
    intro k mm hk hn hc hv
    by_cases q : many ≤ (k : Int)
    · rw [Mo_apart_L55, w32_id (x := many) (by omega) (by omega), w32_id (x := (k : Int)) (by omega) (by omega), if_pos q]
      have : k = many.toNat := by omega
      subst this
      exact ⟨mm, rfl, hc, hv (by omega)⟩
    · have e76 : mm 76 = m 76 := by rw [hc 76 (by decide) (by decide) (by decide)]; exact k76
      obtain ⟨ma, a1, a2, a3⟩ := m_boat h s0 s1 h0 h1 (show 0 ≤ (k : Int) by omega) (by omega) mm e76
      obtain ⟨mb, b1, b2, b3, b4⟩ := m_ap72 (v1 := seed) (v2 := hand) (v3 := many) (v4 := v4) (k := (k : Int)) (by omega) (by omega) (K := Mo_apart_L55 seed hand many v4 K n) FU 0 ma (by omega) (by omega) (by rw [FU_eq]; omega)
      have e0 : Mo_apart_L55 seed hand many v4 K (n + 1) (k : Int) mm = Mo_apart_L72 seed hand many v4 (Mo_apart_L55 seed hand many v4 K n) FU (k : Int) 0 ma := by
        rw [Mo_apart_L55, w32_id (x := many) (by omega) (by omega), w32_id (x := (k : Int)) (by omega) (by omega), if_neg q, a1, bV_some]
      rw [e0, b1]
      have := ih (k + 1) mb (by omega) (by omega) (fun c c1 c2 c3 => by rw [b2 c c2 c3, a2 c c1, hc c c1 c2 c3]) (fun _ x hx => ?_)
      · have e : ((k + 1 : Nat) : Int) = (k : Int) + 1 := by omega
        rw [e] at this; exact this
      · have p64 := pt64 hs hx
        have i3 := a3 x hx
        rw [loS_s, hiS_s]
        by_cases hk0 : k = 0
        · subst hk0
          obtain ⟨j1, j2⟩ := (b3 x (by omega) (by omega)).1 rfl
          have bb := bSp_b hs (seed := seed) (hand := hand) (k := ((0 : Nat) : Int)) hx
          have e1 : loS (fun k q => bSp m seed hand k q) 0 x = 999 := rfl
          have e2 : hiS (fun k q => bSp m seed hand k q) 0 x = 0 := rfl
          rw [j1, j2, i3, e1, e2, jmn (by omega) (by omega) bb.1 bb.2, jmx (by omega) (by omega) bb.1 bb.2]
          constructor
          · split <;> omega
          · split <;> omega
        · obtain ⟨j1, j2⟩ := (b3 x (by omega) (by omega)).2 (by omega)
          obtain ⟨i1, i2⟩ := hv hk0 x hx
          rw [j1, j2, a2 94 (by decide), a2 95 (by decide), i1, i2, i3]
          exact ⟨rfl, rfl⟩
theorem m_ap175 {mm : Mem} {S W v4 : Int} {d : Int → Int} (hs : gSW S W) (z0 : mm 76 0 = S) (z1 : mm 76 1 = W) (hd : ∀ q, Pt S W q → mm 95 q - mm 94 q = d q ∧ 0 ≤ d q ∧ d q ≤ 999) (v40 : 0 ≤ v4) (v41 : v4 ≤ 1) : ∀ (n : Nat) (p b : Int), Pt S W b → 0 ≤ p → p ≤ 64 → (64 - p).toNat < n → Mo_apart_L175 v4 n b p mm = some ((if ¬ v4 = 0 then seS d S W (64 - p).toNat p b else d (seS d S W (64 - p).toNat p b)), st mm 75 1 0) := by
  intro n
  induction n with
  | zero => intro p b _ _ _ q; omega
  | succ n ih =>
    intro p b hb p0 p1 hn
    have pb := pt64 hs hb
    obtain ⟨d1, d2, d3⟩ := hd b hb
    rw [Mo_apart_L175]
    by_cases q : 64 ≤ p
    · rw [show (64 - p).toNat = 0 by omega]
      by_cases hv : v4 = 0
      · simp (disch := omega) only [bP, bE, bV, ltM, ltI, st_eq, st_ne, w32_id, w64_id, ↓reduceIte, ilt_t, ilt_f, ile_t, ile_f, ieq_t, ieq_f, not_true_eq_false, not_false_eq_true, and_true, true_and, and_self, and_false, false_and, Int.reduceMod, Mo_gives, d1]
        rfl
      · simp (disch := omega) only [bP, bE, bV, ltM, ltI, st_eq, st_ne, w32_id, w64_id, ↓reduceIte, ilt_t, ilt_f, ile_t, ile_f, ieq_t, ieq_f, not_true_eq_false, not_false_eq_true, and_true, true_and, and_self, and_false, false_and, Int.reduceMod, Mo_gives]
        rfl
    · rw [show (64 - p).toNat = (64 - (p + 1)).toNat + 1 by omega, seS_s]
      by_cases g : Pt S W p
      · have f1 : Mo_isPoint p mm = 1 := mpT hs z0 z1 g
        obtain ⟨g1, g2, g3⟩ := hd p g
        by_cases z : d b < d p
        · have hcd : (if (ptB S W p && decide (d b < d p)) = true then p else b) = p := if_pos (by rw [ptB_t.mpr g]; simpa using z)
          rw [hcd, ← ih (p + 1) p g (by omega) (by omega) (by omega)]
          simp (disch := omega) only [bP, bE, bV, ltM, ltI, st_eq, st_ne, w32_id, w64_id, ↓reduceIte, ilt_t, ilt_f, ile_t, ile_f, ieq_t, ieq_f, not_true_eq_false, not_false_eq_true, and_true, true_and, and_self, and_false, false_and, Int.reduceMod, f1, g1, d1]
        · have hcd : (if (ptB S W p && decide (d b < d p)) = true then p else b) = b := if_neg (by rw [ptB_t.mpr g]; simpa using z)
          rw [hcd, ← ih (p + 1) b hb (by omega) (by omega) (by omega)]
          simp (disch := omega) only [bP, bE, bV, ltM, ltI, st_eq, st_ne, w32_id, w64_id, ↓reduceIte, ilt_t, ilt_f, ile_t, ile_f, ieq_t, ieq_f, not_true_eq_false, not_false_eq_true, and_true, true_and, and_self, and_false, false_and, Int.reduceMod, f1, g1, d1]
      · have f1 : Mo_isPoint p mm = 0 := mpF hs z0 z1 (w64_id (by omega) (by omega)) g
        rw [ptB_f.mpr g]
        have e := ih (p + 1) b hb (by omega) (by omega) (by omega)
        simp (disch := omega) only [bP, bE, bV, ltM, ltI, st_eq, st_ne, w32_id, w64_id, ↓reduceIte, ilt_t, ilt_f, ile_t, ile_f, ieq_t, ieq_f, not_true_eq_false, not_false_eq_true, and_true, true_and, and_self, and_false, false_and, Int.reduceMod, f1]
        exact e
