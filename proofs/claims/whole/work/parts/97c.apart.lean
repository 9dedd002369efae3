/-! layer 2: boats side by side -/
theorem bSp_m {m m' : Mem} (e7 : m' 7 = m 7) (e10 : m' 10 = m 10) (seed hand k q : Int) : bSp m' seed hand k q = bSp m seed hand k q := by unfold bSp; rw [e7, e10]
noncomputable def loS (B : Int → Int → Int) : Nat → Int → Int
  | 0, _ => 999
  | k + 1, q => J_min (loS B k q) (B k q)
noncomputable def hiS (B : Int → Int → Int) : Nat → Int → Int
  | 0, _ => 0
  | k + 1, q => J_max (hiS B k q) (B k q)
theorem loS_s (B : Int → Int → Int) (k : Nat) (q : Int) : loS B (k + 1) q = J_min (loS B k q) (B (k : Int) q) := rfl
theorem hiS_s (B : Int → Int → Int) (k : Nat) (q : Int) : hiS B (k + 1) q = J_max (hiS B k q) (B (k : Int) q) := rfl
theorem jmn {a b : Int} (a0 : 0 ≤ a) (a1 : a ≤ 999) (b0 : 0 ≤ b) (b1 : b ≤ 999) : J_min a b = if b < a then b else a := by unfold J_min; rw [w32_id (by omega) (by omega), w32_id (by omega) (by omega)]
theorem jmx {a b : Int} (a0 : 0 ≤ a) (a1 : a ≤ 999) (b0 : 0 ≤ b) (b1 : b ≤ 999) : J_max a b = if a < b then b else a := by unfold J_max; rw [w32_id (by omega) (by omega), w32_id (by omega) (by omega)]
theorem lohi_b {B : Int → Int → Int} {q : Int} (hb : ∀ k, 0 ≤ B k q ∧ B k q ≤ 999) : ∀ k, (0 ≤ loS B k q ∧ loS B k q ≤ 999) ∧ 0 ≤ hiS B k q ∧ hiS B k q ≤ 999
  | 0 => by unfold loS hiS; omega
  | k + 1 => by
    have h := lohi_b hb k
    have b := hb k
    unfold loS hiS
    rw [jmn h.1.1 h.1.2 b.1 b.2, jmx h.2.1 h.2.2 b.1 b.2]
    refine ⟨⟨?_, ?_⟩, ?_, ?_⟩ <;> split <;> omega
theorem lohi_le {B : Int → Int → Int} {q : Int} (hb : ∀ k, 0 ≤ B k q ∧ B k q ≤ 999) : ∀ k, loS B (k + 1) q ≤ hiS B (k + 1) q
  | 0 => by
    have b := hb 0
    unfold loS hiS
    have e0 : loS B 0 q = 999 := rfl
    have e1 : hiS B 0 q = 0 := rfl
    rw [e0, e1, jmn (by omega) (by omega) (by simpa using b.1) (by simpa using b.2), jmx (by omega) (by omega) (by simpa using b.1) (by simpa using b.2)]
    simp only [Int.natCast_zero] at *
    split <;> split <;> omega
  | k + 1 => by
    have h := lohi_b hb (k + 1)
    have h' := lohi_le hb k
    have b := hb (k + 1 : Nat)
    rw [show loS B (k + 1 + 1) q = J_min (loS B (k + 1) q) (B ((k + 1 : Nat) : Int) q) from rfl, show hiS B (k + 1 + 1) q = J_max (hiS B (k + 1) q) (B ((k + 1 : Nat) : Int) q) from rfl, jmn h.1.1 h.1.2 b.1 b.2, jmx h.2.1 h.2.2 b.1 b.2]
    split <;> split <;> omega
theorem c_ap3 {v2 v3 v4 : Int} {K : Mem → Option Mem} : ∀ (n : Nat) (p : Int) (m : Mem), 0 ≤ p → p ≤ 64 → (64 - p).toNat < n → ∃ m', Yard_compareBoats_L3 v2 v3 v4 K n p m = K m' ∧ (∀ c, c ≠ 44 → c ≠ 45 → m' c = m c) ∧ (∀ q, p ≤ q → q < 64 → m' 44 q = 999 ∧ m' 45 q = 0) ∧ (∀ q, q < p → m' 44 q = m 44 q ∧ m' 45 q = m 45 q) := by
  intro n
  induction n with
  | zero => intro p m _ _ q; omega
  | succ n ih =>
    intro p m p0 p1 hn
    rw [Yard_compareBoats_L3]
    by_cases q : 64 ≤ p
    · exact ⟨m, by simp (disch := omega) only [bP, bE, bV, ltM, ltI, st_eq, st_ne, w32_id, w64_id, ↓reduceIte, ilt_t, ilt_f, ile_t, ile_f, ieq_t, ieq_f, not_true_eq_false, not_false_eq_true, and_true, true_and, and_self, and_false, false_and, Int.reduceMod], fun _ _ _ => rfl, fun x h1 h2 => by omega, fun _ _ => ⟨rfl, rfl⟩⟩
    · obtain ⟨m', k1, k2, k3, k4⟩ := ih (p + 1) (st (st m 44 p 999) 45 p 0) (by omega) (by omega) (by omega)
      refine ⟨m', ?_, fun c h1 h2 => by rw [k2 c h1 h2, st_ne _ _ _ h2, st_ne _ _ _ h1], fun x h1 h2 => ?_, fun x h1 => ?_⟩
      · simp (disch := omega) only [bP, bE, bV, ltM, ltI, st_eq, st_ne, w32_id, w64_id, ↓reduceIte, ilt_t, ilt_f, ile_t, ile_f, ieq_t, ieq_f, not_true_eq_false, not_false_eq_true, and_true, true_and, and_self, and_false, false_and, Int.reduceMod]
        exact k1
      · by_cases z : x = p
        · subst z
          obtain ⟨j1, j2⟩ := k4 x (by omega)
          rw [j1, j2, st_ne _ _ _ (by decide), st_eq, st_eq, if_pos rfl, if_pos rfl]; exact ⟨rfl, rfl⟩
        · exact k3 x (by omega) h2
      · obtain ⟨j1, j2⟩ := k4 x (by omega)
        rw [j1, j2, st_ne _ _ _ (by decide), st_eq, st_eq, if_neg (by omega), if_neg (by omega), st_ne _ _ _ (by decide)]; exact ⟨rfl, rfl⟩
theorem c_ap56 {v2 v3 v4 v5 : Int} {K : Int → Mem → Option Mem} : ∀ (n : Nat) (p : Int) (m : Mem), 0 ≤ p → p ≤ 64 → (64 - p).toNat < n → ∃ m', Yard_compareBoats_L56 v2 v3 v4 K n v5 p m = K (v5 + 1) m' ∧ (∀ c, c ≠ 44 → c ≠ 45 → m' c = m c) ∧ (∀ q, p ≤ q → q < 64 → m' 44 q = J_min (m 44 q) (m 43 q) ∧ m' 45 q = J_max (m 45 q) (m 43 q)) ∧ (∀ q, q < p → m' 44 q = m 44 q ∧ m' 45 q = m 45 q) := by
  intro n
  induction n with
  | zero => intro p m _ _ q; omega
  | succ n ih =>
    intro p m p0 p1 hn
    rw [Yard_compareBoats_L56]
    by_cases q : 64 ≤ p
    · exact ⟨m, by simp (disch := omega) only [bP, bE, bV, ltM, ltI, st_eq, st_ne, w32_id, w64_id, ↓reduceIte, ilt_t, ilt_f, ile_t, ile_f, ieq_t, ieq_f, not_true_eq_false, not_false_eq_true, and_true, true_and, and_self, and_false, false_and, Int.reduceMod], fun _ _ _ => rfl, fun x h1 h2 => by omega, fun _ _ => ⟨rfl, rfl⟩⟩
    · obtain ⟨m', k1, k2, k3, k4⟩ := ih (p + 1) (st (st m 44 p (J_min (m 44 p) (m 43 p))) 45 p (J_max (m 45 p) (m 43 p))) (by omega) (by omega) (by omega)
      refine ⟨m', ?_, fun c h1 h2 => by rw [k2 c h1 h2, st_ne _ _ _ h2, st_ne _ _ _ h1], fun x h1 h2 => ?_, fun x h1 => ?_⟩
      · simp (disch := omega) only [bP, bE, bV, ltM, ltI, st_eq, st_ne, w32_id, w64_id, ↓reduceIte, ilt_t, ilt_f, ile_t, ile_f, ieq_t, ieq_f, not_true_eq_false, not_false_eq_true, and_true, true_and, and_self, and_false, false_and, Int.reduceMod, Yard_boatAt]
        exact k1
      · by_cases z : x = p
        · subst z
          obtain ⟨j1, j2⟩ := k4 x (by omega)
          rw [j1, j2, st_ne _ _ _ (by decide), st_eq, st_eq, if_pos rfl, if_pos rfl]; exact ⟨rfl, rfl⟩
        · obtain ⟨j1, j2⟩ := k3 x (by omega) h2
          rw [j1, j2]
          simp (disch := omega) only [bP, bE, bV, ltM, ltI, st_eq, st_ne, w32_id, w64_id, ↓reduceIte, ilt_t, ilt_f, ile_t, ile_f, ieq_t, ieq_f, not_true_eq_false, not_false_eq_true, and_true, true_and, and_self, and_false, false_and, Int.reduceMod]
      · obtain ⟨j1, j2⟩ := k4 x (by omega)
        rw [j1, j2, st_ne _ _ _ (by decide), st_eq, st_eq, if_neg (by omega), if_neg (by omega), st_ne _ _ _ (by decide)]; exact ⟨rfl, rfl⟩
theorem bV_some {ρ : Type} (m : Mem) (K : Mem → Option ρ) : bV (some m) K = K m := rfl
theorem c_ap37 {m : Mem} (hs : gSW (m 7 0) (m 7 1)) (hfl : ∀ q, Pt (m 7 0) (m 7 1) q → 0 ≤ m 10 q ∧ m 10 q ≤ 999) {seed hand many : Int} (s0 : 0 ≤ seed) (s1 : seed ≤ 9999) (h0 : 0 ≤ hand) (h1 : hand ≤ 20) (y0 : 0 ≤ many) (y1 : many ≤ 40) {K : Mem → Option Mem} : ∀ (n : Nat) (k : Nat) (mm : Mem), (k : Int) ≤ many → (many - k).toNat < n → (∀ c, c ≠ 43 → c ≠ 44 → c ≠ 45 → mm c = m c) → (∀ q, Pt (m 7 0) (m 7 1) q → mm 44 q = loS (fun k q => bSp m seed hand k q) k q ∧ mm 45 q = hiS (fun k q => bSp m seed hand k q) k q) → ∃ m', Yard_compareBoats_L37 seed hand many K n (k : Int) mm = K m' ∧ (∀ c, c ≠ 43 → c ≠ 44 → c ≠ 45 → m' c = m c) ∧ (∀ q, Pt (m 7 0) (m 7 1) q → m' 44 q = loS (fun k q => bSp m seed hand k q) many.toNat q ∧ m' 45 q = hiS (fun k q => bSp m seed hand k q) many.toNat q) := by
  intro n
  induction n with
  | zero => intro k mm _ q; omega
  | succ n ih =>
    intro k mm hk hn hc hv
    by_cases q : many ≤ (k : Int)
    · rw [Yard_compareBoats_L37, w32_id (x := many) (by omega) (by omega), w32_id (x := (k : Int)) (by omega) (by omega), if_pos q]
      have : k = many.toNat := by omega
      subst this
      exact ⟨mm, rfl, hc, hv⟩
    · have e7 : mm 7 = m 7 := hc 7 (by decide) (by decide) (by decide)
      have e10 : mm 10 = m 10 := hc 10 (by decide) (by decide) (by decide)
      obtain ⟨ma, a1, a2, a3⟩ := c_boat (m := mm) (by rw [e7]; exact hs) (by rw [e7, e10]; exact hfl) s0 s1 h0 h1 (show 0 ≤ (k : Int) by omega) (by omega)
      obtain ⟨mb, b1, b2, b3, b4⟩ := c_ap56 (v2 := seed) (v3 := hand) (v4 := many) (v5 := (k : Int)) (K := Yard_compareBoats_L37 seed hand many K n) FU 0 ma (by omega) (by omega) (by rw [FU_eq]; omega)
      have e0 : Yard_compareBoats_L37 seed hand many K (n + 1) (k : Int) mm = Yard_compareBoats_L56 seed hand many (Yard_compareBoats_L37 seed hand many K n) FU (k : Int) 0 ma := by
        rw [Yard_compareBoats_L37, w32_id (x := many) (by omega) (by omega), w32_id (x := (k : Int)) (by omega) (by omega), if_neg q, a1, bV_some]
      rw [e0, b1]
      have := ih (k + 1) mb (by omega) (by omega) (fun c c1 c2 c3 => by rw [b2 c c2 c3, a2 c c1, hc c c1 c2 c3]) (fun x hx => ?_)
      · have e : ((k + 1 : Nat) : Int) = (k : Int) + 1 := by omega
        rw [e] at this; exact this
      · have p64 := pt64 hs hx
        obtain ⟨j1, j2⟩ := b3 x (by omega) (by omega)
        obtain ⟨i1, i2⟩ := hv x hx
        have i3 := a3 x (by rw [e7]; exact hx)
        rw [j1, j2, a2 44 (by decide), a2 45 (by decide), i1, i2, i3, bSp_m e7 e10, loS_s, hiS_s]
        exact ⟨rfl, rfl⟩
/-- the point at which they lie farthest apart -/
def seS (d : Int → Int) (S W : Int) : Nat → Int → Int → Int
  | 0, _, b => b
  | n + 1, p, b => seS d S W n (p + 1) (if ptB S W p && decide (d b < d p) then p else b)
theorem seS_s (d : Int → Int) (S W : Int) (n : Nat) (p b : Int) : seS d S W (n + 1) p b = seS d S W n (p + 1) (if ptB S W p && decide (d b < d p) then p else b) := rfl
theorem c_ap129 {m : Mem} {d : Int → Int} (hs : gSW (m 7 0) (m 7 1)) : ∀ (n : Nat) (p b : Int) (mm : Mem), (∀ c, c ≠ 39 → mm c = m c) → (∀ q, Pt (m 7 0) (m 7 1) q → m 45 q - m 44 q = d q ∧ 0 ≤ d q ∧ d q ≤ 999) → Pt (m 7 0) (m 7 1) b → mm 39 12 = d b → mm 39 13 = b → (∀ i, i ≠ 12 → i ≠ 13 → mm 39 i = m 39 i) → 0 ≤ p → p ≤ 64 → (64 - p).toNat < n → ∃ m', Yard_compareBoats_L129 n p mm = some m' ∧ (∀ c, c ≠ 39 → m' c = m c) ∧ (∀ i, i ≠ 12 → i ≠ 13 → m' 39 i = m 39 i) ∧ m' 39 12 = d (seS d (m 7 0) (m 7 1) (64 - p).toNat p b) ∧ m' 39 13 = seS d (m 7 0) (m 7 1) (64 - p).toNat p b ∧ Pt (m 7 0) (m 7 1) (seS d (m 7 0) (m 7 1) (64 - p).toNat p b) := by
  intro n
  induction n with
  | zero => intro p b mm _ _ _ _ _ _ _ _ q; omega
  | succ n ih =>
    intro p b mm hc hd hb e12 e13 e39 p0 p1 hn
    have e7 : mm 7 = m 7 := hc 7 (by decide)
    have e44 : mm 44 = m 44 := hc 44 (by decide)
    have e45 : mm 45 = m 45 := hc 45 (by decide)
    have db := (hd b hb).2
    rw [Yard_compareBoats_L129]
    by_cases q : 64 ≤ p
    · rw [show (64 - p).toNat = 0 by omega]
      exact ⟨mm, by simp (disch := omega) only [bP, bE, bV, ltM, ltI, st_eq, st_ne, w32_id, w64_id, ↓reduceIte, ilt_t, ilt_f, ile_t, ile_f, ieq_t, ieq_f, not_true_eq_false, not_false_eq_true, and_true, true_and, and_self, and_false, false_and, Int.reduceMod], hc, e39, e12, e13, hb⟩
    · rw [show (64 - p).toNat = (64 - (p + 1)).toNat + 1 by omega, seS_s]
      by_cases g : Pt (m 7 0) (m 7 1) p
      · have f1 : Sheet_hasPoint 7 p mm = 1 := hpT (by rw [e7]; exact hs) (by rw [e7]; exact g)
        obtain ⟨d1, d2, d3⟩ := hd p g
        have k1 : mm 45 p - mm 44 p = d p := by rw [e44, e45]; exact d1
        by_cases z : d b < d p
        · have hcd : (if (ptB (m 7 0) (m 7 1) p && decide (d b < d p)) = true then p else b) = p := if_pos (by rw [ptB_t.mpr g]; simpa using z)
          rw [hcd]
          obtain ⟨m', j1, j2, j3, j4, j5, j6⟩ := ih (p + 1) p (st (st mm 39 12 (d p)) 39 13 p) (fun c h1 => by rw [st_ne _ _ _ h1, st_ne _ _ _ h1]; exact hc c h1) hd g (by rw [st_eq, if_neg (by decide), st_eq, if_pos rfl]) (by rw [st_eq, if_pos rfl]) (fun i h1 h2 => by rw [st_eq, if_neg h2, st_eq, if_neg h1]; exact e39 i h1 h2) (by omega) (by omega) (by omega)
          refine ⟨m', ?_, j2, j3, j4, j5, j6⟩
          simp (disch := omega) only [bP, bE, bV, ltM, ltI, st_eq, st_ne, w32_id, w64_id, ↓reduceIte, ilt_t, ilt_f, ile_t, ile_f, ieq_t, ieq_f, not_true_eq_false, not_false_eq_true, and_true, true_and, and_self, and_false, false_and, Int.reduceMod, f1, k1, e12]
          exact j1
        · have hcd : (if (ptB (m 7 0) (m 7 1) p && decide (d b < d p)) = true then p else b) = b := if_neg (by rw [ptB_t.mpr g]; simpa using z)
          rw [hcd]
          obtain ⟨m', j1, j2, j3, j4, j5, j6⟩ := ih (p + 1) b mm hc hd hb e12 e13 e39 (by omega) (by omega) (by omega)
          refine ⟨m', ?_, j2, j3, j4, j5, j6⟩
          simp (disch := omega) only [bP, bE, bV, ltM, ltI, st_eq, st_ne, w32_id, w64_id, ↓reduceIte, ilt_t, ilt_f, ile_t, ile_f, ieq_t, ieq_f, not_true_eq_false, not_false_eq_true, and_true, true_and, and_self, and_false, false_and, Int.reduceMod, f1, k1, e12]
          exact j1
      · have f1 : Sheet_hasPoint 7 p mm = 0 := hpF (by rw [e7]; exact hs) (w64_id (by omega) (by omega)) (by rw [e7]; exact g)
        rw [ptB_f.mpr g]
        obtain ⟨m', j1, j2, j3, j4, j5, j6⟩ := ih (p + 1) b mm hc hd hb e12 e13 e39 (by omega) (by omega) (by omega)
        refine ⟨m', ?_, j2, j3, j4, j5, j6⟩
        simp (disch := omega) only [bP, bE, bV, ltM, ltI, st_eq, st_ne, w32_id, w64_id, ↓reduceIte, ilt_t, ilt_f, ile_t, ile_f, ieq_t, ieq_f, not_true_eq_false, not_false_eq_true, and_true, true_and, and_self, and_false, false_and, Int.reduceMod, f1]
        exact j1
