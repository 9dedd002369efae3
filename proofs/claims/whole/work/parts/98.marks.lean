/-! layer 2: marks -/
theorem copyS {c c2 : Nat} (hd : c + 3 < c2 ∨ c2 + 3 < c) (m : Mem) : ∃ m', Sheet_copyFrom c c2 m = some m' ∧ (∀ i, (0 ≤ i ∧ i ≤ 6) ∨ i = 10 → m' c i = m c2 i) ∧ (∀ k, 0 ≤ k → k < 6 → m' (c + 1) k = m (c2 + 1) k) ∧ (∀ k, 0 ≤ k → k < 64 → m' (c + 2) k = m (c2 + 2) k) ∧ (∀ k, 0 ≤ k → k < 64 → m' (c + 3) k = m (c2 + 3) k) ∧ (∀ x, x ≠ c → x ≠ c + 1 → x ≠ c + 2 → x ≠ c + 3 → m' x = m x) ∧ (∀ i, ¬ ((0 ≤ i ∧ i ≤ 6) ∨ i = 10) → m' c i = m c i) := by
  have n0 : c2 ≠ c := by omega
  have n1 : c2 ≠ c + 1 := by omega
  have n2 : c2 ≠ c + 2 := by omega
  have n3 : c2 ≠ c + 3 := by omega
  have a1 : c2 + 1 ≠ c := by omega
  have a2 : c2 + 2 ≠ c := by omega
  have a3 : c2 + 3 ≠ c := by omega
  have b1 : c2 + 1 ≠ c + 1 := by omega
  have b2 : c2 + 2 ≠ c + 1 := by omega
  have b3 : c2 + 3 ≠ c + 1 := by omega
  have d2 : c2 + 2 ≠ c + 2 := by omega
  have d3 : c2 + 3 ≠ c + 2 := by omega
  have d4 : c2 + 3 ≠ c + 3 := by omega
  have e1 : c + 1 ≠ c := by omega
  have e2 : c + 2 ≠ c := by omega
  have e3 : c + 3 ≠ c := by omega
  have f2 : c + 2 ≠ c + 1 := by omega
  have f3 : c + 3 ≠ c + 1 := by omega
  have f4 : c + 3 ≠ c + 2 := by omega
  have g1 : c ≠ c + 1 := by omega
  have g2 : c ≠ c + 2 := by omega
  have g3 : c ≠ c + 3 := by omega
  have g4 : c + 1 ≠ c + 2 := by omega
  have g5 : c + 1 ≠ c + 3 := by omega
  have g6 : c + 2 ≠ c + 3 := by omega
  refine ⟨_, rfl, fun i hi => ?_, fun k k0 k1 => ?_, fun k k0 k1 => ?_, fun k k0 k1 => ?_, fun x x0 x1 x2 x3 => ?_, fun i hi => ?_⟩
  · simp only [cpy, st, n0, n1, n2, n3, a1, a2, a3, b1, b2, b3, d2, d3, d4, e1, e2, e3, f2, f3, f4, g1, g2, g3, g4, g5, g6, ↓reduceIte]
    rcases (by omega : i = 0 ∨ i = 1 ∨ i = 2 ∨ i = 3 ∨ i = 4 ∨ i = 5 ∨ i = 6 ∨ i = 10) with q | q | q | q | q | q | q | q <;> subst q <;> rfl
  · simp only [cpy, st, n0, n1, n2, n3, a1, a2, a3, b1, b2, b3, d2, d3, d4, e1, e2, e3, f2, f3, f4, g1, g2, g3, g4, g5, g6, ↓reduceIte]
    rw [if_pos (by omega)]; congr 1; omega
  · simp only [cpy, st, n0, n1, n2, n3, a1, a2, a3, b1, b2, b3, d2, d3, d4, e1, e2, e3, f2, f3, f4, g1, g2, g3, g4, g5, g6, ↓reduceIte]
    rw [if_pos (by omega)]; congr 1; omega
  · simp only [cpy, st, n0, n1, n2, n3, a1, a2, a3, b1, b2, b3, d2, d3, d4, e1, e2, e3, f2, f3, f4, g1, g2, g3, g4, g5, g6, ↓reduceIte]
    rw [if_pos (by omega)]; congr 1; omega
  · funext i
    simp only [cpy, st, x0, x1, x2, x3, ↓reduceIte]
  · simp only [cpy, st, n0, n1, n2, n3, a1, a2, a3, b1, b2, b3, d2, d3, d4, e1, e2, e3, f2, f3, f4, g1, g2, g3, g4, g5, g6, ↓reduceIte]
    rw [if_neg (by omega), if_neg (by omega), if_neg (by omega), if_neg (by omega), if_neg (by omega), if_neg (by omega), if_neg (by omega), if_neg (by omega)]
theorem neq_f {a b : Nat} (h : ¬ a = b) : (a = b) = False := eq_false h
theorem neq_t {a b : Nat} (h : a = b) : (a = b) = True := eq_true h
theorem copyW {c c2 : Nat} (hd : c + 4 < c2 ∨ c2 + 4 < c) (m : Mem) : (∀ i, i = 0 ∨ i = 1 → Way_copyFrom c c2 m c i = m c2 i) ∧ (∀ k, 0 ≤ k → k < 60 → Way_copyFrom c c2 m (c + 1) k = m (c2 + 1) k ∧ Way_copyFrom c c2 m (c + 2) k = m (c2 + 2) k ∧ Way_copyFrom c c2 m (c + 3) k = m (c2 + 3) k ∧ Way_copyFrom c c2 m (c + 4) k = m (c2 + 4) k) ∧ (∀ x, x ≠ c → x ≠ c + 1 → x ≠ c + 2 → x ≠ c + 3 → x ≠ c + 4 → Way_copyFrom c c2 m x = m x) := by
  unfold Way_copyFrom
  refine ⟨fun i hi => ?_, fun k k0 k1 => ⟨?_, ?_, ?_, ?_⟩, fun x x0 x1 x2 x3 x4 => ?_⟩
  · simp (disch := omega) only [cpy, st, ↓reduceIte, neq_f, neq_t, not_false_eq_true]
    rcases hi with q | q <;> subst q <;> rfl
  · simp (disch := omega) only [cpy, st, ↓reduceIte, neq_f, neq_t]
    rw [if_pos (by omega)]; congr 1; omega
  · simp (disch := omega) only [cpy, st, ↓reduceIte, neq_f, neq_t]
    rw [if_pos (by omega)]; congr 1; omega
  · simp (disch := omega) only [cpy, st, ↓reduceIte, neq_f, neq_t]
    rw [if_pos (by omega)]; congr 1; omega
  · simp (disch := omega) only [cpy, st, ↓reduceIte, neq_f, neq_t]
    rw [if_pos (by omega)]; congr 1; omega
  · funext i
    simp only [cpy, st, x0, x1, x2, x3, x4, ↓reduceIte]
theorem m_copies {v1 v2 : Int} (a0 : 0 ≤ v1) (a1 : v1 ≤ 1740) (b0 : 0 ≤ v2) (b1 : v2 ≤ 1740) (hd : v1 + 580 ≤ v2 ∨ v2 + 580 ≤ v1) (m : Mem) : ∃ m', Mo_copies v1 v2 m = some m' ∧ (∀ c, c ≠ 76 → m' c = m c) ∧ (∀ i, m' 76 i = if v2 ≤ i ∧ i < v2 + 580 then m 76 (v1 + (i - v2)) else m 76 i) := by
  have key : ∀ (n : Nat) (k : Int) (mm : Mem), 0 ≤ k → k ≤ 580 → (580 - k).toNat < n → (∀ c, c ≠ 76 → mm c = m c) → (∀ i, mm 76 i = if v2 ≤ i ∧ i < v2 + k then m 76 (v1 + (i - v2)) else m 76 i) → ∃ m', Mo_copies_L2 v1 v2 n k mm = some m' ∧ (∀ c, c ≠ 76 → m' c = m c) ∧ (∀ i, m' 76 i = if v2 ≤ i ∧ i < v2 + 580 then m 76 (v1 + (i - v2)) else m 76 i) := by
    intro n
    induction n with
    | zero => intro k mm _ _ q; omega
    | succ n ih =>
      intro k mm k0 k1 hn hc hv
      rw [Mo_copies_L2]
      by_cases q : 580 ≤ k
      · have : k = 580 := by omega
        subst this
        exact ⟨mm, by simp (disch := omega) only [bP, bE, bV, ltM, ltI, st_eq, st_ne, w32_id, w64_id, ↓reduceIte, ilt_t, ilt_f, ile_t, ile_f, ieq_t, ieq_f, not_true_eq_false, not_false_eq_true, and_true, true_and, and_self, and_false, false_and, Int.reduceMod], hc, hv⟩
      · obtain ⟨m', j1, j2, j3⟩ := ih (k + 1) (st mm 76 (v2 + k) (mm 76 (v1 + k))) (by omega) (by omega) (by omega) (fun c h => by rw [st_ne _ _ _ h]; exact hc c h) (fun i => by
          rw [st_eq]
          by_cases z : i = v2 + k
          · rw [if_pos z, if_pos (by omega), hv, if_neg (by omega)]; congr 1; omega
          · rw [if_neg z, hv]
            by_cases z2 : v2 ≤ i ∧ i < v2 + k
            · rw [if_pos z2, if_pos (by omega)]
            · rw [if_neg z2, if_neg (by omega)])
        refine ⟨m', ?_, j2, j3⟩
        simp (disch := omega) only [w32_id, ↓reduceIte, ile_t, ile_f, ilt_t, ilt_f, and_self]
        exact j1
  exact key FU 0 m (by omega) (by omega) (by rw [FU_eq]; omega) (fun _ _ => rfl) (fun i => by rw [if_neg (by omega)])
theorem ShR_move {m m' : Mem} {c c' : Nat} {b b' : Int} (h : ShR m c b) (e0 : ∀ i, (0 ≤ i ∧ i ≤ 6) ∨ i = 10 → m' c' i = m c i) (e1 : ∀ k, 0 ≤ k → k < 6 → m' (c' + 1) k = m (c + 1) k) (e2 : ∀ k, 0 ≤ k → k < 64 → m' (c' + 2) k = m (c + 2) k) (e3 : ∀ k, 0 ≤ k → k < 64 → m' (c' + 3) k = m (c + 3) k) (e76 : ∀ i, 0 ≤ i → i < 208 → i ≠ 14 → m' 76 (b' + i) = m 76 (b + i)) : ShR m' c' b' := by
  obtain ⟨⟨a0, a1, a2, a3, a4, a5, a6⟩, b1, b2, b3, b4⟩ := h
  have f0 := e0 0 (by omega); have f1 := e0 1 (by omega); have f2 := e0 2 (by omega); have f3 := e0 3 (by omega)
  have f4 := e0 4 (by omega); have f5 := e0 5 (by omega); have f6 := e0 6 (by omega); have f10 := e0 10 (by omega)
  have g0 := e76 0 (by omega) (by omega) (by omega)
  rw [Int.add_zero, Int.add_zero] at g0
  unfold ShR
  rw [f0, f1, f2, f3, f4, f5, f6]
  refine ⟨⟨?_, ?_, ?_, ?_, ?_, ?_, ?_⟩, b1, b2, ?_, ?_⟩
  · rw [g0]; exact a0
  · rw [e76 _ (by omega) (by omega) (by omega)]; exact a1
  · rw [e76 _ (by omega) (by omega) (by omega)]; exact a2
  · rw [e76 _ (by omega) (by omega) (by omega)]; exact a3
  · rw [e76 _ (by omega) (by omega) (by omega)]; exact a4
  · rw [e76 _ (by omega) (by omega) (by omega)]; exact a5
  · rw [e76 _ (by omega) (by omega) (by omega)]; exact a6
  · intro k h0 h1
    rw [show b' + 7 + k = b' + (7 + k) by omega, e76 _ (by omega) (by omega) (by omega), e1 k h0 (by omega), show b + (7 + k) = b + 7 + k by omega]; exact b3 k h0 h1
  · intro p hp
    have hp' := hp
    unfold Pt at hp
    rw [show b' + 16 + p = b' + (16 + p) by omega, show b' + 80 + p = b' + (80 + p) by omega, show b' + 144 + p = b' + (144 + p) by omega, e76 _ (by omega) (by omega) (by omega), e76 _ (by omega) (by omega) (by omega), e76 _ (by omega) (by omega) (by omega), e2 p (by omega) (by omega), e3 p (by omega) (by omega), show b + (16 + p) = b + 16 + p by omega, show b + (80 + p) = b + 80 + p by omega, show b + (144 + p) = b + 144 + p by omega]
    have q := b4 p hp'
    unfold Sheet_isKept at q ⊢
    rw [f10]; exact q
theorem WyR_move {m m' : Mem} {c c' : Nat} {b b' : Int} (h : WyR m c b) (e0 : m' c' 0 = m c 0) (e1 : ∀ k, 0 ≤ k → k < 60 → m' (c' + 1) k = m (c + 1) k ∧ m' (c' + 2) k = m (c + 2) k ∧ m' (c' + 3) k = m (c + 3) k ∧ m' (c' + 4) k = m (c + 4) k) (e76 : ∀ i, 0 ≤ i → i < 580 → i = 14 ∨ 208 ≤ i → m' 76 (b' + i) = m 76 (b + i)) : WyR m' c' b' := by
  obtain ⟨a0, a1, a2, a3⟩ := h
  unfold WyR
  rw [e0]
  refine ⟨?_, a1, a2, ?_⟩
  · rw [e76 _ (by omega) (by omega) (by omega)]; exact a0
  · intro k h0 h1
    obtain ⟨i1, i2, i3, i4⟩ := e1 k h0 (by omega)
    have E : ∀ j, 0 ≤ j → j < 6 → m' 76 (b' + 208 + 6 * k + j) = m 76 (b + 208 + 6 * k + j) := by
      intro j j0 j1
      rw [show b' + 208 + 6 * k + j = b' + (208 + 6 * k + j) by omega, e76 _ (by omega) (by omega) (by omega)]
      congr 1; omega
    have E0 := E 0 (by omega) (by omega)
    rw [Int.add_zero, Int.add_zero] at E0
    have q := a3 k h0 h1
    rw [E0, E 1 (by omega) (by omega), E 2 (by omega) (by omega), E 3 (by omega) (by omega), E 4 (by omega) (by omega), E 5 (by omega) (by omega), i1, i2, i3, i4]
    obtain ⟨q1, q2, q3, q4, q5, q6, q7⟩ := q
    refine ⟨q1, q2, q3, q4, q5, fun z => ?_, fun z => ?_⟩
    · obtain ⟨r1, r2, r3, r4, r5⟩ := q6 z
      obtain ⟨j1, j2, j3, j4⟩ := e1 (m (c + 4) k) r2 (by omega)
      rw [j1, j4]; exact ⟨r1, r2, r3, r4, r5⟩
    · obtain ⟨r1, r2, r3, r4, r5, r6⟩ := q7 z
      obtain ⟨j1, j2, j3, j4⟩ := e1 (m (c + 4) k) (by omega) (by omega)
      rw [j1, j4]
      refine ⟨r1, r2, r3, r4, r5, fun j x1 x2 x3 => ?_⟩
      obtain ⟨u1, u2, u3, u4⟩ := e1 j (by omega) (by omega)
      rw [u1] at x3
      rw [u4]
      exact r6 j x1 x2 x3
