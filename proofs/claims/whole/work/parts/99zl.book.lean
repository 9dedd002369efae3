/-! layer 2: how the readers begin -/
theorem m_beg7 {m : Mem} {n : Nat} (hn : n ≤ 600) : ∀ (f r j : Nat) (mm : Mem), j + r = n → r < f → (∀ c, c ≠ 81 → mm c = m c) → (∀ i : Nat, i < j → mm 81 (i : Int) = w8 (m 80 (i : Int))) → ∃ m', Mo_begins_L7 (n : Int) f (j : Int) mm = (bV (Mo_ahead (st (st (st (st m' 75 9 0) 75 17 0) 75 16 (-1)) 75 13 0)) fun m5 => some m5) ∧ (∀ c, c ≠ 81 → m' c = m c) ∧ (∀ i : Nat, i < n → m' 81 (i : Int) = w8 (m 80 (i : Int))) := by
  intro f
  induction f with
  | zero => intro r j mm _ h; omega
  | succ f ih =>
    intro r j mm hr hf e1 e2
    rw [Mo_begins_L7, w32_id (x := (n : Int)) (by omega) (by omega), w32_id (x := (j : Int)) (by omega) (by omega)]
    cases r with
    | zero =>
      rw [if_pos (by omega)]
      exact ⟨mm, rfl, e1, fun i hi => e2 i (by omega)⟩
    | succ r =>
      rw [if_neg (by omega), if_pos (by omega), if_pos (by omega), show (j : Int) + 1 = ((j + 1 : Nat) : Int) by omega]
      exact ih r (j + 1) _ (by omega) (by omega) (fun c hc => by rw [st_ne _ _ _ hc]; exact e1 c hc) (fun i hi => by
        rw [st_eq]
        by_cases z : i = j
        · rw [if_pos (by omega), e1 80 (by decide), z]
        · rw [if_neg (by omega)]; exact e2 i (by omega))
theorem m_begins {m : Mem} {n : Nat} {B : Nat → Int} (hn : n ≤ 600) (hB : ∀ i : Nat, i < n → bAnd (m 80 (i : Int)) 255 = B i ∧ 0 ≤ B i ∧ B i ≤ 255) : ∃ m', Mo_begins (n : Int) m = some m' ∧ (∀ c, c ≠ 75 → c ≠ 81 → m' c = m c) ∧ (∀ i, i < 9 ∨ i = 15 ∨ 17 < i → m' 75 i = m 75 i) ∧ m' 75 9 = 0 ∧ m' 75 17 = 0 ∧ m' 75 16 = -1 ∧ TpM B n m' ∧ MT B n (tkS B n 0) m' := by
  obtain ⟨ma, a1, a2, a3⟩ := m_beg7 (m := st m 75 10 (n : Int)) hn FU n 0 (st m 75 10 (n : Int)) (by omega) (by rw [FU_eq]; omega) (fun _ _ => rfl) (fun i hi => by omega)
  have e75 : ma 75 = st m 75 10 (n : Int) 75 := a2 75 (by decide)
  have hT : TpM B n (st (st (st (st ma 75 9 0) 75 17 0) 75 16 (-1)) 75 13 0) := by
    have h0 : TpM B n ma := by
      refine ⟨by rw [e75, st_eq, if_pos rfl], hn, fun i hi => ?_⟩
      have := hB i hi
      rw [a3 i hi, st_ne _ _ _ (by decide), bAnd_255, w8_mod, ← bAnd_255]
      exact this
    exact (((h0.st _ (by decide)).st _ (by decide)).st _ (by decide)).st _ (by decide)
  obtain ⟨m', k1, k2, k3⟩ := m_ahd hT (Nat.zero_le n) (by rw [st_eq, if_pos rfl]; rfl)
  refine ⟨m', ?_, fun c h75 h81 => ?_, fun i hi => ?_, ?_, ?_, ?_, hT.mf k2.mf, k3⟩
  · unfold Mo_begins
    rw [show ((0 : Nat) : Int) = 0 from rfl] at a1
    rw [a1, k1, bV_some]
  · rw [k2.1 c h75, st_ne _ _ _ h75, st_ne _ _ _ h75, st_ne _ _ _ h75, st_ne _ _ _ h75, a2 c h81, st_ne _ _ _ h75]
  · rw [k2.2 i (by omega) (by omega) (by omega) (by omega), st_eq, if_neg (by omega), st_eq, if_neg (by omega), st_eq, if_neg (by omega), st_eq, if_neg (by omega), e75, st_eq, if_neg (by omega)]
  · rw [k2.2 _ (by decide) (by decide) (by decide) (by decide)]; rfl
  · rw [k2.2 _ (by decide) (by decide) (by decide) (by decide)]; rfl
  · rw [k2.2 _ (by decide) (by decide) (by decide) (by decide)]; rfl
theorem m_pl2 {m : Mem} {K : Mem → Option Mem} : ∀ (f r k : Nat) (mm : Mem), k + r = 580 → r < f → (∀ c, c ≠ 76 → mm c = m c) → (∀ i, i < 2320 → mm 76 i = m 76 i) → (∀ i, 2320 ≤ i → i < 2320 + (k : Int) → mm 76 i = 0) → ∃ m', Mo_plain_L2 75 2320 K f (k : Int) mm = K m' ∧ (∀ c, c ≠ 76 → m' c = m c) ∧ (∀ i, i < 2320 → m' 76 i = m 76 i) ∧ (∀ i, 2320 ≤ i → i < 2900 → m' 76 i = 0) := by
  intro f
  induction f with
  | zero => intro r k mm _ h; omega
  | succ f ih =>
    intro r k mm hr hf e1 e2 e3
    rw [Mo_plain_L2, w32_id (x := (k : Int)) (by omega) (by omega)]
    cases r with
    | zero =>
      rw [if_pos (by omega)]
      exact ⟨mm, rfl, e1, e2, fun i h0 h1 => e3 i h0 (by omega)⟩
    | succ r =>
      rw [if_neg (by omega), w32_id (x := 2320 + (k : Int)) (by omega) (by omega), if_pos (by omega), show (k : Int) + 1 = ((k + 1 : Nat) : Int) by omega]
      refine ih r (k + 1) _ (by omega) (by omega) (fun c hc => ?_) (fun i hi => ?_) (fun i h0 h1 => ?_)
      · rw [st_ne _ _ _ hc]; exact e1 c hc
      · show (st mm 76 (2320 + (k : Int)) 0) 76 i = _
        rw [st_eq, if_neg (by omega)]; exact e2 i hi
      · show (st mm 76 (2320 + (k : Int)) 0) 76 i = _
        rw [st_eq]
        by_cases z : i = 2320 + (k : Int)
        · rw [if_pos z]
        · rw [if_neg z]; exact e3 i h0 (by omega)
theorem m_pl74 (m : Mem) : Mo_plain_L74 75 2320 FU 0 m = some (st (st (st m 76 2327 0) 76 2328 1) 76 2329 2) := by
  rw [FU_eq, show (20000 : Nat) = 19996 + 1 + 1 + 1 + 1 from rfl, Mo_plain_L74, if_neg (show ¬ 3 ≤ w32 0 by decide), if_pos (show 0 ≤ w32 (2320 + 7 + 0) ∧ w32 (2320 + 7 + 0) < 2900 by decide), show w32 (2320 + 7 + 0) = 2327 by decide, show (0 : Int) + 1 = 1 by decide]
  rw [Mo_plain_L74, if_neg (show ¬ 3 ≤ w32 1 by decide), if_pos (show 0 ≤ w32 (2320 + 7 + 1) ∧ w32 (2320 + 7 + 1) < 2900 by decide), show w32 (2320 + 7 + 1) = 2328 by decide, show (1 : Int) + 1 = 2 by decide]
  rw [Mo_plain_L74, if_neg (show ¬ 3 ≤ w32 2 by decide), if_pos (show 0 ≤ w32 (2320 + 7 + 2) ∧ w32 (2320 + 7 + 2) < 2900 by decide), show w32 (2320 + 7 + 2) = 2329 by decide, show (2 : Int) + 1 = 3 by decide]
  rw [Mo_plain_L74, if_pos (show 3 ≤ w32 3 by decide)]
theorem m_plain (m : Mem) : ∃ m', Mo_plain 75 2320 m = some m' ∧ (∀ c, c ≠ 76 → m' c = m c) ∧ (∀ i, i < 2320 → m' 76 i = m 76 i) ∧ (m' 76 2320 = 0 ∧ m' 76 2321 = 0 ∧ m' 76 2322 = 10 ∧ m' 76 2323 = 10 ∧ m' 76 2324 = 5 ∧ m' 76 2325 = 1 ∧ m' 76 2326 = 3) ∧ (∀ j, 0 ≤ j → j < 3 → m' 76 (2327 + j) = j) ∧ (∀ i, 2330 ≤ i → i < 2900 → m' 76 i = 0) := by
  unfold Mo_plain
  obtain ⟨ma, a1, a2, a3, a4⟩ := m_pl2 (m := m) (K := (fun m4 => (if 0 ≤ (w32 (2320 + 2)) ∧ (w32 (2320 + 2)) < 2900 then (if 0 ≤ (w32 (2320 + 3)) ∧ (w32 (2320 + 3)) < 2900 then (if 0 ≤ (w32 (2320 + 4)) ∧ (w32 (2320 + 4)) < 2900 then (if 0 ≤ (w32 (2320 + 5)) ∧ (w32 (2320 + 5)) < 2900 then (ltM (st (st (st (st m4 (75 + 1) (w32 (2320 + 2)) 10) (75 + 1) (w32 (2320 + 3)) 10) (75 + 1) (w32 (2320 + 4)) 5) (75 + 1) (w32 (2320 + 5)) 1) fun m9 => (if 0 ≤ (w32 (2320 + 6)) ∧ (w32 (2320 + 6)) < 2900 then (Mo_plain_L74 75 2320 FU 0 (st m9 (75 + 1) (w32 (2320 + 6)) 3)) else none)) else none) else none) else none) else none))) FU 580 0 m (by omega) (by rw [FU_eq]; omega) (fun _ _ => rfl) (fun _ _ => rfl) (fun i h0 h1 => by omega)
  rw [show ((0 : Nat) : Int) = 0 from rfl] at a1
  rw [a1]
  show ∃ m', (if 0 ≤ (w32 (2320 + 2)) ∧ (w32 (2320 + 2)) < 2900 then _ else none) = some m' ∧ _
  rw [if_pos (by decide), if_pos (by decide), if_pos (by decide), if_pos (by decide)]
  unfold ltM
  show ∃ m', (if 0 ≤ (w32 (2320 + 6)) ∧ (w32 (2320 + 6)) < 2900 then _ else none) = some m' ∧ _
  rw [if_pos (by decide), m_pl74]
  refine ⟨_, rfl, fun c hc => ?_, fun i hi => ?_, ⟨?_, ?_, ?_, ?_, ?_, ?_, ?_⟩, fun j j0 j1 => ?_, fun i h0 h1 => ?_⟩
  · rw [st_ne _ _ _ hc, st_ne _ _ _ hc, st_ne _ _ _ hc, st_ne _ _ _ hc, st_ne _ _ _ hc, st_ne _ _ _ hc, st_ne _ _ _ hc, st_ne _ _ _ hc]; exact a2 c hc
  · show st (st (st (st (st (st (st (st ma 76 2322 10) 76 2323 10) 76 2324 5) 76 2325 1) 76 2326 3) 76 2327 0) 76 2328 1) 76 2329 2 76 i = _
    simp only [st_eq]
    rw [if_neg (by omega), if_neg (by omega), if_neg (by omega), if_neg (by omega), if_neg (by omega), if_neg (by omega), if_neg (by omega), if_neg (by omega)]; exact a3 i hi
  · exact a4 2320 (by decide) (by decide)
  · exact a4 2321 (by decide) (by decide)
  · rfl
  · rfl
  · rfl
  · rfl
  · rfl
  · show st (st (st (st (st (st (st (st ma 76 2322 10) 76 2323 10) 76 2324 5) 76 2325 1) 76 2326 3) 76 2327 0) 76 2328 1) 76 2329 2 76 (2327 + j) = _
    simp only [st_eq]
    have : j = 0 ∨ j = 1 ∨ j = 2 := by omega
    rcases this with e | e | e <;> subst e <;> rfl
  · show st (st (st (st (st (st (st (st ma 76 2322 10) 76 2323 10) 76 2324 5) 76 2325 1) 76 2326 3) 76 2327 0) 76 2328 1) 76 2329 2 76 i = _
    simp only [st_eq]
    rw [if_neg (by omega), if_neg (by omega), if_neg (by omega), if_neg (by omega), if_neg (by omega), if_neg (by omega), if_neg (by omega), if_neg (by omega)]; exact a4 i (by omega) h1
theorem c_def39 {m : Mem} : ∀ (f r k : Nat) (mm : Mem), k + r = 6 → r < f → (∀ c, c ≠ 18 → mm c = m c) → (∀ j, 0 ≤ j → j < (k : Int) → mm 18 j = j % 3) → ∃ m', Sheet_setDefaults_L39 17 f (k : Int) mm = some (st m' 17 10 0) ∧ (∀ c, c ≠ 18 → m' c = m c) ∧ (∀ j, 0 ≤ j → j < 6 → m' 18 j = j % 3) := by
  intro f
  induction f with
  | zero => intro r k mm _ h; omega
  | succ f ih =>
    intro r k mm hr hf e1 e2
    rw [Sheet_setDefaults_L39, w32_id (x := (k : Int)) (by omega) (by omega)]
    cases r with
    | zero =>
      rw [if_pos (by omega)]
      exact ⟨mm, rfl, e1, fun j h0 h1 => e2 j h0 (by omega)⟩
    | succ r =>
      rw [if_neg (by omega), if_pos (by omega), show (k : Int) + 1 = ((k + 1 : Nat) : Int) by omega]
      refine ih r (k + 1) _ (by omega) (by omega) (fun c hc => ?_) (fun j h0 h1 => ?_)
      · rw [st_ne _ _ _ hc]; exact e1 c hc
      · show (st mm 18 (k : Int) _) 18 j = _
        rw [st_eq]
        by_cases z : j = (k : Int)
        · rw [if_pos z, Int.tmod_eq_emod_of_nonneg (by omega), z]
        · rw [if_neg z]; exact e2 j h0 (by omega)
theorem c_empty (m : Mem) : ∃ m', Sheet_empty 17 m = some m' ∧ (∀ c, c ≠ 17 → c ≠ 18 → m' c = m c) ∧ (m' 17 0 = 0 ∧ m' 17 1 = 0 ∧ m' 17 2 = 10 ∧ m' 17 3 = 10 ∧ m' 17 4 = 5 ∧ m' 17 5 = 1 ∧ m' 17 6 = 3 ∧ m' 17 10 = 0) ∧ (∀ j, 0 ≤ j → j < 6 → m' 18 j = j % 3) := by
  obtain ⟨ma, a1, a2, a3⟩ := c_def39 (m := st (st (st (st (st (st (st m 17 0 0) 17 1 0) 17 2 10) 17 3 10) 17 4 5) 17 5 1) 17 6 3) FU 6 0 (st (st (st (st (st (st (st m 17 0 0) 17 1 0) 17 2 10) 17 3 10) 17 4 5) 17 5 1) 17 6 3) (by omega) (by rw [FU_eq]; omega) (fun _ _ => rfl) (fun j h0 h1 => by omega)
  rw [show ((0 : Nat) : Int) = 0 from rfl] at a1
  have e17 := a2 17 (by decide)
  refine ⟨st ma 17 10 0, ?_, fun c h1 h2 => ?_, ?_, fun j j0 j1 => ?_⟩
  · unfold Sheet_empty Sheet_setDefaults
    rw [a1, bV_some]
  · rw [st_ne _ _ _ h1, a2 c h2, st_ne _ _ _ h1, st_ne _ _ _ h1, st_ne _ _ _ h1, st_ne _ _ _ h1, st_ne _ _ _ h1, st_ne _ _ _ h1, st_ne _ _ _ h1]
  · have g : ∀ i, i ≠ 10 → st ma 17 10 0 17 i = st (st (st (st (st (st (st m 17 0 0) 17 1 0) 17 2 10) 17 3 10) 17 4 5) 17 5 1) 17 6 3 17 i := fun i hi => by rw [st_eq, if_neg hi, e17]
    rw [g 0 (by decide), g 1 (by decide), g 2 (by decide), g 3 (by decide), g 4 (by decide), g 5 (by decide), g 6 (by decide)]
    exact ⟨rfl, rfl, rfl, rfl, rfl, rfl, rfl, rfl⟩
  · rw [st_ne _ _ _ (by decide)]; exact a3 j j0 j1
