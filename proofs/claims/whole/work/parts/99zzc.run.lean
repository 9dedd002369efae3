/-! layer 2: run, the whole of it -/
/-- a block is come to -/
theorem does_start {m m1 mC mR : Mem} (hw : WyR m 11 0) (h1 : ∀ i, 208 ≤ i ∨ i = 14 → m1 76 i = m 76 i) {x dn tn : Int} (h : RunI m m1 mC mR x dn tn) (x1 : x < m 11 0) (hk : m 12 x = 6 ∨ m 12 x = 7) (hd : dn < 100) : ∃ (x' : Int) (mC' mR' : Mem), Runner_nextBehindStart x mC = some (x', mC') ∧ Mo_does x mR = some (x', mR') ∧ RunI m m1 mC' mR' x' (dn + 1) (tn + 1) := by
  obtain ⟨w14, wz0, wz1, hf⟩ := wyF hw
  obtain ⟨hC, hR, hX, i1, i2, i3, hL, ⟨x0, xZ⟩, ⟨b1, b2, b3, b4⟩⟩ := id h
  obtain ⟨hx1, hx2, _, _, _, _, hx7⟩ := hf x x0 x1
  have q7 := hx7 hk
  have x60 : x < 60 := by omega
  have wa := w_at hC x0 x60
  have eR : ∀ i, 208 ≤ i → mR 76 i = m 76 i := fun i hi => by rw [hR.2.2 i (by omega), h1 i (by omega)]
  have ec : mR 76 (208 + 6 * x) = m 12 x + 2 := by rw [eR _ (by omega), hx1.2.2, if_neg (by omega)]
  obtain ⟨u, y, mR2, u1, u2, u3, u4, u5, u6, u7, u8, u9⟩ := uf_both hX
  have s83 : mR2 83 = mR 83 := u3.1 83 (by decide)
  have s38 : mR2 75 38 = mR 75 38 := u3.2 38 (by omega)
  have s76 : mR2 76 = mR 76 := u3.1 76 (by decide)
  have kR2 := hR.trans u3.kr
  have eD : Mo_does x mR = (if ¬ y = 0 then some (x + 1, st mR2 83 x (m 76 (208 + 6 * x + 1) - 1)) else some (m 15 x + 1, mR2)) := by
    unfold Mo_does
    rw [w32_id (x := 208 + 6 * x + 1) (by omega) (by omega), w32_id (x := 208 + 6 * x + 2) (by omega) (by omega), w32_id (x := 208 + 6 * x) (by omega) (by omega), if_pos (show 0 ≤ 208 + 6 * x + 1 ∧ 208 + 6 * x + 1 < 2900 by omega), if_pos (show 0 ≤ 208 + 6 * x + 2 ∧ 208 + 6 * x + 2 < 2900 by omega), if_pos (show 0 ≤ 208 + 6 * x ∧ 208 + 6 * x < 2900 by omega), ec, w32_id (x := m 12 x + 2) (by omega) (by omega), if_neg (show ¬ m 12 x + 2 = 3 by omega), if_neg (show ¬ m 12 x + 2 = 4 by omega), if_neg (show ¬ m 12 x + 2 = 5 by omega), if_neg (show ¬ m 12 x + 2 = 6 by omega), if_neg (show ¬ m 12 x + 2 = 7 by omega), u2, bE_some, w32_id (x := y) (by omega) (by omega), w32_id (x := x) (by omega) (by omega), if_pos (show 0 ≤ x ∧ x < 60 by omega), w32_id (x := 208 + 6 * x + 5) (by omega) (by omega), if_pos (show 0 ≤ 208 + 6 * x + 5 ∧ 208 + 6 * x + 5 < 2900 by omega), s76, eR (208 + 6 * x + 5) (by omega), ← q7.1, eR (208 + 6 * x + 1) (by omega)]
  rw [eD]
  clear eD
  unfold Runner_nextBehindStart
  rw [u1, bP_some, u5]
  by_cases qu : u = 0
  · have qy : y = 0 := u9.mp qu
    rw [if_neg (show ¬ ¬ u = 0 from fun z => z qu), wa.2.2.2, bP_some, if_neg (show ¬ ¬ y = 0 from fun z => z qy)]
    have hpot := pot_c (m := m) (L := mC 38) (L' := mC 38) (x := x) (x' := m 15 x + 1) (fun o a b => ⟨act_skip hw x0 x1 hk a, fun _ => rfl⟩)
    refine ⟨_, mC, mR2, rfl, rfl, hC, kR2, u4, by rw [s38]; exact i1, i2, i3, fun o a b c => ?_, ⟨by omega, by omega⟩, ⟨by omega, by omega, by omega, by omega⟩⟩
    rw [act_skip hw x0 x1 hk a] at c
    rw [s83]
    exact hL o a b c
  · have qy : ¬ y = 0 := fun z => qu (u9.mpr z)
    have nx : actB m x x = false := by
      rw [Bool.eq_false_iff]
      intro z
      have := actB_t.mp z
      omega
    have ax : actB m x (x + 1) = true := actB_t.mpr ⟨hk, by omega, by omega⟩
    have key : ∀ L0 : Int, 0 ≤ L0 → L0 ≤ 8 → (m 12 x = 6 → L0 = m 76 (208 + 6 * x + 1) - 1) → (m 12 x = 7 → L0 = 0) → RunI m m1 (st mC 38 x L0) (st mR2 83 x (m 76 (208 + 6 * x + 1) - 1)) (x + 1) (dn + 1) (tn + 1) := by
      intro L0 l0 l1 l6 l7
      have hpot := pot_u (m := m) (L := mC 38) (L' := (st mC 38 x L0) 38) (x := x) (x' := x + 1) (o0 := x) x0 x60 (fun o a b c => ⟨act_in hw x0 x1 hk a c, fun _ => by rw [st_eq, if_neg c]⟩)
      rw [if_pos ax, if_neg (by rw [nx]; decide), st_eq, if_pos rfl] at hpot
      refine ⟨?_, ?_, ?_, ?_, i2, i3, fun o a b c => ?_, ⟨by omega, by omega⟩, ⟨by omega, by omega, by omega, by omega⟩⟩
      · exact hC.trans ⟨fun c _ _ _ _ _ _ _ c38 => st_ne _ _ _ c38, fun _ _ => rfl, fun _ _ _ _ => rfl⟩
      · exact kR2.trans ⟨fun c _ _ c83 _ _ _ _ _ => st_ne _ _ _ c83, fun _ _ _ _ => rfl, fun _ _ => rfl⟩
      · exact (u4.cl (mC' := st mC 38 x L0) rfl rfl rfl).sc rfl
      · show mC 37 3 = mR2 75 38
        rw [s38]; exact i1
      · rw [st_eq, st_eq]
        by_cases w : o = x
        · rw [if_pos w, if_pos w, w]
          exact ⟨fun z => (l6 z).symm, l7, l0, l1⟩
        · rw [if_neg w, if_neg w, s83]
          rw [act_in hw x0 x1 hk a w] at c
          exact hL o a b c
    rw [if_pos qu, if_pos qy, w32_id (x := x) (by omega) (by omega), if_neg (show ¬ x < 0 by omega), if_neg (show ¬ 60 ≤ x by omega), wa.1, bP_some, w32_id (x := m 12 x) (by omega) (by omega)]
    by_cases q6 : m 12 x = 6
    · have hv := hx2 (Or.inr q6)
      rw [if_neg (show ¬ ¬ m 12 x = 6 from fun z => z q6), wa.2.1, bP_some]
      exact ⟨_, _, _, rfl, rfl, key (m 13 x - 1) (by omega) (by have := hv.2.2.2 q6; omega) (fun _ => by rw [hv.1]) (fun z => by omega)⟩
    · rw [if_pos q6]
      exact ⟨_, _, _, rfl, rfl, key 0 (by omega) (by omega) (fun z => absurd z q6) (fun _ => rfl)⟩
theorem run_main {m m1 : Mem} (hw : WyR m 11 0) (h1 : ∀ i, 208 ≤ i ∨ i = 14 → m1 76 i = m 76 i) : ∀ (r fC fR : Nat) (x dn tn : Int) (mC mR : Mem), dn + (r : Int) = 100 → RunI m m1 mC mR x dn tn → (x = m 11 0 ∨ (x < m 11 0 ∧ m 12 x ≠ 0)) → r < fR → 2000 - tn < (fC : Int) → ∃ (D ov : Int) (mC' mR' : Mem), Runner_go_L24 fC dn x tn mC = some (D, mC') ∧ Mo_run_L9 fR dn x mR = some (D, st (st mR' 75 39 ov) 75 1 0) ∧ KC m mC' ∧ KR m1 mR' ∧ RX mC' mR' ∧ mC' 37 3 = mR' 75 38 ∧ mC' 37 1 = 1 ∧ mC' 37 2 = ov ∧ (ov = 0 ∨ ov = 1) := by
  obtain ⟨w14, wz0, wz1, hf⟩ := wyF hw
  intro r
  induction r with
  | zero =>
    intro fC fR x dn tn mC mR hd h hx hfR hfC
    obtain ⟨hC, hR, hX, i1, i2, i3, hL, ⟨x0, xZ⟩, ⟨b1, b2, b3, b4⟩⟩ := id h
    have hp0 := pot_0 (m := m) (L := mC 38) (x := x) (fun o o0 o1 o2 => (hL o o0 o1 o2).2.2)
    have e14 : mR 76 14 = m 11 0 := by rw [hR.2.2 14 (by omega), h1 14 (by omega), w14]
    have e110 : mC 11 0 = m 11 0 := by rw [hC.1 11 (by decide) (by decide) (by decide) (by decide) (by decide) (by decide) (by decide) (by decide)]
    obtain ⟨fC', efC⟩ : ∃ fC', fC = fC' + 1 := ⟨fC - 1, by omega⟩
    obtain ⟨fR', efR⟩ : ∃ fR', fR = fR' + 1 := ⟨fR - 1, by omega⟩
    subst efC efR
    rw [Runner_go_L24, Mo_run_L9, w32_id (x := tn) (by omega) (by omega), if_neg (show ¬ 2000 ≤ tn by omega), w32_id (x := x) (by omega) (by omega), if_neg (show ¬ x < 0 by omega), e110, e14, w32_id (x := m 11 0) (by omega) (by omega), w32_id (x := dn) (by omega) (by omega)]
    by_cases qZ : m 11 0 ≤ x
    · rw [if_pos qZ, if_pos qZ, if_pos qZ]
      exact ⟨dn, 0, mC, mR, rfl, rfl, hC, hR, hX, i1, i2, i3, Or.inl rfl⟩
    · have hk : m 12 x ≠ 0 := by
        rcases hx with y | y
        · omega
        · exact y.2
      have hx1 := (hf x x0 (by omega)).1
      have wa := w_at hC x0 (by omega)
      rw [if_neg qZ, if_neg qZ, if_neg qZ, wa.1, bP_some, w32_id (x := m 12 x) (by omega) (by omega), if_pos hk, if_neg (show ¬ dn < 100 by omega), if_pos (show 100 ≤ dn by omega)]
      refine ⟨dn, 1, st mC 37 2 1, mR, rfl, rfl, ?_, hR, ?_, i1, i2, rfl, Or.inr rfl⟩
      · exact hC.trans ⟨fun c _ _ _ _ _ _ c37 _ => st_ne _ _ _ c37, fun _ _ => rfl, fun _ _ _ _ => rfl⟩
      · exact hX.cl rfl rfl rfl
  | succ r ih =>
    intro fC fR x dn tn mC mR hd h hx hfR hfC
    obtain ⟨hC, hR, hX, i1, i2, i3, hL, ⟨x0, xZ⟩, ⟨b1, b2, b3, b4⟩⟩ := id h
    have hp0 := pot_0 (m := m) (L := mC 38) (x := x) (fun o o0 o1 o2 => (hL o o0 o1 o2).2.2)
    have e14 : mR 76 14 = m 11 0 := by rw [hR.2.2 14 (by omega), h1 14 (by omega), w14]
    have e110 : mC 11 0 = m 11 0 := by rw [hC.1 11 (by decide) (by decide) (by decide) (by decide) (by decide) (by decide) (by decide) (by decide)]
    obtain ⟨fC', efC⟩ : ∃ fC', fC = fC' + 1 := ⟨fC - 1, by omega⟩
    obtain ⟨fR', efR⟩ : ∃ fR', fR = fR' + 1 := ⟨fR - 1, by omega⟩
    subst efC efR
    rw [Runner_go_L24, Mo_run_L9, w32_id (x := tn) (by omega) (by omega), if_neg (show ¬ 2000 ≤ tn by omega), w32_id (x := x) (by omega) (by omega), if_neg (show ¬ x < 0 by omega), e110, e14, w32_id (x := m 11 0) (by omega) (by omega), w32_id (x := dn) (by omega) (by omega)]
    by_cases qZ : m 11 0 ≤ x
    · rw [if_pos qZ, if_pos qZ, if_pos qZ]
      exact ⟨dn, 0, mC, mR, rfl, rfl, hC, hR, hX, i1, i2, i3, Or.inl rfl⟩
    · have hk : m 12 x ≠ 0 := by
        rcases hx with y | y
        · omega
        · exact y.2
      have hx1 := (hf x x0 (by omega)).1
      have wa := w_at hC x0 (by omega)
      rw [if_neg qZ, if_neg qZ, wa.1, bP_some, w32_id (x := m 12 x) (by omega) (by omega), if_pos hk, if_pos (show dn < 100 by omega), if_neg (show ¬ 100 ≤ dn by omega)]
      -- behind a step: the ends, then on
      have go : ∀ (x2 : Int) (mC2 mR2 : Mem), RunI m m1 mC2 mR2 x2 (dn + 1) (tn + 1) → ∃ (D ov : Int) (mC' mR' : Mem), Runner_go_L24 fC' (dn + 1) x2 (tn + 1) mC2 = some (D, mC') ∧ (bE (Mo_behindEnds x2 mR2) fun x13 m15 => Mo_run_L9 fR' (dn + 1) x13 m15) = some (D, st (st mR' 75 39 ov) 75 1 0) ∧ KC m mC' ∧ KR m1 mR' ∧ RX mC' mR' ∧ mC' 37 3 = mR' 75 38 ∧ mC' 37 1 = 1 ∧ mC' 37 2 = ov ∧ (ov = 0 ∨ ov = 1) := by
        intro x2 mC2 mR2 h2
        have hb2 := h2.2.2.2.2.2.2.2.2
        obtain ⟨x3, tn3, fC3, mC3, mR3, y1, y2, y3, y4, y5⟩ := run_ends hw h1 (dn := dn + 1) FU fC' x2 (tn + 1) mC2 mR2 h2 (by rw [FU_eq]; omega) (by omega)
        unfold Mo_behindEnds
        rw [y1, y2, bE_some]
        exact ih fC3 fR' x3 (dn + 1) tn3 mC3 mR3 (by omega) y3 y5 (by omega) y4
      by_cases ko : m 12 x = 6 ∨ m 12 x = 7
      · obtain ⟨x2, mC2, mR2, s1, s2, s3⟩ := does_start hw h1 h (by omega) ko (by omega)
        rw [s1, s2, bE_some, bE_some]
        have := go x2 mC2 mR2 s3
        by_cases q6 : m 12 x = 6
        · rw [if_pos q6]; exact this
        · rw [if_neg q6, if_neg (show ¬ ¬ m 12 x = 7 by omega)]; exact this
      · have k15 : m 12 x = 1 ∨ m 12 x = 2 ∨ m 12 x = 3 ∨ m 12 x = 4 ∨ m 12 x = 5 := by omega
        have hdo : ∃ (mC' mR' : Mem) (dr : Int), Runner_doStep x mC = some mC' ∧ Mo_does x mR = some (x + 1, mR') ∧ KC mC mC' ∧ mC' 38 = mC 38 ∧ mC' 37 1 = mC 37 1 ∧ mC' 37 2 = mC 37 2 ∧ KR mR mR' ∧ mR' 83 = mR 83 ∧ RX mC' mR' ∧ mC' 37 3 = mC 37 3 + dr ∧ mR' 75 38 = mR 75 38 + dr := by
          rcases k15 with e | e | e | e | e
          · exact does_1 hw h1 hC hR hX x0 (by omega) e
          · exact does_2 hw h1 hC hR hX x0 (by omega) e
          · exact does_3 hw h1 hC hR hX x0 (by omega) e
          · exact does_4 hw h1 hC hR hX x0 (by omega) e
          · exact does_5 hw h1 hC hR hX x0 (by omega) e
        obtain ⟨mC2, mR2, dr, s1, s2, s3, s4, s5, s6, s7, s8, s9, s10, s11⟩ := hdo
        rw [if_neg (show ¬ m 12 x = 6 by omega), if_pos (show ¬ m 12 x = 7 by omega), s1, bV_some, s2, bE_some]
        have hka : m 12 x ≠ 0 ∧ m 12 x ≠ 6 ∧ m 12 x ≠ 7 := by omega
        have hpot := pot_c (m := m) (L := mC 38) (L' := mC2 38) (x := x) (x' := x + 1) (fun o a b => ⟨act_1 hw x0 (by omega) hka a, fun _ => by rw [s4]⟩)
        refine go (x + 1) mC2 mR2 ⟨hC.trans s3, hR.trans s7, s9, by rw [s10, s11, i1], by rw [s5]; exact i2, by rw [s6]; exact i3, fun o a b c => ?_, ⟨by omega, by omega⟩, ⟨by omega, by omega, by omega, by omega⟩⟩
        rw [act_1 hw x0 (by omega) hka a] at c
        rw [s4, s8]
        exact hL o a b c
