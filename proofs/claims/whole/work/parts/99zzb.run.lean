/-! layer 2: run, a step by both sides -/
theorem does_1 {m m1 mC mR : Mem} (hw : WyR m 11 0) (h1 : ∀ i, 208 ≤ i ∨ i = 14 → m1 76 i = m 76 i) (hC : KC m mC) (hR : KR m1 mR) (hX : RX mC mR) {x : Int} (x0 : 0 ≤ x) (x1 : x < m 11 0) (hk : m 12 x = 1) : ∃ (mC' mR' : Mem) (dr : Int), Runner_doStep x mC = some mC' ∧ Mo_does x mR = some (x + 1, mR') ∧ KC mC mC' ∧ mC' 38 = mC 38 ∧ mC' 37 1 = mC 37 1 ∧ mC' 37 2 = mC 37 2 ∧ KR mR mR' ∧ mR' 83 = mR 83 ∧ RX mC' mR' ∧ mC' 37 3 = mC 37 3 + dr ∧ mR' 75 38 = mR 75 38 + dr := by
  obtain ⟨w14, wz0, wz1, hf⟩ := wyF hw
  obtain ⟨hx1, hx2, hx3, hx4, hx5, _, _⟩ := hf x x0 x1
  have x60 : x < 60 := by omega
  have wa := w_at hC x0 x60
  have eR : ∀ i, 208 ≤ i → mR 76 i = m 76 i := fun i hi => by rw [hR.2.2 i (by omega), h1 i (by omega)]
  have ec : mR 76 (208 + 6 * x) = 3 := by rw [eR _ (by omega), hx1.2.2, hk]; rfl
  have e1 := eR (208 + 6 * x + 1) (by omega)
  have e2 := eR (208 + 6 * x + 2) (by omega)
  have e3 := eR (208 + 6 * x + 3) (by omega)
  have e4 := eR (208 + 6 * x + 4) (by omega)
  unfold Runner_doStep Mo_does
  rw [wa.2.1, bP_some, wa.2.2.1, bP_some, wa.1, bP_some, hk, w32_id (x := 208 + 6 * x + 1) (by omega) (by omega), w32_id (x := 208 + 6 * x + 2) (by omega) (by omega), w32_id (x := 208 + 6 * x + 3) (by omega) (by omega), w32_id (x := 208 + 6 * x + 4) (by omega) (by omega), w32_id (x := 208 + 6 * x) (by omega) (by omega), if_pos (show 0 ≤ 208 + 6 * x + 1 ∧ 208 + 6 * x + 1 < 2900 by omega), if_pos (show 0 ≤ 208 + 6 * x + 2 ∧ 208 + 6 * x + 2 < 2900 by omega), if_pos (show 0 ≤ 208 + 6 * x ∧ 208 + 6 * x < 2900 by omega), ec, e1, e2, e3, e4]
  have hv := hx2 (Or.inl hk)
  rw [if_pos (show w32 1 = 1 by decide), if_pos (show w32 3 = 3 by decide), ← hv.1]
  obtain ⟨M, eM⟩ : ∃ M : Nat, m 13 x = (M : Int) := ⟨(m 13 x).toNat, by omega⟩
  obtain ⟨R, mC', mR', r1, r2, r3, r4, r5, r6, r7, r8, r9, r10⟩ := ease_run hX (M := M) (by omega)
  unfold Mo_eases
  rw [eM, r1, bE_some, r2, bE_some, bV_some]
  refine ⟨_, _, (R : Int), rfl, rfl, ?_, ?_, ?_, ?_, ?_, ?_, ?_, ?_, ?_⟩
  · exact r3.trans ⟨fun c _ _ _ _ _ _ c37 _ => st_ne _ _ _ c37, fun _ _ => rfl, fun _ _ _ _ => rfl⟩
  · rw [st_ne _ _ _ (by decide)]; exact r5
  · rw [st_eq, if_neg (by decide), r4]
  · rw [st_eq, if_neg (by decide), r4]
  · refine ⟨fun c c75 c76 c83 c84 c85 c86 c87 c88 => ?_, fun i hi i33 i38 => ?_, fun i hi => ?_⟩
    · rw [st_ne _ _ _ c75, st_ne _ _ _ c75, st_ne _ _ _ c75, st_ne _ _ _ c75]; exact r6 c c75 c76 c88
    · rw [st_eq]
      by_cases y7 : i = 37
      · rw [if_pos y7, y7]
      · rw [if_neg y7, st_eq]
        by_cases y6 : i = 36
        · rw [if_pos y6, y6]
        · rw [if_neg y6, st_eq]
          by_cases y5 : i = 35
          · rw [if_pos y5, y5]
          · rw [if_neg y5, st_eq, if_neg i38]; exact r7 i (by omega) y5 y6 y7
    · rw [st_ne _ _ _ (by decide), st_ne _ _ _ (by decide), st_ne _ _ _ (by decide), st_ne _ _ _ (by decide)]; exact r8 i (by omega)
  · rw [st_ne _ _ _ (by decide), st_ne _ _ _ (by decide), st_ne _ _ _ (by decide), st_ne _ _ _ (by decide)]; exact r6 83 (by decide) (by decide) (by decide)
  · exact (r9.cl (mC' := st mC' 37 3 (mC 37 3 + (R : Int))) rfl rfl rfl).sc rfl
  · rw [st_eq, if_pos rfl]
  · rw [st_eq, if_neg (by decide), st_eq, if_neg (by decide), st_eq, if_neg (by decide), st_eq, if_pos rfl]
theorem does_2 {m m1 mC mR : Mem} (hw : WyR m 11 0) (h1 : ∀ i, 208 ≤ i ∨ i = 14 → m1 76 i = m 76 i) (hC : KC m mC) (hR : KR m1 mR) (hX : RX mC mR) {x : Int} (x0 : 0 ≤ x) (x1 : x < m 11 0) (hk : m 12 x = 2) : ∃ (mC' mR' : Mem) (dr : Int), Runner_doStep x mC = some mC' ∧ Mo_does x mR = some (x + 1, mR') ∧ KC mC mC' ∧ mC' 38 = mC 38 ∧ mC' 37 1 = mC 37 1 ∧ mC' 37 2 = mC 37 2 ∧ KR mR mR' ∧ mR' 83 = mR 83 ∧ RX mC' mR' ∧ mC' 37 3 = mC 37 3 + dr ∧ mR' 75 38 = mR 75 38 + dr := by
  obtain ⟨w14, wz0, wz1, hf⟩ := wyF hw
  obtain ⟨hx1, hx2, hx3, hx4, hx5, _, _⟩ := hf x x0 x1
  have x60 : x < 60 := by omega
  have wa := w_at hC x0 x60
  have eR : ∀ i, 208 ≤ i → mR 76 i = m 76 i := fun i hi => by rw [hR.2.2 i (by omega), h1 i (by omega)]
  have ec : mR 76 (208 + 6 * x) = 4 := by rw [eR _ (by omega), hx1.2.2, hk]; rfl
  have e1 := eR (208 + 6 * x + 1) (by omega)
  have e2 := eR (208 + 6 * x + 2) (by omega)
  have e3 := eR (208 + 6 * x + 3) (by omega)
  have e4 := eR (208 + 6 * x + 4) (by omega)
  unfold Runner_doStep Mo_does
  rw [wa.2.1, bP_some, wa.2.2.1, bP_some, wa.1, bP_some, hk, w32_id (x := 208 + 6 * x + 1) (by omega) (by omega), w32_id (x := 208 + 6 * x + 2) (by omega) (by omega), w32_id (x := 208 + 6 * x + 3) (by omega) (by omega), w32_id (x := 208 + 6 * x + 4) (by omega) (by omega), w32_id (x := 208 + 6 * x) (by omega) (by omega), if_pos (show 0 ≤ 208 + 6 * x + 1 ∧ 208 + 6 * x + 1 < 2900 by omega), if_pos (show 0 ≤ 208 + 6 * x + 2 ∧ 208 + 6 * x + 2 < 2900 by omega), if_pos (show 0 ≤ 208 + 6 * x ∧ 208 + 6 * x < 2900 by omega), ec, e1, e2, e3, e4]
  have hv := hx3 (Or.inl hk)
  generalize hA : m 76 (208 + 6 * x + 1) = A at *
  generalize hB : m 76 (208 + 6 * x + 2) = Bv at *
  have p0 : 0 ≤ 8 * A + Bv := by omega
  have p1 : 8 * A + Bv < 64 := by omega
  rw [hv.1]
  generalize hp : 8 * A + Bv = p at *
  have ep : w32 p = p := w32_id (by omega) (by omega)
  rw [ep, w32_id (x := 144 + p) (by omega) (by omega)]
  have hv4 := hx4 hk
  rw [if_neg (show ¬ w32 2 = 1 by decide), if_pos (show w32 2 = 2 by decide), if_neg (show ¬ w32 4 = 3 by decide), if_pos (show w32 4 = 4 by decide), w32_id (x := 80 + p) (by omega) (by omega), if_pos (show 0 ≤ 144 + p ∧ 144 + p < 2900 by omega), if_pos (show 0 ≤ 208 + 6 * x + 3 ∧ 208 + 6 * x + 3 < 2900 by omega), if_pos (show 0 ≤ 80 + p ∧ 80 + p < 2900 by omega)]
  rcases pt_both hX p0 p1 with ⟨g1, g2, g3⟩ | ⟨g1, g2, g3⟩
  · rw [g2, g3, if_neg (show ¬ (1 : Int) = 0 by decide), if_neg (show ¬ (1 : Int) = 0 by decide), (hX.2.2.2.2 p g1).2]
    rcases kept01 (c := 7) (p := p) (m := mC) with y | y
    · rw [y, if_neg (show ¬ ¬ (0 : Int) = 0 by decide), if_neg (show ¬ ¬ w32 0 = 0 by decide), ← hv4.1]
      have eput : Sheet_put 7 p (m 14 x) mC = st mC 10 p (m 14 x) := by
        unfold Sheet_put
        rw [ep, if_neg (by omega), if_neg (by omega)]
      rw [eput]
      unfold ltM
      refine ⟨_, _, 0, rfl, rfl, ?_, rfl, rfl, rfl, ?_, ?_, hX.put ⟨p0, p1⟩ hv4.2, ?_, ?_⟩
      · exact ⟨fun c _ c10 _ _ _ _ _ _ => st_ne _ _ _ c10, fun _ _ => rfl, fun _ _ _ _ => rfl⟩
      · exact ⟨fun c _ c76 _ _ _ _ _ _ => st_ne _ _ _ c76, fun _ _ _ _ => rfl, fun i hi => by rw [st_eq, if_neg (by omega)]⟩
      · rw [st_ne _ _ _ (by decide)]
      · show mC 37 3 = mC 37 3 + 0; omega
      · show mR 75 38 = mR 75 38 + 0; omega
    · rw [y, if_pos (show ¬ (1 : Int) = 0 by decide), if_pos (show ¬ w32 1 = 0 by decide)]
      exact ⟨mC, mR, 0, rfl, rfl, KC.refl mC, rfl, rfl, rfl, KR.refl mR, rfl, hX, by omega, by omega⟩
  · rw [g2, g3, if_pos rfl, if_pos rfl]
    exact ⟨mC, mR, 0, rfl, rfl, KC.refl mC, rfl, rfl, rfl, KR.refl mR, rfl, hX, by omega, by omega⟩
theorem does_3 {m m1 mC mR : Mem} (hw : WyR m 11 0) (h1 : ∀ i, 208 ≤ i ∨ i = 14 → m1 76 i = m 76 i) (hC : KC m mC) (hR : KR m1 mR) (hX : RX mC mR) {x : Int} (x0 : 0 ≤ x) (x1 : x < m 11 0) (hk : m 12 x = 3) : ∃ (mC' mR' : Mem) (dr : Int), Runner_doStep x mC = some mC' ∧ Mo_does x mR = some (x + 1, mR') ∧ KC mC mC' ∧ mC' 38 = mC 38 ∧ mC' 37 1 = mC 37 1 ∧ mC' 37 2 = mC 37 2 ∧ KR mR mR' ∧ mR' 83 = mR 83 ∧ RX mC' mR' ∧ mC' 37 3 = mC 37 3 + dr ∧ mR' 75 38 = mR 75 38 + dr := by
  obtain ⟨w14, wz0, wz1, hf⟩ := wyF hw
  obtain ⟨hx1, hx2, hx3, hx4, hx5, _, _⟩ := hf x x0 x1
  have x60 : x < 60 := by omega
  have wa := w_at hC x0 x60
  have eR : ∀ i, 208 ≤ i → mR 76 i = m 76 i := fun i hi => by rw [hR.2.2 i (by omega), h1 i (by omega)]
  have ec : mR 76 (208 + 6 * x) = 5 := by rw [eR _ (by omega), hx1.2.2, hk]; rfl
  have e1 := eR (208 + 6 * x + 1) (by omega)
  have e2 := eR (208 + 6 * x + 2) (by omega)
  have e3 := eR (208 + 6 * x + 3) (by omega)
  have e4 := eR (208 + 6 * x + 4) (by omega)
  unfold Runner_doStep Mo_does
  rw [wa.2.1, bP_some, wa.2.2.1, bP_some, wa.1, bP_some, hk, w32_id (x := 208 + 6 * x + 1) (by omega) (by omega), w32_id (x := 208 + 6 * x + 2) (by omega) (by omega), w32_id (x := 208 + 6 * x + 3) (by omega) (by omega), w32_id (x := 208 + 6 * x + 4) (by omega) (by omega), w32_id (x := 208 + 6 * x) (by omega) (by omega), if_pos (show 0 ≤ 208 + 6 * x + 1 ∧ 208 + 6 * x + 1 < 2900 by omega), if_pos (show 0 ≤ 208 + 6 * x + 2 ∧ 208 + 6 * x + 2 < 2900 by omega), if_pos (show 0 ≤ 208 + 6 * x ∧ 208 + 6 * x < 2900 by omega), ec, e1, e2, e3, e4]
  have hv := hx3 (Or.inr (Or.inl hk))
  generalize hA : m 76 (208 + 6 * x + 1) = A at *
  generalize hB : m 76 (208 + 6 * x + 2) = Bv at *
  have p0 : 0 ≤ 8 * A + Bv := by omega
  have p1 : 8 * A + Bv < 64 := by omega
  rw [hv.1]
  generalize hp : 8 * A + Bv = p at *
  have ep : w32 p = p := w32_id (by omega) (by omega)
  rw [ep, w32_id (x := 144 + p) (by omega) (by omega)]
  rw [if_neg (show ¬ w32 3 = 1 by decide), if_neg (show ¬ w32 3 = 2 by decide), if_pos (show w32 3 = 3 by decide), if_neg (show ¬ w32 5 = 3 by decide), if_neg (show ¬ w32 5 = 4 by decide), if_pos (show w32 5 = 5 by decide), if_pos (show 0 ≤ 144 + p ∧ 144 + p < 2900 by omega)]
  rcases pt_both hX p0 p1 with ⟨g1, g2, g3⟩ | ⟨g1, g2, g3⟩
  · rw [g2, g3, if_neg (show ¬ (1 : Int) = 0 by decide), if_neg (show ¬ (1 : Int) = 0 by decide)]
    have ek : Sheet_setKept 7 p 1 mC = st mC 7 10 (lOr (mC 7 10) (Sheet_bit p)) := by
      unfold Sheet_setKept
      rw [if_neg (show ¬ w32 1 = 0 by decide)]
    rw [ek]
    unfold ltM
    refine ⟨_, _, 0, rfl, rfl, ?_, rfl, rfl, rfl, ?_, ?_, hX.kept (mC' := st mC 7 10 (lOr (mC 7 10) (Sheet_bit p))) ⟨p0, p1⟩ (fun i hi => by rw [st_eq, if_neg hi]) rfl rfl (fun q q0 q1 => kept_or (c := 7) (p := p) (q := q) (m := mC) p0 p1 q0 q1 (by rw [st_eq, if_pos rfl])), ?_, ?_⟩
    · exact ⟨fun c c7 _ _ _ _ _ _ _ => st_ne _ _ _ c7, fun i hi => by rw [st_eq, if_neg hi], fun _ _ _ _ => rfl⟩
    · exact ⟨fun c _ c76 _ _ _ _ _ _ => st_ne _ _ _ c76, fun _ _ _ _ => rfl, fun i hi => by rw [st_eq, if_neg (by omega)]⟩
    · rw [st_ne _ _ _ (by decide)]
    · show mC 37 3 = mC 37 3 + 0; omega
    · show mR 75 38 = mR 75 38 + 0; omega
  · rw [g2, g3, if_pos rfl, if_pos rfl]
    exact ⟨mC, mR, 0, rfl, rfl, KC.refl mC, rfl, rfl, rfl, KR.refl mR, rfl, hX, by omega, by omega⟩
theorem does_4 {m m1 mC mR : Mem} (hw : WyR m 11 0) (h1 : ∀ i, 208 ≤ i ∨ i = 14 → m1 76 i = m 76 i) (hC : KC m mC) (hR : KR m1 mR) (hX : RX mC mR) {x : Int} (x0 : 0 ≤ x) (x1 : x < m 11 0) (hk : m 12 x = 4) : ∃ (mC' mR' : Mem) (dr : Int), Runner_doStep x mC = some mC' ∧ Mo_does x mR = some (x + 1, mR') ∧ KC mC mC' ∧ mC' 38 = mC 38 ∧ mC' 37 1 = mC 37 1 ∧ mC' 37 2 = mC 37 2 ∧ KR mR mR' ∧ mR' 83 = mR 83 ∧ RX mC' mR' ∧ mC' 37 3 = mC 37 3 + dr ∧ mR' 75 38 = mR 75 38 + dr := by
  obtain ⟨w14, wz0, wz1, hf⟩ := wyF hw
  obtain ⟨hx1, hx2, hx3, hx4, hx5, _, _⟩ := hf x x0 x1
  have x60 : x < 60 := by omega
  have wa := w_at hC x0 x60
  have eR : ∀ i, 208 ≤ i → mR 76 i = m 76 i := fun i hi => by rw [hR.2.2 i (by omega), h1 i (by omega)]
  have ec : mR 76 (208 + 6 * x) = 6 := by rw [eR _ (by omega), hx1.2.2, hk]; rfl
  have e1 := eR (208 + 6 * x + 1) (by omega)
  have e2 := eR (208 + 6 * x + 2) (by omega)
  have e3 := eR (208 + 6 * x + 3) (by omega)
  have e4 := eR (208 + 6 * x + 4) (by omega)
  unfold Runner_doStep Mo_does
  rw [wa.2.1, bP_some, wa.2.2.1, bP_some, wa.1, bP_some, hk, w32_id (x := 208 + 6 * x + 1) (by omega) (by omega), w32_id (x := 208 + 6 * x + 2) (by omega) (by omega), w32_id (x := 208 + 6 * x + 3) (by omega) (by omega), w32_id (x := 208 + 6 * x + 4) (by omega) (by omega), w32_id (x := 208 + 6 * x) (by omega) (by omega), if_pos (show 0 ≤ 208 + 6 * x + 1 ∧ 208 + 6 * x + 1 < 2900 by omega), if_pos (show 0 ≤ 208 + 6 * x + 2 ∧ 208 + 6 * x + 2 < 2900 by omega), if_pos (show 0 ≤ 208 + 6 * x ∧ 208 + 6 * x < 2900 by omega), ec, e1, e2, e3, e4]
  have hv := hx3 (Or.inr (Or.inr hk))
  generalize hA : m 76 (208 + 6 * x + 1) = A at *
  generalize hB : m 76 (208 + 6 * x + 2) = Bv at *
  have p0 : 0 ≤ 8 * A + Bv := by omega
  have p1 : 8 * A + Bv < 64 := by omega
  rw [hv.1]
  generalize hp : 8 * A + Bv = p at *
  have ep : w32 p = p := w32_id (by omega) (by omega)
  rw [ep, w32_id (x := 144 + p) (by omega) (by omega)]
  rw [if_neg (show ¬ w32 4 = 1 by decide), if_neg (show ¬ w32 4 = 2 by decide), if_neg (show ¬ w32 4 = 3 by decide), if_pos (show w32 4 = 4 by decide), if_neg (show ¬ w32 6 = 3 by decide), if_neg (show ¬ w32 6 = 4 by decide), if_neg (show ¬ w32 6 = 5 by decide), if_pos (show w32 6 = 6 by decide), if_pos (show 0 ≤ 144 + p ∧ 144 + p < 2900 by omega)]
  rcases pt_both hX p0 p1 with ⟨g1, g2, g3⟩ | ⟨g1, g2, g3⟩
  · rw [g2, g3, if_neg (show ¬ (1 : Int) = 0 by decide), if_neg (show ¬ (1 : Int) = 0 by decide)]
    have ek : Sheet_setKept 7 p 0 mC = st mC 7 10 (lAnd (mC 7 10) (lXor (Sheet_bit p) (-1))) := by
      unfold Sheet_setKept
      rw [if_pos (show w32 0 = 0 by decide)]
    rw [ek]
    unfold ltM
    refine ⟨_, _, 0, rfl, rfl, ?_, rfl, rfl, rfl, ?_, ?_, hX.kept (mC' := st mC 7 10 (lAnd (mC 7 10) (lXor (Sheet_bit p) (-1)))) ⟨p0, p1⟩ (fun i hi => by rw [st_eq, if_neg hi]) rfl rfl (fun q q0 q1 => kept_cl (c := 7) (p := p) (q := q) (m := mC) p0 p1 q0 q1 (by rw [st_eq, if_pos rfl])), ?_, ?_⟩
    · exact ⟨fun c c7 _ _ _ _ _ _ _ => st_ne _ _ _ c7, fun i hi => by rw [st_eq, if_neg hi], fun _ _ _ _ => rfl⟩
    · exact ⟨fun c _ c76 _ _ _ _ _ _ => st_ne _ _ _ c76, fun _ _ _ _ => rfl, fun i hi => by rw [st_eq, if_neg (by omega)]⟩
    · rw [st_ne _ _ _ (by decide)]
    · show mC 37 3 = mC 37 3 + 0; omega
    · show mR 75 38 = mR 75 38 + 0; omega
  · rw [g2, g3, if_pos rfl, if_pos rfl]
    exact ⟨mC, mR, 0, rfl, rfl, KC.refl mC, rfl, rfl, rfl, KR.refl mR, rfl, hX, by omega, by omega⟩
theorem does_5 {m m1 mC mR : Mem} (hw : WyR m 11 0) (h1 : ∀ i, 208 ≤ i ∨ i = 14 → m1 76 i = m 76 i) (hC : KC m mC) (hR : KR m1 mR) (hX : RX mC mR) {x : Int} (x0 : 0 ≤ x) (x1 : x < m 11 0) (hk : m 12 x = 5) : ∃ (mC' mR' : Mem) (dr : Int), Runner_doStep x mC = some mC' ∧ Mo_does x mR = some (x + 1, mR') ∧ KC mC mC' ∧ mC' 38 = mC 38 ∧ mC' 37 1 = mC 37 1 ∧ mC' 37 2 = mC 37 2 ∧ KR mR mR' ∧ mR' 83 = mR 83 ∧ RX mC' mR' ∧ mC' 37 3 = mC 37 3 + dr ∧ mR' 75 38 = mR 75 38 + dr := by
  obtain ⟨w14, wz0, wz1, hf⟩ := wyF hw
  obtain ⟨hx1, hx2, hx3, hx4, hx5, _, _⟩ := hf x x0 x1
  have x60 : x < 60 := by omega
  have wa := w_at hC x0 x60
  have eR : ∀ i, 208 ≤ i → mR 76 i = m 76 i := fun i hi => by rw [hR.2.2 i (by omega), h1 i (by omega)]
  have ec : mR 76 (208 + 6 * x) = 7 := by rw [eR _ (by omega), hx1.2.2, hk]; rfl
  have e1 := eR (208 + 6 * x + 1) (by omega)
  have e2 := eR (208 + 6 * x + 2) (by omega)
  have e3 := eR (208 + 6 * x + 3) (by omega)
  have e4 := eR (208 + 6 * x + 4) (by omega)
  unfold Runner_doStep Mo_does
  rw [wa.2.1, bP_some, wa.2.2.1, bP_some, wa.1, bP_some, hk, w32_id (x := 208 + 6 * x + 1) (by omega) (by omega), w32_id (x := 208 + 6 * x + 2) (by omega) (by omega), w32_id (x := 208 + 6 * x + 3) (by omega) (by omega), w32_id (x := 208 + 6 * x + 4) (by omega) (by omega), w32_id (x := 208 + 6 * x) (by omega) (by omega), if_pos (show 0 ≤ 208 + 6 * x + 1 ∧ 208 + 6 * x + 1 < 2900 by omega), if_pos (show 0 ≤ 208 + 6 * x + 2 ∧ 208 + 6 * x + 2 < 2900 by omega), if_pos (show 0 ≤ 208 + 6 * x ∧ 208 + 6 * x < 2900 by omega), ec, e1, e2, e3, e4]
  have hv := hx5 hk
  generalize hA : m 76 (208 + 6 * x + 1) = A at *
  generalize hB : m 76 (208 + 6 * x + 2) = Bv at *
  generalize hDD : m 76 (208 + 6 * x + 4) = Dv at *
  rw [if_neg (show ¬ w32 5 = 1 by decide), if_neg (show ¬ w32 5 = 2 by decide), if_neg (show ¬ w32 5 = 3 by decide), if_neg (show ¬ w32 5 = 4 by decide), if_neg (show ¬ w32 7 = 3 by decide), if_neg (show ¬ w32 7 = 4 by decide), if_neg (show ¬ w32 7 = 5 by decide), if_neg (show ¬ w32 7 = 6 by decide), if_pos (show w32 7 = 7 by decide), if_pos (show 0 ≤ 208 + 6 * x + 2 ∧ 208 + 6 * x + 2 < 2900 by omega), if_pos (show 0 ≤ 208 + 6 * x + 4 ∧ 208 + 6 * x + 4 < 2900 by omega), hv.1, hv.2.2.2.2.2.1]
  have es : bShr (16 * A + Bv) 4 = A := by
    rw [bShr_4 (w32_id (by omega) (by omega))]; omega
  have ea : bAnd (16 * A + Bv) 15 = Bv := by rw [bAnd_15]; omega
  obtain ⟨D, eD⟩ : ∃ D : Nat, Dv = (D : Int) := ⟨Dv.toNat, by have := hv.2.2.2.2.2.2.1; rw [hv.2.2.2.2.2.1] at this; omega⟩
  have hD : D < 256 := by have := hv.2.2.2.2.2.2.2.1; rw [hv.2.2.2.2.2.1, eD] at this; omega
  have h2 : 2 ≤ pcN 10 D := by
    have q := hv.2.2.2.2.2.2.2.2
    have ebc : J_bitCount (D : Int) = (pcN 10 D : Int) := rbC ⟨D, by omega⟩
    rw [hv.2.2.2.2.2.1, eD, ebc] at q
    clear ebc
    omega
  rw [es, ea, eD]
  clear es ea
  obtain ⟨mC', mR', r1, r2, r3, r4, r5, r6, r7, r8, r9⟩ := bend_run hX (v := A) (l := Bv) (D := D) ⟨hv.2.1, hv.2.2.1⟩ ⟨hv.2.2.2.1, hv.2.2.2.2.1⟩ hD h2
  rw [r1, bV_some, r2, bV_some]
  exact ⟨mC', mR', 0, rfl, rfl, r3, r5, by rw [r4], by rw [r4], r6, r8, r9, by rw [r4]; omega, by rw [r7]; omega⟩
