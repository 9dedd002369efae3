/-! layer 2: run, the ends between two steps -/
def LRel (m mC mR : Mem) (x : Int) : Prop := ∀ o, 0 ≤ o → o < 60 → actB m o x = true → (m 12 o = 6 → mR 83 o = mC 38 o) ∧ (m 12 o = 7 → mC 38 o = 0) ∧ 0 ≤ mC 38 o ∧ mC 38 o ≤ 8
def RunI (m m1 mC mR : Mem) (x dn tn : Int) : Prop := KC m mC ∧ KR m1 mR ∧ RX mC mR ∧ mC 37 3 = mR 75 38 ∧ mC 37 1 = 1 ∧ mC 37 2 = 0 ∧ LRel m mC mR x ∧ (0 ≤ x ∧ x ≤ m 11 0) ∧ (tn + pot m (mC 38) x ≤ 10 * dn ∧ 0 ≤ tn ∧ 0 ≤ dn ∧ dn ≤ 100)
theorem w_at {m mC : Mem} (hk : KC m mC) {x : Int} (x0 : 0 ≤ x) (x1 : x < 60) : Way_kindAt 11 x mC = some (m 12 x) ∧ Way_firstAt 11 x mC = some (m 13 x) ∧ Way_secondAt 11 x mC = some (m 14 x) ∧ Way_partnerAt 11 x mC = some (m 15 x) := by
  have ei : Way_isInRoom x = 1 := by
    unfold Way_isInRoom
    rw [w32_id (by omega) (by omega), if_neg (by omega), if_neg (by omega)]
  have e : ∀ c, 11 ≤ c → c ≤ 15 → mC c = m c := fun c h1 h2 => hk.1 c (by omega) (by omega) (by omega) (by omega) (by omega) (by omega) (by omega) (by omega)
  refine ⟨?_, ?_, ?_, ?_⟩
  · unfold Way_kindAt
    rw [ei, if_neg (by decide), w32_id (by omega) (by omega), if_pos ⟨x0, x1⟩]
    show some (mC 12 x) = _
    rw [e 12 (by decide) (by decide)]
  · unfold Way_firstAt
    rw [ei, if_neg (by decide), w32_id (by omega) (by omega), if_pos ⟨x0, x1⟩]
    show some (mC 13 x) = _
    rw [e 13 (by decide) (by decide)]
  · unfold Way_secondAt
    rw [ei, if_neg (by decide), w32_id (by omega) (by omega), if_pos ⟨x0, x1⟩]
    show some (mC 14 x) = _
    rw [e 14 (by decide) (by decide)]
  · unfold Way_partnerAt
    rw [ei, if_neg (by decide), w32_id (by omega) (by omega), if_pos ⟨x0, x1⟩]
    show some (mC 15 x) = _
    rw [e 15 (by decide) (by decide)]
theorem run_ends {m m1 : Mem} (hw : WyR m 11 0) (h1 : ∀ i, 208 ≤ i ∨ i = 14 → m1 76 i = m 76 i) {dn : Int} : ∀ (fE fC : Nat) (x tn : Int) (mC mR : Mem), RunI m m1 mC mR x dn tn → pot m (mC 38) x < (fE : Int) → 2000 - tn < (fC : Int) → ∃ (x' tn' : Int) (fC' : Nat) (mC' mR' : Mem), Runner_go_L24 fC dn x tn mC = Runner_go_L24 fC' dn x' tn' mC' ∧ Mo_behindEnds_L2 fE x mR = some (x', mR') ∧ RunI m m1 mC' mR' x' dn tn' ∧ 2000 - tn' < (fC' : Int) ∧ (x' = m 11 0 ∨ (x' < m 11 0 ∧ m 12 x' ≠ 0)) := by
  obtain ⟨w14, wz0, wz1, hf⟩ := wyF hw
  intro fE
  induction fE with
  | zero =>
    intro fC x tn mC mR h hp
    have := pot_0 (m := m) (L := mC 38) (x := x) (fun o o0 o1 o2 => (h.2.2.2.2.2.2.1 o o0 o1 o2).2.2)
    omega
  | succ fE ih =>
    intro fC x tn mC mR h hp hfC
    obtain ⟨hC, hR, hX, i1, i2, i3, hL, ⟨x0, xZ⟩, ⟨b1, b2, b3, b4⟩⟩ := id h
    have hp0 := pot_0 (m := m) (L := mC 38) (x := x) (fun o o0 o1 o2 => (hL o o0 o1 o2).2.2)
    have e14 : mR 76 14 = m 11 0 := by rw [hR.2.2 14 (by omega), h1 14 (by omega), w14]
    have eR : ∀ i, 208 ≤ i → mR 76 i = m 76 i := fun i hi => by rw [hR.2.2 i (by omega), h1 i (by omega)]
    rw [Mo_behindEnds_L2, e14, w32_id (x := m 11 0) (by omega) (by omega), w32_id (x := x) (by omega) (by omega)]
    by_cases qZ : m 11 0 ≤ x
    · exact ⟨x, tn, fC, mC, mR, rfl, by rw [if_pos qZ], h, hfC, Or.inl (by omega)⟩
    · have hx := hf x x0 (by omega)
      have x60 : x < 60 := by omega
      rw [if_neg qZ, w32_id (x := 208 + 6 * x) (by omega) (by omega), if_pos (show 0 ≤ 208 + 6 * x ∧ 208 + 6 * x < 2900 by omega), eR (208 + 6 * x) (by omega), hx.1.2.2]
      by_cases qk : m 12 x = 0
      · have q := hx.2.2.2.2.2.1 qk
        have hx0 := hx.1.2.2
        obtain ⟨o, eo⟩ : ∃ o, m 15 x = o := ⟨_, rfl⟩
        rw [eo] at q
        have a0 := act_out0 hw x0 (by omega) qk
        rw [eo] at a0
        have hLo := hL o q.2.1 (by omega) a0.2
        have ho := hf o q.2.1 (by omega)
        have e38b : w32 (mC 38 o) = mC 38 o := w32_id (by omega) (by omega)
        rw [if_pos qk, if_neg (show ¬ ¬ w32 10 = 10 by decide), w32_id (x := 208 + 6 * x + 5) (by omega) (by omega), if_pos (show 0 ≤ 208 + 6 * x + 5 ∧ 208 + 6 * x + 5 < 2900 by omega), eR (208 + 6 * x + 5) (by omega), ← q.1, w32_id (x := 208 + 6 * o) (by omega) (by omega), if_pos (show 0 ≤ 208 + 6 * o ∧ 208 + 6 * o < 2900 by omega), eR (208 + 6 * o) (by omega), ho.1.2.2, if_neg (show ¬ m 12 o = 0 by omega), w32_id (x := m 12 o + 2) (by omega) (by omega), w32_id (x := o) (by omega) (by omega)]
        obtain ⟨fC', efC⟩ : ∃ fC', fC = fC' + 1 := ⟨fC - 1, by omega⟩
        subst efC
        have wa := w_at hC x0 x60
        have e110 : mC 11 0 = m 11 0 := by rw [hC.1 11 (by decide) (by decide) (by decide) (by decide) (by decide) (by decide) (by decide) (by decide)]
        have ecl : Runner_go_L24 (fC' + 1) dn x tn mC = bE (Runner_nextBehindEnd x mC) fun x20 m22 => Runner_go_L24 fC' dn x20 (tn + 1) m22 := by
          rw [Runner_go_L24, w32_id (x := tn) (by omega) (by omega), if_neg (show ¬ 2000 ≤ tn by omega), w32_id (x := x) (by omega) (by omega), if_neg (show ¬ x < 0 by omega), e110, w32_id (x := m 11 0) (by omega) (by omega), if_neg qZ, wa.1, bP_some, qk, if_neg (show ¬ ¬ w32 0 = 0 by decide)]
        rw [ecl]
        clear ecl
        unfold Runner_nextBehindEnd
        rw [wa.2.2.2, bP_some, eo, w32_id (x := o) (by omega) (by omega), if_neg (show ¬ o < 0 by omega), if_neg (show ¬ 60 ≤ o by omega), e38b]
        -- going on behind the end
        have fwd : ∀ (mR2 : Mem), KR m1 mR2 → RX mC mR2 → mR2 75 38 = mR 75 38 → mR2 83 = mR 83 → ∃ (x' tn' : Int) (fC2 : Nat) (mC' mR' : Mem), Runner_go_L24 fC' dn (x + 1) (tn + 1) mC = Runner_go_L24 fC2 dn x' tn' mC' ∧ Mo_behindEnds_L2 fE (x + 1) mR2 = some (x', mR') ∧ RunI m m1 mC' mR' x' dn tn' ∧ 2000 - tn' < (fC2 : Int) ∧ (x' = m 11 0 ∨ (x' < m 11 0 ∧ m 12 x' ≠ 0)) := by
          intro mR2 k1 k2 k3 k4
          have hpot := pot_u (m := m) (L := mC 38) (L' := mC 38) (x := x) (x' := x + 1) (o0 := o) q.2.1 (by omega) (fun o' a b c => ⟨act_out hw x0 (by omega) qk a (by rw [eo]; exact c), fun _ => rfl⟩)
          rw [if_neg (by rw [a0.1]; decide), if_pos a0.2] at hpot
          refine ih fC' (x + 1) (tn + 1) mC mR2 ⟨hC, k1, k2, by rw [k3]; exact i1, i2, i3, fun o' a b c => ?_, ⟨by omega, by omega⟩, ⟨by omega, by omega, b3, b4⟩⟩ (by omega) (by omega)
          have hne : o' ≠ o := fun e => by rw [e, a0.1] at c; cases c
          rw [act_out hw x0 (by omega) qk a (by rw [eo]; exact hne)] at c
          rw [k4]
          exact hL o' a b c
        by_cases ql : mC 38 o ≤ 0
        · rw [if_pos ql, bE_some]
          obtain ⟨x', tn', fC2, mC', mR', y1, y2, y3, y4, y5⟩ := fwd mR hR hX rfl rfl
          refine ⟨x', tn', fC2, mC', mR', y1, ?_, y3, y4, y5⟩
          have eJ : Mo_behindEnds_J86 (Mo_behindEnds_L2 fE) x o mR = some (x', mR') := by
            unfold Mo_behindEnds_J86 Mo_behindEnds_J87
            rw [if_pos (show w32 0 = 0 by decide), if_pos (show w32 0 = 0 by decide)]; exact y2
          by_cases q6 : m 12 o = 6
          · rw [if_neg (show ¬ ¬ m 12 o + 2 = 8 by omega), if_pos (show 0 ≤ o ∧ o < 60 by omega), hLo.1 q6, e38b, if_pos ql]; exact eJ
          · rw [if_pos (show ¬ m 12 o + 2 = 8 by omega)]; exact eJ
        · have q6 : m 12 o = 6 := by
            rcases q.2.2.2.1 with y | y
            · exact y
            · have := hLo.2.1 y; omega
          rw [if_neg ql, if_neg (show ¬ ¬ m 12 o + 2 = 8 by omega), if_pos (show 0 ≤ o ∧ o < 60 by omega), hLo.1 q6, e38b, if_neg ql]
          obtain ⟨u, y, mR2, u1, u2, u3, u4, u5, u6, u7, u8, u9⟩ := uf_both hX
          have s83 : mR2 83 = mR 83 := u3.1 83 (by decide)
          have s38 : mR2 75 38 = mR 75 38 := u3.2 38 (by omega)
          rw [u1, bP_some, u2, bE_some, u5, w32_id (x := y) (by omega) (by omega)]
          by_cases qu : u = 0
          · have qy : y = 0 := u9.mp qu
            rw [if_neg (show ¬ ¬ u = 0 from fun z => z qu), bE_some, if_pos (show y ≤ 0 by omega), if_pos (show (0 : Int) = 0 from rfl)]
            obtain ⟨x', tn', fC2, mC', mR', y1, y2, y3, y4, y5⟩ := fwd mR2 (hR.trans u3.kr) u4 s38 s83
            exact ⟨x', tn', fC2, mC', mR', y1, y2, y3, y4, y5⟩
          · have qy : ¬ y = 0 := fun z => qu (u9.mpr z)
            rw [if_pos qu, bE_some, if_neg (show ¬ y ≤ 0 by omega), if_neg (show ¬ (1 : Int) = 0 by decide)]
            unfold ltM
            rw [if_pos (show 0 ≤ o ∧ o < 60 by omega), if_pos (show 0 ≤ o ∧ o < 60 by omega), if_neg (show ¬ (1 : Int) = 0 by decide)]
            have hpot := pot_u (m := m) (L := mC 38) (L' := (st mC 38 o (mC 38 o - 1)) 38) (x := x) (x' := o + 1) (o0 := o) q.2.1 (by omega) (fun o' a b c => ⟨by have := act_back hw x0 (by omega) qk a; rw [eo] at this; exact this, fun _ => by rw [st_eq, if_neg c]⟩)
            have ab : actB m o (o + 1) = true := by
              have := act_back hw x0 (by omega) qk q.2.1
              rw [eo] at this
              rw [this]; exact a0.2
            rw [if_pos ab, if_pos a0.2, st_eq, if_pos rfl] at hpot
            refine ih fC' (o + 1) (tn + 1) (st mC 38 o (mC 38 o - 1)) (st mR2 83 o (mR2 83 o - 1)) ⟨?_, ?_, ?_, ?_, i2, i3, fun o' a b c => ?_, ⟨by omega, by omega⟩, ⟨by omega, by omega, b3, b4⟩⟩ (by omega) (by omega)
            · exact hC.trans ⟨fun c _ _ _ _ _ _ _ c38 => st_ne _ _ _ c38, fun _ _ => rfl, fun _ _ _ _ => rfl⟩
            · exact (hR.trans u3.kr).trans ⟨fun c _ _ c83 _ _ _ _ _ => st_ne _ _ _ c83, fun _ _ _ _ => rfl, fun _ _ => rfl⟩
            · exact (u4.cl (mC' := st mC 38 o (mC 38 o - 1)) rfl rfl rfl).sc rfl
            · show mC 37 3 = mR2 75 38
              rw [s38]; exact i1
            · have := act_back hw x0 (by omega) qk a
              rw [eo] at this
              rw [this] at c
              have z := hL o' a b c
              rw [st_eq, st_eq]
              by_cases w : o' = o
              · rw [if_pos w, if_pos w, s83, hLo.1 q6]
                refine ⟨fun _ => rfl, fun w7 => ?_, by omega, by omega⟩
                rw [w] at w7; omega
              · rw [if_neg w, if_neg w, s83]; exact z
      · rw [if_neg qk, w32_id (x := m 12 x + 2) (by omega) (by omega), if_pos (show ¬ m 12 x + 2 = 10 by omega)]
        exact ⟨x, tn, fC, mC, mR, rfl, rfl, h, hfC, Or.inr ⟨by omega, qk⟩⟩
