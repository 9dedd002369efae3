/-! layer 2: the way, points -/
theorem point_pr4 {B : Nat → Int} {n s : Nat} {mC mR m17 : Mem} {z : Int} (h : WkR B n mC mR) (hs : s ≤ n) (hc : CTk B n s mC) (hK : tkK B n s = 1) (ez : mC 22 0 = z) (hst : mC 22 1 < 30) (hpre : PreM mR 4 z 1 m17) (h17 : MT B n (tkS B n (tkE B n s)) m17) : PRw B n s mC mR (WayR_readPoint 2 (st mC 22 1 (mC 22 1 + 1))) (Mo_step_J192 4 z (2528 + 6 * z) 1 m17) := by
  obtain ⟨h1, hM, h3, h4, hW⟩ := id h
  have hb := hW.2.1
  rw [ez] at hb
  have hz : 0 ≤ z ∧ z < 60 := by omega
  have fM := hpre.mf hz.1
  have hM17 := hM.mf fM
  have h170 : m17 75 17 = 0 := by rw [hpre.2.1 _ (by omega)]; exact h3
  have ge := tkE_gt B (n := n) (s := s) (by omega)
  have gb := tkE_b B hs
  have gs := tkS_b B gb.2
  have hC1 : Cf mC (st mC 22 1 (mC 22 1 + 1)) := (Cf.refl mC).st _ _ (by omega)
  have e192 : Mo_step_J192 4 z (2528 + 6 * z) 1 m17 = Mo_step_J208 4 z (2528 + 6 * z) m17 := by
    unfold Mo_step_J192
    rw [if_pos (show w32 4 = 4 by decide)]
  have e259 : ∀ (x : Int) (m : Mem), Mo_step_J259 4 z (2528 + 6 * z) x m = mTl x m := fun x m => j259 (by decide) (by decide) (by decide) (by decide)
  have e256 : ∀ m : Mem, Mo_step_J256 4 z (2528 + 6 * z) m = some (0, m) := fun m => by
    unfold Mo_step_J256 Mo_step_J257
    rw [e259, mTl0]
  rw [e192]
  unfold WayR_readPoint Mo_step_J208
  generalize hs2 : tkS B n (tkE B n s) = s2 at *
  have hcn := c_tNum (h1.cf hC1) gb.2 (show (st mC 22 1 (mC 22 1 + 1)) 5 3 = (tkE B n s : Int) from hc.2.1) (lo := 0) (hi := 7) (by omega) (by omega)
  rw [hs2] at hcn
  rcases hcn with ⟨q, qv, mC3, j1, j2, j3⟩ | ⟨q, qv, mC3, j1, j2⟩ | ⟨q, mC3, j1, j2⟩
  · rcases m_num hM17 gs.2 h17 h170 (a := 2528 + 6 * z + 1) (lo := 0) (hi := 7) (by omega) (by omega) (by omega) with ⟨_, _, mR3, l1, l2, l3⟩ | ⟨_, y, _⟩ | ⟨y, _⟩
    · have ev := j3.2.2.2 q
      have gge := tkE_gt B (n := n) (s := s2) (by omega)
      have ggb := tkE_b B gs.2
      have ggs := tkS_b B ggb.2
      have fC3 := hC1.trans j2.cf
      have fM3 : Mf mR mR3 := (fM.s76 _ (by omega)).trans l2.mf
      have hM3 := hM.mf fM3
      have h30 : mR3 75 17 = 0 := by rw [l2.2 _ (by decide) (by decide) (by decide) (by decide)]; exact h170
      rw [j1, bE_some, if_pos (show ¬ w32 1 = 0 by decide), l1, bE_some, if_neg (show ¬ w32 1 = 0 by decide), ev]
      generalize hs3 : tkS B n (tkE B n s2) = s3 at *
      have hcn2 := c_tNum (h1.cf fC3) ggb.2 j3.2.1 (lo := 0) (hi := 5) (by omega) (by omega)
      rw [hs3] at hcn2
      rcases hcn2 with ⟨r, rv, mC5, o1, o2, o3⟩ | ⟨r, rv, mC5, o1, o2⟩ | ⟨r, mC5, o1, o2⟩
      · rcases m_num hM3 ggs.2 l3 h30 (a := 2528 + 6 * z + 2) (lo := 0) (hi := 5) (by omega) (by omega) (by omega) with ⟨_, _, mR5, w1, w2, w3⟩ | ⟨_, y, _⟩ | ⟨y, _⟩
        · have ev5 := o3.2.2.2 r
          have g3e := tkE_gt B (n := n) (s := s3) (by omega)
          have g3b := tkE_b B ggs.2
          have fC5 := fC3.trans o2.cf
          have fM5 : Mf mR mR5 := (fM3.s76 _ (by omega)).trans w2.mf
          rw [o1, bE_some, if_pos (show ¬ w32 1 = 0 by decide), w1, bE_some, if_neg (show ¬ w32 1 = 0 by decide), ev5]
          generalize hv2 : tkV B n s2 = v2 at *
          generalize hv3 : tkV B n s3 = v3 at *
          rw [if_neg (show ¬ ¬ w32 2 = 2 by decide), if_neg (show ¬ ¬ w32 4 = 4 by decide)]
          have hM5 := hM.mf fM5
          have h50 : mR5 75 17 = 0 := by rw [w2.2 _ (by decide) (by decide) (by decide) (by decide)]; exact h30
          have g3s := tkS_b B g3b.2
          generalize hs4 : tkS B n (tkE B n s3) = s4 at *
          have hcn3 := c_tNum (h1.cf fC5) g3b.2 o3.2.1 (lo := 0) (hi := 999) (by omega) (by omega)
          rw [hs4] at hcn3
          rcases hcn3 with ⟨r7, rv7, mC7, o71, o72, o73⟩ | ⟨r7, rv7, mC7, o71, o72⟩ | ⟨r7, mC7, o71, o72⟩
          · rcases m_num hM5 g3s.2 w3 h50 (a := 2528 + 6 * z + 3) (lo := 0) (hi := 999) (by omega) (by omega) (by omega) with ⟨_, _, mR7, w71, w72, w73⟩ | ⟨_, y, _⟩ | ⟨y, _⟩
            · have ev7 := o73.2.2.2 r7
              have g4e := tkE_gt B (n := n) (s := s4) (by omega)
              have g4b := tkE_b B g3s.2
              have fC7 := fC5.trans o72.cf
              have fM7 : Mf mR mR7 := (fM5.s76 _ (by omega)).trans w72.mf
              rw [o71, bE_some, if_pos (show ¬ w32 1 = 0 by decide), w71, bE_some, if_neg (show ¬ w32 1 = 0 by decide), e259, mTl1, ev7]
              generalize hv4 : tkV B n s4 = v4 at *
              have ezl : mC7 22 0 = z := by rw [o72.1 _ (by decide), o2.1 _ (by decide), j2.1 _ (by decide)]; exact ez
              obtain ⟨mA, a1, a2, a3, a4, a5, a6, a7⟩ := c_wadd (m := mC7) (t := 2) (f := 8 * v2 + v3) (g := v4) ezl hz.1 hz.2
              rw [a1, bV_some]
              have hWn : WyB mA (st mR5 76 (2528 + 6 * z + 3) v4) := by
                refine hW.add (t := 2) (f := 8 * v2 + v3) (g := v4) (z := z) ez (by omega) hst ?_ a3 ?_ (fun i => ?_) (fun i => ?_) (fun i => ?_) ?_ ?_ ?_ (fun i i0 i1 => ?_) ?_ ?_ ?_ ?_
                · rw [a2 21 (by decide) (by decide) (by decide) (by decide), o72.1 _ (by decide), o2.1 _ (by decide), j2.1 _ (by decide), st_ne _ _ _ (by decide)]
                · rw [a4 1 (by decide), o72.1 _ (by decide), o2.1 _ (by decide), j2.1 _ (by decide), st_eq, if_pos rfl]
                · rw [a5, o72.1 _ (by decide), o2.1 _ (by decide), j2.1 _ (by decide), st_ne _ _ _ (by decide)]
                · rw [a6, o72.1 _ (by decide), o2.1 _ (by decide), j2.1 _ (by decide), st_ne _ _ _ (by decide)]
                · rw [a7, o72.1 _ (by decide), o2.1 _ (by decide), j2.1 _ (by decide), st_ne _ _ _ (by decide)]
                · rw [a2 26 (by decide) (by decide) (by decide) (by decide), o72.1 _ (by decide), o2.1 _ (by decide), j2.1 _ (by decide), st_ne _ _ _ (by decide)]
                · rw [a2 27 (by decide) (by decide) (by decide) (by decide), o72.1 _ (by decide), o2.1 _ (by decide), j2.1 _ (by decide), st_ne _ _ _ (by decide)]
                · rw [st_eq, if_neg (by omega), w2.1 _ (by decide), st_eq, if_neg (by omega), l2.1 _ (by decide), st_eq, if_neg (by omega)]; exact hpre.2.2.2.2.2.1
                · rw [st_eq, if_neg (by omega), w2.1 _ (by decide), st_eq, if_neg (by omega), l2.1 _ (by decide), st_eq, if_neg (by omega)]; exact hpre.2.2.2.2.2.2 i (by omega) (by omega)
                · rw [st_ne _ _ _ (by decide), w2.1 _ (by decide), st_ne _ _ _ (by decide), l2.1 _ (by decide), st_ne _ _ _ (by decide)]; exact hpre.1 82 (by decide) (by decide)
                · rw [st_ne _ _ _ (by decide), w2.2 _ (by decide) (by decide) (by decide) (by decide), st_ne _ _ _ (by decide), l2.2 _ (by decide) (by decide) (by decide) (by decide), st_ne _ _ _ (by decide)]; exact hpre.2.1 21 (by omega)
                · rw [st_ne _ _ _ (by decide), w2.2 _ (by decide) (by decide) (by decide) (by decide), st_ne _ _ _ (by decide), l2.2 _ (by decide) (by decide) (by decide) (by decide), st_ne _ _ _ (by decide)]; exact hpre.2.2.1
                · have e0 : (st mR5 76 (2528 + 6 * z + 3) v4) 76 (2528 + 6 * z) = 4 := by rw [st_eq, if_neg (by omega), w2.1 _ (by decide), st_eq, if_neg (by omega), l2.1 _ (by decide), st_eq, if_neg (by omega)]; exact hpre.2.2.2.1
                  have e1 : (st mR5 76 (2528 + 6 * z + 3) v4) 76 (2528 + 6 * z + 1) = v2 := by rw [st_eq, if_neg (by omega), w2.1 _ (by decide), st_eq, if_neg (by omega), l2.1 _ (by decide), st_eq, if_pos rfl]
                  have e2 : (st mR5 76 (2528 + 6 * z + 3) v4) 76 (2528 + 6 * z + 2) = v3 := by rw [st_eq, if_neg (by omega), w2.1 _ (by decide), st_eq, if_pos rfl]
                  have e3 : (st mR5 76 (2528 + 6 * z + 3) v4) 76 (2528 + 6 * z + 3) = v4 := by rw [st_eq, if_pos rfl]
                  unfold EnP
                  rw [e0, e1, e2, e3]
                  exact ⟨⟨by omega, by omega, rfl⟩, fun y => by omega, fun _ => ⟨rfl, qv.1, qv.2, rv.1, rv.2⟩, fun y => ⟨rfl, rv7.1, rv7.2⟩, fun y => by omega⟩
              have cA : Cf mC mA := fC7.trans ⟨fun c x y => a2 c (by omega) (by omega) (by omega) (by omega), fun i _ => by rw [a2 5 (by decide) (by decide) (by decide) (by decide)]⟩
              have e5A : mA 5 = mC7 5 := a2 5 (by decide) (by decide) (by decide) (by decide)
              have hk : WkR B n mA (st mR5 76 (2528 + 6 * z + 3) v4) := by
                refine ⟨h1.cf cA, hM.mf (fM5.s76 _ (by omega)), ?_, ⟨?_, ?_, ?_⟩, hWn⟩
                · rw [st_ne _ _ _ (by decide), w2.2 _ (by decide) (by decide) (by decide) (by decide), st_ne _ _ _ (by decide), l2.2 _ (by decide) (by decide) (by decide) (by decide), st_ne _ _ _ (by decide)]; exact h170
                · rw [e5A, o72.2 _ (by decide) (by decide) (by decide) (by decide), o2.2 _ (by decide) (by decide) (by decide) (by decide), j2.2 _ (by decide) (by decide) (by decide) (by decide)]; exact h4.1
                · rw [e5A, o72.2 _ (by decide) (by decide) (by decide) (by decide), o2.2 _ (by decide) (by decide) (by decide) (by decide), j2.2 _ (by decide) (by decide) (by decide) (by decide)]; exact h4.2.1
                · rw [st_ne _ _ _ (by decide), w2.2 _ (by decide) (by decide) (by decide) (by decide), st_ne _ _ _ (by decide), l2.2 _ (by decide) (by decide) (by decide) (by decide), st_ne _ _ _ (by decide)]; exact (hpre.2.1 16 (by omega)).trans h4.2.2
              exact sgW (mC0 := mC) (mR0 := mR) (hk.tk (Tk5.refl _) w72) g4b.2 (by omega) (by rw [e5A]; exact o73.2.1) w73 cA fM7
            · exact absurd rv7 y
            · exact absurd r7 y
          · rcases m_num hM5 g3s.2 w3 h50 (a := 2528 + 6 * z + 3) (lo := 0) (hi := 999) (by omega) (by omega) (by omega) with ⟨_, y, _⟩ | ⟨_, _, mR7, w71, w72⟩ | ⟨y, _⟩
            · exact absurd y rv7
            · refine PRw.fl ?_ ?_ (by omega) (by omega) (o72.cf fC5) (w72.mf fM5)
              · rw [o71, bE_some, if_neg (show ¬ ¬ w32 0 = 0 by decide)]
              · rw [w71, bE_some, if_pos (show w32 0 = 0 by decide), e259, mTl0]
            · exact absurd r7 y
          · rcases m_num hM5 g3s.2 w3 h50 (a := 2528 + 6 * z + 3) (lo := 0) (hi := 999) (by omega) (by omega) (by omega) with ⟨y, _⟩ | ⟨y, _⟩ | ⟨_, mR7, w71, w72⟩
            · exact absurd y r7
            · exact absurd y r7
            · refine PRw.fl ?_ ?_ (ff_b _).1 (ff_b _).2 (o72.cf fC5) (w72.mf fM5)
              · rw [o71, bE_some, if_neg (show ¬ ¬ w32 0 = 0 by decide)]
              · rw [w71, bE_some, if_pos (show w32 0 = 0 by decide), e259, mTl0]
        · exact absurd rv y
        · exact absurd r y
      · rcases m_num hM3 ggs.2 l3 h30 (a := 2528 + 6 * z + 2) (lo := 0) (hi := 5) (by omega) (by omega) (by omega) with ⟨_, y, _⟩ | ⟨_, _, mR5, w1, w2⟩ | ⟨y, _⟩
        · exact absurd y rv
        · refine PRw.fl ?_ ?_ (by omega) (by omega) (o2.cf fC3) (w2.mf fM3)
          · rw [o1, bE_some, if_neg (show ¬ ¬ w32 0 = 0 by decide)]
          · rw [w1, bE_some, if_pos (show w32 0 = 0 by decide), e256]
        · exact absurd r y
      · rcases m_num hM3 ggs.2 l3 h30 (a := 2528 + 6 * z + 2) (lo := 0) (hi := 5) (by omega) (by omega) (by omega) with ⟨y, _⟩ | ⟨y, _⟩ | ⟨_, mR5, w1, w2⟩
        · exact absurd y r
        · exact absurd y r
        · refine PRw.fl ?_ ?_ (ff_b _).1 (ff_b _).2 (o2.cf fC3) (w2.mf fM3)
          · rw [o1, bE_some, if_neg (show ¬ ¬ w32 0 = 0 by decide)]
          · rw [w1, bE_some, if_pos (show w32 0 = 0 by decide), e256]
    · exact absurd qv y
    · exact absurd q y
  · rcases m_num hM17 gs.2 h17 h170 (a := 2528 + 6 * z + 1) (lo := 0) (hi := 7) (by omega) (by omega) (by omega) with ⟨_, y, _⟩ | ⟨_, _, mR3, l1, l2⟩ | ⟨y, _⟩
    · exact absurd y qv
    · refine PRw.fl ?_ ?_ (by omega) (by omega) (j2.cf hC1) (l2.mf fM)
      · rw [j1, bE_some, if_neg (show ¬ ¬ w32 0 = 0 by decide)]
      · rw [l1, bE_some, if_pos (show w32 0 = 0 by decide), e256]
    · exact absurd q y
  · rcases m_num hM17 gs.2 h17 h170 (a := 2528 + 6 * z + 1) (lo := 0) (hi := 7) (by omega) (by omega) (by omega) with ⟨y, _⟩ | ⟨y, _⟩ | ⟨_, mR3, l1, l2⟩
    · exact absurd y q
    · exact absurd y q
    · refine PRw.fl ?_ ?_ (ff_b _).1 (ff_b _).2 (j2.cf hC1) (l2.mf fM)
      · rw [j1, bE_some, if_neg (show ¬ ¬ w32 0 = 0 by decide)]
      · rw [l1, bE_some, if_pos (show w32 0 = 0 by decide), e256]
theorem point_pr5 {B : Nat → Int} {n s : Nat} {mC mR m17 : Mem} {z : Int} (h : WkR B n mC mR) (hs : s ≤ n) (hc : CTk B n s mC) (hK : tkK B n s = 1) (ez : mC 22 0 = z) (hst : mC 22 1 < 30) (hpre : PreM mR 5 z 1 m17) (h17 : MT B n (tkS B n (tkE B n s)) m17) : PRw B n s mC mR (WayR_readPoint 3 (st mC 22 1 (mC 22 1 + 1))) (Mo_step_J192 5 z (2528 + 6 * z) 1 m17) := by
  obtain ⟨h1, hM, h3, h4, hW⟩ := id h
  have hb := hW.2.1
  rw [ez] at hb
  have hz : 0 ≤ z ∧ z < 60 := by omega
  have fM := hpre.mf hz.1
  have hM17 := hM.mf fM
  have h170 : m17 75 17 = 0 := by rw [hpre.2.1 _ (by omega)]; exact h3
  have ge := tkE_gt B (n := n) (s := s) (by omega)
  have gb := tkE_b B hs
  have gs := tkS_b B gb.2
  have hC1 : Cf mC (st mC 22 1 (mC 22 1 + 1)) := (Cf.refl mC).st _ _ (by omega)
  have e192 : Mo_step_J192 5 z (2528 + 6 * z) 1 m17 = Mo_step_J208 5 z (2528 + 6 * z) m17 := by
    unfold Mo_step_J192
    rw [if_neg (show ¬ w32 5 = 4 by decide), if_pos (show w32 5 = 5 by decide)]
  have e259 : ∀ (x : Int) (m : Mem), Mo_step_J259 5 z (2528 + 6 * z) x m = mTl x m := fun x m => j259 (by decide) (by decide) (by decide) (by decide)
  have e256 : ∀ m : Mem, Mo_step_J256 5 z (2528 + 6 * z) m = some (0, m) := fun m => by
    unfold Mo_step_J256 Mo_step_J257
    rw [e259, mTl0]
  rw [e192]
  unfold WayR_readPoint Mo_step_J208
  generalize hs2 : tkS B n (tkE B n s) = s2 at *
  have hcn := c_tNum (h1.cf hC1) gb.2 (show (st mC 22 1 (mC 22 1 + 1)) 5 3 = (tkE B n s : Int) from hc.2.1) (lo := 0) (hi := 7) (by omega) (by omega)
  rw [hs2] at hcn
  rcases hcn with ⟨q, qv, mC3, j1, j2, j3⟩ | ⟨q, qv, mC3, j1, j2⟩ | ⟨q, mC3, j1, j2⟩
  · rcases m_num hM17 gs.2 h17 h170 (a := 2528 + 6 * z + 1) (lo := 0) (hi := 7) (by omega) (by omega) (by omega) with ⟨_, _, mR3, l1, l2, l3⟩ | ⟨_, y, _⟩ | ⟨y, _⟩
    · have ev := j3.2.2.2 q
      have gge := tkE_gt B (n := n) (s := s2) (by omega)
      have ggb := tkE_b B gs.2
      have ggs := tkS_b B ggb.2
      have fC3 := hC1.trans j2.cf
      have fM3 : Mf mR mR3 := (fM.s76 _ (by omega)).trans l2.mf
      have hM3 := hM.mf fM3
      have h30 : mR3 75 17 = 0 := by rw [l2.2 _ (by decide) (by decide) (by decide) (by decide)]; exact h170
      rw [j1, bE_some, if_pos (show ¬ w32 1 = 0 by decide), l1, bE_some, if_neg (show ¬ w32 1 = 0 by decide), ev]
      generalize hs3 : tkS B n (tkE B n s2) = s3 at *
      have hcn2 := c_tNum (h1.cf fC3) ggb.2 j3.2.1 (lo := 0) (hi := 5) (by omega) (by omega)
      rw [hs3] at hcn2
      rcases hcn2 with ⟨r, rv, mC5, o1, o2, o3⟩ | ⟨r, rv, mC5, o1, o2⟩ | ⟨r, mC5, o1, o2⟩
      · rcases m_num hM3 ggs.2 l3 h30 (a := 2528 + 6 * z + 2) (lo := 0) (hi := 5) (by omega) (by omega) (by omega) with ⟨_, _, mR5, w1, w2, w3⟩ | ⟨_, y, _⟩ | ⟨y, _⟩
        · have ev5 := o3.2.2.2 r
          have g3e := tkE_gt B (n := n) (s := s3) (by omega)
          have g3b := tkE_b B ggs.2
          have fC5 := fC3.trans o2.cf
          have fM5 : Mf mR mR5 := (fM3.s76 _ (by omega)).trans w2.mf
          rw [o1, bE_some, if_pos (show ¬ w32 1 = 0 by decide), w1, bE_some, if_neg (show ¬ w32 1 = 0 by decide), ev5]
          generalize hv2 : tkV B n s2 = v2 at *
          generalize hv3 : tkV B n s3 = v3 at *
          rw [if_pos (show ¬ w32 3 = 2 by decide), if_pos (show ¬ w32 5 = 4 by decide)]
          have e252 : Mo_step_J252 5 z (2528 + 6 * z) mR5 = mEn2 mR5 := by
            unfold Mo_step_J252 Mo_step_J257
            rw [e259, mTl1]
          rw [e252]
          have ezl : mC5 22 0 = z := by rw [o2.1 _ (by decide), j2.1 _ (by decide)]; exact ez
          obtain ⟨mA, a1, a2, a3, a4, a5, a6, a7⟩ := c_wadd (m := mC5) (t := 3) (f := 8 * v2 + v3) (g := v3) ezl hz.1 hz.2
          rw [a1, bV_some]
          have hWn : WyB mA (st mR3 76 (2528 + 6 * z + 2) v3) := by
            refine hW.add (t := 3) (f := 8 * v2 + v3) (g := v3) (z := z) ez (by omega) hst ?_ a3 ?_ (fun i => ?_) (fun i => ?_) (fun i => ?_) ?_ ?_ ?_ (fun i i0 i1 => ?_) ?_ ?_ ?_ ?_
            · rw [a2 21 (by decide) (by decide) (by decide) (by decide), o2.1 _ (by decide), j2.1 _ (by decide), st_ne _ _ _ (by decide)]
            · rw [a4 1 (by decide), o2.1 _ (by decide), j2.1 _ (by decide), st_eq, if_pos rfl]
            · rw [a5, o2.1 _ (by decide), j2.1 _ (by decide), st_ne _ _ _ (by decide)]
            · rw [a6, o2.1 _ (by decide), j2.1 _ (by decide), st_ne _ _ _ (by decide)]
            · rw [a7, o2.1 _ (by decide), j2.1 _ (by decide), st_ne _ _ _ (by decide)]
            · rw [a2 26 (by decide) (by decide) (by decide) (by decide), o2.1 _ (by decide), j2.1 _ (by decide), st_ne _ _ _ (by decide)]
            · rw [a2 27 (by decide) (by decide) (by decide) (by decide), o2.1 _ (by decide), j2.1 _ (by decide), st_ne _ _ _ (by decide)]
            · rw [st_eq, if_neg (by omega), l2.1 _ (by decide), st_eq, if_neg (by omega)]; exact hpre.2.2.2.2.2.1
            · rw [st_eq, if_neg (by omega), l2.1 _ (by decide), st_eq, if_neg (by omega)]; exact hpre.2.2.2.2.2.2 i (by omega) (by omega)
            · rw [st_ne _ _ _ (by decide), l2.1 _ (by decide), st_ne _ _ _ (by decide)]; exact hpre.1 82 (by decide) (by decide)
            · rw [st_ne _ _ _ (by decide), l2.2 _ (by decide) (by decide) (by decide) (by decide), st_ne _ _ _ (by decide)]; exact hpre.2.1 21 (by omega)
            · rw [st_ne _ _ _ (by decide), l2.2 _ (by decide) (by decide) (by decide) (by decide), st_ne _ _ _ (by decide)]; exact hpre.2.2.1
            · have e0 : (st mR3 76 (2528 + 6 * z + 2) v3) 76 (2528 + 6 * z) = 5 := by rw [st_eq, if_neg (by omega), l2.1 _ (by decide), st_eq, if_neg (by omega)]; exact hpre.2.2.2.1
              have e1 : (st mR3 76 (2528 + 6 * z + 2) v3) 76 (2528 + 6 * z + 1) = v2 := by rw [st_eq, if_neg (by omega), l2.1 _ (by decide), st_eq, if_pos rfl]
              have e2 : (st mR3 76 (2528 + 6 * z + 2) v3) 76 (2528 + 6 * z + 2) = v3 := by rw [st_eq, if_pos rfl]
              unfold EnP
              rw [e0, e1, e2]
              exact ⟨⟨by omega, by omega, rfl⟩, fun y => by omega, fun _ => ⟨rfl, qv.1, qv.2, rv.1, rv.2⟩, fun y => by omega, fun y => by omega⟩
          have cA : Cf mC mA := fC5.trans ⟨fun c x y => a2 c (by omega) (by omega) (by omega) (by omega), fun i _ => by rw [a2 5 (by decide) (by decide) (by decide) (by decide)]⟩
          have e5A : mA 5 = mC5 5 := a2 5 (by decide) (by decide) (by decide) (by decide)
          have hk : WkR B n mA (st mR3 76 (2528 + 6 * z + 2) v3) := by
            refine ⟨h1.cf cA, hM.mf (fM3.s76 _ (by omega)), ?_, ⟨?_, ?_, ?_⟩, hWn⟩
            · rw [st_ne _ _ _ (by decide), l2.2 _ (by decide) (by decide) (by decide) (by decide), st_ne _ _ _ (by decide)]; exact h170
            · rw [e5A, o2.2 _ (by decide) (by decide) (by decide) (by decide), j2.2 _ (by decide) (by decide) (by decide) (by decide)]; exact h4.1
            · rw [e5A, o2.2 _ (by decide) (by decide) (by decide) (by decide), j2.2 _ (by decide) (by decide) (by decide) (by decide)]; exact h4.2.1
            · rw [st_ne _ _ _ (by decide), l2.2 _ (by decide) (by decide) (by decide) (by decide), st_ne _ _ _ (by decide)]; exact (hpre.2.1 16 (by omega)).trans h4.2.2
          exact sgW (mC0 := mC) (mR0 := mR) (hk.tk (Tk5.refl _) w2) g3b.2 (by omega) (by rw [e5A]; exact o3.2.1) w3 cA fM5
        · exact absurd rv y
        · exact absurd r y
      · rcases m_num hM3 ggs.2 l3 h30 (a := 2528 + 6 * z + 2) (lo := 0) (hi := 5) (by omega) (by omega) (by omega) with ⟨_, y, _⟩ | ⟨_, _, mR5, w1, w2⟩ | ⟨y, _⟩
        · exact absurd y rv
        · refine PRw.fl ?_ ?_ (by omega) (by omega) (o2.cf fC3) (w2.mf fM3)
          · rw [o1, bE_some, if_neg (show ¬ ¬ w32 0 = 0 by decide)]
          · rw [w1, bE_some, if_pos (show w32 0 = 0 by decide), e256]
        · exact absurd r y
      · rcases m_num hM3 ggs.2 l3 h30 (a := 2528 + 6 * z + 2) (lo := 0) (hi := 5) (by omega) (by omega) (by omega) with ⟨y, _⟩ | ⟨y, _⟩ | ⟨_, mR5, w1, w2⟩
        · exact absurd y r
        · exact absurd y r
        · refine PRw.fl ?_ ?_ (ff_b _).1 (ff_b _).2 (o2.cf fC3) (w2.mf fM3)
          · rw [o1, bE_some, if_neg (show ¬ ¬ w32 0 = 0 by decide)]
          · rw [w1, bE_some, if_pos (show w32 0 = 0 by decide), e256]
    · exact absurd qv y
    · exact absurd q y
  · rcases m_num hM17 gs.2 h17 h170 (a := 2528 + 6 * z + 1) (lo := 0) (hi := 7) (by omega) (by omega) (by omega) with ⟨_, y, _⟩ | ⟨_, _, mR3, l1, l2⟩ | ⟨y, _⟩
    · exact absurd y qv
    · refine PRw.fl ?_ ?_ (by omega) (by omega) (j2.cf hC1) (l2.mf fM)
      · rw [j1, bE_some, if_neg (show ¬ ¬ w32 0 = 0 by decide)]
      · rw [l1, bE_some, if_pos (show w32 0 = 0 by decide), e256]
    · exact absurd q y
  · rcases m_num hM17 gs.2 h17 h170 (a := 2528 + 6 * z + 1) (lo := 0) (hi := 7) (by omega) (by omega) (by omega) with ⟨y, _⟩ | ⟨y, _⟩ | ⟨_, mR3, l1, l2⟩
    · exact absurd y q
    · exact absurd y q
    · refine PRw.fl ?_ ?_ (ff_b _).1 (ff_b _).2 (j2.cf hC1) (l2.mf fM)
      · rw [j1, bE_some, if_neg (show ¬ ¬ w32 0 = 0 by decide)]
      · rw [l1, bE_some, if_pos (show w32 0 = 0 by decide), e256]
theorem point_pr6 {B : Nat → Int} {n s : Nat} {mC mR m17 : Mem} {z : Int} (h : WkR B n mC mR) (hs : s ≤ n) (hc : CTk B n s mC) (hK : tkK B n s = 1) (ez : mC 22 0 = z) (hst : mC 22 1 < 30) (hpre : PreM mR 6 z 1 m17) (h17 : MT B n (tkS B n (tkE B n s)) m17) : PRw B n s mC mR (WayR_readPoint 4 (st mC 22 1 (mC 22 1 + 1))) (Mo_step_J192 6 z (2528 + 6 * z) 1 m17) := by
  obtain ⟨h1, hM, h3, h4, hW⟩ := id h
  have hb := hW.2.1
  rw [ez] at hb
  have hz : 0 ≤ z ∧ z < 60 := by omega
  have fM := hpre.mf hz.1
  have hM17 := hM.mf fM
  have h170 : m17 75 17 = 0 := by rw [hpre.2.1 _ (by omega)]; exact h3
  have ge := tkE_gt B (n := n) (s := s) (by omega)
  have gb := tkE_b B hs
  have gs := tkS_b B gb.2
  have hC1 : Cf mC (st mC 22 1 (mC 22 1 + 1)) := (Cf.refl mC).st _ _ (by omega)
  have e192 : Mo_step_J192 6 z (2528 + 6 * z) 1 m17 = Mo_step_J208 6 z (2528 + 6 * z) m17 := by
    unfold Mo_step_J192
    rw [if_neg (show ¬ w32 6 = 4 by decide), if_neg (show ¬ w32 6 = 5 by decide), if_neg (show ¬ ¬ w32 6 = 6 by decide)]
  have e259 : ∀ (x : Int) (m : Mem), Mo_step_J259 6 z (2528 + 6 * z) x m = mTl x m := fun x m => j259 (by decide) (by decide) (by decide) (by decide)
  have e256 : ∀ m : Mem, Mo_step_J256 6 z (2528 + 6 * z) m = some (0, m) := fun m => by
    unfold Mo_step_J256 Mo_step_J257
    rw [e259, mTl0]
  rw [e192]
  unfold WayR_readPoint Mo_step_J208
  generalize hs2 : tkS B n (tkE B n s) = s2 at *
  have hcn := c_tNum (h1.cf hC1) gb.2 (show (st mC 22 1 (mC 22 1 + 1)) 5 3 = (tkE B n s : Int) from hc.2.1) (lo := 0) (hi := 7) (by omega) (by omega)
  rw [hs2] at hcn
  rcases hcn with ⟨q, qv, mC3, j1, j2, j3⟩ | ⟨q, qv, mC3, j1, j2⟩ | ⟨q, mC3, j1, j2⟩
  · rcases m_num hM17 gs.2 h17 h170 (a := 2528 + 6 * z + 1) (lo := 0) (hi := 7) (by omega) (by omega) (by omega) with ⟨_, _, mR3, l1, l2, l3⟩ | ⟨_, y, _⟩ | ⟨y, _⟩
    · have ev := j3.2.2.2 q
      have gge := tkE_gt B (n := n) (s := s2) (by omega)
      have ggb := tkE_b B gs.2
      have ggs := tkS_b B ggb.2
      have fC3 := hC1.trans j2.cf
      have fM3 : Mf mR mR3 := (fM.s76 _ (by omega)).trans l2.mf
      have hM3 := hM.mf fM3
      have h30 : mR3 75 17 = 0 := by rw [l2.2 _ (by decide) (by decide) (by decide) (by decide)]; exact h170
      rw [j1, bE_some, if_pos (show ¬ w32 1 = 0 by decide), l1, bE_some, if_neg (show ¬ w32 1 = 0 by decide), ev]
      generalize hs3 : tkS B n (tkE B n s2) = s3 at *
      have hcn2 := c_tNum (h1.cf fC3) ggb.2 j3.2.1 (lo := 0) (hi := 5) (by omega) (by omega)
      rw [hs3] at hcn2
      rcases hcn2 with ⟨r, rv, mC5, o1, o2, o3⟩ | ⟨r, rv, mC5, o1, o2⟩ | ⟨r, mC5, o1, o2⟩
      · rcases m_num hM3 ggs.2 l3 h30 (a := 2528 + 6 * z + 2) (lo := 0) (hi := 5) (by omega) (by omega) (by omega) with ⟨_, _, mR5, w1, w2, w3⟩ | ⟨_, y, _⟩ | ⟨y, _⟩
        · have ev5 := o3.2.2.2 r
          have g3e := tkE_gt B (n := n) (s := s3) (by omega)
          have g3b := tkE_b B ggs.2
          have fC5 := fC3.trans o2.cf
          have fM5 : Mf mR mR5 := (fM3.s76 _ (by omega)).trans w2.mf
          rw [o1, bE_some, if_pos (show ¬ w32 1 = 0 by decide), w1, bE_some, if_neg (show ¬ w32 1 = 0 by decide), ev5]
          generalize hv2 : tkV B n s2 = v2 at *
          generalize hv3 : tkV B n s3 = v3 at *
          rw [if_pos (show ¬ w32 4 = 2 by decide), if_pos (show ¬ w32 6 = 4 by decide)]
          have e252 : Mo_step_J252 6 z (2528 + 6 * z) mR5 = mEn2 mR5 := by
            unfold Mo_step_J252 Mo_step_J257
            rw [e259, mTl1]
          rw [e252]
          have ezl : mC5 22 0 = z := by rw [o2.1 _ (by decide), j2.1 _ (by decide)]; exact ez
          obtain ⟨mA, a1, a2, a3, a4, a5, a6, a7⟩ := c_wadd (m := mC5) (t := 4) (f := 8 * v2 + v3) (g := v3) ezl hz.1 hz.2
          rw [a1, bV_some]
          have hWn : WyB mA (st mR3 76 (2528 + 6 * z + 2) v3) := by
            refine hW.add (t := 4) (f := 8 * v2 + v3) (g := v3) (z := z) ez (by omega) hst ?_ a3 ?_ (fun i => ?_) (fun i => ?_) (fun i => ?_) ?_ ?_ ?_ (fun i i0 i1 => ?_) ?_ ?_ ?_ ?_
            · rw [a2 21 (by decide) (by decide) (by decide) (by decide), o2.1 _ (by decide), j2.1 _ (by decide), st_ne _ _ _ (by decide)]
            · rw [a4 1 (by decide), o2.1 _ (by decide), j2.1 _ (by decide), st_eq, if_pos rfl]
            · rw [a5, o2.1 _ (by decide), j2.1 _ (by decide), st_ne _ _ _ (by decide)]
            · rw [a6, o2.1 _ (by decide), j2.1 _ (by decide), st_ne _ _ _ (by decide)]
            · rw [a7, o2.1 _ (by decide), j2.1 _ (by decide), st_ne _ _ _ (by decide)]
            · rw [a2 26 (by decide) (by decide) (by decide) (by decide), o2.1 _ (by decide), j2.1 _ (by decide), st_ne _ _ _ (by decide)]
            · rw [a2 27 (by decide) (by decide) (by decide) (by decide), o2.1 _ (by decide), j2.1 _ (by decide), st_ne _ _ _ (by decide)]
            · rw [st_eq, if_neg (by omega), l2.1 _ (by decide), st_eq, if_neg (by omega)]; exact hpre.2.2.2.2.2.1
            · rw [st_eq, if_neg (by omega), l2.1 _ (by decide), st_eq, if_neg (by omega)]; exact hpre.2.2.2.2.2.2 i (by omega) (by omega)
            · rw [st_ne _ _ _ (by decide), l2.1 _ (by decide), st_ne _ _ _ (by decide)]; exact hpre.1 82 (by decide) (by decide)
            · rw [st_ne _ _ _ (by decide), l2.2 _ (by decide) (by decide) (by decide) (by decide), st_ne _ _ _ (by decide)]; exact hpre.2.1 21 (by omega)
            · rw [st_ne _ _ _ (by decide), l2.2 _ (by decide) (by decide) (by decide) (by decide), st_ne _ _ _ (by decide)]; exact hpre.2.2.1
            · have e0 : (st mR3 76 (2528 + 6 * z + 2) v3) 76 (2528 + 6 * z) = 6 := by rw [st_eq, if_neg (by omega), l2.1 _ (by decide), st_eq, if_neg (by omega)]; exact hpre.2.2.2.1
              have e1 : (st mR3 76 (2528 + 6 * z + 2) v3) 76 (2528 + 6 * z + 1) = v2 := by rw [st_eq, if_neg (by omega), l2.1 _ (by decide), st_eq, if_pos rfl]
              have e2 : (st mR3 76 (2528 + 6 * z + 2) v3) 76 (2528 + 6 * z + 2) = v3 := by rw [st_eq, if_pos rfl]
              unfold EnP
              rw [e0, e1, e2]
              exact ⟨⟨by omega, by omega, rfl⟩, fun y => by omega, fun _ => ⟨rfl, qv.1, qv.2, rv.1, rv.2⟩, fun y => by omega, fun y => by omega⟩
          have cA : Cf mC mA := fC5.trans ⟨fun c x y => a2 c (by omega) (by omega) (by omega) (by omega), fun i _ => by rw [a2 5 (by decide) (by decide) (by decide) (by decide)]⟩
          have e5A : mA 5 = mC5 5 := a2 5 (by decide) (by decide) (by decide) (by decide)
          have hk : WkR B n mA (st mR3 76 (2528 + 6 * z + 2) v3) := by
            refine ⟨h1.cf cA, hM.mf (fM3.s76 _ (by omega)), ?_, ⟨?_, ?_, ?_⟩, hWn⟩
            · rw [st_ne _ _ _ (by decide), l2.2 _ (by decide) (by decide) (by decide) (by decide), st_ne _ _ _ (by decide)]; exact h170
            · rw [e5A, o2.2 _ (by decide) (by decide) (by decide) (by decide), j2.2 _ (by decide) (by decide) (by decide) (by decide)]; exact h4.1
            · rw [e5A, o2.2 _ (by decide) (by decide) (by decide) (by decide), j2.2 _ (by decide) (by decide) (by decide) (by decide)]; exact h4.2.1
            · rw [st_ne _ _ _ (by decide), l2.2 _ (by decide) (by decide) (by decide) (by decide), st_ne _ _ _ (by decide)]; exact (hpre.2.1 16 (by omega)).trans h4.2.2
          exact sgW (mC0 := mC) (mR0 := mR) (hk.tk (Tk5.refl _) w2) g3b.2 (by omega) (by rw [e5A]; exact o3.2.1) w3 cA fM5
        · exact absurd rv y
        · exact absurd r y
      · rcases m_num hM3 ggs.2 l3 h30 (a := 2528 + 6 * z + 2) (lo := 0) (hi := 5) (by omega) (by omega) (by omega) with ⟨_, y, _⟩ | ⟨_, _, mR5, w1, w2⟩ | ⟨y, _⟩
        · exact absurd y rv
        · refine PRw.fl ?_ ?_ (by omega) (by omega) (o2.cf fC3) (w2.mf fM3)
          · rw [o1, bE_some, if_neg (show ¬ ¬ w32 0 = 0 by decide)]
          · rw [w1, bE_some, if_pos (show w32 0 = 0 by decide), e256]
        · exact absurd r y
      · rcases m_num hM3 ggs.2 l3 h30 (a := 2528 + 6 * z + 2) (lo := 0) (hi := 5) (by omega) (by omega) (by omega) with ⟨y, _⟩ | ⟨y, _⟩ | ⟨_, mR5, w1, w2⟩
        · exact absurd y r
        · exact absurd y r
        · refine PRw.fl ?_ ?_ (ff_b _).1 (ff_b _).2 (o2.cf fC3) (w2.mf fM3)
          · rw [o1, bE_some, if_neg (show ¬ ¬ w32 0 = 0 by decide)]
          · rw [w1, bE_some, if_pos (show w32 0 = 0 by decide), e256]
    · exact absurd qv y
    · exact absurd q y
  · rcases m_num hM17 gs.2 h17 h170 (a := 2528 + 6 * z + 1) (lo := 0) (hi := 7) (by omega) (by omega) (by omega) with ⟨_, y, _⟩ | ⟨_, _, mR3, l1, l2⟩ | ⟨y, _⟩
    · exact absurd y qv
    · refine PRw.fl ?_ ?_ (by omega) (by omega) (j2.cf hC1) (l2.mf fM)
      · rw [j1, bE_some, if_neg (show ¬ ¬ w32 0 = 0 by decide)]
      · rw [l1, bE_some, if_pos (show w32 0 = 0 by decide), e256]
    · exact absurd q y
  · rcases m_num hM17 gs.2 h17 h170 (a := 2528 + 6 * z + 1) (lo := 0) (hi := 7) (by omega) (by omega) (by omega) with ⟨y, _⟩ | ⟨y, _⟩ | ⟨_, mR3, l1, l2⟩
    · exact absurd y q
    · exact absurd y q
    · refine PRw.fl ?_ ?_ (ff_b _).1 (ff_b _).2 (j2.cf hC1) (l2.mf fM)
      · rw [j1, bE_some, if_neg (show ¬ ¬ w32 0 = 0 by decide)]
      · rw [l1, bE_some, if_pos (show w32 0 = 0 by decide), e256]
