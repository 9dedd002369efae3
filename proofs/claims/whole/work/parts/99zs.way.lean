/-! layer 2: the way, bend's step -/
theorem code9_b (W : List Int) : -1 ≤ iwF W w19 0 ∧ iwF W w19 0 < 12 := by
  have := iwF_b (W := W) w19 0 (by omega)
  have e : (w19.length : Int) = 12 := by decide
  omega
theorem bend_pr {B : Nat → Int} {n s : Nat} {mC mR m17 : Mem} {z : Int} (h : WkR B n mC mR) (hs : s ≤ n) (hc : CTk B n s mC) (hK : tkK B n s = 1) (ez : mC 22 0 = z) (hst : mC 22 1 < 30) (hpre : PreM mR 7 z 1 m17) (h17 : MT B n (tkS B n (tkE B n s)) m17) : PRw B n s mC mR (WayR_readBend (st mC 22 1 (mC 22 1 + 1))) (Mo_step_J192 7 z (2528 + 6 * z) 1 m17) := by
  obtain ⟨h1, hM, h3, h4, hW⟩ := id h
  have hb := hW.2.1
  rw [ez] at hb
  have hz : 0 ≤ z ∧ z < 60 := by omega
  have fM := hpre.mf hz.1
  have hM17 := hM.mf fM
  have h170 : m17 75 17 = 0 := by rw [hpre.2.1 _ (by omega)]; exact h3
  have ge := tkE_gt B (n := n) (s := s) (by omega)
  have gb := tkE_b B hs
  have gs := tkS_b B gb.2
  have hC1 : Cf mC (st mC 22 1 (mC 22 1 + 1)) := (Cf.refl mC).st _ _ (by omega)
  have e192 : Mo_step_J192 7 z (2528 + 6 * z) 1 m17 = bE (Mo_aBend (2528 + 6 * z) m17) fun x m => mTl x m := by
    unfold Mo_step_J192
    rw [if_neg (show ¬ w32 7 = 4 by decide), if_neg (show ¬ w32 7 = 5 by decide), if_pos (show ¬ w32 7 = 6 by decide)]
    unfold Mo_step_J259
    rw [if_neg (show ¬ ¬ w32 7 = 7 by decide)]
    have e : (fun x60 m62 => Mo_step_J272 7 z (2528 + 6 * z) x60 m62) = fun x m => mTl x m := by
      funext x m
      exact j272 (by decide) (by decide) (by decide)
    rw [e]
  rw [e192]
  clear e192
  unfold WayR_readBend Mo_aBend
  rw [m_in19 hM17 gs.2 h17, bP_some]
  generalize hs2 : tkS B n (tkE B n s) = s2 at *
  have cb := code9_b (wdL B n s2)
  have rT : ∀ (mR' : Mem), (bE (some ((0 : Int), mR')) fun x m => mTl x m) = some (0, mR') := fun mR' => by rw [bE_some, mTl0]
  have hck := c_tKind (h1.cf hC1) gb.2 (show (st mC 22 1 (mC 22 1 + 1)) 5 3 = (tkE B n s : Int) from hc.2.1) (k := 1) (by omega)
  rw [hs2] at hck
  rcases hck with ⟨q, mC3, j1, j2, j3⟩ | ⟨q, mC3, j1, j2⟩
  · have fC3 := hC1.trans j2.cf
    have gge := tkE_gt B (n := n) (s := s2) (by omega)
    have ggb := tkE_b B gs.2
    have ggs := tkS_b B ggb.2
    rw [j1, bE_some, if_pos (show ¬ w32 1 = 0 by decide), c_nView (h1.cf fC3) gs.2 j3, bP_some]
    have cb8 := code_b (wdL B n s2)
    have hsame := iw_same (wdL B n s2)
    by_cases g : 0 ≤ iwF (wdL B n s2) w19 0 ∧ iwF (wdL B n s2) w19 0 ≤ 2
    · have e18 : iwF (wdL B n s2) w18 0 = iwF (wdL B n s2) w19 0 := (hsame _ g.1 g.2).mpr rfl
      rw [e18, if_pos g]
      generalize hcd : iwF (wdL B n s2) w19 0 = cd at *
      rw [w32_id (x := cd) (by omega) (by omega), if_pos (show ¬ cd = -1 by omega), if_neg (show ¬ cd < 0 by omega), if_pos (show cd ≤ 2 by omega), w32_id (x := 2528 + 6 * z + 1) (by omega) (by omega), if_pos (by omega)]
      have fM1 : Mf mR (st m17 76 (2528 + 6 * z + 1) cd) := fM.s76 _ (by omega)
      obtain ⟨mR2, k1, k2, k3⟩ := m_next (hM.mf fM1) gs.2 (show (st m17 76 (2528 + 6 * z + 1) cd) 75 13 = (tkE B n s2 : Int) from h17.2.2.1 (by omega))
      rw [k1, bV_some]
      have fM2 := fM1.trans k2.mf
      have h20 : mR2 75 17 = 0 := by rw [k2.2 _ (by decide) (by decide) (by decide) (by decide)]; exact h170
      generalize hs3 : tkS B n (tkE B n s2) = s3 at *
      have hcn := c_tNum (h1.cf fC3) ggb.2 j3.2.1 (lo := 0) (hi := 12) (by omega) (by omega)
      rw [hs3] at hcn
      rcases hcn with ⟨r, rv, mC5, o1, o2, o3⟩ | ⟨r, rv, mC5, o1, o2⟩ | ⟨r, mC5, o1, o2⟩
      · rcases m_num (hM.mf fM2) ggs.2 k3 h20 (a := 2528 + 6 * z + 2) (lo := 0) (hi := 12) (by omega) (by omega) (by omega) with ⟨_, _, mR5, w1, w2, w3⟩ | ⟨_, y, _⟩ | ⟨y, _⟩
        · have ev5 := o3.2.2.2 r
          have g3e := tkE_gt B (n := n) (s := s3) (by omega)
          have g3b := tkE_b B ggs.2
          have g3s := tkS_b B g3b.2
          have fC5 := fC3.trans o2.cf
          have fM5 : Mf mR mR5 := (fM2.s76 _ (by omega)).trans w2.mf
          have h50 : mR5 75 17 = 0 := by rw [w2.2 _ (by decide) (by decide) (by decide) (by decide)]; exact h20
          rw [o1, bE_some, if_pos (show ¬ w32 1 = 0 by decide), w1, bE_some, if_pos (show ¬ w32 1 = 0 by decide), ev5, m_in19 (hM.mf fM5) g3s.2 w3, bP_some]
          generalize hv3 : tkV B n s3 = v3 at *
          generalize hs4 : tkS B n (tkE B n s3) = s4 at *
          have cb4 := code9_b (wdL B n s4)
          rw [w32_id (x := iwF (wdL B n s4) w19 0) (by omega) (by omega)]
          have hcw := c_tWord (k := 17) (h1.cf fC5) g3b.2 o3.2.1 (by decide)
          rw [hs4] at hcw
          rcases hcw with ⟨qw, q4, mC7, a1, a2, a3⟩ | ⟨qw, mC7, a1, a2⟩
          · have fC7 := fC5.trans a2.cf
            have g4e := tkE_gt B (n := n) (s := s4) (by omega)
            have g4b := tkE_b B g3s.2
            have g4s := tkS_b B g4b.2
            rw [a1, bE_some, if_neg (show ¬ w32 1 = 0 by decide), if_pos ((w19_11 _).mp qw)]
            obtain ⟨mR7, b1, b2, b3⟩ := m_next (hM.mf fM5) g3s.2 (w3.2.2.1 (by omega))
            rw [b1, bV_some]
            have fM7 := fM5.trans b2.mf
            have h70 : mR7 75 17 = 0 := by rw [b2.2 _ (by decide) (by decide) (by decide) (by decide)]; exact h50
            generalize hs5 : tkS B n (tkE B n s4) = s5 at *
            have hck5 := c_tKind (h1.cf fC7) g4b.2 a3.2.1 (k := 2) (by omega)
            rw [hs5] at hck5
            have r76 : ∀ i, i ≠ 2528 + 6 * z + 1 → i ≠ 2528 + 6 * z + 2 → mR7 76 i = m17 76 i := fun i i1 i2 => by
              rw [b2.1 _ (by decide), w2.1 _ (by decide), st_eq, if_neg i2, k2.1 _ (by decide), st_eq, if_neg i1]
            have r76a : mR7 76 (2528 + 6 * z + 1) = cd := by
              rw [b2.1 _ (by decide), w2.1 _ (by decide), st_eq, if_neg (by omega), k2.1 _ (by decide), st_eq, if_pos rfl]
            have r76b : mR7 76 (2528 + 6 * z + 2) = v3 := by
              rw [b2.1 _ (by decide), w2.1 _ (by decide), st_eq, if_pos rfl]
            have r75 : ∀ i, i < 11 ∨ 14 < i → mR7 75 i = m17 75 i := fun i hi => by
              rw [b2.2 i (by omega) (by omega) (by omega) (by omega), w2.2 i (by omega) (by omega) (by omega) (by omega), st_ne _ _ _ (by decide), k2.2 i (by omega) (by omega) (by omega) (by omega), st_ne _ _ _ (by decide)]
            have rc : ∀ c, c ≠ 75 → c ≠ 76 → mR7 c = m17 c := fun c x y => by
              rw [b2.1 c x, w2.1 c x, st_ne _ _ _ y, k2.1 c x, st_ne _ _ _ y]
            rcases hck5 with ⟨q5, mC9, u1, u2, u3⟩ | ⟨q5, mC9, u1, u2⟩
            · have fC9 := fC7.trans u2.cf
              rw [u1, bE_some, if_pos (show ¬ w32 1 = 0 by decide)]
              unfold WayR_readDucks
              rcases duck_loop (B := B) (n := n) (r0 := 2528 + 6 * z) (by omega) 8 0 FU FU s5 0 mC9 mR7 (by omega) (by rw [FU_eq]; omega) (by rw [FU_eq]; omega) g4s.2 (by omega) rfl (h1.cf fC9) (hM.mf fM7) h70 u3 b3 (by rw [r76 _ (by omega) (by omega)]; exact hpre.2.2.2.2.1 _ (by omega) (by omega)) (fun _ => q5) with ⟨f, sx, mC', mR', x1, x2, x3, x4, x5, x6⟩ | ⟨s', D', mC', mR', y1, y2, y3, y4, y5, y6, y7, y8, y9, y10, y11, y12⟩
              · rw [show ((0 : Nat) : Int) = 0 from rfl] at x1 x2
                refine PRw.fl ?_ x2 x3 x4 (x5.cf fC9) (x6.mf fM7)
                rw [x1, bE_some, if_neg (show ¬ ¬ w32 (-1) = -1 by decide)]
              · rw [show ((0 : Nat) : Int) = 0 from rfl] at y6 y7
                rw [y6, bE_some, w32_id (x := (D' : Int)) (by omega) (by omega), if_pos (show ¬ (D' : Int) = -1 by omega), y7]
                have g5e := tkE_gt B (n := n) (s := s') (by omega)
                have g5b := tkE_b B y2
                have t23 : ∀ c, c ≠ 5 → mC' c = (st mC 22 1 (mC 22 1 + 1)) c := fun c hc5 => by
                  rw [y10.1 c hc5, u2.1 c hc5, a2.1 c hc5, o2.1 c hc5, j2.1 c hc5]
                have t5 : ∀ i, i ≠ 3 → i ≠ 4 → i ≠ 5 → i ≠ 6 → mC' 5 i = mC 5 i := fun i i3 i4 i5 i6 => by
                  rw [y10.2 i i3 i4 i5 i6, u2.2 i i3 i4 i5 i6, a2.2 i i3 i4 i5 i6, o2.2 i i3 i4 i5 i6, j2.2 i i3 i4 i5 i6, st_ne _ _ _ (by decide)]
                have ezl : mC' 22 0 = z := by rw [t23 22 (by decide)]; exact ez
                obtain ⟨mA, c1, c2, c3, c4, c5, c6, c7⟩ := c_wadd (m := mC') (t := 5) (f := 16 * cd + v3) (g := (D' : Int)) ezl hz.1 hz.2
                rw [c1, bV_some]
                have e5A : mA 5 = mC' 5 := c2 5 (by decide) (by decide) (by decide) (by decide)
                have cA : Cf mC mA := (fC9.trans y10.cf).trans ⟨fun c x y => c2 c (by omega) (by omega) (by omega) (by omega), fun i _ => by rw [e5A]⟩
                have fMl : Mf mR mR' := fM7.trans (y11.mf (by omega))
                obtain ⟨mR9, d1, d2, d3⟩ := m_next (hM.mf fMl) y2 (y9.2.2.1 (by omega))
                have hWn : WyB mA mR' := by
                  refine hW.add (t := 5) (f := 16 * cd + v3) (g := (D' : Int)) (z := z) ez (by omega) hst ?_ c3 ?_ (fun i => ?_) (fun i => ?_) (fun i => ?_) ?_ ?_ ?_ (fun i i0 i1 => ?_) ?_ ?_ ?_ ?_
                  · rw [c2 21 (by decide) (by decide) (by decide) (by decide), t23 21 (by decide), st_ne _ _ _ (by decide)]
                  · rw [c4 1 (by decide), t23 22 (by decide), st_eq, if_pos rfl]
                  · rw [c5, t23 23 (by decide), st_ne _ _ _ (by decide)]
                  · rw [c6, t23 24 (by decide), st_ne _ _ _ (by decide)]
                  · rw [c7, t23 25 (by decide), st_ne _ _ _ (by decide)]
                  · rw [c2 26 (by decide) (by decide) (by decide) (by decide), t23 26 (by decide), st_ne _ _ _ (by decide)]
                  · rw [c2 27 (by decide) (by decide) (by decide) (by decide), t23 27 (by decide), st_ne _ _ _ (by decide)]
                  · rw [y11.2.2 _ (by omega), r76 _ (by omega) (by omega)]; exact hpre.2.2.2.2.2.1
                  · rw [y11.2.2 _ (by omega), r76 _ (by omega) (by omega)]; exact hpre.2.2.2.2.2.2 i (by omega) (by omega)
                  · rw [y11.1 82 (by decide) (by decide), rc 82 (by decide) (by decide)]; exact hpre.1 82 (by decide) (by decide)
                  · rw [y11.2.1 _ (by omega), r75 _ (by omega)]; exact hpre.2.1 21 (by omega)
                  · rw [y11.2.1 _ (by omega), r75 _ (by omega)]; exact hpre.2.2.1
                  · have e0 : mR' 76 (2528 + 6 * z) = 7 := by rw [y11.2.2 _ (by omega), r76 _ (by omega) (by omega)]; exact hpre.2.2.2.1
                    have e1 : mR' 76 (2528 + 6 * z + 1) = cd := by rw [y11.2.2 _ (by omega)]; exact r76a
                    have e2 : mR' 76 (2528 + 6 * z + 2) = v3 := by rw [y11.2.2 _ (by omega)]; exact r76b
                    have ebc : J_bitCount (D' : Int) = (pcN 10 D' : Int) := rbC ⟨D', by omega⟩
                    unfold EnP
                    rw [e0, e1, e2, y12, ebc]
                    exact ⟨⟨by clear ebc; omega, by clear ebc; omega, rfl⟩, fun y => by clear ebc; omega, fun y => by clear ebc; omega, fun y => by clear ebc; omega, fun _ => ⟨rfl, g.1, g.2, rv.1, rv.2, rfl, by clear ebc; omega, by clear ebc; omega, by clear ebc; omega⟩⟩
                have hk : WkR B n mA mR' := by
                  refine ⟨h1.cf cA, hM.mf fMl, ?_, ⟨?_, ?_, ?_⟩, hWn⟩
                  · rw [y11.2.1 _ (by omega)]; exact h70
                  · rw [e5A, t5 _ (by decide) (by decide) (by decide) (by decide)]; exact h4.1
                  · rw [e5A, t5 _ (by decide) (by decide) (by decide) (by decide)]; exact h4.2.1
                  · rw [y11.2.1 _ (by omega), r75 _ (by omega)]; exact (hpre.2.1 16 (by omega)).trans h4.2.2
                left
                exact ⟨tkE B n s', mA, mR9, rfl, mEn2T y9 y3 d1, by omega, g5b.2, by rw [e5A]; exact y8.2.1, d3, hk.tk (Tk5.refl _) d2, cA, fMl.trans d2.mf⟩
            · obtain ⟨mR', y1, y2⟩ := m_fail b3 h70 (f := 2) (g := if tkK B n s5 = 4 then 1 else 2) rfl
              refine PRw.fl ?_ ?_ (ff_b _).1 (ff_b _).2 (u2.cf fC7) (y2.mf fM7)
              · rw [u1, bE_some, if_neg (show ¬ ¬ w32 0 = 0 by decide)]
              · rw [FU_eq, show (20000 : Nat) = 19999 + 1 from rfl, Mo_aBend_L73, if_pos (show ¬ w32 (mR7 75 11) = 3 from fun x => q5 ((m_isN b3).mp x)), if_neg (show ¬ 1 < w32 0 by decide), y1]
                exact rT mR'
          · obtain ⟨mR', y1, y2⟩ := m_fail w3 h50 (f := 2) (g := if tkK B n s4 = 4 then 1 else 2) rfl
            refine PRw.fl ?_ ?_ (ff_b _).1 (ff_b _).2 (a2.cf fC5) (y2.mf fM5)
            · rw [a1, bE_some, if_pos (show w32 0 = 0 by decide)]
            · rw [if_neg (fun x => qw ((w19_11 _).mpr x)), y1]
              exact rT mR'
        · exact absurd rv y
        · exact absurd r y
      · rcases m_num (hM.mf fM2) ggs.2 k3 h20 (a := 2528 + 6 * z + 2) (lo := 0) (hi := 12) (by omega) (by omega) (by omega) with ⟨_, y, _⟩ | ⟨_, _, mR5, w1, w2⟩ | ⟨y, _⟩
        · exact absurd y rv
        · refine PRw.fl ?_ ?_ (by omega) (by omega) (o2.cf fC3) (w2.mf fM2)
          · rw [o1, bE_some, if_neg (show ¬ ¬ w32 0 = 0 by decide)]
          · rw [w1, bE_some, if_neg (show ¬ ¬ w32 0 = 0 by decide)]
            exact rT mR5
        · exact absurd r y
      · rcases m_num (hM.mf fM2) ggs.2 k3 h20 (a := 2528 + 6 * z + 2) (lo := 0) (hi := 12) (by omega) (by omega) (by omega) with ⟨y, _⟩ | ⟨y, _⟩ | ⟨_, mR5, w1, w2⟩
        · exact absurd y r
        · exact absurd y r
        · refine PRw.fl ?_ ?_ (ff_b _).1 (ff_b _).2 (o2.cf fC3) (w2.mf fM2)
          · rw [o1, bE_some, if_neg (show ¬ ¬ w32 0 = 0 by decide)]
          · rw [w1, bE_some, if_neg (show ¬ ¬ w32 0 = 0 by decide)]
            exact rT mR5
    · have g18 : ¬ (0 ≤ iwF (wdL B n s2) w18 0 ∧ iwF (wdL B n s2) w18 0 ≤ 2) := fun x => g (by
        have := (hsame _ x.1 x.2).mp rfl
        omega)
      obtain ⟨mC', x1, x2⟩ := c_fail j3 2
      obtain ⟨mR', y1, y2⟩ := m_fail h17 h170 (f := 2) (g := 2) (by rw [q]; rfl)
      refine PRw.fl ?_ ?_ (by omega) (by omega) (x2.cf fC3) (y2.mf fM)
      · rw [if_neg g18, if_neg (show ¬ ¬ w32 (-1) = -1 by decide), x1]; rfl
      · rw [w32_id (x := iwF (wdL B n s2) w19 0) (by omega) (by omega)]
        by_cases y : iwF (wdL B n s2) w19 0 < 0
        · rw [if_pos y, y1]; exact rT mR'
        · rw [if_neg y, if_neg (by omega), y1]; exact rT mR'
  · have hc1 : iwF (wdL B n s2) w19 0 = -1 := by rw [wdL_n q]; exact iw19_n
    obtain ⟨mR', y1, y2⟩ := m_fail h17 h170 (f := 2) (g := if tkK B n s2 = 4 then 1 else 2) rfl
    refine PRw.fl ?_ ?_ (ff_b _).1 (ff_b _).2 (j2.cf hC1) (y2.mf fM)
    · rw [j1, bE_some, if_neg (show ¬ ¬ w32 0 = 0 by decide)]
    · rw [hc1, if_pos (show w32 (-1) < 0 by decide), y1]; exact rT mR'
