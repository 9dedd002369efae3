/-! layer 2: the way, step by step -/
def nsN (c : Int) : Int := if c = 10 then 0 else if 3 ≤ c ∧ c ≤ 9 then c - 2 else -1
theorem c_nStep {B : Nat → Int} {n s : Nat} {m : Mem} (h : TpC B n m) (hs : s ≤ n) (ht : CTk B n s m) : WayR_namedStep m = some (nsN (iwF (wdL B n s) w19 0)) := by
  unfold WayR_namedStep
  rw [c_word h hs ht (k := 10) (by decide), bP_some]
  by_cases y10 : wdL B n s = chL 10
  · rw [if_pos y10, if_neg (show ¬ w32 1 = 0 by decide), (w19_10 _).mp y10]; rfl
  have n10 : ¬ iwF (wdL B n s) w19 0 = 10 := fun z => y10 ((w19_10 _).mpr z)
  rw [if_neg y10, if_pos (show w32 0 = 0 by decide)]
  rw [c_word h hs ht (k := 11) (by decide), bP_some]
  by_cases y3 : wdL B n s = chL 11
  · rw [if_pos y3, if_neg (show ¬ w32 1 = 0 by decide), (w19_3 _).mp y3]; rfl
  have n3 : ¬ iwF (wdL B n s) w19 0 = 3 := fun z => y3 ((w19_3 _).mpr z)
  rw [if_neg y3, if_pos (show w32 0 = 0 by decide)]
  rw [c_word h hs ht (k := 12) (by decide), bP_some]
  by_cases y4 : wdL B n s = chL 12
  · rw [if_pos y4, if_neg (show ¬ w32 1 = 0 by decide), (w19_4 _).mp y4]; rfl
  have n4 : ¬ iwF (wdL B n s) w19 0 = 4 := fun z => y4 ((w19_4 _).mpr z)
  rw [if_neg y4, if_pos (show w32 0 = 0 by decide)]
  rw [c_word h hs ht (k := 1) (by decide), bP_some]
  by_cases y5 : wdL B n s = chL 1
  · rw [if_pos y5, if_neg (show ¬ w32 1 = 0 by decide), (w19_5 _).mp y5]; rfl
  have n5 : ¬ iwF (wdL B n s) w19 0 = 5 := fun z => y5 ((w19_5 _).mpr z)
  rw [if_neg y5, if_pos (show w32 0 = 0 by decide)]
  rw [c_word h hs ht (k := 13) (by decide), bP_some]
  by_cases y6 : wdL B n s = chL 13
  · rw [if_pos y6, if_neg (show ¬ w32 1 = 0 by decide), (w19_6 _).mp y6]; rfl
  have n6 : ¬ iwF (wdL B n s) w19 0 = 6 := fun z => y6 ((w19_6 _).mpr z)
  rw [if_neg y6, if_pos (show w32 0 = 0 by decide)]
  rw [c_word h hs ht (k := 14) (by decide), bP_some]
  by_cases y7 : wdL B n s = chL 14
  · rw [if_pos y7, if_neg (show ¬ w32 1 = 0 by decide), (w19_7 _).mp y7]; rfl
  have n7 : ¬ iwF (wdL B n s) w19 0 = 7 := fun z => y7 ((w19_7 _).mpr z)
  rw [if_neg y7, if_pos (show w32 0 = 0 by decide)]
  rw [c_word h hs ht (k := 15) (by decide), bP_some]
  by_cases y8 : wdL B n s = chL 15
  · rw [if_pos y8, if_neg (show ¬ w32 1 = 0 by decide), (w19_8 _).mp y8]; rfl
  have n8 : ¬ iwF (wdL B n s) w19 0 = 8 := fun z => y8 ((w19_8 _).mpr z)
  rw [if_neg y8, if_pos (show w32 0 = 0 by decide)]
  rw [c_word h hs ht (k := 16) (by decide), bP_some]
  by_cases y9 : wdL B n s = chL 16
  · rw [if_pos y9, if_neg (show ¬ w32 1 = 0 by decide), (w19_9 _).mp y9]; rfl
  have n9 : ¬ iwF (wdL B n s) w19 0 = 9 := fun z => y9 ((w19_9 _).mpr z)
  rw [if_neg y9, if_pos (show w32 0 = 0 by decide)]
  unfold nsN
  rw [if_neg n10, if_neg (by omega)]
theorem c_J34 {k : Int} {m : Mem} (hk : 1 ≤ k ∧ k ≤ 5) : WayR_readStep_J34 k m = (if (w32 (m 22 1)) < 30 then (bE (WayR_readRest k (st m 22 1 ((m 22 1) + 1))) fun x9 m11 => some ((x9 % 2), m11)) else some (((Tape_fail 6 m).1 % 2), (Tape_fail 6 m).2)) := by
  unfold WayR_readStep_J34
  rw [w32_id (x := k) (by omega) (by omega), if_neg (show ¬ k = -1 by omega), if_pos (show ¬ k = 0 by omega)]
  by_cases y : w32 (m 21 3) < 3
  · rw [if_pos y]
  · rw [if_neg y, if_neg (show ¬ k = 6 by omega), if_pos (show ¬ k = 7 by omega)]
theorem step_pr {B : Nat → Int} {n s : Nat} {mC mR : Mem} (h : WkR B n mC mR) (hs : s ≤ n) (hc : CTk B n s mC) (ht : MT B n s mR) : PRw B n s mC mR (WayR_readStep mC) (Mo_step mR) := by
  obtain ⟨h1, hM, h3, h4, hW⟩ := id h
  obtain ⟨⟨z0, z1, z2⟩, hb, _⟩ := id hW
  have cb := code9_b (wdL B n s)
  obtain ⟨z, ez⟩ : ∃ z, mC 22 0 = z := ⟨_, rfl⟩
  obtain ⟨d, ed⟩ : ∃ d, mC 21 3 = d := ⟨_, rfl⟩
  rw [ez] at z0
  rw [ed] at z2
  rw [ez, ed] at hb
  have hz : 0 ≤ z ∧ z < 60 ∨ (mC 22 1 = 30 ∧ d = 0 ∧ z = 60) := by omega
  unfold WayR_readStep Mo_step
  rw [m_in19 hM hs ht, bP_some, z0, z2]
  rcases c_isK hc (k := 1) (by omega) with ⟨q, j⟩ | ⟨q, mC', j1, j2⟩
  · have hE : ∀ (R : Option (Int × Mem)), PRw B n s mC mR (bP (WayR_namedStep mC) fun x2 => (if ¬ (w32 x2) = 0 then (WayR_readStep_J34 x2 mC) else (if (w32 (mC 21 3)) ≤ 0 then (WayR_readStep_J34 x2 mC) else (bE (WayR_close mC) fun x19 m21 => some ((x19 % 2), m21))))) R → PRw B n s mC mR (if ¬ (w32 ((1 : Int), mC).1) = 0 then (bP (WayR_namedStep ((1 : Int), mC).2) fun x2 => (if ¬ (w32 x2) = 0 then (WayR_readStep_J34 x2 ((1 : Int), mC).2) else (if (w32 (((1 : Int), mC).2 21 3)) ≤ 0 then (WayR_readStep_J34 x2 ((1 : Int), mC).2) else (bE (WayR_close ((1 : Int), mC).2) fun x19 m21 => some ((x19 % 2), m21))))) else some (0, ((1 : Int), mC).2)) R := by
      intro R hR
      rw [if_pos (show ¬ w32 ((1 : Int), mC).1 = 0 from (by decide : ¬ w32 1 = 0))]
      exact hR
    rw [j]
    refine hE _ ?_
    clear hE
    rw [c_nStep h1 hs hc, bP_some, ed, w32_id (x := d) (by omega) (by omega)]
    have F : ∀ (f : Int), 1 ≤ f → f ≤ 6 → PRw B n s mC mR (some (((Tape_fail f mC).1 % 2), (Tape_fail f mC).2)) (some (((Mo_fails f mR).1 % 2), (Mo_fails f mR).2)) := by
      intro f f1 f2
      obtain ⟨mC', x1, x2⟩ := c_fail hc f
      obtain ⟨mR', y1, y2⟩ := m_fail ht h3 (f := f) (g := f) (by rw [q]; rfl)
      exact PRw.fl (by rw [x1]; rfl) (by rw [y1]; rfl) f1 f2 x2 y2
    generalize hcd : iwF (wdL B n s) w19 0 = cd at *
    have ewc : w32 cd = cd := w32_id (by omega) (by omega)
    rw [ewc]
    have e13 := ht.2.2.1 (by omega)
    by_cases gbad : cd < 3 ∨ cd = 11
    · have en : nsN cd = -1 := by unfold nsN; rw [if_neg (by omega), if_neg (by omega)]
      rw [en, if_pos (show ¬ w32 (-1) = 0 by decide)]
      have eJ : WayR_readStep_J34 (-1) mC = some (((Tape_fail 2 mC).1 % 2), (Tape_fail 2 mC).2) := by
        unfold WayR_readStep_J34
        rw [if_pos (show w32 (-1) = -1 by decide)]
      rw [eJ]
      by_cases y : cd < 3
      · rw [if_pos y]; exact F 2 (by omega) (by omega)
      · rw [if_neg y, if_pos (by omega)]; exact F 2 (by omega) (by omega)
    rw [if_neg (show ¬ cd < 3 by omega), if_neg (show ¬ cd = 11 by omega)]
    by_cases g10 : cd = 10
    · subst g10
      rw [show nsN 10 = 0 from rfl, if_neg (show ¬ ¬ w32 0 = 0 by decide), if_neg (show ¬ ¬ (10 : Int) = 10 by decide)]
      by_cases gd : d = 0
      · rw [if_pos (show d ≤ 0 by omega), if_neg (show ¬ ¬ d = 0 by omega)]
        have eJ : WayR_readStep_J34 0 mC = some (((Tape_fail 2 mC).1 % 2), (Tape_fail 2 mC).2) := by
          unfold WayR_readStep_J34
          rw [if_neg (show ¬ w32 0 = -1 by decide), if_neg (show ¬ ¬ w32 0 = 0 by decide)]
        rw [eJ]; exact F 2 (by omega) (by omega)
      · rw [if_neg (show ¬ d ≤ 0 by omega), if_pos (show ¬ d = 0 by omega)]
        obtain ⟨m17, k1, k2, k3⟩ := m_pre (code := 10) (z := z) hM hs e13 (by omega) (by omega) z0
        have eR : Mo_step_J55 10 z (2528 + 6 * z) mR = Mo_step_J192 10 z (2528 + 6 * z) 1 m17 := by
          unfold Mo_step_J55 Mo_step_J81
          rw [if_neg (show ¬ w32 10 = 8 by decide), if_pos (show ¬ w32 10 = 9 by decide), if_pos (show w32 10 = 10 by decide), k1, if_pos (show ¬ (10 : Int) = 3 by decide)]
        rw [eR]
        exact (end_pr h hs hc q ez ed (by omega) k2 k3).md
    · rw [if_pos g10]
      have en : nsN cd = cd - 2 := by unfold nsN; rw [if_neg g10, if_pos (by omega)]
      rw [en, w32_id (x := cd - 2) (by omega) (by omega), if_pos (show ¬ cd - 2 = 0 by omega)]
      have gc : cd = 3 ∨ cd = 4 ∨ cd = 5 ∨ cd = 6 ∨ cd = 7 ∨ cd = 8 ∨ cd = 9 := by omega
      by_cases g30 : mC 22 1 < 30
      · rcases gc with e | e | e | e | e | e | e <;> subst e
        · obtain ⟨m17, k1, k2, k3⟩ := m_pre (code := 3) (z := z) hM hs e13 (by omega) (by omega) z0
          rw [show (if (3 : Int) = 10 then 0 else 1 : Int) = 1 from rfl] at k2
          rw [show ((3 : Int) - 2) = 1 from rfl]
          have eR : Mo_step_J55 3 z (2528 + 6 * z) mR = Mo_step_J103 3 z (2528 + 6 * z) mR := by
            unfold Mo_step_J55 Mo_step_J81
            rw [if_neg (show ¬ w32 3 = 8 by decide), if_pos (show ¬ w32 3 = 9 by decide), if_neg (show ¬ w32 3 = 10 by decide), z1, w32_id (x := mC 22 1) (by omega) (by omega), if_pos (show ¬ mC 22 1 = 30 by omega)]
          rw [eR, k1, c_J34 (by decide), w32_id (x := mC 22 1) (by omega) (by omega), if_pos g30]
          unfold WayR_readRest
          rw [if_pos (show w32 1 = 1 by decide), if_neg (show ¬ ¬ (3 : Int) = 3 by decide)]
          exact ((ease_pr h hs hc q ez g30 k2 k3).md).md
        · obtain ⟨m17, k1, k2, k3⟩ := m_pre (code := 4) (z := z) hM hs e13 (by omega) (by omega) z0
          rw [show (if (4 : Int) = 10 then 0 else 1 : Int) = 1 from rfl] at k2
          rw [show ((4 : Int) - 2) = 2 from rfl]
          have eR : Mo_step_J55 4 z (2528 + 6 * z) mR = Mo_step_J103 4 z (2528 + 6 * z) mR := by
            unfold Mo_step_J55 Mo_step_J81
            rw [if_neg (show ¬ w32 4 = 8 by decide), if_pos (show ¬ w32 4 = 9 by decide), if_neg (show ¬ w32 4 = 10 by decide), z1, w32_id (x := mC 22 1) (by omega) (by omega), if_pos (show ¬ mC 22 1 = 30 by omega)]
          rw [eR, k1, c_J34 (by decide), w32_id (x := mC 22 1) (by omega) (by omega), if_pos g30]
          unfold WayR_readRest
          rw [if_neg (show ¬ w32 2 = 1 by decide), if_neg (show ¬ w32 2 = 5 by decide), if_neg (show ¬ w32 2 = 6 by decide), if_neg (show ¬ w32 2 = 7 by decide), if_pos (show ¬ (4 : Int) = 3 by decide)]
          exact ((point_pr4 h hs hc q ez g30 k2 k3).md).md
        · obtain ⟨m17, k1, k2, k3⟩ := m_pre (code := 5) (z := z) hM hs e13 (by omega) (by omega) z0
          rw [show (if (5 : Int) = 10 then 0 else 1 : Int) = 1 from rfl] at k2
          rw [show ((5 : Int) - 2) = 3 from rfl]
          have eR : Mo_step_J55 5 z (2528 + 6 * z) mR = Mo_step_J103 5 z (2528 + 6 * z) mR := by
            unfold Mo_step_J55 Mo_step_J81
            rw [if_neg (show ¬ w32 5 = 8 by decide), if_pos (show ¬ w32 5 = 9 by decide), if_neg (show ¬ w32 5 = 10 by decide), z1, w32_id (x := mC 22 1) (by omega) (by omega), if_pos (show ¬ mC 22 1 = 30 by omega)]
          rw [eR, k1, c_J34 (by decide), w32_id (x := mC 22 1) (by omega) (by omega), if_pos g30]
          unfold WayR_readRest
          rw [if_neg (show ¬ w32 3 = 1 by decide), if_neg (show ¬ w32 3 = 5 by decide), if_neg (show ¬ w32 3 = 6 by decide), if_neg (show ¬ w32 3 = 7 by decide), if_pos (show ¬ (5 : Int) = 3 by decide)]
          exact ((point_pr5 h hs hc q ez g30 k2 k3).md).md
        · obtain ⟨m17, k1, k2, k3⟩ := m_pre (code := 6) (z := z) hM hs e13 (by omega) (by omega) z0
          rw [show (if (6 : Int) = 10 then 0 else 1 : Int) = 1 from rfl] at k2
          rw [show ((6 : Int) - 2) = 4 from rfl]
          have eR : Mo_step_J55 6 z (2528 + 6 * z) mR = Mo_step_J103 6 z (2528 + 6 * z) mR := by
            unfold Mo_step_J55 Mo_step_J81
            rw [if_neg (show ¬ w32 6 = 8 by decide), if_pos (show ¬ w32 6 = 9 by decide), if_neg (show ¬ w32 6 = 10 by decide), z1, w32_id (x := mC 22 1) (by omega) (by omega), if_pos (show ¬ mC 22 1 = 30 by omega)]
          rw [eR, k1, c_J34 (by decide), w32_id (x := mC 22 1) (by omega) (by omega), if_pos g30]
          unfold WayR_readRest
          rw [if_neg (show ¬ w32 4 = 1 by decide), if_neg (show ¬ w32 4 = 5 by decide), if_neg (show ¬ w32 4 = 6 by decide), if_neg (show ¬ w32 4 = 7 by decide), if_pos (show ¬ (6 : Int) = 3 by decide)]
          exact ((point_pr6 h hs hc q ez g30 k2 k3).md).md
        · obtain ⟨m17, k1, k2, k3⟩ := m_pre (code := 7) (z := z) hM hs e13 (by omega) (by omega) z0
          rw [show (if (7 : Int) = 10 then 0 else 1 : Int) = 1 from rfl] at k2
          rw [show ((7 : Int) - 2) = 5 from rfl]
          have eR : Mo_step_J55 7 z (2528 + 6 * z) mR = Mo_step_J103 7 z (2528 + 6 * z) mR := by
            unfold Mo_step_J55 Mo_step_J81
            rw [if_neg (show ¬ w32 7 = 8 by decide), if_pos (show ¬ w32 7 = 9 by decide), if_neg (show ¬ w32 7 = 10 by decide), z1, w32_id (x := mC 22 1) (by omega) (by omega), if_pos (show ¬ mC 22 1 = 30 by omega)]
          rw [eR, k1, c_J34 (by decide), w32_id (x := mC 22 1) (by omega) (by omega), if_pos g30]
          unfold WayR_readRest
          rw [if_neg (show ¬ w32 5 = 1 by decide), if_pos (show w32 5 = 5 by decide), if_pos (show ¬ (7 : Int) = 3 by decide)]
          exact ((bend_pr h hs hc q ez g30 k2 k3).md).md
        · obtain ⟨m17, k1, k2, k3⟩ := m_pre (code := 8) (z := z) hM hs e13 (by omega) (by omega) z0
          rw [show (if (8 : Int) = 10 then 0 else 1 : Int) = 1 from rfl] at k2
          rw [show ((8 : Int) - 2) = 6 from rfl]
          have eR : Mo_step_J55 8 z (2528 + 6 * z) mR = if ¬ d = 3 then Mo_step_J103 8 z (2528 + 6 * z) mR else some (((Mo_fails 5 mR).1 % 2), (Mo_fails 5 mR).2) := by
            unfold Mo_step_J55 Mo_step_J67 Mo_step_J81
            rw [if_pos (show w32 8 = 8 by decide), z2, w32_id (x := d) (by omega) (by omega)]
            rw [if_neg (show ¬ w32 8 = 10 by decide), z1, w32_id (x := mC 22 1) (by omega) (by omega), if_pos (show ¬ mC 22 1 = 30 by omega)]
          rw [eR]
          unfold WayR_readStep_J34
          rw [if_neg (show ¬ w32 6 = -1 by decide), if_pos (show ¬ w32 6 = 0 by decide), ed, w32_id (x := d) (by omega) (by omega)]
          by_cases gd : d = 3
          · rw [if_neg (show ¬ d < 3 by omega), if_pos (show w32 6 = 6 by decide), if_neg (show ¬ ¬ d = 3 by omega)]; exact F 5 (by omega) (by omega)
          · rw [if_pos (show d < 3 by omega), if_pos (show ¬ d = 3 by omega), k1, w32_id (x := mC 22 1) (by omega) (by omega), if_pos g30, if_pos (show ¬ (8 : Int) = 3 by decide)]
            unfold WayR_readRest
            rw [if_neg (show ¬ w32 6 = 1 by decide), if_neg (show ¬ w32 6 = 5 by decide), if_pos (show w32 6 = 6 by decide)]
            exact ((until_pr h hs hc q ez ed (by omega) g30 k2 k3).md).md
        · obtain ⟨m17, k1, k2, k3⟩ := m_pre (code := 9) (z := z) hM hs e13 (by omega) (by omega) z0
          rw [show (if (9 : Int) = 10 then 0 else 1 : Int) = 1 from rfl] at k2
          rw [show ((9 : Int) - 2) = 7 from rfl]
          have eR : Mo_step_J55 9 z (2528 + 6 * z) mR = if ¬ d = 3 then Mo_step_J103 9 z (2528 + 6 * z) mR else some (((Mo_fails 5 mR).1 % 2), (Mo_fails 5 mR).2) := by
            unfold Mo_step_J55 Mo_step_J67 Mo_step_J81
            rw [if_neg (show ¬ w32 9 = 8 by decide), if_neg (show ¬ ¬ w32 9 = 9 by decide), z2, w32_id (x := d) (by omega) (by omega)]
            rw [if_neg (show ¬ w32 9 = 10 by decide), z1, w32_id (x := mC 22 1) (by omega) (by omega), if_pos (show ¬ mC 22 1 = 30 by omega)]
          rw [eR]
          unfold WayR_readStep_J34
          rw [if_neg (show ¬ w32 7 = -1 by decide), if_pos (show ¬ w32 7 = 0 by decide), ed, w32_id (x := d) (by omega) (by omega)]
          by_cases gd : d = 3
          · rw [if_neg (show ¬ d < 3 by omega), if_neg (show ¬ w32 7 = 6 by decide), if_neg (show ¬ ¬ w32 7 = 7 by decide), if_neg (show ¬ ¬ d = 3 by omega)]; exact F 5 (by omega) (by omega)
          · rw [if_pos (show d < 3 by omega), if_pos (show ¬ d = 3 by omega), k1, w32_id (x := mC 22 1) (by omega) (by omega), if_pos g30, if_pos (show ¬ (9 : Int) = 3 by decide)]
            unfold WayR_readRest
            rw [if_neg (show ¬ w32 7 = 1 by decide), if_neg (show ¬ w32 7 = 5 by decide), if_neg (show ¬ w32 7 = 6 by decide), if_pos (show w32 7 = 7 by decide)]
            exact (when_pr h hs hc q ez ed (by omega) g30 k2 k3).md
      · have g30' : mC 22 1 = 30 := by omega
        by_cases gd : (cd = 8 ∨ cd = 9) ∧ d = 3
        · have eR : Mo_step_J55 cd z (2528 + 6 * z) mR = some (((Mo_fails 5 mR).1 % 2), (Mo_fails 5 mR).2) := by
            unfold Mo_step_J55 Mo_step_J67
            rw [ewc, z2, w32_id (x := d) (by omega) (by omega), if_neg (show ¬ ¬ d = 3 by omega)]
            by_cases y : cd = 8
            · rw [if_pos y]
            · rw [if_neg y, if_neg (by omega)]
          have eC : WayR_readStep_J34 (cd - 2) mC = some (((Tape_fail 5 mC).1 % 2), (Tape_fail 5 mC).2) := by
            unfold WayR_readStep_J34
            rw [w32_id (x := cd - 2) (by omega) (by omega), if_neg (show ¬ cd - 2 = -1 by omega), if_pos (show ¬ cd - 2 = 0 by omega), ed, w32_id (x := d) (by omega) (by omega), if_neg (show ¬ d < 3 by omega)]
            by_cases y : cd - 2 = 6
            · rw [if_pos y]
            · rw [if_neg y, if_neg (by omega)]
          rw [eR, eC]; exact F 5 (by omega) (by omega)
        · have e81 : Mo_step_J81 cd z (2528 + 6 * z) mR = some (((Mo_fails 6 mR).1 % 2), (Mo_fails 6 mR).2) := by
            unfold Mo_step_J81
            rw [ewc, if_neg g10, z1, w32_id (x := mC 22 1) (by omega) (by omega), if_neg (show ¬ ¬ mC 22 1 = 30 from fun x => x g30')]
          have eR : Mo_step_J55 cd z (2528 + 6 * z) mR = some (((Mo_fails 6 mR).1 % 2), (Mo_fails 6 mR).2) := by
            unfold Mo_step_J55 Mo_step_J67
            rw [ewc, e81, z2, w32_id (x := d) (by omega) (by omega)]
            by_cases y : cd = 8
            · rw [if_pos y, if_pos (by omega)]
            · rw [if_neg y]
              by_cases y9 : cd = 9
              · rw [if_neg (by omega), if_pos (by omega)]
              · rw [if_pos y9]
          have eC : WayR_readStep_J34 (cd - 2) mC = some (((Tape_fail 6 mC).1 % 2), (Tape_fail 6 mC).2) := by
            unfold WayR_readStep_J34
            rw [w32_id (x := cd - 2) (by omega) (by omega), if_neg (show ¬ cd - 2 = -1 by omega), if_pos (show ¬ cd - 2 = 0 by omega), ed, w32_id (x := d) (by omega) (by omega), w32_id (x := mC 22 1) (by omega) (by omega), if_neg g30]
            by_cases y : d < 3
            · rw [if_pos y]
            · rw [if_neg y, if_neg (by omega), if_pos (by omega)]
          rw [eR, eC]; exact F 6 (by omega) (by omega)
  · have hc1 : iwF (wdL B n s) w19 0 = -1 := by rw [wdL_n q]; exact iw19_n
    obtain ⟨mR', y1, y2⟩ := m_fail ht h3 (f := 2) (g := if tkK B n s = 4 then 1 else 2) rfl
    refine PRw.fl ?_ ?_ (ff_b _).1 (ff_b _).2 j2 y2
    · rw [j1]
      show (if ¬ w32 0 = 0 then _ else some (0, mC')) = _
      rw [if_neg (show ¬ ¬ w32 0 = 0 by decide)]
    · rw [hc1, if_pos (show w32 (-1) < 3 by decide), y1]; rfl
