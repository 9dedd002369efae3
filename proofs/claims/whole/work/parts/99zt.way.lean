/-! layer 2: the way, until, when, end -/
theorem c_open {m : Mem} {d z : Int} (ed : m 21 3 = d) (ez : m 22 0 = z) (h0 : 0 ≤ d) (h1 : d < 3) : WayR_open m = st (st m 27 d z) 21 3 (d + 1) := by
  unfold WayR_open
  rw [ed, w32_id (x := d) (by omega) (by omega), if_neg (by omega), if_neg (by omega), ez]
  rw [show (st m 27 d z) 21 3 = d by rw [st_ne _ _ _ (by decide)]; exact ed]
theorem j302 {c z r x d : Int} {m : Mem} (ed : m 75 21 = d) (h0 : 0 ≤ d) (h1 : d < 3) (hc : ¬ w32 c = 10) : Mo_step_J302 c z r x m = mTl x (st (st m 82 d z) 75 21 (d + 1)) := by
  unfold Mo_step_J302
  rw [ed, w32_id (x := d) (by omega) (by omega), if_pos (by omega), j322 hc]
  rw [show (st m 82 d z) 75 21 = d by rw [st_ne _ _ _ (by decide)]; exact ed]
theorem MT_op {B : Nat → Int} {n s : Nat} {m : Mem} (h : MT B n s m) (d z e : Int) : MT B n s (st (st m 82 d z) 75 21 e) := h
theorem Mf_op {m m' : Mem} (h : Mf m m') (d z e : Int) : Mf m (st (st m' 82 d z) 75 21 e) := by
  obtain ⟨a, b, c⟩ := h
  refine ⟨fun x x1 x2 x3 => ?_, fun i hi => ?_, fun i hi => ?_⟩
  · rw [st_ne _ _ _ x1, st_ne _ _ _ x3]; exact a x x1 x2 x3
  · rw [st_eq, if_neg (by omega), st_ne _ _ _ (by decide)]; exact b i hi
  · rw [st_ne _ _ _ (by decide), st_ne _ _ _ (by decide)]; exact c i hi
theorem FM_op {f : Int} {s : Nat} {m m' : Mem} (h : FM f s m m') (d z e : Int) : FM f s m (st (st m' 82 d z) 75 21 e) := ⟨Mf_op h.1 d z e, h.2⟩
theorem until_pr {B : Nat → Int} {n s : Nat} {mC mR m17 : Mem} {z d : Int} (h : WkR B n mC mR) (hs : s ≤ n) (hc : CTk B n s mC) (hK : tkK B n s = 1) (ez : mC 22 0 = z) (ed : mC 21 3 = d) (hd : d < 3) (hst : mC 22 1 < 30) (hpre : PreM mR 8 z 1 m17) (h17 : MT B n (tkS B n (tkE B n s)) m17) : PRw B n s mC mR (WayR_readCount 6 9 (WayR_open (st mC 22 1 (mC 22 1 + 1)))) (Mo_step_J192 8 z (2528 + 6 * z) 1 m17) := by
  obtain ⟨h1, hM, h3, h4, hW⟩ := id h
  have hb := hW.2.1
  rw [ez, ed] at hb
  have hz : 0 ≤ z ∧ z < 60 := by omega
  have fM := hpre.mf hz.1
  have hM17 := hM.mf fM
  have h170 : m17 75 17 = 0 := by rw [hpre.2.1 _ (by omega)]; exact h3
  have ge := tkE_gt B (n := n) (s := s) (by omega)
  have gb := tkE_b B hs
  have gs := tkS_b B gb.2
  have e21R : m17 75 21 = d := by rw [hpre.2.1 _ (by omega), hW.1.2.2]; exact ed
  have e192 : Mo_step_J192 8 z (2528 + 6 * z) 1 m17 = bE (Mo_number (2528 + 6 * z + 1) 1 9 m17) fun x57 m59 => Mo_step_J302 8 z (2528 + 6 * z) x57 m59 := by
    unfold Mo_step_J192
    rw [if_neg (show ¬ w32 8 = 4 by decide), if_neg (show ¬ w32 8 = 5 by decide), if_pos (show ¬ w32 8 = 6 by decide)]
    unfold Mo_step_J259
    rw [if_pos (show ¬ w32 8 = 7 by decide)]
    unfold Mo_step_J272
    rw [if_neg (show ¬ ¬ w32 8 = 8 by decide)]
    have e : (fun x57 m59 => Mo_step_J290 8 z (2528 + 6 * z) x57 m59) = fun x57 m59 => Mo_step_J302 8 z (2528 + 6 * z) x57 m59 := by
      funext x m
      unfold Mo_step_J290
      rw [if_pos (show w32 8 = 8 by decide)]
    rw [e]
  rw [e192, c_open (m := st mC 22 1 (mC 22 1 + 1)) (d := d) (z := z) ed ez (by omega) hd]
  clear e192
  generalize hm1 : st (st (st mC 22 1 (mC 22 1 + 1)) 27 d z) 21 3 (d + 1) = mC1
  have hC1 : Cf mC mC1 := by rw [← hm1]; exact (((Cf.refl mC).st _ _ (by omega)).st _ _ (by omega)).st _ _ (by omega)
  have e5 : mC1 5 = mC 5 := by rw [← hm1]; rfl
  unfold WayR_readCount
  rcases c_tNum (h1.cf hC1) gb.2 (show mC1 5 3 = (tkE B n s : Int) by rw [e5]; exact hc.2.1) (lo := 1) (hi := 9) (by omega) (by omega) with ⟨q, qv, mC3, j1, j2, j3⟩ | ⟨q, qv, mC3, j1, j2⟩ | ⟨q, mC3, j1, j2⟩
  · rcases m_num hM17 gs.2 h17 h170 (a := 2528 + 6 * z + 1) (lo := 1) (hi := 9) (by omega) (by omega) (by omega) with ⟨_, _, mR3, l1, l2, l3⟩ | ⟨_, y, _⟩ | ⟨y, _⟩
    · have ev := j3.2.2.2 q
      have gge := tkE_gt B (n := n) (s := tkS B n (tkE B n s)) (by omega)
      have ggb := tkE_b B gs.2
      generalize hv : tkV B n (tkS B n (tkE B n s)) = v at *
      have ez3 : mC3 22 0 = z := by rw [j2.1 _ (by decide), ← hm1]; exact ez
      obtain ⟨mA, w1, w2, w3, w4, w5, w6, w7⟩ := c_wadd (m := mC3) (t := 6) (f := mC3 5 6) (g := 0) ez3 hz.1 hz.2
      have e21l : mR3 75 21 = d := by rw [l2.2 _ (by decide) (by decide) (by decide) (by decide), st_ne _ _ _ (by decide)]; exact e21R
      rw [j1, bE_some, if_pos (show ¬ w32 1 = 0 by decide), w1, bV_some, l1, bE_some, j302 e21l (by omega) hd (by decide), mTl1]
      rw [ev] at w6
      have hWn : WyB mA (st (st (st m17 76 (2528 + 6 * z + 1) v) 82 d z) 75 21 (d + 1)) := by
        refine hW.opn (t := 6) (f := v) (g := 0) (z := z) (d0 := d) ez ed hd (Or.inl rfl) hst ?_ w3 ?_ (fun i => ?_) (fun i => ?_) (fun i => ?_) ?_ (fun i => ?_) ?_ (fun i i0 i1 => ?_) (fun i => ?_) rfl ?_ ?_
        · rw [w2 21 (by decide) (by decide) (by decide) (by decide), j2.1 _ (by decide), ← hm1]; rfl
        · rw [w4 1 (by decide), j2.1 _ (by decide), ← hm1]; rfl
        · rw [w5, j2.1 _ (by decide), ← hm1]; rfl
        · rw [w6, j2.1 _ (by decide), ← hm1]; rfl
        · rw [w7, j2.1 _ (by decide), ← hm1]; rfl
        · rw [w2 26 (by decide) (by decide) (by decide) (by decide), j2.1 _ (by decide), ← hm1]; rfl
        · rw [w2 27 (by decide) (by decide) (by decide) (by decide), j2.1 _ (by decide), ← hm1, st_ne _ _ _ (by decide), st_eq]; rfl
        · show (st m17 76 (2528 + 6 * z + 1) v) 76 2334 = _
          rw [st_eq, if_neg (by omega)]; exact hpre.2.2.2.2.2.1
        · show (st m17 76 (2528 + 6 * z + 1) v) 76 i = _
          rw [st_eq, if_neg (by omega)]; exact hpre.2.2.2.2.2.2 i (by omega) (by omega)
        · rw [st_ne _ _ _ (by decide), st_eq, st_ne _ _ _ (by decide), hpre.1 82 (by decide) (by decide)]
        · exact hpre.2.2.1
        · refine ⟨⟨by omega, by omega, ?_⟩, fun _ => ⟨?_, by omega, by omega, fun y => by omega⟩, fun y => by omega, fun y => by omega, fun y => by omega⟩
          · show (st m17 76 (2528 + 6 * z + 1) v) 76 (2528 + 6 * z) = _
            rw [st_eq, if_neg (by omega), hpre.2.2.2.1]; rfl
          · show v = (st m17 76 (2528 + 6 * z + 1) v) 76 (2528 + 6 * z + 1)
            rw [st_eq, if_pos rfl]
      have e5A : mA 5 = mC3 5 := w2 5 (by decide) (by decide) (by decide) (by decide)
      have cA : Cf mC mA := (hC1.trans j2.cf).trans ⟨fun c a b => w2 c (by omega) (by omega) (by omega) (by omega), fun i _ => by rw [e5A]⟩
      have tkR : Tk75 (st (st (st m17 76 (2528 + 6 * z + 1) v) 82 d z) 75 21 (d + 1)) (st (st mR3 82 d z) 75 21 (d + 1)) := by
        refine ⟨fun c hc75 => ?_, fun i i1 i2 i3 i4 => ?_⟩
        · rw [st_ne _ _ _ hc75, st_ne _ _ _ hc75]
          by_cases y : c = 82
          · subst y
            funext i
            rw [st_eq, st_eq, l2.1 82 (by decide)]
          · rw [st_ne _ _ _ y, st_ne _ _ _ y]; exact l2.1 c hc75
        · rw [st_eq, st_eq]
          by_cases y : i = 21
          · rw [if_pos y, if_pos y]
          · rw [if_neg y, if_neg y, st_ne _ _ _ (by decide), st_ne _ _ _ (by decide)]; exact l2.2 i i1 i2 i3 i4
      have hk : WkR B n mA (st (st (st m17 76 (2528 + 6 * z + 1) v) 82 d z) 75 21 (d + 1)) := by
        refine ⟨h1.cf cA, hM17.mf (Mf_op ((Mf.refl _).s76 _ (by omega)) _ _ _), h170, ⟨?_, ?_, ?_⟩, hWn⟩
        · rw [e5A, j2.2 _ (by decide) (by decide) (by decide) (by decide), e5]; exact h4.1
        · rw [e5A, j2.2 _ (by decide) (by decide) (by decide) (by decide), e5]; exact h4.2.1
        · exact (hpre.2.1 16 (by omega)).trans h4.2.2
      exact sgW (mC0 := mC) (mR0 := mR) (hk.tk (Tk5.refl _) tkR) ggb.2 (by omega) (by rw [e5A]; exact j3.2.1) (MT_op l3 _ _ _) cA (Mf_op ((fM.s76 _ (by omega)).trans l2.mf) _ _ _)
    · exact absurd qv y
    · exact absurd q y
  · rcases m_num hM17 gs.2 h17 h170 (a := 2528 + 6 * z + 1) (lo := 1) (hi := 9) (by omega) (by omega) (by omega) with ⟨_, y, _⟩ | ⟨_, _, mR3, l1, l2⟩ | ⟨y, _⟩
    · exact absurd y qv
    · have l21 : ∃ e : Int, mR3 75 21 = e := ⟨_, rfl⟩
      have e21l : mR3 75 21 = d := by
        obtain ⟨x1, x2⟩ := m_fail h17 h170 (f := 4) (g := 4) (by rw [q]; rfl)
        have := x2.1
        have e : Mo_number (2528 + 6 * z + 1) 1 9 m17 = some (0, x1) := by
          have hv := tkV_b q
          unfold Mo_number
          rw [if_pos ((m_isN h17).mpr q), h17.2.2.2 q, w32_id (x := tkV B n (tkS B n (tkE B n s))) (by omega) (by omega), show w32 1 = 1 by decide, show w32 9 = 9 by decide, this]
          by_cases y : tkV B n (tkS B n (tkE B n s)) < 1
          · rw [if_pos y]; rfl
          · rw [if_neg y, if_neg (by omega)]; rfl
        rw [l1] at e
        have e2 := (Prod.mk.inj (Option.some.inj e)).2
        rw [e2]
        have : x1 = (Mo_fails 4 m17).2 := by rw [this]
        rw [this]
        unfold Mo_fails
        split
        · exact e21R
        · exact e21R
      refine PRw.fl ?_ ?_ (by omega) (by omega) (j2.cf hC1) (FM_op (l2.mf fM) d z (d + 1))
      · rw [j1, bE_some, if_neg (show ¬ ¬ w32 0 = 0 by decide)]
      · rw [l1, bE_some, j302 e21l (by omega) hd (by decide), mTl0]
    · exact absurd q y
  · rcases m_num hM17 gs.2 h17 h170 (a := 2528 + 6 * z + 1) (lo := 1) (hi := 9) (by omega) (by omega) (by omega) with ⟨y, _⟩ | ⟨y, _⟩ | ⟨_, mR3, l1, l2⟩
    · exact absurd y q
    · exact absurd y q
    · have e21l : mR3 75 21 = d := by
        have e : Mo_number (2528 + 6 * z + 1) 1 9 m17 = some (((Mo_fails 2 m17).1 % 2), (Mo_fails 2 m17).2) := by
          unfold Mo_number
          rw [if_neg (fun x => q ((m_isN h17).mp x))]
        rw [l1] at e
        have e2 := (Prod.mk.inj (Option.some.inj e)).2
        rw [e2]
        unfold Mo_fails
        split
        · exact e21R
        · exact e21R
      refine PRw.fl ?_ ?_ (ff_b _).1 (ff_b _).2 (j2.cf hC1) (FM_op (l2.mf fM) d z (d + 1))
      · rw [j1, bE_some, if_neg (show ¬ ¬ w32 0 = 0 by decide)]
      · rw [l1, bE_some, j302 e21l (by omega) hd (by decide), mTl0]
theorem when_pr {B : Nat → Int} {n s : Nat} {mC mR m17 : Mem} {z d : Int} (h : WkR B n mC mR) (hs : s ≤ n) (hc : CTk B n s mC) (hK : tkK B n s = 1) (ez : mC 22 0 = z) (ed : mC 21 3 = d) (hd : d < 3) (hst : mC 22 1 < 30) (hpre : PreM mR 9 z 1 m17) (h17 : MT B n (tkS B n (tkE B n s)) m17) : PRw B n s mC mR (bV (Way_add 22 7 0 0 (WayR_open (st mC 22 1 (mC 22 1 + 1)))) fun m15 => (bE (Tape_takeKind 3 m15) fun x16 m18 => some ((x16 % 2), m18))) (Mo_step_J192 9 z (2528 + 6 * z) 1 m17) := by
  obtain ⟨h1, hM, h3, h4, hW⟩ := id h
  have hb := hW.2.1
  rw [ez, ed] at hb
  have hz : 0 ≤ z ∧ z < 60 := by omega
  have fM := hpre.mf hz.1
  have h170 : m17 75 17 = 0 := by rw [hpre.2.1 _ (by omega)]; exact h3
  have ge := tkE_gt B (n := n) (s := s) (by omega)
  have gb := tkE_b B hs
  have e21R : m17 75 21 = d := by rw [hpre.2.1 _ (by omega), hW.1.2.2]; exact ed
  have e192 : Mo_step_J192 9 z (2528 + 6 * z) 1 m17 = mEn2 (st (st m17 82 d z) 75 21 (d + 1)) := by
    unfold Mo_step_J192
    rw [if_neg (show ¬ w32 9 = 4 by decide), if_neg (show ¬ w32 9 = 5 by decide), if_pos (show ¬ w32 9 = 6 by decide)]
    unfold Mo_step_J259
    rw [if_pos (show ¬ w32 9 = 7 by decide)]
    unfold Mo_step_J272
    rw [if_pos (show ¬ w32 9 = 8 by decide)]
    unfold Mo_step_J290
    rw [if_neg (show ¬ w32 9 = 8 by decide), if_neg (show ¬ ¬ w32 9 = 9 by decide), j302 e21R (by omega) hd (by decide), mTl1]
  rw [e192, c_open (m := st mC 22 1 (mC 22 1 + 1)) (d := d) (z := z) ed ez (by omega) hd]
  clear e192
  generalize hm1 : st (st (st mC 22 1 (mC 22 1 + 1)) 27 d z) 21 3 (d + 1) = mC1
  have hC1 : Cf mC mC1 := by rw [← hm1]; exact (((Cf.refl mC).st _ _ (by omega)).st _ _ (by omega)).st _ _ (by omega)
  have e5 : mC1 5 = mC 5 := by rw [← hm1]; rfl
  obtain ⟨mA, w1, w2, w3, w4, w5, w6, w7⟩ := c_wadd (m := mC1) (t := 7) (f := 0) (g := 0) (z := z) (by rw [← hm1]; exact ez) hz.1 hz.2
  rw [w1, bV_some]
  have hWn : WyB mA (st (st m17 82 d z) 75 21 (d + 1)) := by
    refine hW.opn (t := 7) (f := 0) (g := 0) (z := z) (d0 := d) ez ed hd (Or.inr rfl) hst ?_ w3 ?_ (fun i => ?_) (fun i => ?_) (fun i => ?_) ?_ (fun i => ?_) ?_ (fun i i0 i1 => ?_) (fun i => ?_) rfl ?_ ?_
    · rw [w2 21 (by decide) (by decide) (by decide) (by decide), ← hm1]; rfl
    · rw [w4 1 (by decide), ← hm1]; rfl
    · rw [w5, ← hm1]; rfl
    · rw [w6, ← hm1]; rfl
    · rw [w7, ← hm1]; rfl
    · rw [w2 26 (by decide) (by decide) (by decide) (by decide), ← hm1]; rfl
    · rw [w2 27 (by decide) (by decide) (by decide) (by decide), ← hm1, st_ne _ _ _ (by decide), st_eq]; rfl
    · exact hpre.2.2.2.2.2.1
    · exact hpre.2.2.2.2.2.2 i (by omega) (by omega)
    · rw [st_ne _ _ _ (by decide), st_eq, hpre.1 82 (by decide) (by decide)]
    · exact hpre.2.2.1
    · refine ⟨⟨by omega, by omega, ?_⟩, fun y => by omega, fun y => by omega, fun y => by omega, fun y => by omega⟩
      show m17 76 (2528 + 6 * z) = _
      rw [hpre.2.2.2.1]; rfl
  have e5A : mA 5 = mC 5 := by rw [w2 5 (by decide) (by decide) (by decide) (by decide), e5]
  have cA : Cf mC mA := hC1.trans ⟨fun c a b => w2 c (by omega) (by omega) (by omega) (by omega), fun i _ => by rw [w2 5 (by decide) (by decide) (by decide) (by decide)]⟩
  have hk : WkR B n mA (st (st m17 82 d z) 75 21 (d + 1)) := by
    refine ⟨h1.cf cA, hM.mf (Mf_op fM _ _ _), h170, ⟨?_, ?_, ?_⟩, hWn⟩
    · rw [e5A]; exact h4.1
    · rw [e5A]; exact h4.2.1
    · exact (hpre.2.1 16 (by omega)).trans h4.2.2
  exact sgW (mC0 := mC) (mR0 := mR) hk gb.2 (by omega) (by rw [e5A]; exact hc.2.1) (MT_op h17 _ _ _) cA (Mf_op fM _ _ _)
theorem end_pr {B : Nat → Int} {n s : Nat} {mC mR m17 : Mem} {z d : Int} (h : WkR B n mC mR) (hs : s ≤ n) (hc : CTk B n s mC) (hK : tkK B n s = 1) (ez : mC 22 0 = z) (ed : mC 21 3 = d) (hd : 0 < d) (hpre : PreM mR 10 z 0 m17) (h17 : MT B n (tkS B n (tkE B n s)) m17) : PRw B n s mC mR (WayR_close mC) (Mo_step_J192 10 z (2528 + 6 * z) 1 m17) := by
  obtain ⟨h1, hM, h3, h4, hW⟩ := id h
  have hb := hW.2.1
  rw [ez, ed] at hb
  have hz : 0 ≤ z ∧ z < 60 := by omega
  have fM := hpre.mf hz.1
  have h170 : m17 75 17 = 0 := by rw [hpre.2.1 _ (by omega)]; exact h3
  have ge := tkE_gt B (n := n) (s := s) (by omega)
  have gb := tkE_b B hs
  have e21R : m17 75 21 = d := by rw [hpre.2.1 _ (by omega), hW.1.2.2]; exact ed
  have hst := hW.2.2.1 (d - 1) (by omega) (by rw [ed]; omega)
  rw [ez] at hst
  obtain ⟨b0, eb0⟩ : ∃ b0, mC 27 (d - 1) = b0 := ⟨_, rfl⟩
  rw [eb0] at hst
  have e82 : m17 82 (d - 1) = b0 := by rw [hpre.1 82 (by decide) (by decide)]; exact hst.1
  generalize hmR1 : st (st (st m17 75 21 (d - 1)) 76 (2528 + 6 * z + 5) b0) 76 (2528 + 6 * b0 + 5) z = mR1
  have e192 : Mo_step_J192 10 z (2528 + 6 * z) 1 m17 = mEn2 mR1 := by
    unfold Mo_step_J192
    rw [if_neg (show ¬ w32 10 = 4 by decide), if_neg (show ¬ w32 10 = 5 by decide), if_pos (show ¬ w32 10 = 6 by decide)]
    unfold Mo_step_J259
    rw [if_pos (show ¬ w32 10 = 7 by decide)]
    unfold Mo_step_J272
    rw [if_pos (show ¬ w32 10 = 8 by decide)]
    unfold Mo_step_J290
    rw [if_neg (show ¬ w32 10 = 8 by decide), if_pos (show ¬ w32 10 = 9 by decide)]
    unfold Mo_step_J322
    rw [if_neg (show ¬ ¬ w32 10 = 10 by decide), e21R]
    have x1 : (st m17 75 21 (d - 1)) 75 21 = d - 1 := by rw [st_eq, if_pos rfl]
    have x2 : (st m17 75 21 (d - 1)) 82 (d - 1) = b0 := by rw [st_ne _ _ _ (by decide)]; exact e82
    rw [x1, w32_id (x := d - 1) (by omega) (by omega), if_pos (show 0 ≤ d - 1 ∧ d - 1 < 3 by omega), w32_id (x := 2528 + 6 * z + 5) (by omega) (by omega), if_pos (show 0 ≤ 2528 + 6 * z + 5 ∧ 2528 + 6 * z + 5 < 2900 by omega), x2]
    have x3 : (st (st m17 75 21 (d - 1)) 76 (2528 + 6 * z + 5) b0) 75 21 = d - 1 := by rw [st_ne _ _ _ (by decide)]; exact x1
    have x4 : (st (st m17 75 21 (d - 1)) 76 (2528 + 6 * z + 5) b0) 82 (d - 1) = b0 := by rw [st_ne _ _ _ (by decide)]; exact x2
    generalize hm45 : st (st m17 75 21 (d - 1)) 76 (2528 + 6 * z + 5) b0 = m45 at x3 x4 hmR1 ⊢
    show (if 0 ≤ w32 (m45 75 21) ∧ w32 (m45 75 21) < 3 then _ else none) = _
    rw [x3, w32_id (x := d - 1) (by omega) (by omega), if_pos (show 0 ≤ d - 1 ∧ d - 1 < 3 by omega), x4, w32_id (x := 2528 + 6 * b0 + 5) (by omega) (by omega), if_pos (show 0 ≤ 2528 + 6 * b0 + 5 ∧ 2528 + 6 * b0 + 5 < 2900 by omega), if_neg (show ¬ w32 1 = 0 by decide), hmR1]
    rfl
  have eCl : WayR_close mC = (bV (Way_add 22 0 0 0 (st (st (st mC 21 3 (d - 1)) 26 b0 z) 26 z b0)) fun m19 => (bE (Tape_takeKind 3 m19) fun x20 m22 => some ((x20 % 2), m22))) := by
    unfold WayR_close
    have y1 : (st mC 21 3 (d - 1)) 21 3 = d - 1 := by rw [st_eq, if_pos rfl]
    have y2 : (st mC 21 3 (d - 1)) 27 (d - 1) = b0 := by rw [st_ne _ _ _ (by decide)]; exact eb0
    have y3 : (st mC 21 3 (d - 1)) 22 0 = z := by rw [st_ne _ _ _ (by decide)]; exact ez
    rw [ed, w32_id (x := d) (by omega) (by omega), if_neg (show ¬ d ≤ 0 by omega), if_neg (show ¬ 3 < d by omega), y1, w32_id (x := d - 1) (by omega) (by omega), if_pos (show 0 ≤ d - 1 ∧ d - 1 < 3 by omega), y2, y3]
    unfold ltM Way_pair
    rw [w32_id (x := b0) (by omega) (by omega), w32_id (x := z) (by omega) (by omega), if_neg (show ¬ b0 < 0 by omega), if_neg (show ¬ 60 ≤ b0 by omega), if_neg (show ¬ z < 0 by omega), if_neg (show ¬ 60 ≤ z by omega)]
  rw [e192, eCl]
  clear e192 eCl
  generalize hm1 : st (st (st mC 21 3 (d - 1)) 26 b0 z) 26 z b0 = mC1
  have hC1 : Cf mC mC1 := by rw [← hm1]; exact (((Cf.refl mC).st _ _ (by omega)).st _ _ (by omega)).st _ _ (by omega)
  have e5 : mC1 5 = mC 5 := by rw [← hm1]; rfl
  obtain ⟨mA, w1, w2, w3, w4, w5, w6, w7⟩ := c_wadd (m := mC1) (t := 0) (f := 0) (g := 0) (z := z) (by rw [← hm1]; exact ez) hz.1 hz.2
  rw [w1, bV_some]
  have fM1 : Mf mR mR1 := by
    rw [← hmR1]
    exact ((fM.s75 (i := 21) (d - 1) (by omega)).s76 _ (by omega)).s76 _ (by omega)
  have r76 : ∀ i, i ≠ 2528 + 6 * z + 5 → i ≠ 2528 + 6 * b0 + 5 → mR1 76 i = m17 76 i := fun i i1 i2 => by
    rw [← hmR1, st_eq, if_neg i2, st_eq, if_neg i1, st_ne _ _ _ (by decide)]
  have hWn : WyB mA mR1 := by
    refine hW.cls (z := z) (d0 := d) (b0 := b0) ez ed hd eb0 ?_ w3 ?_ (fun i => ?_) (fun i hi => ?_) (fun i hi => ?_) (fun i => ?_) ?_ ?_ ?_ ?_ ?_ (fun i i0 i1 i2 => ?_) ?_ ?_ ?_
    · rw [w2 21 (by decide) (by decide) (by decide) (by decide), ← hm1]; rfl
    · rw [w4 1 (by decide), ← hm1]; rfl
    · rw [w5, ← hm1]; rfl
    · rw [w6, if_neg hi, ← hm1]; rfl
    · rw [w7, if_neg hi, ← hm1]; rfl
    · rw [w2 26 (by decide) (by decide) (by decide) (by decide), ← hm1, st_eq, st_eq, st_ne _ _ _ (by decide)]
    · rw [w2 27 (by decide) (by decide) (by decide) (by decide), ← hm1]; rfl
    · rw [r76 _ (by omega) (by omega)]; exact hpre.2.2.2.2.2.1
    · rw [r76 _ (by omega) (by omega)]; exact hpre.2.2.2.1
    · rw [← hmR1, st_eq, if_neg (by omega), st_eq, if_pos rfl]
    · rw [← hmR1, st_eq, if_pos rfl]
    · rw [r76 i (by omega) i2]; exact hpre.2.2.2.2.2.2 i (by omega) (by omega)
    · rw [← hmR1, st_ne _ _ _ (by decide), st_ne _ _ _ (by decide), st_ne _ _ _ (by decide)]; exact hpre.1 82 (by decide) (by decide)
    · rw [← hmR1]; rfl
    · rw [← hmR1]
      show m17 75 22 = mR 75 22
      rw [hpre.2.2.1]; omega
  have e5A : mA 5 = mC 5 := by rw [w2 5 (by decide) (by decide) (by decide) (by decide), e5]
  have cA : Cf mC mA := hC1.trans ⟨fun c a b => w2 c (by omega) (by omega) (by omega) (by omega), fun i _ => by rw [w2 5 (by decide) (by decide) (by decide) (by decide)]⟩
  have hk : WkR B n mA mR1 := by
    refine ⟨h1.cf cA, hM.mf fM1, by rw [← hmR1]; exact h170, ⟨?_, ?_, ?_⟩, hWn⟩
    · rw [e5A]; exact h4.1
    · rw [e5A]; exact h4.2.1
    · rw [← hmR1]; exact (hpre.2.1 16 (by omega)).trans h4.2.2
  have htR : MT B n (tkS B n (tkE B n s)) mR1 := by rw [← hmR1]; exact h17
  exact sgW (mC0 := mC) (mR0 := mR) hk gb.2 (by omega) (by rw [e5A]; exact hc.2.1) htR cA fM1
