/-! layer 2: the book, the order of views -/
theorem m_key {B : Nat → Int} {n s : Nat} {m : Mem} (h : TpM B n m) (hs : s ≤ n) (ht : MT B n s m) : Mo_keyWord m = some (iwF (wdL B n s) w18 0) := by
  unfold Mo_keyWord
  rw [m_in18 h hs ht, bP_some]
theorem code_b (W : List Int) : -1 ≤ iwF W w18 0 ∧ iwF W w18 0 < 10 := by
  have := iwF_b (W := W) w18 0 (by omega)
  have e : (w18.length : Int) = 10 := by decide
  omega
/-- both have a token in hand that must be the sign -/
theorem sgH {B : Nat → Int} {n tp s0 s : Nat} {mC mR mC0 mR0 : Mem} (h : BkR B n tp mC mR) (h2 : N2 mC mR) (hs0 : s0 ≤ s) (hs : s ≤ n) (hc : CTk B n s mC) (ht : MT B n s mR) (fC : Cf mC0 mC) (fR : Mf mR0 mR) : PR B n s0 mC0 mR0 (some (((Tape_isKind 3 mC).1 % 2), (Tape_isKind 3 mC).2)) (mEnd mR) := by
  obtain ⟨h1, hM, h3, _⟩ := id h
  rcases c_isK hc (k := 3) (by omega) with ⟨q, j⟩ | ⟨q, mC', j1, j2⟩
  · have ge := tkE_gt B (n := n) (s := s) (by omega)
    have gb := tkE_b B hs
    obtain ⟨mR', k1, k2, k3⟩ := m_next hM hs (ht.2.2.1 (by omega))
    left
    refine ⟨tkE B n s, tp, mC, mR', by rw [j]; rfl, ?_, by omega, gb.2, hc.2.1, k3, h.tk (Tk5.refl _) k2, h2.tk (Tk5.refl _) k2, fC, fR.trans k2.mf⟩
    unfold mEnd
    rw [if_pos ((m_isS ht).mpr q), k1, bV_some]
  · obtain ⟨mR', y1, y2⟩ := m_fail ht h3 (f := 2) (g := if tkK B n s = 4 then 1 else 2) rfl
    right
    refine ⟨_, s, mC', mR', by rw [j1]; rfl, ?_, (ff_b _).1, (ff_b _).2, j2.cf fC, y2.mf fR⟩
    unfold mEnd
    rw [if_neg (fun z => q ((m_isS ht).mp z)), y1]; rfl
theorem order_loop {B : Nat → Int} {n tp s0 : Nat} {mC0 mR0 : Mem} : ∀ (r k fC fR s : Nat) (mC mR : Mem), k + r = 6 → r + 1 < fC → r + 1 < fR → s0 ≤ s → s ≤ n → BkR B n tp mC mR → mC 17 6 = (k : Int) → NV k mC mR → CTk B n s mC → MT B n s mR → (k = 0 → tkK B n s = 1) → Cf mC0 mC → Mf mR0 mR → PR B n s0 mC0 mR0 (BookR_readOrder_L31 fC (k : Int) mC) (ptE (Mo_anOrder_L6 fR (k : Int) mR)) := by
  intro r
  induction r with
  | zero =>
    intro k fC fR s mC mR hk hfC hfR hs0 hs h e6 hv hc ht h0 fC0 fR0
    obtain ⟨h1, hM, h3, h4, h5, hN⟩ := id h
    have eb := tkK_b B n s
    have cb := code_b (wdL B n s)
    match fC, hfC, fR, hfR with
    | fC + 1, hfC, fR + 1, hfR =>
      rw [BookR_readOrder_L31, Mo_anOrder_L6, m_key hM hs ht, bP_some, bP_some, w32_id (x := (k : Int)) (by omega) (by omega), if_neg (show ¬ 6 < (k : Int) by omega), hc.2.2.1, w32_id (x := tkK B n s) (by omega) (by omega), w32_id (x := iwF (wdL B n s) w18 0) (by omega) (by omega)]
      have h2 : N2 mC (st mR 76 2326 (k : Int)) := by
        refine ⟨by rw [st_eq, if_pos rfl]; exact e6.symm, by omega, by omega, ?_⟩
        rw [e6]
        exact hv.of rfl (fun i i0 i1 => by rw [st_eq, if_neg (by omega)])
      have hB : BkR B n tp mC (st mR 76 2326 (k : Int)) := ⟨h1, hM.mf ((Mf.refl mR).s76 _ (by omega)), h3, h4, h5, hN.of (fun _ _ => rfl) rfl rfl (fun i i0 i1 i2 => by rw [st_eq, if_neg (by omega)])⟩
      by_cases q : tkK B n s = 1
      · rw [if_neg (show ¬ ¬ tkK B n s = 1 from fun z => z q), c_nView h1 hs hc, bP_some]
        by_cases g : 0 ≤ iwF (wdL B n s) w18 0 ∧ iwF (wdL B n s) w18 0 ≤ 2
        · rw [if_pos g, w32_id (x := iwF (wdL B n s) w18 0) (by omega) (by omega), if_pos (show ¬ iwF (wdL B n s) w18 0 = -1 by omega), e6, w32_id (x := (k : Int)) (by omega) (by omega), if_neg (show ¬ (k : Int) < 6 by omega), if_neg (show ¬ iwF (wdL B n s) w18 0 < 0 by omega), if_neg (show ¬ 3 ≤ iwF (wdL B n s) w18 0 by omega), if_neg (show ¬ ¬ (k : Int) = 6 by omega)]
          obtain ⟨mC', x1, x2⟩ := c_fail hc 6
          obtain ⟨mR', y1, y2⟩ := m_fail ht h3 (f := 6) (g := 6) (by rw [q]; rfl)
          right
          refine ⟨6, s, mC', mR', by rw [x1]; rfl, ?_, by omega, by omega, x2.cf fC0, y2.mf fR0⟩
          rw [y1]; exact ptE_0 mR'
        · rw [if_neg g, if_neg (show ¬ ¬ w32 (-1) = -1 by decide)]
          have e : (if iwF (wdL B n s) w18 0 < 0 then (if 0 < (k : Int) then some ((1 : Int), (st mR 76 2326 (k : Int))) else some ((if (w32 (Mo_fails 2 (st mR 76 2326 (k : Int))).1) = 0 then 0 else 1 : Int), (Mo_fails 2 (st mR 76 2326 (k : Int))).2)) else (if 3 ≤ iwF (wdL B n s) w18 0 then (if 0 < (k : Int) then some (1, (st mR 76 2326 (k : Int))) else some ((if (w32 (Mo_fails 2 (st mR 76 2326 (k : Int))).1) = 0 then 0 else 1 : Int), (Mo_fails 2 (st mR 76 2326 (k : Int))).2)) else (if ¬ (k : Int) = 6 then (bP (Mo_keyWord mR) fun x20 => (if 0 ≤ (w32 (2327 + (k : Int))) ∧ (w32 (2327 + (k : Int))) < 2900 then (bV (Mo_ahead (st mR 76 (w32 (2327 + (k : Int))) x20)) fun m24 => (Mo_anOrder_L6 fR ((k : Int) + 1) m24)) else none)) else some (((Mo_fails 6 mR).1 % 2), (Mo_fails 6 mR).2)))) = some ((1 : Int), st mR 76 2326 (k : Int)) := by
            by_cases y : iwF (wdL B n s) w18 0 < 0
            · rw [if_pos y, if_pos (by omega)]
            · rw [if_neg y, if_pos (by omega), if_pos (by omega)]
          rw [m_key hM hs ht] at e
          rw [bP_some] at e ⊢
          rw [e, ptE_1]
          obtain ⟨mC', x1, x2⟩ := c_fail hc 2
          obtain ⟨mR', y1, y2⟩ := m_fail (m := st mR 76 2326 (k : Int)) ht h3 (f := 2) (g := 2) (by rw [q]; rfl)
          right
          refine ⟨2, s, mC', mR', by rw [x1]; rfl, ?_, by omega, by omega, x2.cf fC0, y2.mf (fR0.s76 _ (by omega))⟩
          unfold mEnd
          rw [if_neg (fun z => by have := (m_isS (m := st mR 76 2326 (k : Int)) ht).mp z; omega), y1]; rfl
      · have hc1 : iwF (wdL B n s) w18 0 = -1 := by rw [wdL_n q]; exact iw18_n
        rw [if_pos q, hc1, if_pos (show (-1 : Int) < 0 by decide), if_pos (show 0 < (k : Int) by omega), ptE_1]
        exact sgH hB h2 hs0 hs hc ht fC0 (fR0.s76 _ (by omega))
  | succ r ih =>
    intro k fC fR s mC mR hk hfC hfR hs0 hs h e6 hv hc ht h0 fC0 fR0
    obtain ⟨h1, hM, h3, h4, h5, hN⟩ := id h
    have eb := tkK_b B n s
    have cb := code_b (wdL B n s)
    match fC, hfC, fR, hfR with
    | fC + 1, hfC, fR + 1, hfR =>
      rw [BookR_readOrder_L31, Mo_anOrder_L6, m_key hM hs ht, bP_some, bP_some, w32_id (x := (k : Int)) (by omega) (by omega), if_neg (show ¬ 6 < (k : Int) by omega), hc.2.2.1, w32_id (x := tkK B n s) (by omega) (by omega), w32_id (x := iwF (wdL B n s) w18 0) (by omega) (by omega)]
      have hB : BkR B n tp mC (st mR 76 2326 (k : Int)) := ⟨h1, hM.mf ((Mf.refl mR).s76 _ (by omega)), h3, h4, h5, hN.of (fun _ _ => rfl) rfl rfl (fun i i0 i1 i2 => by rw [st_eq, if_neg (by omega)])⟩
      by_cases q : tkK B n s = 1
      · rw [if_neg (show ¬ ¬ tkK B n s = 1 from fun z => z q), c_nView h1 hs hc, bP_some, bP_some]
        by_cases g : 0 ≤ iwF (wdL B n s) w18 0 ∧ iwF (wdL B n s) w18 0 ≤ 2
        · rw [if_pos g, w32_id (x := iwF (wdL B n s) w18 0) (by omega) (by omega), if_pos (show ¬ iwF (wdL B n s) w18 0 = -1 by omega), e6, w32_id (x := (k : Int)) (by omega) (by omega), if_pos (show (k : Int) < 6 by omega), if_neg (show ¬ iwF (wdL B n s) w18 0 < 0 by omega), if_neg (show ¬ 3 ≤ iwF (wdL B n s) w18 0 by omega), if_pos (show ¬ (k : Int) = 6 by omega), w32_id (x := 2327 + (k : Int)) (by omega) (by omega), if_pos (by omega)]
          generalize hcd : iwF (wdL B n s) w18 0 = cd at *
          have ge := tkE_gt B (n := n) (s := s) (by omega)
          have gb := tkE_b B hs
          have gs := tkS_b B gb.2
          have ea : Sheet_addView 17 cd mC = st (st mC 18 (k : Int) cd) 17 6 ((k : Int) + 1) := by
            unfold Sheet_addView
            rw [e6, w32_id (x := (k : Int)) (by omega) (by omega), if_neg (by omega), if_neg (by omega), show (st mC (17 + 1) (k : Int) cd) 17 6 = mC 17 6 from rfl, e6]
          rw [ea]
          have hla : TpC B n (st (st mC 18 (k : Int) cd) 17 6 ((k : Int) + 1)) := h1.cf (((Cf.refl mC).st _ _ (by omega)).st _ _ (by omega))
          have hlm : TpM B n (st mR 76 (2327 + (k : Int)) cd) := hM.mf ((Mf.refl mR).s76 _ (by omega))
          have hB' : BkR B n tp (st (st mC 18 (k : Int) cd) 17 6 ((k : Int) + 1)) (st mR 76 (2327 + (k : Int)) cd) := by
            refine ⟨hla, hlm, h3, h4, h5, hN.of (fun i hi => ?_) rfl rfl (fun i i0 i1 i2 => by rw [st_eq, if_neg (by omega)])⟩
            rw [st_eq, if_neg (by omega), st_ne _ _ _ (by decide)]
          obtain ⟨mC2, j1, j2, j3⟩ := c_adv hla gb.2 (show (st (st mC 18 (k : Int) cd) 17 6 ((k : Int) + 1)) 5 3 = (tkE B n s : Int) from hc.2.1)
          obtain ⟨mR2, l1, l2, l3⟩ := m_next hlm hs (show (st mR 76 (2327 + (k : Int)) cd) 75 13 = (tkE B n s : Int) from ht.2.2.1 (by omega))
          rw [j1, bV_some, l1, bV_some, show (k : Int) + 1 = ((k + 1 : Nat) : Int) by omega]
          refine ih (k + 1) fC fR (tkS B n (tkE B n s)) mC2 mR2 (by omega) (by omega) (by omega) (by omega) gs.2 (hB'.tk j2 l2) ?_ ?_ j3 l3 (by omega) (((fC0.st _ _ (by omega)).st _ _ (by omega)).trans j2.cf) ((fR0.s76 _ (by omega)).trans l2.mf)
          · rw [j2.1 _ (by decide), st_eq, if_pos rfl]; omega
          · intro j j0 j1'
            rw [l2.1 _ (by decide), j2.1 _ (by decide), st_ne (st mC 18 (k : Int) cd) (c := 17) (c' := 18) _ _ (by decide), st_eq, st_eq]
            by_cases z : j = (k : Int)
            · rw [if_pos (by omega), if_pos z]; exact ⟨rfl, g⟩
            · rw [if_neg (by omega), if_neg z]; exact hv j j0 (by omega)
        · rw [if_neg g, if_neg (show ¬ ¬ w32 (-1) = -1 by decide)]
          obtain ⟨mC', x1, x2⟩ := c_fail hc 2
          obtain ⟨mR', y1, y2⟩ := m_fail (m := st mR 76 2326 (k : Int)) ht h3 (f := 2) (g := 2) (by rw [q]; rfl)
          have e : ∀ X : Option (Int × Mem), (if iwF (wdL B n s) w18 0 < 0 then (if 0 < (k : Int) then some ((1 : Int), (st mR 76 2326 (k : Int))) else some ((if (w32 (Mo_fails 2 (st mR 76 2326 (k : Int))).1) = 0 then 0 else 1 : Int), (Mo_fails 2 (st mR 76 2326 (k : Int))).2)) else (if 3 ≤ iwF (wdL B n s) w18 0 then (if 0 < (k : Int) then some (1, (st mR 76 2326 (k : Int))) else some ((if (w32 (Mo_fails 2 (st mR 76 2326 (k : Int))).1) = 0 then 0 else 1 : Int), (Mo_fails 2 (st mR 76 2326 (k : Int))).2)) else X)) = if 0 < (k : Int) then some ((1 : Int), st mR 76 2326 (k : Int)) else some (0, mR') := by
            intro X
            rw [y1]
            by_cases y : iwF (wdL B n s) w18 0 < 0
            · rw [if_pos y]; rfl
            · rw [if_neg y, if_pos (by omega)]; rfl
          rw [e]
          right
          refine ⟨2, s, mC', mR', by rw [x1]; rfl, ?_, by omega, by omega, x2.cf fC0, y2.mf (fR0.s76 _ (by omega))⟩
          by_cases y : 0 < (k : Int)
          · rw [if_pos y, ptE_1]
            unfold mEnd
            rw [if_neg (fun z => by have := (m_isS (m := st mR 76 2326 (k : Int)) ht).mp z; omega), y1]; rfl
          · rw [if_neg y]; exact ptE_0 mR'
      · have hk0 : k ≠ 0 := fun z => q (h0 z)
        have hc1 : iwF (wdL B n s) w18 0 = -1 := by rw [wdL_n q]; exact iw18_n
        have h2 : N2 mC (st mR 76 2326 (k : Int)) := by
          refine ⟨by rw [st_eq, if_pos rfl]; exact e6.symm, by omega, by omega, ?_⟩
          rw [e6]
          exact hv.of rfl (fun i i0 i1 => by rw [st_eq, if_neg (by omega)])
        rw [if_pos q, hc1, if_pos (show (-1 : Int) < 0 by decide), if_pos (show 0 < (k : Int) by omega), ptE_1]
        exact sgH hB h2 hs0 hs hc ht fC0 (fR0.s76 _ (by omega))
theorem order_pr {B : Nat → Int} {n s tp : Nat} {mC mR : Mem} (h : BkR B n tp mC mR) (hs : s ≤ n) (hc : CTk B n s mC) (ht : MT B n s mR) (hK : tkK B n s = 1) : PR B n s mC mR (BookR_readOrder mC) (if ¬ (w32 (bAnd (bShr (mR 75 18) 9) 1)) = 1 then (Mo_part_J57 9 (st mR 75 18 (bOr (mR 75 18) (bShl 1 9)))) else some (((Mo_fails 5 mR).1 % 2), (Mo_fails 5 mR).2)) := by
  obtain ⟨h1, hM, h3, _, ⟨g1, g2, g3⟩, _⟩ := id h
  unfold BookR_readOrder
  rw [g3]
  by_cases hz : (tp / 2 ^ 4) % 2 = 0
  · have td := (tdC ⟨tp, g1⟩ ⟨4, by decide⟩).2 hz
    have hB := h.told (a := 4) (by decide) hz
    have eN := isNewT (m := mC) (a := 4) (by decide) g1 g2 hz
    rw [show ((4 : Nat) : Int) = 4 from rfl] at eN
    rw [eN, if_pos (show ¬ w32 (bAnd (bShr (tdN tp) 9) 1) = 1 from td.2.1), show bOr (tdN tp) (bShl 1 9) = tdN (tp + 2 ^ 4) from td.2.2.2.1]
    generalize hmC1 : st mC 16 2 ((tp + 2 ^ 4 : Nat) : Int) = mC1 at *
    generalize hmR1 : st mR 75 18 (tdN (tp + 2 ^ 4)) = mR1 at *
    have fC1 : Cf mC mC1 := by rw [← hmC1]; exact (Cf.refl mC).st _ _ (by omega)
    have fR1 : Mf mR mR1 := by rw [← hmR1]; exact (Mf.refl mR).s75 _ (by omega)
    have e3 : mC1 5 3 = (tkE B n s : Int) := by rw [← hmC1]; exact hc.2.1
    have e13 : mR1 75 13 = (tkE B n s : Int) := by rw [← hmR1]; exact ht.2.2.1 (by omega)
    clear hmC1 hmR1 eN td
    obtain ⟨hB1, hB2, hB3, _⟩ := id hB
    have ge := tkE_gt B (n := n) (s := s) (by omega)
    have gb := tkE_b B hs
    have gs := tkS_b B gb.2
    obtain ⟨mR2, k1, k2, k3⟩ := m_next hB2 hs e13
    have hz2 : mR2 75 17 = 0 := by rw [k2.2 _ (by decide) (by decide) (by decide) (by decide)]; exact hB3
    show PR B n s mC mR (if w32 1 = 0 then some (0, mC1) else _) _
    rw [if_neg (show ¬ w32 1 = 0 by decide)]
    have eJ : Mo_part_J57 9 mR1 = ptE (Mo_anOrder mR1) := by
      unfold Mo_part_J57
      rw [if_pos (show ¬ w32 9 = 3 by decide), if_pos (show ¬ w32 9 = 8 by decide), if_neg (show ¬ ¬ w32 9 = 9 by decide)]
      rfl
    rw [eJ]
    unfold Mo_anOrder
    rw [k1, bV_some]
    rcases c_tKind hB1 gb.2 e3 (k := 1) (by omega) with ⟨q, mC2, j1, j2, j3⟩ | ⟨q, mC2, j1, j2⟩
    · rw [j1, bE_some, if_pos (show ¬ w32 1 = 0 by decide)]
      have hBt := hB.tk j2 k2
      have hB6 : BkR B n (tp + 2 ^ 4) (st mC2 17 6 0) mR2 := by
        obtain ⟨b1, b2, b3, b4, b5, b6⟩ := hBt
        exact ⟨b1.cf ((Cf.refl _).st _ _ (by omega)), b2, b3, b4, b5, b6.of (fun i hi => by rw [st_eq, if_neg (by omega)]) rfl rfl (fun _ _ _ _ => rfl)⟩
      have := order_loop (B := B) (n := n) (tp := tp + 2 ^ 4) (s0 := s) (mC0 := mC) (mR0 := mR) 6 0 FU FU (tkS B n (tkE B n s)) (st mC2 17 6 0) mR2 (by omega) (by rw [FU_eq]; omega) (by rw [FU_eq]; omega) (by omega) gs.2 hB6 rfl (fun j j0 j1 => by omega) j3 k3 (fun _ => q) ((fC1.trans j2.cf).st _ _ (by omega)) (fR1.trans k2.mf)
      exact this
    · obtain ⟨mR', y1, y2⟩ := m_fail k3 hz2 (f := 2) (g := if tkK B n (tkS B n (tkE B n s)) = 4 then 1 else 2) rfl
      -- the reference: no word, so none of the views
      have hM2 := hB2.mf k2.mf
      have hc1 : iwF (wdL B n (tkS B n (tkE B n s))) w18 0 = -1 := by rw [wdL_n q]; exact iw18_n
      obtain ⟨mR3, w1, w2⟩ := m_fail (m := st mR2 76 2326 0) k3 hz2 (f := 2) (g := if tkK B n (tkS B n (tkE B n s)) = 4 then 1 else 2) rfl
      right
      refine ⟨_, tkS B n (tkE B n s), mC2, mR3, ?_, ?_, (ff_b _).1, (ff_b _).2, j2.cf fC1, w2.mf ((fR1.trans k2.mf).s76 _ (by omega))⟩
      · rw [j1, bE_some, if_neg (show ¬ ¬ w32 0 = 0 by decide)]
      · rw [FU_eq, show (20000 : Nat) = 19999 + 1 from rfl, Mo_anOrder_L6, m_key hM2 gs.2 k3, bP_some, hc1, if_pos (show w32 (-1) < 0 by decide), if_neg (show ¬ 0 < w32 0 by decide), w1]
        exact ptE_0 mR3
  · have td := (tdC ⟨tp, g1⟩ ⟨4, by decide⟩).1 hz
    obtain ⟨mC', j1, j2⟩ := isNewF (a := 4) (by decide) g1 g2 hz hc
    rw [show ((4 : Nat) : Int) = 4 from rfl] at j1
    obtain ⟨mR', k1, k2⟩ := m_fail ht h3 (f := 5) (g := 5) (by rw [hK]; rfl)
    right
    refine ⟨5, s, mC', mR', ?_, ?_, by omega, by omega, j2, k2⟩
    · rw [j1]; rfl
    · rw [if_neg (show ¬ ¬ w32 (bAnd (bShr (tdN tp) 9) 1) = 1 from fun z => z td.2), k1]; rfl
