/-! layer 2: the book, settings and keep -/
theorem N1.set0 {mC mR : Mem} (h : N1 mC mR) {v : Int} (v0 : 1 ≤ v) (v1 : v ≤ 999) : N1 (st mC 17 2 v) (st mR 76 2322 v) := by
  obtain ⟨⟨a0, a1, a2, a3, a4, a5⟩, b, c, d, e⟩ := h
  refine ⟨⟨a0, a1, rfl, a3, a4, a5⟩, b, ?_, fun p hp => ?_, fun p p0 p1 => ?_⟩
  · show 1 ≤ v ∧ v ≤ 999 ∧ 1 ≤ mC 17 3 ∧ mC 17 3 ≤ 999 ∧ 0 ≤ mC 17 4 ∧ mC 17 4 ≤ 999 ∧ 1 ≤ mC 17 5 ∧ mC 17 5 ≤ 99
    omega
  · have hp' := hp
    have hp2 : 0 ≤ p := hp.1
    show ((st mR 76 2322 v) 76 (2336 + p) = mC 19 p ∧ _) ∧ ((st mR 76 2322 v) 76 (2400 + p) = mC 20 p ∧ _)
    rw [st_eq, if_neg (by omega), st_eq, if_neg (by omega)]
    exact d p hp'
  · show (st mR 76 2322 v) 76 (2464 + p) = Sheet_isKept 17 p mC ∧ (_ → Sheet_isKept 17 p mC = 0)
    rw [st_eq, if_neg (by omega)]
    exact e p p0 p1
theorem BkR.set0 {B : Nat → Int} {n tp : Nat} {mC mR : Mem} (h : BkR B n tp mC mR) {v : Int} (v0 : 1 ≤ v) (v1 : v ≤ 999) : BkR B n tp (st mC 17 2 v) (st mR 76 2322 v) := by
  obtain ⟨h1, h2, h3, h4, h5, h6⟩ := h
  exact ⟨h1.cf ((Cf.refl mC).st _ _ (by omega)), h2.mf ((Mf.refl mR).s76 _ (by omega)), h3, h4, h5, h6.set0 v0 v1⟩
theorem set_pr0 {B : Nat → Int} {n s tp : Nat} {mC mR : Mem} (h : BkR B n tp mC mR) (h2 : N2 mC mR) (hs : s ≤ n) (hc : CTk B n s mC) (ht : MT B n s mR) (hK : tkK B n s = 1) : PR B n s mC mR (BookR_readSetting 0 1 999 mC) (if ¬ (w32 (bAnd (bShr (mR 75 18) 4) 1)) = 1 then (Mo_part_J57 4 (st mR 75 18 (bOr (mR 75 18) (bShl 1 4)))) else some (((Mo_fails 5 mR).1 % 2), (Mo_fails 5 mR).2)) := by
  obtain ⟨h1, hM, h3, _, ⟨g1, g2, g3⟩, _⟩ := id h
  unfold BookR_readSetting
  rw [g3]
  by_cases hz : (tp / 2 ^ 0) % 2 = 0
  · have td := (tdC ⟨tp, g1⟩ ⟨0, by decide⟩).2 hz
    have hB := h.told (a := 0) (by decide) hz
    have eN := isNewT (m := mC) (a := 0) (by decide) g1 g2 hz
    rw [show ((0 : Nat) : Int) = 0 from rfl] at eN
    rw [eN, if_pos (show ¬ w32 (bAnd (bShr (tdN tp) 4) 1) = 1 from td.2.1), show bOr (tdN tp) (bShl 1 4) = tdN (tp + 2 ^ 0) from td.2.2.2.1]
    generalize hmC1 : st mC 16 2 ((tp + 2 ^ 0 : Nat) : Int) = mC1 at *
    generalize hmR1 : st mR 75 18 (tdN (tp + 2 ^ 0)) = mR1 at *
    have fC1 : Cf mC mC1 := by rw [← hmC1]; exact (Cf.refl mC).st _ _ (by omega)
    have fR1 : Mf mR mR1 := by rw [← hmR1]; exact (Mf.refl mR).s75 _ (by omega)
    have h2' : N2 mC1 mR1 := by rw [← hmC1, ← hmR1]; exact h2.of rfl rfl (fun i _ _ => rfl)
    have e3 : mC1 5 3 = (tkE B n s : Int) := by rw [← hmC1]; exact hc.2.1
    have e13 : mR1 75 13 = (tkE B n s : Int) := by rw [← hmR1]; exact ht.2.2.1 (by omega)
    clear hmC1 hmR1 eN td
    obtain ⟨hB1, hB2, hB3, _⟩ := id hB
    have ge := tkE_gt B (n := n) (s := s) (by omega)
    have gb := tkE_b B hs
    have gs := tkS_b B gb.2
    obtain ⟨mR2, k1, k2, k3⟩ := m_next hB2 hs e13
    have hM2 := hB2.mf k2.mf
    have hz2 : mR2 75 17 = 0 := by rw [k2.2 _ (by decide) (by decide) (by decide) (by decide)]; exact hB3
    show PR B n s mC mR (if w32 1 = 0 then some (0, mC1) else _) _
    rw [if_neg (show ¬ w32 1 = 0 by decide)]
    unfold Mo_part_J57
    rw [if_pos (by decide), if_pos (by decide), if_pos (by decide), k1, bV_some, show (2322 + 4 - 4 : Int) = 2322 from rfl]
    rw [show (if ¬ w32 4 = 6 then 1 else 0 : Int) = 1 from rfl, show (if ¬ w32 4 = 7 then 999 else 99 : Int) = 999 from rfl]
    rcases c_tNum hB1 gb.2 e3 (lo := 1) (hi := 999) (by omega) (by omega) with ⟨q, qv, mC3, j1, j2, j3⟩ | ⟨q, qv, mC3, j1, j2⟩ | ⟨q, mC3, j1, j2⟩
    · rcases m_num hM2 gs.2 k3 hz2 (a := 2322) (lo := 1) (hi := 999) (by omega) (by omega) (by omega) with ⟨_, _, mR3, l1, l2, l3⟩ | ⟨_, z, _⟩ | ⟨z, _⟩
      · have ev := j3.2.2.2 q
        have gge := tkE_gt B (n := n) (s := tkS B n (tkE B n s)) (by omega)
        have ggb := tkE_b B gs.2
        rw [j1, bE_some, l1, bE_some, if_pos (show ¬ w32 1 = 0 by decide), if_pos (show ¬ w32 1 = 0 by decide)]
        rw [if_pos (show w32 0 = 0 by decide)]
        rw [ev]
        have hBs := (hB.tk j2 k2).set0 (v := tkV B n (tkS B n (tkE B n s))) qv.1 qv.2
        have h2s : N2 (st mC3 17 2 (tkV B n (tkS B n (tkE B n s)))) (st mR2 76 2322 (tkV B n (tkS B n (tkE B n s)))) := (h2'.tk j2 k2).of rfl rfl (fun i i0 i1 => by rw [st_eq, if_neg (by omega)])
        exact sgn (mC0 := mC) (mR0 := mR) (hBs.tk (Tk5.refl _) l2) (h2s.tk (Tk5.refl _) l2) ggb.2 (by omega) (by rw [st_ne _ _ _ (by decide)]; exact j3.2.1) l3 ((fC1.trans j2.cf).st _ _ (by omega)) (((fR1.trans k2.mf).s76 _ (by omega)).trans l2.mf)
      · exact absurd qv z
      · exact absurd q z
    · rcases m_num hM2 gs.2 k3 hz2 (a := 2322) (lo := 1) (hi := 999) (by omega) (by omega) (by omega) with ⟨_, z, _⟩ | ⟨_, _, mR3, l1, l2⟩ | ⟨z, _⟩
      · exact absurd z qv
      · right
        refine ⟨4, tkS B n (tkE B n s), mC3, mR3, ?_, ?_, by omega, by omega, j2.cf fC1, l2.mf (fR1.trans k2.mf)⟩
        · rw [j1, bE_some, if_neg (show ¬ ¬ w32 0 = 0 by decide)]
        · rw [l1, bE_some, if_neg (show ¬ ¬ w32 0 = 0 by decide)]
      · exact absurd q z
    · rcases m_num hM2 gs.2 k3 hz2 (a := 2322) (lo := 1) (hi := 999) (by omega) (by omega) (by omega) with ⟨z, _⟩ | ⟨z, _⟩ | ⟨_, mR3, l1, l2⟩
      · exact absurd z q
      · exact absurd z q
      · right
        refine ⟨_, tkS B n (tkE B n s), mC3, mR3, ?_, ?_, (ff_b _).1, (ff_b _).2, j2.cf fC1, l2.mf (fR1.trans k2.mf)⟩
        · rw [j1, bE_some, if_neg (show ¬ ¬ w32 0 = 0 by decide)]
        · rw [l1, bE_some, if_neg (show ¬ ¬ w32 0 = 0 by decide)]
  · have td := (tdC ⟨tp, g1⟩ ⟨0, by decide⟩).1 hz
    obtain ⟨mC', j1, j2⟩ := isNewF (a := 0) (by decide) g1 g2 hz hc
    rw [show ((0 : Nat) : Int) = 0 from rfl] at j1
    obtain ⟨mR', k1, k2⟩ := m_fail ht h3 (f := 5) (g := 5) (by rw [hK]; rfl)
    right
    refine ⟨5, s, mC', mR', ?_, ?_, by omega, by omega, j2, k2⟩
    · rw [j1]; rfl
    · rw [if_neg (show ¬ ¬ w32 (bAnd (bShr (tdN tp) 4) 1) = 1 from fun z => z td.2), k1]; rfl
theorem N1.set1 {mC mR : Mem} (h : N1 mC mR) {v : Int} (v0 : 1 ≤ v) (v1 : v ≤ 999) : N1 (st mC 17 3 v) (st mR 76 2323 v) := by
  obtain ⟨⟨a0, a1, a2, a3, a4, a5⟩, b, c, d, e⟩ := h
  refine ⟨⟨a0, a1, a2, rfl, a4, a5⟩, b, ?_, fun p hp => ?_, fun p p0 p1 => ?_⟩
  · show 1 ≤ mC 17 2 ∧ mC 17 2 ≤ 999 ∧ 1 ≤ v ∧ v ≤ 999 ∧ 0 ≤ mC 17 4 ∧ mC 17 4 ≤ 999 ∧ 1 ≤ mC 17 5 ∧ mC 17 5 ≤ 99
    omega
  · have hp' := hp
    have hp2 : 0 ≤ p := hp.1
    show ((st mR 76 2323 v) 76 (2336 + p) = mC 19 p ∧ _) ∧ ((st mR 76 2323 v) 76 (2400 + p) = mC 20 p ∧ _)
    rw [st_eq, if_neg (by omega), st_eq, if_neg (by omega)]
    exact d p hp'
  · show (st mR 76 2323 v) 76 (2464 + p) = Sheet_isKept 17 p mC ∧ (_ → Sheet_isKept 17 p mC = 0)
    rw [st_eq, if_neg (by omega)]
    exact e p p0 p1
theorem BkR.set1 {B : Nat → Int} {n tp : Nat} {mC mR : Mem} (h : BkR B n tp mC mR) {v : Int} (v0 : 1 ≤ v) (v1 : v ≤ 999) : BkR B n tp (st mC 17 3 v) (st mR 76 2323 v) := by
  obtain ⟨h1, h2, h3, h4, h5, h6⟩ := h
  exact ⟨h1.cf ((Cf.refl mC).st _ _ (by omega)), h2.mf ((Mf.refl mR).s76 _ (by omega)), h3, h4, h5, h6.set1 v0 v1⟩
theorem set_pr1 {B : Nat → Int} {n s tp : Nat} {mC mR : Mem} (h : BkR B n tp mC mR) (h2 : N2 mC mR) (hs : s ≤ n) (hc : CTk B n s mC) (ht : MT B n s mR) (hK : tkK B n s = 1) : PR B n s mC mR (BookR_readSetting 1 1 999 mC) (if ¬ (w32 (bAnd (bShr (mR 75 18) 5) 1)) = 1 then (Mo_part_J57 5 (st mR 75 18 (bOr (mR 75 18) (bShl 1 5)))) else some (((Mo_fails 5 mR).1 % 2), (Mo_fails 5 mR).2)) := by
  obtain ⟨h1, hM, h3, _, ⟨g1, g2, g3⟩, _⟩ := id h
  unfold BookR_readSetting
  rw [g3]
  by_cases hz : (tp / 2 ^ 1) % 2 = 0
  · have td := (tdC ⟨tp, g1⟩ ⟨1, by decide⟩).2 hz
    have hB := h.told (a := 1) (by decide) hz
    have eN := isNewT (m := mC) (a := 1) (by decide) g1 g2 hz
    rw [show ((1 : Nat) : Int) = 1 from rfl] at eN
    rw [eN, if_pos (show ¬ w32 (bAnd (bShr (tdN tp) 5) 1) = 1 from td.2.1), show bOr (tdN tp) (bShl 1 5) = tdN (tp + 2 ^ 1) from td.2.2.2.1]
    generalize hmC1 : st mC 16 2 ((tp + 2 ^ 1 : Nat) : Int) = mC1 at *
    generalize hmR1 : st mR 75 18 (tdN (tp + 2 ^ 1)) = mR1 at *
    have fC1 : Cf mC mC1 := by rw [← hmC1]; exact (Cf.refl mC).st _ _ (by omega)
    have fR1 : Mf mR mR1 := by rw [← hmR1]; exact (Mf.refl mR).s75 _ (by omega)
    have h2' : N2 mC1 mR1 := by rw [← hmC1, ← hmR1]; exact h2.of rfl rfl (fun i _ _ => rfl)
    have e3 : mC1 5 3 = (tkE B n s : Int) := by rw [← hmC1]; exact hc.2.1
    have e13 : mR1 75 13 = (tkE B n s : Int) := by rw [← hmR1]; exact ht.2.2.1 (by omega)
    clear hmC1 hmR1 eN td
    obtain ⟨hB1, hB2, hB3, _⟩ := id hB
    have ge := tkE_gt B (n := n) (s := s) (by omega)
    have gb := tkE_b B hs
    have gs := tkS_b B gb.2
    obtain ⟨mR2, k1, k2, k3⟩ := m_next hB2 hs e13
    have hM2 := hB2.mf k2.mf
    have hz2 : mR2 75 17 = 0 := by rw [k2.2 _ (by decide) (by decide) (by decide) (by decide)]; exact hB3
    show PR B n s mC mR (if w32 1 = 0 then some (0, mC1) else _) _
    rw [if_neg (show ¬ w32 1 = 0 by decide)]
    unfold Mo_part_J57
    rw [if_pos (by decide), if_pos (by decide), if_pos (by decide), k1, bV_some, show (2322 + 5 - 4 : Int) = 2323 from rfl]
    rw [show (if ¬ w32 5 = 6 then 1 else 0 : Int) = 1 from rfl, show (if ¬ w32 5 = 7 then 999 else 99 : Int) = 999 from rfl]
    rcases c_tNum hB1 gb.2 e3 (lo := 1) (hi := 999) (by omega) (by omega) with ⟨q, qv, mC3, j1, j2, j3⟩ | ⟨q, qv, mC3, j1, j2⟩ | ⟨q, mC3, j1, j2⟩
    · rcases m_num hM2 gs.2 k3 hz2 (a := 2323) (lo := 1) (hi := 999) (by omega) (by omega) (by omega) with ⟨_, _, mR3, l1, l2, l3⟩ | ⟨_, z, _⟩ | ⟨z, _⟩
      · have ev := j3.2.2.2 q
        have gge := tkE_gt B (n := n) (s := tkS B n (tkE B n s)) (by omega)
        have ggb := tkE_b B gs.2
        rw [j1, bE_some, l1, bE_some, if_pos (show ¬ w32 1 = 0 by decide), if_pos (show ¬ w32 1 = 0 by decide)]
        rw [if_neg (show ¬ w32 1 = 0 by decide), if_pos (show w32 1 = 1 by decide)]
        rw [ev]
        have hBs := (hB.tk j2 k2).set1 (v := tkV B n (tkS B n (tkE B n s))) qv.1 qv.2
        have h2s : N2 (st mC3 17 3 (tkV B n (tkS B n (tkE B n s)))) (st mR2 76 2323 (tkV B n (tkS B n (tkE B n s)))) := (h2'.tk j2 k2).of rfl rfl (fun i i0 i1 => by rw [st_eq, if_neg (by omega)])
        exact sgn (mC0 := mC) (mR0 := mR) (hBs.tk (Tk5.refl _) l2) (h2s.tk (Tk5.refl _) l2) ggb.2 (by omega) (by rw [st_ne _ _ _ (by decide)]; exact j3.2.1) l3 ((fC1.trans j2.cf).st _ _ (by omega)) (((fR1.trans k2.mf).s76 _ (by omega)).trans l2.mf)
      · exact absurd qv z
      · exact absurd q z
    · rcases m_num hM2 gs.2 k3 hz2 (a := 2323) (lo := 1) (hi := 999) (by omega) (by omega) (by omega) with ⟨_, z, _⟩ | ⟨_, _, mR3, l1, l2⟩ | ⟨z, _⟩
      · exact absurd z qv
      · right
        refine ⟨4, tkS B n (tkE B n s), mC3, mR3, ?_, ?_, by omega, by omega, j2.cf fC1, l2.mf (fR1.trans k2.mf)⟩
        · rw [j1, bE_some, if_neg (show ¬ ¬ w32 0 = 0 by decide)]
        · rw [l1, bE_some, if_neg (show ¬ ¬ w32 0 = 0 by decide)]
      · exact absurd q z
    · rcases m_num hM2 gs.2 k3 hz2 (a := 2323) (lo := 1) (hi := 999) (by omega) (by omega) (by omega) with ⟨z, _⟩ | ⟨z, _⟩ | ⟨_, mR3, l1, l2⟩
      · exact absurd z q
      · exact absurd z q
      · right
        refine ⟨_, tkS B n (tkE B n s), mC3, mR3, ?_, ?_, (ff_b _).1, (ff_b _).2, j2.cf fC1, l2.mf (fR1.trans k2.mf)⟩
        · rw [j1, bE_some, if_neg (show ¬ ¬ w32 0 = 0 by decide)]
        · rw [l1, bE_some, if_neg (show ¬ ¬ w32 0 = 0 by decide)]
  · have td := (tdC ⟨tp, g1⟩ ⟨1, by decide⟩).1 hz
    obtain ⟨mC', j1, j2⟩ := isNewF (a := 1) (by decide) g1 g2 hz hc
    rw [show ((1 : Nat) : Int) = 1 from rfl] at j1
    obtain ⟨mR', k1, k2⟩ := m_fail ht h3 (f := 5) (g := 5) (by rw [hK]; rfl)
    right
    refine ⟨5, s, mC', mR', ?_, ?_, by omega, by omega, j2, k2⟩
    · rw [j1]; rfl
    · rw [if_neg (show ¬ ¬ w32 (bAnd (bShr (tdN tp) 5) 1) = 1 from fun z => z td.2), k1]; rfl
theorem N1.set2 {mC mR : Mem} (h : N1 mC mR) {v : Int} (v0 : 0 ≤ v) (v1 : v ≤ 999) : N1 (st mC 17 4 v) (st mR 76 2324 v) := by
  obtain ⟨⟨a0, a1, a2, a3, a4, a5⟩, b, c, d, e⟩ := h
  refine ⟨⟨a0, a1, a2, a3, rfl, a5⟩, b, ?_, fun p hp => ?_, fun p p0 p1 => ?_⟩
  · show 1 ≤ mC 17 2 ∧ mC 17 2 ≤ 999 ∧ 1 ≤ mC 17 3 ∧ mC 17 3 ≤ 999 ∧ 0 ≤ v ∧ v ≤ 999 ∧ 1 ≤ mC 17 5 ∧ mC 17 5 ≤ 99
    omega
  · have hp' := hp
    have hp2 : 0 ≤ p := hp.1
    show ((st mR 76 2324 v) 76 (2336 + p) = mC 19 p ∧ _) ∧ ((st mR 76 2324 v) 76 (2400 + p) = mC 20 p ∧ _)
    rw [st_eq, if_neg (by omega), st_eq, if_neg (by omega)]
    exact d p hp'
  · show (st mR 76 2324 v) 76 (2464 + p) = Sheet_isKept 17 p mC ∧ (_ → Sheet_isKept 17 p mC = 0)
    rw [st_eq, if_neg (by omega)]
    exact e p p0 p1
theorem BkR.set2 {B : Nat → Int} {n tp : Nat} {mC mR : Mem} (h : BkR B n tp mC mR) {v : Int} (v0 : 0 ≤ v) (v1 : v ≤ 999) : BkR B n tp (st mC 17 4 v) (st mR 76 2324 v) := by
  obtain ⟨h1, h2, h3, h4, h5, h6⟩ := h
  exact ⟨h1.cf ((Cf.refl mC).st _ _ (by omega)), h2.mf ((Mf.refl mR).s76 _ (by omega)), h3, h4, h5, h6.set2 v0 v1⟩
theorem set_pr2 {B : Nat → Int} {n s tp : Nat} {mC mR : Mem} (h : BkR B n tp mC mR) (h2 : N2 mC mR) (hs : s ≤ n) (hc : CTk B n s mC) (ht : MT B n s mR) (hK : tkK B n s = 1) : PR B n s mC mR (BookR_readSetting 2 0 999 mC) (if ¬ (w32 (bAnd (bShr (mR 75 18) 6) 1)) = 1 then (Mo_part_J57 6 (st mR 75 18 (bOr (mR 75 18) (bShl 1 6)))) else some (((Mo_fails 5 mR).1 % 2), (Mo_fails 5 mR).2)) := by
  obtain ⟨h1, hM, h3, _, ⟨g1, g2, g3⟩, _⟩ := id h
  unfold BookR_readSetting
  rw [g3]
  by_cases hz : (tp / 2 ^ 2) % 2 = 0
  · have td := (tdC ⟨tp, g1⟩ ⟨2, by decide⟩).2 hz
    have hB := h.told (a := 2) (by decide) hz
    have eN := isNewT (m := mC) (a := 2) (by decide) g1 g2 hz
    rw [show ((2 : Nat) : Int) = 2 from rfl] at eN
    rw [eN, if_pos (show ¬ w32 (bAnd (bShr (tdN tp) 6) 1) = 1 from td.2.1), show bOr (tdN tp) (bShl 1 6) = tdN (tp + 2 ^ 2) from td.2.2.2.1]
    generalize hmC1 : st mC 16 2 ((tp + 2 ^ 2 : Nat) : Int) = mC1 at *
    generalize hmR1 : st mR 75 18 (tdN (tp + 2 ^ 2)) = mR1 at *
    have fC1 : Cf mC mC1 := by rw [← hmC1]; exact (Cf.refl mC).st _ _ (by omega)
    have fR1 : Mf mR mR1 := by rw [← hmR1]; exact (Mf.refl mR).s75 _ (by omega)
    have h2' : N2 mC1 mR1 := by rw [← hmC1, ← hmR1]; exact h2.of rfl rfl (fun i _ _ => rfl)
    have e3 : mC1 5 3 = (tkE B n s : Int) := by rw [← hmC1]; exact hc.2.1
    have e13 : mR1 75 13 = (tkE B n s : Int) := by rw [← hmR1]; exact ht.2.2.1 (by omega)
    clear hmC1 hmR1 eN td
    obtain ⟨hB1, hB2, hB3, _⟩ := id hB
    have ge := tkE_gt B (n := n) (s := s) (by omega)
    have gb := tkE_b B hs
    have gs := tkS_b B gb.2
    obtain ⟨mR2, k1, k2, k3⟩ := m_next hB2 hs e13
    have hM2 := hB2.mf k2.mf
    have hz2 : mR2 75 17 = 0 := by rw [k2.2 _ (by decide) (by decide) (by decide) (by decide)]; exact hB3
    show PR B n s mC mR (if w32 1 = 0 then some (0, mC1) else _) _
    rw [if_neg (show ¬ w32 1 = 0 by decide)]
    unfold Mo_part_J57
    rw [if_pos (by decide), if_pos (by decide), if_pos (by decide), k1, bV_some, show (2322 + 6 - 4 : Int) = 2324 from rfl]
    rw [show (if ¬ w32 6 = 6 then 1 else 0 : Int) = 0 from rfl, show (if ¬ w32 6 = 7 then 999 else 99 : Int) = 999 from rfl]
    rcases c_tNum hB1 gb.2 e3 (lo := 0) (hi := 999) (by omega) (by omega) with ⟨q, qv, mC3, j1, j2, j3⟩ | ⟨q, qv, mC3, j1, j2⟩ | ⟨q, mC3, j1, j2⟩
    · rcases m_num hM2 gs.2 k3 hz2 (a := 2324) (lo := 0) (hi := 999) (by omega) (by omega) (by omega) with ⟨_, _, mR3, l1, l2, l3⟩ | ⟨_, z, _⟩ | ⟨z, _⟩
      · have ev := j3.2.2.2 q
        have gge := tkE_gt B (n := n) (s := tkS B n (tkE B n s)) (by omega)
        have ggb := tkE_b B gs.2
        rw [j1, bE_some, l1, bE_some, if_pos (show ¬ w32 1 = 0 by decide), if_pos (show ¬ w32 1 = 0 by decide)]
        rw [if_neg (show ¬ w32 2 = 0 by decide), if_neg (show ¬ w32 2 = 1 by decide), if_pos (show w32 2 = 2 by decide)]
        rw [ev]
        have hBs := (hB.tk j2 k2).set2 (v := tkV B n (tkS B n (tkE B n s))) qv.1 qv.2
        have h2s : N2 (st mC3 17 4 (tkV B n (tkS B n (tkE B n s)))) (st mR2 76 2324 (tkV B n (tkS B n (tkE B n s)))) := (h2'.tk j2 k2).of rfl rfl (fun i i0 i1 => by rw [st_eq, if_neg (by omega)])
        exact sgn (mC0 := mC) (mR0 := mR) (hBs.tk (Tk5.refl _) l2) (h2s.tk (Tk5.refl _) l2) ggb.2 (by omega) (by rw [st_ne _ _ _ (by decide)]; exact j3.2.1) l3 ((fC1.trans j2.cf).st _ _ (by omega)) (((fR1.trans k2.mf).s76 _ (by omega)).trans l2.mf)
      · exact absurd qv z
      · exact absurd q z
    · rcases m_num hM2 gs.2 k3 hz2 (a := 2324) (lo := 0) (hi := 999) (by omega) (by omega) (by omega) with ⟨_, z, _⟩ | ⟨_, _, mR3, l1, l2⟩ | ⟨z, _⟩
      · exact absurd z qv
      · right
        refine ⟨4, tkS B n (tkE B n s), mC3, mR3, ?_, ?_, by omega, by omega, j2.cf fC1, l2.mf (fR1.trans k2.mf)⟩
        · rw [j1, bE_some, if_neg (show ¬ ¬ w32 0 = 0 by decide)]
        · rw [l1, bE_some, if_neg (show ¬ ¬ w32 0 = 0 by decide)]
      · exact absurd q z
    · rcases m_num hM2 gs.2 k3 hz2 (a := 2324) (lo := 0) (hi := 999) (by omega) (by omega) (by omega) with ⟨z, _⟩ | ⟨z, _⟩ | ⟨_, mR3, l1, l2⟩
      · exact absurd z q
      · exact absurd z q
      · right
        refine ⟨_, tkS B n (tkE B n s), mC3, mR3, ?_, ?_, (ff_b _).1, (ff_b _).2, j2.cf fC1, l2.mf (fR1.trans k2.mf)⟩
        · rw [j1, bE_some, if_neg (show ¬ ¬ w32 0 = 0 by decide)]
        · rw [l1, bE_some, if_neg (show ¬ ¬ w32 0 = 0 by decide)]
  · have td := (tdC ⟨tp, g1⟩ ⟨2, by decide⟩).1 hz
    obtain ⟨mC', j1, j2⟩ := isNewF (a := 2) (by decide) g1 g2 hz hc
    rw [show ((2 : Nat) : Int) = 2 from rfl] at j1
    obtain ⟨mR', k1, k2⟩ := m_fail ht h3 (f := 5) (g := 5) (by rw [hK]; rfl)
    right
    refine ⟨5, s, mC', mR', ?_, ?_, by omega, by omega, j2, k2⟩
    · rw [j1]; rfl
    · rw [if_neg (show ¬ ¬ w32 (bAnd (bShr (tdN tp) 6) 1) = 1 from fun z => z td.2), k1]; rfl
theorem N1.set3 {mC mR : Mem} (h : N1 mC mR) {v : Int} (v0 : 1 ≤ v) (v1 : v ≤ 99) : N1 (st mC 17 5 v) (st mR 76 2325 v) := by
  obtain ⟨⟨a0, a1, a2, a3, a4, a5⟩, b, c, d, e⟩ := h
  refine ⟨⟨a0, a1, a2, a3, a4, rfl⟩, b, ?_, fun p hp => ?_, fun p p0 p1 => ?_⟩
  · show 1 ≤ mC 17 2 ∧ mC 17 2 ≤ 999 ∧ 1 ≤ mC 17 3 ∧ mC 17 3 ≤ 999 ∧ 0 ≤ mC 17 4 ∧ mC 17 4 ≤ 999 ∧ 1 ≤ v ∧ v ≤ 99
    omega
  · have hp' := hp
    have hp2 : 0 ≤ p := hp.1
    show ((st mR 76 2325 v) 76 (2336 + p) = mC 19 p ∧ _) ∧ ((st mR 76 2325 v) 76 (2400 + p) = mC 20 p ∧ _)
    rw [st_eq, if_neg (by omega), st_eq, if_neg (by omega)]
    exact d p hp'
  · show (st mR 76 2325 v) 76 (2464 + p) = Sheet_isKept 17 p mC ∧ (_ → Sheet_isKept 17 p mC = 0)
    rw [st_eq, if_neg (by omega)]
    exact e p p0 p1
theorem BkR.set3 {B : Nat → Int} {n tp : Nat} {mC mR : Mem} (h : BkR B n tp mC mR) {v : Int} (v0 : 1 ≤ v) (v1 : v ≤ 99) : BkR B n tp (st mC 17 5 v) (st mR 76 2325 v) := by
  obtain ⟨h1, h2, h3, h4, h5, h6⟩ := h
  exact ⟨h1.cf ((Cf.refl mC).st _ _ (by omega)), h2.mf ((Mf.refl mR).s76 _ (by omega)), h3, h4, h5, h6.set3 v0 v1⟩
theorem set_pr3 {B : Nat → Int} {n s tp : Nat} {mC mR : Mem} (h : BkR B n tp mC mR) (h2 : N2 mC mR) (hs : s ≤ n) (hc : CTk B n s mC) (ht : MT B n s mR) (hK : tkK B n s = 1) : PR B n s mC mR (BookR_readSetting 3 1 99 mC) (if ¬ (w32 (bAnd (bShr (mR 75 18) 7) 1)) = 1 then (Mo_part_J57 7 (st mR 75 18 (bOr (mR 75 18) (bShl 1 7)))) else some (((Mo_fails 5 mR).1 % 2), (Mo_fails 5 mR).2)) := by
  obtain ⟨h1, hM, h3, _, ⟨g1, g2, g3⟩, _⟩ := id h
  unfold BookR_readSetting
  rw [g3]
  by_cases hz : (tp / 2 ^ 3) % 2 = 0
  · have td := (tdC ⟨tp, g1⟩ ⟨3, by decide⟩).2 hz
    have hB := h.told (a := 3) (by decide) hz
    have eN := isNewT (m := mC) (a := 3) (by decide) g1 g2 hz
    rw [show ((3 : Nat) : Int) = 3 from rfl] at eN
    rw [eN, if_pos (show ¬ w32 (bAnd (bShr (tdN tp) 7) 1) = 1 from td.2.1), show bOr (tdN tp) (bShl 1 7) = tdN (tp + 2 ^ 3) from td.2.2.2.1]
    generalize hmC1 : st mC 16 2 ((tp + 2 ^ 3 : Nat) : Int) = mC1 at *
    generalize hmR1 : st mR 75 18 (tdN (tp + 2 ^ 3)) = mR1 at *
    have fC1 : Cf mC mC1 := by rw [← hmC1]; exact (Cf.refl mC).st _ _ (by omega)
    have fR1 : Mf mR mR1 := by rw [← hmR1]; exact (Mf.refl mR).s75 _ (by omega)
    have h2' : N2 mC1 mR1 := by rw [← hmC1, ← hmR1]; exact h2.of rfl rfl (fun i _ _ => rfl)
    have e3 : mC1 5 3 = (tkE B n s : Int) := by rw [← hmC1]; exact hc.2.1
    have e13 : mR1 75 13 = (tkE B n s : Int) := by rw [← hmR1]; exact ht.2.2.1 (by omega)
    clear hmC1 hmR1 eN td
    obtain ⟨hB1, hB2, hB3, _⟩ := id hB
    have ge := tkE_gt B (n := n) (s := s) (by omega)
    have gb := tkE_b B hs
    have gs := tkS_b B gb.2
    obtain ⟨mR2, k1, k2, k3⟩ := m_next hB2 hs e13
    have hM2 := hB2.mf k2.mf
    have hz2 : mR2 75 17 = 0 := by rw [k2.2 _ (by decide) (by decide) (by decide) (by decide)]; exact hB3
    show PR B n s mC mR (if w32 1 = 0 then some (0, mC1) else _) _
    rw [if_neg (show ¬ w32 1 = 0 by decide)]
    unfold Mo_part_J57
    rw [if_pos (by decide), if_pos (by decide), if_pos (by decide), k1, bV_some, show (2322 + 7 - 4 : Int) = 2325 from rfl]
    rw [show (if ¬ w32 7 = 6 then 1 else 0 : Int) = 1 from rfl, show (if ¬ w32 7 = 7 then 999 else 99 : Int) = 99 from rfl]
    rcases c_tNum hB1 gb.2 e3 (lo := 1) (hi := 99) (by omega) (by omega) with ⟨q, qv, mC3, j1, j2, j3⟩ | ⟨q, qv, mC3, j1, j2⟩ | ⟨q, mC3, j1, j2⟩
    · rcases m_num hM2 gs.2 k3 hz2 (a := 2325) (lo := 1) (hi := 99) (by omega) (by omega) (by omega) with ⟨_, _, mR3, l1, l2, l3⟩ | ⟨_, z, _⟩ | ⟨z, _⟩
      · have ev := j3.2.2.2 q
        have gge := tkE_gt B (n := n) (s := tkS B n (tkE B n s)) (by omega)
        have ggb := tkE_b B gs.2
        rw [j1, bE_some, l1, bE_some, if_pos (show ¬ w32 1 = 0 by decide), if_pos (show ¬ w32 1 = 0 by decide)]
        rw [if_neg (show ¬ w32 3 = 0 by decide), if_neg (show ¬ w32 3 = 1 by decide), if_neg (show ¬ w32 3 = 2 by decide)]
        rw [ev]
        have hBs := (hB.tk j2 k2).set3 (v := tkV B n (tkS B n (tkE B n s))) qv.1 qv.2
        have h2s : N2 (st mC3 17 5 (tkV B n (tkS B n (tkE B n s)))) (st mR2 76 2325 (tkV B n (tkS B n (tkE B n s)))) := (h2'.tk j2 k2).of rfl rfl (fun i i0 i1 => by rw [st_eq, if_neg (by omega)])
        exact sgn (mC0 := mC) (mR0 := mR) (hBs.tk (Tk5.refl _) l2) (h2s.tk (Tk5.refl _) l2) ggb.2 (by omega) (by rw [st_ne _ _ _ (by decide)]; exact j3.2.1) l3 ((fC1.trans j2.cf).st _ _ (by omega)) (((fR1.trans k2.mf).s76 _ (by omega)).trans l2.mf)
      · exact absurd qv z
      · exact absurd q z
    · rcases m_num hM2 gs.2 k3 hz2 (a := 2325) (lo := 1) (hi := 99) (by omega) (by omega) (by omega) with ⟨_, z, _⟩ | ⟨_, _, mR3, l1, l2⟩ | ⟨z, _⟩
      · exact absurd z qv
      · right
        refine ⟨4, tkS B n (tkE B n s), mC3, mR3, ?_, ?_, by omega, by omega, j2.cf fC1, l2.mf (fR1.trans k2.mf)⟩
        · rw [j1, bE_some, if_neg (show ¬ ¬ w32 0 = 0 by decide)]
        · rw [l1, bE_some, if_neg (show ¬ ¬ w32 0 = 0 by decide)]
      · exact absurd q z
    · rcases m_num hM2 gs.2 k3 hz2 (a := 2325) (lo := 1) (hi := 99) (by omega) (by omega) (by omega) with ⟨z, _⟩ | ⟨z, _⟩ | ⟨_, mR3, l1, l2⟩
      · exact absurd z q
      · exact absurd z q
      · right
        refine ⟨_, tkS B n (tkE B n s), mC3, mR3, ?_, ?_, (ff_b _).1, (ff_b _).2, j2.cf fC1, l2.mf (fR1.trans k2.mf)⟩
        · rw [j1, bE_some, if_neg (show ¬ ¬ w32 0 = 0 by decide)]
        · rw [l1, bE_some, if_neg (show ¬ ¬ w32 0 = 0 by decide)]
  · have td := (tdC ⟨tp, g1⟩ ⟨3, by decide⟩).1 hz
    obtain ⟨mC', j1, j2⟩ := isNewF (a := 3) (by decide) g1 g2 hz hc
    rw [show ((3 : Nat) : Int) = 3 from rfl] at j1
    obtain ⟨mR', k1, k2⟩ := m_fail ht h3 (f := 5) (g := 5) (by rw [hK]; rfl)
    right
    refine ⟨5, s, mC', mR', ?_, ?_, by omega, by omega, j2, k2⟩
    · rw [j1]; rfl
    · rw [if_neg (show ¬ ¬ w32 (bAnd (bShr (tdN tp) 7) 1) = 1 from fun z => z td.2), k1]; rfl
theorem ptK {S W s w : Int} (hS : S ≤ 8) (hW : W ≤ 6) (s0 : 0 ≤ s) (s1 : s < S) (w0 : 0 ≤ w) (w1 : w < W) : Pt S W (8 * s + w) ∧ 0 ≤ 8 * s + w ∧ 8 * s + w < 64 := by
  unfold Pt
  refine ⟨⟨by omega, by omega, by omega⟩, by omega, by omega⟩
theorem keep_pr {B : Nat → Int} {n s tp : Nat} {mC mR : Mem} (h : BkR B n tp mC mR) (h2 : N2 mC mR) (hs : s ≤ n) (hc : CTk B n s mC) (ht : MT B n s mR) (hK : tkK B n s = 1) : PR B n s mC mR (BookR_readKept mC) (Mo_part_J57 8 mR) := by
  obtain ⟨h1, hM, h3, h4, h5, hN⟩ := id h
  obtain ⟨⟨z0, z1, _⟩, hSW, hr, hpt, hkp⟩ := id hN
  have ge := tkE_gt B (n := n) (s := s) (by omega)
  have gb := tkE_b B hs
  have gs := tkS_b B gb.2
  obtain ⟨mR2, k1, k2, k3⟩ := m_next hM hs (ht.2.2.1 (by omega))
  have hM2 := hM.mf k2.mf
  have hz2 : mR2 75 17 = 0 := by rw [k2.2 _ (by decide) (by decide) (by decide) (by decide)]; exact h3
  have e76 : mR2 76 = mR 76 := k2.1 _ (by decide)
  unfold BookR_readKept Mo_part_J57
  rw [if_neg (show ¬ ¬ w32 8 = 8 by decide)]
  rw [if_pos (show ¬ w32 8 = 3 by decide)]
  unfold Mo_aKeep
  rw [k1, bV_some]
  generalize hs2 : tkS B n (tkE B n s) = s2 at *
  have fF : ∀ (f : Int) (sx : Nat) (mC' mR' : Mem) (rC rR : Option (Int × Mem)), rC = some (0, mC') → rR = some (0, mR') → 1 ≤ f → f ≤ 6 → FC f sx mC mC' → FM f sx mR mR' → PR B n s mC mR rC rR := fun f sx mC' mR' rC rR a b c d e g => Or.inr ⟨f, sx, mC', mR', a, b, c, d, e, g⟩
  have hct := c_tNum h1 gb.2 hc.2.1 (lo := 0) (hi := mC 17 0 - 1) (by omega) (by omega)
  rw [hs2] at hct
  rcases hct with ⟨q, qv, mC3, j1, j2, j3⟩ | ⟨q, qv, mC3, j1, j2⟩ | ⟨q, mC3, j1, j2⟩
  · have ev := j3.2.2.2 q
    have evR := k3.2.2.2 q
    have gge := tkE_gt B (n := n) (s := s2) (by omega)
    have ggb := tkE_b B gs.2
    have ggs := tkS_b B ggb.2
    rw [j1, bE_some, if_pos (show ¬ w32 1 = 0 by decide), if_pos ((m_isN k3).mpr q), evR, e76, z0, w32_id (x := tkV B n s2) (by omega) (by omega), w32_id (x := mC 17 0) (by omega) (by omega), if_pos (show tkV B n s2 < mC 17 0 by omega)]
    obtain ⟨mR4, l1, l2, l3⟩ := m_next hM2 gs.2 (k3.2.2.1 (by omega))
    have hM4 := hM2.mf l2.mf
    have hz4 : mR4 75 17 = 0 := by rw [l2.2 _ (by decide) (by decide) (by decide) (by decide)]; exact hz2
    have e764 : mR4 76 = mR 76 := by rw [l2.1 _ (by decide), e76]
    rw [l1, bV_some]
    have e17 : mC3 17 = mC 17 := j2.1 _ (by decide)
    have hct2 := c_tNum (h1.cf j2.cf) ggb.2 j3.2.1 (lo := 0) (hi := mC3 17 1 - 1) (by omega) (by rw [e17]; omega)
    generalize hs3 : tkS B n (tkE B n s2) = s3 at *
    rw [e17] at hct2 ⊢
    rcases hct2 with ⟨r, rv, mC5, o1, o2, o3⟩ | ⟨r, rv, mC5, o1, o2⟩ | ⟨r, mC5, o1, o2⟩
    · have ev5 := o3.2.2.2 r
      have evR5 := l3.2.2.2 r
      have g3e := tkE_gt B (n := n) (s := s3) (by omega)
      have g3b := tkE_b B ggs.2
      have hP := ptK (S := mC 17 0) (W := mC 17 1) (s := tkV B n s2) (w := tkV B n s3) (by omega) (by omega) (by omega) (by omega) (by omega) (by omega)
      rw [o1, bE_some, if_pos (show ¬ w32 1 = 0 by decide), if_pos ((m_isN l3).mpr r), evR5, e764, z1, w32_id (x := tkV B n s3) (by omega) (by omega), w32_id (x := mC 17 1) (by omega) (by omega), if_pos (show tkV B n s3 < mC 17 1 by omega), ev, ev5, w32_id (x := 2464 + 8 * tkV B n s2 + tkV B n s3) (by omega) (by omega)]
      have hA : 0 ≤ 2464 + 8 * tkV B n s2 + tkV B n s3 ∧ 2464 + 8 * tkV B n s2 + tkV B n s3 < 2900 := by omega
      rw [if_pos hA]
      have hkk := hkp (8 * tkV B n s2 + tkV B n s3) hP.2.1 hP.2.2
      rw [show 2464 + (8 * tkV B n s2 + tkV B n s3) = 2464 + 8 * tkV B n s2 + tkV B n s3 by omega] at hkk
      have e175 : mC5 17 = mC 17 := by rw [o2.1 _ (by decide), e17]
      have ekC : Sheet_isKept 17 (8 * tkV B n s2 + tkV B n s3) mC5 = Sheet_isKept 17 (8 * tkV B n s2 + tkV B n s3) mC := by unfold Sheet_isKept; rw [e175]
      rw [hkk.1, ekC]
      rcases kept01 (c := 17) (p := 8 * tkV B n s2 + tkV B n s3) (m := mC) with y | y
      · rw [y, if_pos rfl, if_pos (show ¬ w32 0 = 1 by decide), if_pos hA]
        generalize hpt' : 8 * tkV B n s2 + tkV B n s3 = pt at *
        have ead : 2464 + 8 * tkV B n s2 + tkV B n s3 = 2464 + pt := by omega
        rw [ead]
        have hB5 := (h.tk j2 k2).tk o2 l2
        have h25 := (h2.tk j2 k2).tk o2 l2
        have hBk : BkR B n tp (Sheet_setKept 17 pt 1 mC5) (st mR4 76 (2464 + pt) 1) := by
          obtain ⟨b1, b2, b3, b4, b5, b6⟩ := hB5
          unfold Sheet_setKept
          refine ⟨b1.cf ((Cf.refl mC5).st _ _ (by omega)), b2.mf ((Mf.refl mR4).s76 _ (by omega)), b3, b4, b5, ?_⟩
          rw [if_neg (show ¬ w32 1 = 0 by decide)]
          obtain ⟨⟨a0, a1, a2, a3, a4, a5⟩, bb, cc, dd, ee⟩ := b6
          refine ⟨⟨?_, ?_, ?_, ?_, ?_, ?_⟩, bb, cc, fun p hp => ?_, fun p p0 p1 => ?_⟩
          · rw [st_eq, if_neg (by omega)]; exact a0
          · rw [st_eq, if_neg (by omega)]; exact a1
          · rw [st_eq, if_neg (by omega)]; exact a2
          · rw [st_eq, if_neg (by omega)]; exact a3
          · rw [st_eq, if_neg (by omega)]; exact a4
          · rw [st_eq, if_neg (by omega)]; exact a5
          · have hp1 : 0 ≤ p := hp.1
            have hp2 : p < 64 := by
              have : p < 8 * mC5 17 0 := hp.2.1
              rw [e175] at this
              omega
            show ((st mR4 76 (2464 + pt) 1) 76 (2336 + p) = mC5 19 p ∧ _) ∧ ((st mR4 76 (2464 + pt) 1) 76 (2400 + p) = mC5 20 p ∧ _)
            rw [st_eq, if_neg (by omega), st_eq, if_neg (by omega)]
            exact dd p hp
          · have e1 := kept_or (c := 17) (p := pt) (q := p) (m := mC5) (m' := st mC5 17 10 (lOr (mC5 17 10) (Sheet_bit pt))) hP.2.1 hP.2.2 p0 p1 (by rw [st_eq, if_pos rfl])
            rw [e1, st_eq]
            by_cases x : p = pt
            · rw [if_pos (by omega), if_pos x]
              refine ⟨rfl, fun hn => absurd ?_ hn⟩
              show Pt (mC5 17 0) (mC5 17 1) p
              rw [e175, x]; exact hP.1
            · rw [if_neg (by omega), if_neg x]
              exact ee p p0 p1
        have h2k : N2 (Sheet_setKept 17 pt 1 mC5) (st mR4 76 (2464 + pt) 1) := h25.of rfl rfl (fun i i0 i1 => by rw [st_eq, if_neg (by omega)])
        obtain ⟨mR6, w1, w2, w3⟩ := m_next (m := st mR4 76 (2464 + pt) 1) hBk.2.1 ggs.2 (by rw [st_ne _ _ _ (by decide)]; exact l3.2.2.1 (by omega))
        rw [w1, bV_some, bE_some, if_pos (show ¬ w32 1 = 0 by decide)]
        exact sgn (mC0 := mC) (mR0 := mR) (hBk.tk (Tk5.refl _) w2) (h2k.tk (Tk5.refl _) w2) g3b.2 (by omega) (show (Sheet_setKept 17 pt 1 mC5) 5 3 = _ from o3.2.1) w3 ((j2.cf.trans o2.cf).trans ((Cf.refl mC5).st _ _ (by omega))) (((k2.mf.trans l2.mf).s76 _ (by omega)).trans w2.mf)
      · rw [y, if_neg (by omega), if_neg (show ¬ ¬ w32 1 = 1 by decide)]
        obtain ⟨mC', x1, x2⟩ := c_fail o3 5
        obtain ⟨mR', y1, y2⟩ := m_fail l3 hz4 (f := 5) (g := 5) (by rw [r]; rfl)
        refine fF 5 s3 mC' mR' _ _ ?_ ?_ (by omega) (by omega) (x2.cf (j2.cf.trans o2.cf)) (y2.mf (k2.mf.trans l2.mf))
        · rw [x1]; rfl
        · rw [y1]; rfl
    · have hv3 := tkV_b r
      obtain ⟨mR', y1, y2⟩ := m_fail l3 hz4 (f := 4) (g := 4) (by rw [r]; rfl)
      refine fF 4 s3 mC5 mR' _ _ ?_ ?_ (by omega) (by omega) (o2.cf j2.cf) (y2.mf (k2.mf.trans l2.mf))
      · rw [o1, bE_some, if_neg (show ¬ ¬ w32 0 = 0 by decide)]
      · rw [if_pos ((m_isN l3).mpr r), l3.2.2.2 r, e764, z1, w32_id (x := tkV B n s3) (by omega) (by omega), w32_id (x := mC 17 1) (by omega) (by omega), if_neg (show ¬ tkV B n s3 < mC 17 1 by omega), y1]; rfl
    · obtain ⟨mR', y1, y2⟩ := m_fail l3 hz4 (f := 2) (g := if tkK B n s3 = 4 then 1 else 2) rfl
      refine fF _ s3 mC5 mR' _ _ ?_ ?_ (ff_b _).1 (ff_b _).2 (o2.cf j2.cf) (y2.mf (k2.mf.trans l2.mf))
      · rw [o1, bE_some, if_neg (show ¬ ¬ w32 0 = 0 by decide)]
      · rw [if_neg (fun x => r ((m_isN l3).mp x)), y1]; rfl
  · have hv := tkV_b q
    obtain ⟨mR', y1, y2⟩ := m_fail k3 hz2 (f := 4) (g := 4) (by rw [q]; rfl)
    refine fF 4 s2 mC3 mR' _ _ ?_ ?_ (by omega) (by omega) j2 (y2.mf k2.mf)
    · rw [j1, bE_some, if_neg (show ¬ ¬ w32 0 = 0 by decide)]
    · rw [if_pos ((m_isN k3).mpr q), k3.2.2.2 q, e76, z0, w32_id (x := tkV B n s2) (by omega) (by omega), w32_id (x := mC 17 0) (by omega) (by omega), if_neg (show ¬ tkV B n s2 < mC 17 0 by omega), y1]; rfl
  · obtain ⟨mR', y1, y2⟩ := m_fail k3 hz2 (f := 2) (g := if tkK B n s2 = 4 then 1 else 2) rfl
    refine fF _ s2 mC3 mR' _ _ ?_ ?_ (ff_b _).1 (ff_b _).2 j2 (y2.mf k2.mf)
    · rw [j1, bE_some, if_neg (show ¬ ¬ w32 0 = 0 by decide)]
    · rw [if_neg (fun x => q ((m_isN k3).mp x)), y1]; rfl
