/-! layer 2: the book, a row's end -/
theorem N1.add {mC mR : Mem} {S k : Int} (h : N1 mC mR) (eS : mC 17 0 = S) (hk : (S = 0 ∧ 3 ≤ k ∧ k ≤ 6) ∨ (1 ≤ S ∧ S < 8 ∧ mC 17 1 = k)) (hr : RwN S k mC mR) : N1 (st (st mC 17 1 k) 17 0 (S + 1)) (st (st mR 76 2321 k) 76 2320 (S + 1)) := by
  obtain ⟨⟨a0, a1, a2, a3, a4, a5⟩, b, c, d, e⟩ := h
  have hpt : ∀ p, Pt (S + 1) k p → ¬ Pt S (mC 17 1) p → 0 ≤ p - 8 * S ∧ p - 8 * S < k := by
    intro p hp hn
    unfold Pt at hp hn
    rcases hk with ⟨x, y, z⟩ | ⟨x, y, z⟩
    · subst x
      have : p % 8 = p := Int.emod_eq_of_lt hp.1 (by omega)
      omega
    · rw [z] at hn
      have : 8 * S ≤ p := by
        by_cases w : 8 * S ≤ p
        · exact w
        · exact absurd ⟨hp.1, by omega, hp.2.2⟩ hn
      omega
  have hpt2 : ∀ p, Pt S (mC 17 1) p → Pt (S + 1) k p := by
    intro p hp
    unfold Pt at hp ⊢
    rcases hk with ⟨x, y, z⟩ | ⟨x, y, z⟩
    · omega
    · rw [z] at hp; omega
  have g : ∀ i, 2322 ≤ i → (st (st mR 76 2321 k) 76 2320 (S + 1)) 76 i = mR 76 i := fun i hi => by rw [st_eq, if_neg (by omega), st_eq, if_neg (by omega)]
  refine ⟨⟨rfl, rfl, a2, a3, a4, a5⟩, Or.inr ?_, c, fun p hp => ?_, fun p p0 p1 => ?_⟩
  · show 1 ≤ S + 1 ∧ S + 1 ≤ 8 ∧ 3 ≤ k ∧ k ≤ 6
    rcases hk with ⟨x, y, z⟩ | ⟨x, y, z⟩
    · omega
    · rw [eS] at b; omega
  · have hp' : Pt (S + 1) k p := hp
    have hp0 : 0 ≤ p := hp'.1
    rw [g _ (by omega), g _ (by omega)]
    show (mR 76 (2336 + p) = mC 19 p ∧ 0 ≤ mC 19 p ∧ mC 19 p ≤ 999) ∧ (mR 76 (2400 + p) = mC 20 p ∧ 0 ≤ mC 20 p ∧ mC 20 p ≤ 999)
    by_cases q : Pt S (mC 17 1) p
    · exact d p (by rw [eS]; exact q)
    · have := hpt p hp' q
      have := hr (p - 8 * S) this.1 this.2
      rw [show 8 * S + (p - 8 * S) = p by omega] at this
      exact this
  · rw [g _ (by omega)]
    show mR 76 (2464 + p) = Sheet_isKept 17 p mC ∧ (¬ Pt (S + 1) k p → Sheet_isKept 17 p mC = 0)
    have := e p p0 p1
    rw [eS] at this
    exact ⟨this.1, fun hn => this.2 (fun z => hn (hpt2 p z))⟩
noncomputable def rwK (S u15 : Int) (m16 : Mem) : Option (Int × Mem) := (if ¬ (w32 (m16 75 11)) = 4 then some (1, (st (st m16 76 2321 u15) 76 2320 (((st m16 76 2321 u15) 76 2320) + 1))) else (if ¬ (w32 S) = 0 then (if (w32 (m16 76 2321)) ≤ (w32 u15) then some (1, (st (st m16 76 2321 u15) 76 2320 (((st m16 76 2321 u15) 76 2320) + 1))) else some (((Mo_fails 3 m16).1 % 2), (Mo_fails 3 m16).2)) else (if 3 ≤ (w32 u15) then some (1, (st (st m16 76 2321 u15) 76 2320 (((st m16 76 2321 u15) 76 2320) + 1))) else some (((Mo_fails 3 m16).1 % 2), (Mo_fails 3 m16).2))))
noncomputable def ptE (r : Option (Int × Mem)) : Option (Int × Mem) := bE r fun x41 m43 => (if ¬ (w32 x41) = 0 then mEnd m43 else some (0, m43))
theorem ptE_0 (m : Mem) : ptE (some (0, m)) = some (0, m) := by
  unfold ptE
  rw [bE_some, if_neg (show ¬ ¬ w32 0 = 0 by decide)]
theorem ptE_1 (m : Mem) : ptE (some (1, m)) = mEnd m := by
  unfold ptE
  rw [bE_some, if_pos (show ¬ w32 1 = 0 by decide)]
theorem row_end {B : Nat → Int} {n tp s0 s k most : Nat} {S W v1 : Int} {mC mR mC0 mR0 : Mem} (hSW : (S = 0 ∧ W = 0) ∨ (1 ≤ S ∧ S ≤ 8 ∧ 3 ≤ W ∧ W ≤ 6)) (hS8 : S < 8) (hm : (S = 0 ∧ most = 6 ∧ v1 = 1) ∨ (1 ≤ S ∧ (most : Int) = W ∧ v1 = 0)) (hk : k ≤ most) (hs0 : s0 ≤ s) (hs : s ≤ n) (q2 : tkK B n s ≠ 2) (h : BkR B n tp mC mR) (h2 : N2 mC mR) (eS : mC 17 0 = S) (eW : mC 17 1 = W) (hc : CTk B n s mC) (ht : MT B n s mR) (hr : RwN S k mC mR) (fC : Cf mC0 mC) (fR : Mf mR0 mR) : PR B n s0 mC0 mR0 (BookR_readRow_J148 v1 (k : Int) mC) (ptE (rwK S (k : Int) mR)) := by
  obtain ⟨h1, hM, h3, h4, h5, hN⟩ := id h
  have e20 : mR 76 2320 = S := by rw [hN.1.1]; exact eS
  have e21 : mR 76 2321 = W := by rw [hN.1.2.1]; exact eW
  have eR0 : (st (st mR 76 2321 (k : Int)) 76 2320 (((st mR 76 2321 (k : Int)) 76 2320) + 1)) = st (st mR 76 2321 (k : Int)) 76 2320 (S + 1) := by
    rw [show (st mR 76 2321 (k : Int)) 76 2320 = mR 76 2320 by rw [st_eq, if_neg (by decide)], e20]
  have htR : MT B n s (st (st mR 76 2321 (k : Int)) 76 2320 (S + 1)) := ht
  have hMR : Mf mR (st (st mR 76 2321 (k : Int)) 76 2320 (S + 1)) := ((Mf.refl mR).s76 _ (by omega)).s76 _ (by omega)
  unfold BookR_readRow_J148 rwK
  rw [eR0]
  rcases c_isK hc (k := 3) (by omega) with ⟨q, j⟩ | ⟨q, mC', j1, j2⟩
  · rw [j]
    have eC0 : (st (st mC 17 1 (k : Int)) 17 0 (((st mC 17 1 (k : Int)) 17 0) + 1)) = st (st mC 17 1 (k : Int)) 17 0 (S + 1) := by
      rw [show (st mC 17 1 (k : Int)) 17 0 = mC 17 0 by rw [st_eq, if_neg (by decide)], eS]
    show PR B n s0 mC0 mR0 (if ¬ w32 1 = 0 then (if w32 v1 = 0 then (if w32 (k : Int) = w32 (mC 17 1) then some (1, (st (st mC 17 1 (k : Int)) 17 0 (((st mC 17 1 (k : Int)) 17 0) + 1))) else some (((Tape_fail 3 mC).1 % 2), (Tape_fail 3 mC).2)) else (if 3 ≤ w32 (k : Int) then some (1, (st (st mC 17 1 (k : Int)) 17 0 (((st mC 17 1 (k : Int)) 17 0) + 1))) else some (((Tape_fail 3 mC).1 % 2), (Tape_fail 3 mC).2))) else some (0, mC)) _
    rw [eC0, eW, e21, if_pos (show ¬ w32 1 = 0 by decide), if_neg (show ¬ ¬ w32 (mR 75 11) = 4 from fun z => z ((m_isS ht).mpr q)), w32_id (x := (k : Int)) (by omega) (by omega), w32_id (x := W) (by omega) (by omega), w32_id (x := S) (by omega) (by omega)]
    -- good or bad
    have good : (S = 0 ∧ 3 ≤ (k : Int) ∧ (k : Int) ≤ 6) ∨ (1 ≤ S ∧ S < 8 ∧ W = (k : Int)) → PR B n s0 mC0 mR0 (some (1, st (st mC 17 1 (k : Int)) 17 0 (S + 1))) (ptE (some (1, st (st mR 76 2321 (k : Int)) 76 2320 (S + 1)))) := by
      intro hg
      have ge := tkE_gt B (n := n) (s := s) (by omega)
      have gb := tkE_b B hs
      have hBn : BkR B n tp (st (st mC 17 1 (k : Int)) 17 0 (S + 1)) (st (st mR 76 2321 (k : Int)) 76 2320 (S + 1)) := by
        refine ⟨h1.cf (((Cf.refl mC).st _ _ (by omega)).st _ _ (by omega)), hM.mf hMR, h3, h4, h5, hN.add eS (by rcases hg with x | x; exact Or.inl x; exact Or.inr ⟨x.1, x.2.1, by rw [eW]; exact x.2.2⟩) hr⟩
      have h2n : N2 (st (st mC 17 1 (k : Int)) 17 0 (S + 1)) (st (st mR 76 2321 (k : Int)) 76 2320 (S + 1)) := h2.of rfl rfl (fun i i0 i1 => by rw [st_eq, if_neg (by omega), st_eq, if_neg (by omega)])
      obtain ⟨mR', k1, k2, k3⟩ := m_next hBn.2.1 hs (htR.2.2.1 (by omega))
      rw [ptE_1]
      left
      refine ⟨tkE B n s, tp, _, mR', rfl, ?_, by omega, gb.2, hc.2.1, k3, hBn.tk (Tk5.refl _) k2, h2n.tk (Tk5.refl _) k2, (fC.st _ _ (by omega)).st _ _ (by omega), (fR.trans hMR).trans k2.mf⟩
      unfold mEnd
      rw [if_pos ((m_isS htR).mpr q), k1, bV_some]
    have bad : PR B n s0 mC0 mR0 (some (((Tape_fail 3 mC).1 % 2), (Tape_fail 3 mC).2)) (ptE (some (((Mo_fails 3 mR).1 % 2), (Mo_fails 3 mR).2))) := by
      obtain ⟨mC', x1, x2⟩ := c_fail hc 3
      obtain ⟨mR', y1, y2⟩ := m_fail ht h3 (f := 3) (g := 3) (by rw [q]; rfl)
      right
      refine ⟨3, s, mC', mR', ?_, ?_, by omega, by omega, x2.cf fC, y2.mf fR⟩
      · rw [x1]; rfl
      · rw [y1]; exact ptE_0 mR'
    rcases hm with ⟨a, b, c⟩ | ⟨a, b, c⟩
    · rw [c, if_neg (show ¬ w32 1 = 0 by decide), if_neg (show ¬ ¬ S = 0 by omega)]
      by_cases y : 3 ≤ (k : Int)
      · rw [if_pos y, if_pos y]; exact good (Or.inl ⟨a, y, by omega⟩)
      · rw [if_neg y, if_neg y]; exact bad
    · rw [c, if_pos (show w32 0 = 0 by decide), if_pos (show ¬ S = 0 by omega)]
      by_cases y : (k : Int) = W
      · rw [if_pos y, if_pos (show W ≤ (k : Int) by omega)]; exact good (Or.inr ⟨a, hS8, y.symm⟩)
      · rw [if_neg y, if_neg (show ¬ W ≤ (k : Int) by omega)]; exact bad
  · obtain ⟨mR', y1, y2⟩ := m_fail (m := st (st mR 76 2321 (k : Int)) 76 2320 (S + 1)) htR h3 (f := 2) (g := if tkK B n s = 4 then 1 else 2) rfl
    rw [j1, if_pos (show ¬ w32 (mR 75 11) = 4 from fun z => q ((m_isS ht).mp z)), ptE_1]
    right
    refine ⟨_, s, mC', mR', ?_, ?_, (ff_b _).1, (ff_b _).2, j2.cf fC, y2.mf (fR.trans hMR)⟩
    · show (if ¬ w32 0 = 0 then _ else some (0, mC')) = _
      rw [if_neg (show ¬ ¬ w32 0 = 0 by decide)]
    · unfold mEnd
      rw [if_neg (fun z => q ((m_isS htR).mp z)), y1]; rfl
theorem aRow_eq (m : Mem) : Mo_aRow m = (if ¬ (w32 (m 76 2320)) = 8 then (bV (Mo_ahead m) fun m3 => (if (w32 (m3 75 11)) = 3 then (Mo_aRow_L42 (m 76 2320) (fun u m' => rwK (m 76 2320) u m') FU 0 m3) else some (((Mo_fails 2 m3).1 % 2), (Mo_fails 2 m3).2))) else some (((Mo_fails 6 m).1 % 2), (Mo_fails 6 m).2)) := rfl
theorem row_pr {B : Nat → Int} {n s tp : Nat} {mC mR : Mem} (h : BkR B n tp mC mR) (h2 : N2 mC mR) (hs : s ≤ n) (hc : CTk B n s mC) (ht : MT B n s mR) (hK : tkK B n s = 1) : PR B n s mC mR (BookR_readRow mC) (Mo_part_J57 3 mR) := by
  obtain ⟨h1, hM, h3, h4, h5, hN⟩ := id h
  obtain ⟨⟨z0, z1, _⟩, hSW, _⟩ := id hN
  have ge := tkE_gt B (n := n) (s := s) (by omega)
  have gb := tkE_b B hs
  have gs := tkS_b B gb.2
  have eJ : Mo_part_J57 3 mR = ptE (Mo_aRow mR) := by
    unfold Mo_part_J57
    rw [if_neg (show ¬ ¬ w32 3 = 3 by decide)]
    rfl
  rw [eJ]
  unfold BookR_readRow
  rw [aRow_eq]
  rw [z0, w32_id (x := mC 17 0) (by omega) (by omega)]
  by_cases g8 : mC 17 0 < 8
  · rw [if_pos g8, if_pos (show ¬ mC 17 0 = 8 by omega)]
    obtain ⟨mR2, k1, k2, k3⟩ := m_next hM hs (ht.2.2.1 (by omega))
    have hz2 : mR2 75 17 = 0 := by rw [k2.2 _ (by decide) (by decide) (by decide) (by decide)]; exact h3
    rw [k1, bV_some]
    rcases c_tKind h1 gb.2 hc.2.1 (k := 2) (by omega) with ⟨q, mC2, j1, j2, j3⟩ | ⟨q, mC2, j1, j2⟩
    · have e17 : mC2 17 = mC 17 := j2.1 _ (by decide)
      rw [j1, bE_some, if_pos (show ¬ w32 1 = 0 by decide), if_pos ((m_isN k3).mpr q), e17, w32_id (x := mC 17 0) (by omega) (by omega)]
      have hBt := h.tk j2 k2
      have h2t := h2.tk j2 k2
      have key : ∀ (most : Nat) (v1 : Int), ((mC 17 0 = 0 ∧ most = 6 ∧ v1 = 1) ∨ (1 ≤ mC 17 0 ∧ (most : Int) = mC 17 1 ∧ v1 = 0)) → PR B n s mC mR (BookR_readRow_L70 v1 (most : Int) (fun u17 m18 => BookR_readRow_J148 v1 u17 m18) FU 0 mC2) (ptE (Mo_aRow_L42 (mC 17 0) (fun u m => rwK (mC 17 0) u m) FU 0 mR2)) := by
        intro most v1 hm
        rcases row_loop (B := B) (n := n) (tp := tp) (most := most) (S := mC 17 0) (W := mC 17 1) (v1 := v1) hSW g8 hm (KC := fun u17 m18 => BookR_readRow_J148 v1 u17 m18) (KR := fun u m => rwK (mC 17 0) u m) most 0 FU FU (tkS B n (tkE B n s)) mC2 mR2 (by omega) (by rw [FU_eq]; omega) (by rw [FU_eq]; omega) gs.2 hBt h2t (by rw [e17]) (by rw [e17]) j3 k3 (fun j j0 j1 => by omega) with ⟨f, sx, mC', mR', x1, x2, x3, x4, x5, x6⟩ | ⟨k', s', mC', mR', y1, y2, y3, y4, y5, y6, y7, y8, y9, y10, y11, y12, y13, y14, y15⟩
        · right
          refine ⟨f, sx, mC', mR', x1, ?_, x3, x4, x5.cf j2.cf, x6.mf k2.mf⟩
          rw [show ((0 : Nat) : Int) = 0 from rfl] at x2
          rw [x2]; exact ptE_0 mR'
        · rw [show ((0 : Nat) : Int) = 0 from rfl] at y5 y6
          rw [y5, y6]
          exact row_end (s0 := s) hSW g8 hm y1 (by omega) y3 y4 y7 y8 y9 y10 y11 y12 y13 (j2.cf.trans y14) (k2.mf.trans y15)
      by_cases g0 : mC 17 0 = 0
      · have := key 6 1 (Or.inl ⟨g0, rfl, rfl⟩)
        rw [if_neg (show ¬ ¬ mC 17 0 = 0 from fun z => z g0), if_neg (show ¬ (1 : Int) = 0 by decide)]
        exact this
      · have := key (mC 17 1).toNat 0 (Or.inr ⟨by omega, by omega, rfl⟩)
        rw [show (((mC 17 1).toNat : Nat) : Int) = mC 17 1 by omega] at this
        rw [if_pos g0, if_pos (show (0 : Int) = 0 from rfl)]
        exact this
    · obtain ⟨mR', y1, y2⟩ := m_fail k3 hz2 (f := 2) (g := if tkK B n (tkS B n (tkE B n s)) = 4 then 1 else 2) rfl
      right
      refine ⟨_, tkS B n (tkE B n s), mC2, mR', ?_, ?_, (ff_b _).1, (ff_b _).2, j2, y2.mf k2.mf⟩
      · rw [j1, bE_some, if_neg (show ¬ ¬ w32 0 = 0 by decide)]
      · rw [if_neg (fun z => q ((m_isN k3).mp z)), y1]; exact ptE_0 mR'
  · obtain ⟨mC', x1, x2⟩ := c_fail hc 6
    obtain ⟨mR', y1, y2⟩ := m_fail ht h3 (f := 6) (g := 6) (by rw [hK]; rfl)
    right
    refine ⟨6, s, mC', mR', ?_, ?_, by omega, by omega, x2, y2⟩
    · rw [if_neg g8, x1]; rfl
    · rw [if_neg (show ¬ ¬ mC 17 0 = 8 by omega), y1]; exact ptE_0 mR'
