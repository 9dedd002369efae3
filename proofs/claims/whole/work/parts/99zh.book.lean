/-! layer 2: the book, rows -/
def RwN (S k : Int) (mC mR : Mem) : Prop := ∀ j, 0 ≤ j → j < k → (mR 76 (2336 + (8 * S + j)) = mC 19 (8 * S + j) ∧ 0 ≤ mC 19 (8 * S + j) ∧ mC 19 (8 * S + j) ≤ 999) ∧ (mR 76 (2400 + (8 * S + j)) = mC 20 (8 * S + j) ∧ 0 ≤ mC 20 (8 * S + j) ∧ mC 20 (8 * S + j) ≤ 999)
theorem N1.row {mC mR mC' mR' : Mem} (h : N1 mC mR) (e17 : ∀ i, i ≤ 5 ∨ i = 10 → mC' 17 i = mC 17 i) (e19 : ∀ i, i < 8 * mC 17 0 → mC' 19 i = mC 19 i) (e20 : ∀ i, i < 8 * mC 17 0 → mC' 20 i = mC 20 i) (e76 : ∀ i, 2320 ≤ i → (i < 2326 ∨ 2464 ≤ i) → i < 2528 → mR' 76 i = mR 76 i) (e76a : ∀ p, 0 ≤ p → p < 8 * mC 17 0 → mR' 76 (2336 + p) = mR 76 (2336 + p) ∧ mR' 76 (2400 + p) = mR 76 (2400 + p)) : N1 mC' mR' := by
  obtain ⟨⟨a0, a1, a2, a3, a4, a5⟩, b, c, d, e⟩ := h
  have f0 := e17 0 (by omega); have f1 := e17 1 (by omega); have f2 := e17 2 (by omega); have f3 := e17 3 (by omega); have f4 := e17 4 (by omega); have f5 := e17 5 (by omega); have f10 := e17 10 (by omega)
  unfold N1
  rw [f0, f1, f2, f3, f4, f5]
  refine ⟨⟨?_, ?_, ?_, ?_, ?_, ?_⟩, b, c, ?_, ?_⟩
  · rw [e76 _ (by omega) (by omega) (by omega)]; exact a0
  · rw [e76 _ (by omega) (by omega) (by omega)]; exact a1
  · rw [e76 _ (by omega) (by omega) (by omega)]; exact a2
  · rw [e76 _ (by omega) (by omega) (by omega)]; exact a3
  · rw [e76 _ (by omega) (by omega) (by omega)]; exact a4
  · rw [e76 _ (by omega) (by omega) (by omega)]; exact a5
  · intro p hp
    rw [(e76a p hp.1 hp.2.1).1, (e76a p hp.1 hp.2.1).2, e19 p hp.2.1, e20 p hp.2.1]
    exact d p hp
  · intro p p0 p1
    have := e p p0 p1
    have ek : Sheet_isKept 17 p mC' = Sheet_isKept 17 p mC := by unfold Sheet_isKept; rw [f10]
    rw [e76 _ (by omega) (by omega) (by omega), ek]; exact this
theorem c_tellB {a v : Int} {m : Mem} (h0 : 0 ≤ a) (h1 : a < 64) : Sheet_tellBreadth 17 a v m = st (st m 19 a v) 20 a v := by
  unfold Sheet_tellBreadth Sheet_put
  rw [w32_id (by omega) (by omega), if_neg (by omega), if_neg (by omega), if_neg (by omega), if_neg (by omega)]
theorem m_J89 {S : Int} {k : Nat} {K : Int → Mem → Option (Int × Mem)} {m : Mem} {v : Int} (hS : 0 ≤ S) (hS8 : S < 8) (hk : k < 6) (ev : m 75 14 = v) : Mo_aRow_J89 S K (k : Int) m = bV (Mo_ahead (st (st m 76 (2336 + (8 * S + k)) v) 76 (2400 + (8 * S + k)) v)) fun m12 => K ((k : Int) + 1) m12 := by
  unfold Mo_aRow_J89
  rw [show 2336 + 8 * S + (k : Int) = 2336 + (8 * S + k) by omega, show 2400 + 8 * S + (k : Int) = 2400 + (8 * S + k) by omega, w32_id (x := 2336 + (8 * S + (k : Int))) (by omega) (by omega), w32_id (x := 2400 + (8 * S + (k : Int))) (by omega) (by omega), if_pos (by omega), if_pos (by omega)]
  unfold ltM
  rw [st_ne m (c := 76) (c' := 75) _ _ (by decide), ev]
theorem row_loop {B : Nat → Int} {n tp most : Nat} {S W v1 : Int} (hSW : (S = 0 ∧ W = 0) ∨ (1 ≤ S ∧ S ≤ 8 ∧ 3 ≤ W ∧ W ≤ 6)) (hS8 : S < 8) (hm : (S = 0 ∧ most = 6 ∧ v1 = 1) ∨ (1 ≤ S ∧ (most : Int) = W ∧ v1 = 0)) {KC KR : Int → Mem → Option (Int × Mem)} : ∀ (r k fC fR s : Nat) (mC mR : Mem), k + r = most → r + 1 < fC → r + 1 < fR → s ≤ n → BkR B n tp mC mR → N2 mC mR → mC 17 0 = S → mC 17 1 = W → CTk B n s mC → MT B n s mR → RwN S k mC mR → (∃ (f : Int) (sx : Nat) (mC' mR' : Mem), BookR_readRow_L70 v1 (most : Int) KC fC (k : Int) mC = some (0, mC') ∧ Mo_aRow_L42 S KR fR (k : Int) mR = some (0, mR') ∧ 1 ≤ f ∧ f ≤ 6 ∧ FC f sx mC mC' ∧ FM f sx mR mR') ∨ (∃ (k' s' : Nat) (mC' mR' : Mem), k' ≤ most ∧ s ≤ s' ∧ s' ≤ n ∧ tkK B n s' ≠ 2 ∧ BookR_readRow_L70 v1 (most : Int) KC fC (k : Int) mC = KC (k' : Int) mC' ∧ Mo_aRow_L42 S KR fR (k : Int) mR = KR (k' : Int) mR' ∧ BkR B n tp mC' mR' ∧ N2 mC' mR' ∧ mC' 17 0 = S ∧ mC' 17 1 = W ∧ CTk B n s' mC' ∧ MT B n s' mR' ∧ RwN S k' mC' mR' ∧ Cf mC mC' ∧ Mf mR mR') := by
  intro r
  induction r with
  | zero =>
    intro k fC fR s mC mR hk hfC hfR hs h h2 eS eW hc ht hrw
    obtain ⟨h1, hM, h3, h4, h5, hN⟩ := id h
    have eb := tkK_b B n s
    match fC, hfC, fR, hfR with
    | fC + 1, hfC, fR + 1, hfR =>
      rw [BookR_readRow_L70, Mo_aRow_L42, hc.2.2.1, w32_id (x := tkK B n s) (by omega) (by omega)]
      by_cases q : tkK B n s = 2
      · rw [if_neg (show ¬ ¬ tkK B n s = 2 from fun z => z q), if_neg (show ¬ ¬ w32 (mR 75 11) = 3 from fun z => z ((m_isN ht).mpr q)), w32_id (x := (most : Int)) (by omega) (by omega), w32_id (x := (k : Int)) (by omega) (by omega), if_neg (show ¬ (most : Int) < (k : Int) by omega), if_neg (show ¬ ¬ (k : Int) = (most : Int) by omega), w32_id (x := S) (by omega) (by omega)]
        left
        rcases hm with ⟨a, b, c⟩ | ⟨a, b, c⟩
        · obtain ⟨mC', x1, x2⟩ := c_fail hc 6
          obtain ⟨mR', y1, y2⟩ := m_fail ht h3 (f := 6) (g := 6) (by rw [q]; rfl)
          refine ⟨6, s, mC', mR', ?_, ?_, by omega, by omega, x2, y2⟩
          · rw [c, if_neg (by decide), x1]; rfl
          · rw [if_neg (by omega), if_neg (by omega), y1]; rfl
        · obtain ⟨mC', x1, x2⟩ := c_fail hc 3
          obtain ⟨mR', y1, y2⟩ := m_fail ht h3 (f := 3) (g := 3) (by rw [q]; rfl)
          have e21 : mR 76 2321 = W := by rw [hN.1.2.1]; exact eW
          refine ⟨3, s, mC', mR', ?_, ?_, by omega, by omega, x2, y2⟩
          · rw [c, if_pos (by decide), x1]; rfl
          · rw [if_pos (by omega)]
            unfold Mo_aRow_J67
            rw [w32_id (x := S) (by omega) (by omega), if_neg (by omega), e21, w32_id (x := (k : Int)) (by omega) (by omega), w32_id (x := W) (by omega) (by omega), if_neg (by omega), y1]; rfl
      · right
        refine ⟨k, s, mC, mR, by omega, by omega, hs, q, ?_, ?_, h, h2, eS, eW, hc, ht, hrw, Cf.refl mC, Mf.refl mR⟩
        · rw [if_pos q]
        · rw [if_pos (fun z => q ((m_isN ht).mp z))]
  | succ r ih =>
    intro k fC fR s mC mR hk hfC hfR hs h h2 eS eW hc ht hrw
    obtain ⟨h1, hM, h3, h4, h5, hN⟩ := id h
    have eb := tkK_b B n s
    match fC, hfC, fR, hfR with
    | fC + 1, hfC, fR + 1, hfR =>
      rw [BookR_readRow_L70, Mo_aRow_L42, hc.2.2.1, w32_id (x := tkK B n s) (by omega) (by omega)]
      by_cases q : tkK B n s = 2
      · have hv := tkV_b q
        have k6 : k < 6 := by omega
        have ge := tkE_gt B (n := n) (s := s) (by omega)
        have gb := tkE_b B hs
        have gs := tkS_b B gb.2
        rw [if_neg (show ¬ ¬ tkK B n s = 2 from fun z => z q), if_neg (show ¬ ¬ w32 (mR 75 11) = 3 from fun z => z ((m_isN ht).mpr q)), w32_id (x := (most : Int)) (by omega) (by omega), w32_id (x := (k : Int)) (by omega) (by omega), if_neg (show ¬ (most : Int) < (k : Int) by omega), if_pos (show ¬ (k : Int) = (most : Int) by omega), w32_id (x := S) (by omega) (by omega), eS, c_tellB (by omega) (by omega), hc.2.2.2 q]
        have eR : (if ¬ S = 0 then (Mo_aRow_J67 S (Mo_aRow_L42 S KR fR) (k : Int) mR) else (if ¬ (k : Int) = 6 then (Mo_aRow_J67 S (Mo_aRow_L42 S KR fR) (k : Int) mR) else some (((Mo_fails 6 mR).1 % 2), (Mo_fails 6 mR).2))) = bV (Mo_ahead (st (st mR 76 (2336 + (8 * S + k)) (tkV B n s)) 76 (2400 + (8 * S + k)) (tkV B n s))) fun m12 => Mo_aRow_L42 S KR fR ((k : Int) + 1) m12 := by
          have e67 : Mo_aRow_J67 S (Mo_aRow_L42 S KR fR) (k : Int) mR = Mo_aRow_J89 S (Mo_aRow_L42 S KR fR) (k : Int) mR := by
            unfold Mo_aRow_J67
            rw [w32_id (x := S) (by omega) (by omega)]
            by_cases z : S ≤ 0
            · rw [if_pos z]
            · have e21 : mR 76 2321 = W := by rw [hN.1.2.1]; exact eW
              rw [if_neg z, e21, w32_id (x := (k : Int)) (by omega) (by omega), w32_id (x := W) (by omega) (by omega), if_pos (by omega)]
          rw [← m_J89 (K := Mo_aRow_L42 S KR fR) (by omega) hS8 k6 (ht.2.2.2 q), e67]
          by_cases z : S = 0
          · rw [if_neg (fun y => y z), if_pos (by omega)]
          · rw [if_pos z]
        rw [eR]
        clear eR
        generalize hpd : 8 * S + (k : Int) = pd at *
        have hla : TpC B n (st (st mC 19 pd (tkV B n s)) 20 pd (tkV B n s)) := h1.cf (((Cf.refl mC).st _ _ (by omega)).st _ _ (by omega))
        have hlm : TpM B n (st (st mR 76 (2336 + pd) (tkV B n s)) 76 (2400 + pd) (tkV B n s)) := hM.mf (((Mf.refl mR).s76 _ (by omega)).s76 _ (by omega))
        obtain ⟨mC2, j1, j2, j3⟩ := c_adv hla gb.2 (show (st (st mC 19 pd (tkV B n s)) 20 pd (tkV B n s)) 5 3 = (tkE B n s : Int) from hc.2.1)
        obtain ⟨mR2, l1, l2, l3⟩ := m_next hlm hs (show (st (st mR 76 (2336 + pd) (tkV B n s)) 76 (2400 + pd) (tkV B n s)) 75 13 = (tkE B n s : Int) from ht.2.2.1 (by omega))
        rw [j1, bV_some, l1, bV_some, show (k : Int) + 1 = ((k + 1 : Nat) : Int) by omega]
        have hB' : BkR B n tp (st (st mC 19 pd (tkV B n s)) 20 pd (tkV B n s)) (st (st mR 76 (2336 + pd) (tkV B n s)) 76 (2400 + pd) (tkV B n s)) := by
          refine ⟨hla, hlm, h3, h4, h5, hN.row (fun i _ => rfl) (fun i hi => ?_) (fun i hi => ?_) (fun i i0 i1 i2 => ?_) (fun p p0 p1 => ?_)⟩
          · rw [st_ne _ _ _ (by decide), st_eq, if_neg (by omega)]
          · rw [st_eq, if_neg (by omega), st_ne _ _ _ (by decide)]
          · rw [st_eq, if_neg (by omega), st_eq, if_neg (by omega)]
          · constructor
            · rw [st_eq, if_neg (by omega), st_eq, if_neg (by omega)]
            · rw [st_eq, if_neg (by omega), st_eq, if_neg (by omega)]
        have h2' : N2 (st (st mC 19 pd (tkV B n s)) 20 pd (tkV B n s)) (st (st mR 76 (2336 + pd) (tkV B n s)) 76 (2400 + pd) (tkV B n s)) := h2.of rfl rfl (fun i i0 i1 => by rw [st_eq, if_neg (by omega), st_eq, if_neg (by omega)])
        have hrw' : RwN S ((k + 1 : Nat) : Int) mC2 mR2 := by
          intro j j0 j1'
          rw [l2.1 _ (by decide), j2.1 _ (by decide), j2.1 _ (by decide)]
          by_cases z : j = (k : Int)
          · subst z
            rw [hpd]
            refine ⟨⟨?_, ?_⟩, ⟨?_, ?_⟩⟩
            · rw [st_eq, if_neg (by omega), st_eq, if_pos rfl, st_ne _ _ _ (by decide), st_eq, if_pos rfl]
            · rw [st_ne _ _ _ (by decide), st_eq, if_pos rfl]; exact hv
            · rw [st_eq, if_pos rfl, st_eq, if_pos rfl]
            · rw [st_eq, if_pos rfl]; exact hv
          · have := hrw j j0 (by omega)
            refine ⟨?_, ?_⟩
            · rw [st_eq, if_neg (by omega), st_eq, if_neg (by omega), st_ne _ _ _ (by decide), st_eq, if_neg (by omega)]; exact this.1
            · rw [st_eq, if_neg (by omega), st_eq, if_neg (by omega), st_eq, if_neg (by omega), st_ne _ _ _ (by decide)]; exact this.2
        have fC1 : Cf mC mC2 := (((Cf.refl mC).st _ _ (by omega)).st _ _ (by omega)).trans j2.cf
        have fR1 : Mf mR mR2 := (((Mf.refl mR).s76 _ (by omega)).s76 _ (by omega)).trans l2.mf
        rcases ih (k + 1) fC fR (tkS B n (tkE B n s)) mC2 mR2 (by omega) (by omega) (by omega) gs.2 (hB'.tk j2 l2) (h2'.tk j2 l2) (by rw [j2.1 _ (by decide)]; exact eS) (by rw [j2.1 _ (by decide)]; exact eW) j3 l3 hrw' with ⟨f, sx, mC', mR', x1, x2, x3, x4, x5, x6⟩ | ⟨k', s', mC', mR', y1, y2, y3, y4, y5, y6, y7, y8, y9, y10, y11, y12, y13, y14, y15⟩
        · left; exact ⟨f, sx, mC', mR', x1, x2, x3, x4, x5.cf fC1, x6.mf fR1⟩
        · right; exact ⟨k', s', mC', mR', y1, by omega, y3, y4, y5, y6, y7, y8, y9, y10, y11, y12, y13, fC1.trans y14, fR1.trans y15⟩
      · right
        refine ⟨k, s, mC, mR, by omega, by omega, hs, q, ?_, ?_, h, h2, eS, eW, hc, ht, hrw, Cf.refl mC, Mf.refl mR⟩
        · rw [if_pos q]
        · rw [if_pos (fun z => q ((m_isN ht).mp z))]
