/-! layer 2: the way, bend -/
theorem dk8 : ∀ (u : Fin 256), pcN 10 u.val = 8 → ∀ c : Fin 8, ¬ (u.val / 2 ^ c.val) % 2 = 0 := by decide +kernel
theorem dk9 : ∀ (u : Fin 256), pcN 10 u.val ≤ 8 := by decide +kernel
theorem dkU : ∀ (u : Fin 256) (c : Fin 8), (u.val / 2 ^ c.val) % 2 = 0 → u.val + 2 ^ c.val < 256 := by decide +kernel
theorem c_tWord {B : Nat → Int} {n p k : Nat} {m : Mem} (h : TpC B n m) (hp : p ≤ n) (e3 : m 5 3 = (p : Int)) (hk : k < 20) : (wdL B n (tkS B n p) = chL k ∧ tkK B n (tkS B n p) = 1 ∧ ∃ m', Tape_takeWord k m = some (1, m') ∧ Tk5 m m' ∧ CTk B n (tkS B n p) m') ∨ (wdL B n (tkS B n p) ≠ chL k ∧ ∃ m', Tape_takeWord k m = some (0, m') ∧ FC (if tkK B n (tkS B n p) = 4 then 1 else 2) (tkS B n p) m m') := by
  obtain ⟨ma, a1, a2, a3⟩ := c_adv h hp e3
  have hs := tkS_b B hp
  unfold Tape_takeWord
  rw [a1, bV_some]
  rcases c_isK a3 (k := 1) (by omega) with ⟨q, j⟩ | ⟨q, m', j1, j2⟩
  · rw [j]
    have e1 : (if ¬ (w32 ((1 : Int), ma).1) = 0 then (bP (Tape_isWord k ((1 : Int), ma).2) fun x4 => (if ¬ (w32 x4) = 0 then some ((1 : Int), ((1 : Int), ma).2) else some ((if (w32 (Tape_fail 2 ((1 : Int), ma).2).1) = 0 then 0 else 1 : Int), (Tape_fail 2 ((1 : Int), ma).2).2))) else some (0, ((1 : Int), ma).2)) = (if ¬ w32 (if wdL B n (tkS B n p) = chL k then 1 else 0 : Int) = 0 then some ((1 : Int), ma) else some ((if (w32 (Tape_fail 2 ma).1) = 0 then 0 else 1 : Int), (Tape_fail 2 ma).2)) := by
      rw [if_pos (show ¬ w32 ((1 : Int), ma).1 = 0 from (by decide : ¬ w32 1 = 0))]
      show bP (Tape_isWord k ma) _ = _
      rw [c_word (h.cf a2.cf) hs.2 a3 hk, bP_some]
    rw [e1]
    by_cases y : wdL B n (tkS B n p) = chL k
    · left
      refine ⟨y, q, ma, ?_, a2, a3⟩
      rw [if_pos y, if_pos (show ¬ w32 1 = 0 by decide)]
    · right
      obtain ⟨m', x1, x2⟩ := c_fail a3 2
      refine ⟨y, m', ?_, ?_⟩
      · rw [if_neg y, if_neg (show ¬ ¬ w32 0 = 0 by decide), x1]; rfl
      · rw [q, if_neg (by decide)]; exact x2.cf a2.cf
  · right
    refine ⟨fun y => ?_, m', ?_, j2.cf a2.cf⟩
    · rw [wdL_n q] at y
      have hsl := slen_b ⟨k, hk⟩
      simp only at hsl
      have := congrArg List.length y
      unfold chL at this
      simp at this
      omega
    · rw [j1]
      show (if ¬ w32 0 = 0 then _ else some (0, m')) = _
      rw [if_neg (show ¬ ¬ w32 0 = 0 by decide)]
/-- only a step's ducks and the token change -/
def DkM (r : Int) (m m' : Mem) : Prop := (∀ c, c ≠ 75 → c ≠ 76 → m' c = m c) ∧ (∀ i, i < 11 ∨ 14 < i → m' 75 i = m 75 i) ∧ (∀ i, i ≠ r + 4 → m' 76 i = m 76 i)
theorem DkM.mf {r : Int} {m m' : Mem} (h : DkM r m m') (hr : 2320 ≤ r) : Mf m m' := ⟨fun c a b _ => h.1 c a b, fun i hi => h.2.1 i (by omega), fun i hi => h.2.2 i (by omega)⟩
theorem duck_end {B : Nat → Int} {n s D k : Nat} {r : Int} {mC mR : Mem} (hs : s ≤ n) (hD : D < 256) (ek : pcN 10 D = k) (h3 : mR 75 17 = 0) (hc : CTk B n s mC) (ht : MT B n s mR) (hk1 : k = 0 → tkK B n s = 2) (q : tkK B n s ≠ 2) : (∃ (f : Int) (sx : Nat) (mC' mR' : Mem), (if ¬ (w32 (Tape_isKind 3 mC).1) = 0 then (if 2 ≤ (w32 (J_bitCount (D : Int))) then some ((D : Int), (Tape_isKind 3 mC).2) else some ((-1), (Tape_fail 2 (Tape_isKind 3 mC).2).2)) else some ((-1), (Tape_isKind 3 mC).2)) = some (-1, mC') ∧ (bE (if 1 < (k : Int) then some ((1 : Int), mR) else some ((if (w32 (Mo_fails 2 mR).1) = 0 then 0 else 1 : Int), (Mo_fails 2 mR).2)) fun x m => mTl x m) = some (0, mR') ∧ 1 ≤ f ∧ f ≤ 6 ∧ FC f sx mC mC' ∧ FM f sx mR mR') ∨ (tkK B n s = 3 ∧ 2 ≤ pcN 10 D ∧ (if ¬ (w32 (Tape_isKind 3 mC).1) = 0 then (if 2 ≤ (w32 (J_bitCount (D : Int))) then some ((D : Int), (Tape_isKind 3 mC).2) else some ((-1), (Tape_fail 2 (Tape_isKind 3 mC).2).2)) else some ((-1), (Tape_isKind 3 mC).2)) = some ((D : Int), mC) ∧ (bE (if 1 < (k : Int) then some ((1 : Int), mR) else some ((if (w32 (Mo_fails 2 mR).1) = 0 then 0 else 1 : Int), (Mo_fails 2 mR).2)) fun x m => mTl x m) = mEn2 mR) := by
  have ebc : J_bitCount (D : Int) = (pcN 10 D : Int) := rbC ⟨D, by omega⟩
  have h9 := dk9 ⟨D, hD⟩
  simp only at h9
  obtain ⟨mR', y1, y2⟩ := m_fail ht h3 (f := 2) (g := if tkK B n s = 4 then 1 else 2) rfl
  have eR : tkK B n s ≠ 3 ∨ k < 2 → (bE (if 1 < (k : Int) then some ((1 : Int), mR) else some ((if (w32 (Mo_fails 2 mR).1) = 0 then 0 else 1 : Int), (Mo_fails 2 mR).2)) fun x m => mTl x m) = some (0, mR') := by
    intro hh
    by_cases y : 1 < (k : Int)
    · rw [if_pos y, bE_some, mTl1]
      exact mEn2F ht (by omega) y1
    · rw [if_neg y, y1]
      show bE (some ((0 : Int), mR')) _ = _
      rw [bE_some, mTl0]
  rcases c_isK hc (k := 3) (by omega) with ⟨p, j⟩ | ⟨p, mC', j1, j2⟩
  · rw [j]
    have e1 : (if ¬ (w32 ((1 : Int), mC).1) = 0 then (if 2 ≤ (w32 (J_bitCount (D : Int))) then some ((D : Int), ((1 : Int), mC).2) else some ((-1), (Tape_fail 2 ((1 : Int), mC).2).2)) else some ((-1), ((1 : Int), mC).2)) = (if 2 ≤ (pcN 10 D : Int) then some ((D : Int), mC) else some ((-1), (Tape_fail 2 mC).2)) := by
      rw [if_pos (show ¬ w32 ((1 : Int), mC).1 = 0 from (by decide : ¬ w32 1 = 0)), ebc, w32_id (x := (pcN 10 D : Int)) (by omega) (by omega)]
    rw [e1]
    by_cases y : 2 ≤ (pcN 10 D : Int)
    · right
      refine ⟨p, by omega, by rw [if_pos y], ?_⟩
      rw [if_pos (by omega), bE_some, mTl1]
    · left
      obtain ⟨mC', x1, x2⟩ := c_fail hc 2
      refine ⟨2, s, mC', mR', ?_, eR (Or.inr (by omega)), by omega, by omega, x2, ?_⟩
      · rw [if_neg y, x1]
      · rw [p, if_neg (by decide)] at y2; exact y2
  · left
    refine ⟨_, s, mC', mR', ?_, eR (Or.inl p), (ff_b _).1, (ff_b _).2, j2, y2⟩
    rw [j1]
    show (if ¬ w32 0 = 0 then _ else some (-1, mC')) = _
    rw [if_neg (show ¬ ¬ w32 0 = 0 by decide)]
theorem duck_loop {B : Nat → Int} {n : Nat} {r0 : Int} (hr : 2528 ≤ r0 ∧ r0 + 5 < 2900) : ∀ (q k fC fR s D : Nat) (mC mR : Mem), k + q = 8 → q + 1 < fC → q + 1 < fR → s ≤ n → D < 256 → pcN 10 D = k → TpC B n mC → TpM B n mR → mR 75 17 = 0 → CTk B n s mC → MT B n s mR → mR 76 (r0 + 4) = (D : Int) → (k = 0 → tkK B n s = 2) → (∃ (f : Int) (sx : Nat) (mC' mR' : Mem), WayR_readDucks_L4 fC (D : Int) (k : Int) mC = some (-1, mC') ∧ (bE (Mo_aBend_L73 r0 fR (k : Int) mR) fun x m => mTl x m) = some (0, mR') ∧ 1 ≤ f ∧ f ≤ 6 ∧ FC f sx mC mC' ∧ FM f sx mR mR') ∨ (∃ (s' D' : Nat) (mC' mR' : Mem), s ≤ s' ∧ s' ≤ n ∧ tkK B n s' = 3 ∧ D' < 256 ∧ 2 ≤ pcN 10 D' ∧ WayR_readDucks_L4 fC (D : Int) (k : Int) mC = some ((D' : Int), mC') ∧ (bE (Mo_aBend_L73 r0 fR (k : Int) mR) fun x m => mTl x m) = mEn2 mR' ∧ CTk B n s' mC' ∧ MT B n s' mR' ∧ Tk5 mC mC' ∧ DkM r0 mR mR' ∧ mR' 76 (r0 + 4) = (D' : Int)) := by
  intro q
  induction q with
  | zero =>
    intro k fC fR s D mC mR hk hfC hfR hs hD ek h1 hM h3 hc ht e4 hk0
    have eb := tkK_b B n s
    match fC, hfC, fR, hfR with
    | fC + 1, hfC, fR + 1, hfR =>
      rw [WayR_readDucks_L4, Mo_aBend_L73, w32_id (x := (k : Int)) (by omega) (by omega), if_neg (show ¬ 8 < (k : Int) by omega), hc.2.2.1, w32_id (x := tkK B n s) (by omega) (by omega)]
      by_cases p : tkK B n s = 2
      · left
        have hv := tkV_b p
        obtain ⟨mC', x1, x2⟩ := c_fail hc 4
        obtain ⟨mR', y1, y2⟩ := m_fail ht h3 (f := 4) (g := 4) (by rw [p]; rfl)
        refine ⟨4, s, mC', mR', ?_, ?_, by omega, by omega, x2, y2⟩
        · rw [if_neg (show ¬ ¬ tkK B n s = 2 from fun z => z p), hc.2.2.2 p, w32_id (x := tkV B n s) (by omega) (by omega)]
          by_cases y : 7 < tkV B n s
          · rw [if_pos y, x1]
          · obtain ⟨v, ev⟩ : ∃ v : Nat, tkV B n s = (v : Int) := ⟨(tkV B n s).toNat, by omega⟩
            have hz : ¬ Fz D v := dk8 ⟨D, hD⟩ (by simp only; omega) ⟨v, by omega⟩
            rw [if_neg y, ev, bitO (by omega) (by omega) hz, if_neg (by decide), x1]
        · rw [if_neg (show ¬ ¬ w32 (mR 75 11) = 3 from fun z => z ((m_isN ht).mpr p)), ht.2.2.2 p, w32_id (x := tkV B n s) (by omega) (by omega)]
          by_cases y : 7 < tkV B n s
          · rw [if_pos y, y1]
            show bE (some ((0 : Int), mR')) _ = _
            rw [bE_some, mTl0]
          · obtain ⟨v, ev⟩ : ∃ v : Nat, tkV B n s = (v : Int) := ⟨(tkV B n s).toNat, by omega⟩
            have hz : ¬ Fz D v := dk8 ⟨D, hD⟩ (by simp only; omega) ⟨v, by omega⟩
            rw [if_neg y, w32_id (x := r0 + 4) (by omega) (by omega), if_pos (by omega), e4, ev, bitO (by omega) (by omega) hz, if_neg (by decide), y1]
            show bE (some ((0 : Int), mR')) _ = _
            rw [bE_some, mTl0]
      · rw [if_pos p, if_pos (show ¬ w32 (mR 75 11) = 3 from fun z => p ((m_isN ht).mp z))]
        rcases duck_end (r := r0) hs hD ek h3 hc ht hk0 p with ⟨f, sx, mC', mR', a⟩ | ⟨a1, a2, a3, a4⟩
        · left; exact ⟨f, sx, mC', mR', a⟩
        · right; exact ⟨s, D, mC, mR, Nat.le_refl _, hs, a1, hD, a2, a3, a4, hc, ht, Tk5.refl mC, ⟨fun _ _ _ => rfl, fun _ _ => rfl, fun _ _ => rfl⟩, e4⟩
  | succ q ih =>
    intro k fC fR s D mC mR hk hfC hfR hs hD ek h1 hM h3 hc ht e4 hk0
    have eb := tkK_b B n s
    match fC, hfC, fR, hfR with
    | fC + 1, hfC, fR + 1, hfR =>
      rw [WayR_readDucks_L4, Mo_aBend_L73, w32_id (x := (k : Int)) (by omega) (by omega), if_neg (show ¬ 8 < (k : Int) by omega), hc.2.2.1, w32_id (x := tkK B n s) (by omega) (by omega)]
      by_cases p : tkK B n s = 2
      · have hv := tkV_b p
        rw [if_neg (show ¬ ¬ tkK B n s = 2 from fun z => z p), hc.2.2.2 p, w32_id (x := tkV B n s) (by omega) (by omega), if_neg (show ¬ ¬ w32 (mR 75 11) = 3 from fun z => z ((m_isN ht).mpr p)), ht.2.2.2 p]
        have fail4 : ∀ (rC rR : Option (Int × Mem)), rC = some ((-1), (Tape_fail 4 mC).2) → rR = some (((Mo_fails 4 mR).1 % 2), (Mo_fails 4 mR).2) → ∃ (f : Int) (sx : Nat) (mC' mR' : Mem), rC = some (-1, mC') ∧ (bE rR fun x m => mTl x m) = some (0, mR') ∧ 1 ≤ f ∧ f ≤ 6 ∧ FC f sx mC mC' ∧ FM f sx mR mR' := by
          intro rC rR hC hR
          obtain ⟨mC', x1, x2⟩ := c_fail hc 4
          obtain ⟨mR', y1, y2⟩ := m_fail ht h3 (f := 4) (g := 4) (by rw [p]; rfl)
          refine ⟨4, s, mC', mR', by rw [hC, x1], ?_, by omega, by omega, x2, y2⟩
          rw [hR, y1]
          show bE (some ((0 : Int), mR')) _ = _
          rw [bE_some, mTl0]
        by_cases y : 7 < tkV B n s
        · left
          exact fail4 _ _ (by rw [if_pos y]) (by rw [w32_id (x := tkV B n s) (by omega) (by omega), if_pos y])
        · obtain ⟨v, ev⟩ : ∃ v : Nat, tkV B n s = (v : Int) := ⟨(tkV B n s).toNat, by omega⟩
          have hv8 : v < 8 := by omega
          rw [if_neg y, w32_id (x := tkV B n s) (by omega) (by omega), if_neg y, w32_id (x := r0 + 4) (by omega) (by omega), if_pos (show 0 ≤ r0 + 4 ∧ r0 + 4 < 2900 by omega), if_pos (show 0 ≤ r0 + 4 ∧ r0 + 4 < 2900 by omega), if_pos (show 0 ≤ r0 + 4 ∧ r0 + 4 < 2900 by omega), e4, ev]
          by_cases hz : Fz D v
          · rw [bitZ (by omega) (by omega) hz, if_pos rfl, if_pos (show ¬ (0 : Int) = 1 by decide), up_or (by omega) (by omega) hz]
            have ge := tkE_gt B (n := n) (s := s) (by omega)
            have gb := tkE_b B hs
            have gs := tkS_b B gb.2
            have hUp : up D v < 256 := dkU ⟨D, hD⟩ ⟨v, hv8⟩ hz
            have hpc : pcN 10 (up D v) = k + 1 := by rw [up_pc (by omega) (by omega) hz, ek]
            obtain ⟨mC2, j1, j2, j3⟩ := c_adv h1 gb.2 hc.2.1
            have hMu : TpM B n (st mR 76 (r0 + 4) (up D v : Int)) := hM.mf ((Mf.refl mR).s76 _ (by omega))
            obtain ⟨mR2, l1, l2, l3⟩ := m_next hMu hs (show (st mR 76 (r0 + 4) (up D v : Int)) 75 13 = (tkE B n s : Int) from ht.2.2.1 (by omega))
            rw [j1, bV_some, l1, bV_some, show (k : Int) + 1 = ((k + 1 : Nat) : Int) by omega]
            have d1 : DkM r0 mR mR2 := ⟨fun c a b => by rw [l2.1 c a, st_ne _ _ _ b], fun i hi => by rw [l2.2 i (by omega) (by omega) (by omega) (by omega), st_ne _ _ _ (by decide)], fun i hi => by rw [l2.1 _ (by decide), st_eq, if_neg hi]⟩
            rcases ih (k + 1) fC fR (tkS B n (tkE B n s)) (up D v) mC2 mR2 (by omega) (by omega) (by omega) gs.2 hUp hpc (h1.cf j2.cf) (hMu.mf l2.mf) (by rw [d1.2.1 _ (by omega)]; exact h3) j3 l3 (by rw [l2.1 _ (by decide), st_eq, if_pos rfl]) (by omega) with ⟨f, sx, mC', mR', x1, x2, x3, x4, x5, x6⟩ | ⟨s', D', mC', mR', y1, y2, y3, y4, y5, y6, y7, y8, y9, y10, y11, y12⟩
            · left; exact ⟨f, sx, mC', mR', x1, x2, x3, x4, x5.cf j2.cf, x6.mf (d1.mf (by omega))⟩
            · right
              exact ⟨s', D', mC', mR', by omega, y2, y3, y4, y5, y6, y7, y8, y9, j2.trans y10, ⟨fun c a b => (y11.1 c a b).trans (d1.1 c a b), fun i hi => (y11.2.1 i hi).trans (d1.2.1 i hi), fun i hi => (y11.2.2 i hi).trans (d1.2.2 i hi)⟩, y12⟩
          · left
            refine fail4 _ _ ?_ ?_
            · rw [bitO (by omega) (by omega) hz, if_neg (by decide)]
            · rw [bitO (by omega) (by omega) hz, if_neg (by decide)]
      · rw [if_pos p, if_pos (show ¬ w32 (mR 75 11) = 3 from fun z => p ((m_isN ht).mp z))]
        rcases duck_end (r := r0) hs hD ek h3 hc ht hk0 p with ⟨f, sx, mC', mR', a⟩ | ⟨a1, a2, a3, a4⟩
        · left; exact ⟨f, sx, mC', mR', a⟩
        · right; exact ⟨s, D, mC, mR, Nat.le_refl _, hs, a1, hD, a2, a3, a4, hc, ht, Tk5.refl mC, ⟨fun _ _ _ => rfl, fun _ _ => rfl, fun _ _ => rfl⟩, e4⟩
