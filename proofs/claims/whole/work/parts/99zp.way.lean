/-! layer 2: the way, steps -/
def WkR (B : Nat → Int) (n : Nat) (mC mR : Mem) : Prop := TpC B n mC ∧ TpM B n mR ∧ mR 75 17 = 0 ∧ (mC 5 7 = 0 ∧ mC 5 8 = -1 ∧ mR 75 16 = -1) ∧ WyB mC mR
theorem WkR.tk {B : Nat → Int} {n : Nat} {mC mR mC' mR' : Mem} (h : WkR B n mC mR) (eC : Tk5 mC mC') (eR : Tk75 mR mR') : WkR B n mC' mR' := by
  obtain ⟨h1, h2, h3, ⟨h4, h5, h6⟩, h10⟩ := h
  have g : ∀ i, i ≠ 11 → i ≠ 12 → i ≠ 13 → i ≠ 14 → mR' 75 i = mR 75 i := eR.2
  refine ⟨h1.cf eC.cf, h2.mf eR.mf, by rw [g _ (by decide) (by decide) (by decide) (by decide)]; exact h3, ⟨by rw [eC.2 _ (by decide) (by decide) (by decide) (by decide)]; exact h4, by rw [eC.2 _ (by decide) (by decide) (by decide) (by decide)]; exact h5, by rw [g _ (by decide) (by decide) (by decide) (by decide)]; exact h6⟩, ?_⟩
  exact h10.of (by rw [eC.1 _ (by decide)]) (fun i _ => by rw [eC.1 _ (by decide)]) (eC.1 _ (by decide)) (eC.1 _ (by decide)) (eC.1 _ (by decide)) (eC.1 _ (by decide)) (eC.1 _ (by decide)) (fun i _ => by rw [eR.1 _ (by decide)]) (eR.1 _ (by decide)) (fun i hi => by rw [g i (by omega) (by omega) (by omega) (by omega)])
def PRw (B : Nat → Int) (n p : Nat) (mC mR : Mem) (rC rR : Option (Int × Mem)) : Prop :=
  (∃ (p' : Nat) (mC' mR' : Mem), rC = some (1, mC') ∧ rR = some (1, mR') ∧ p < p' ∧ p' ≤ n ∧ mC' 5 3 = (p' : Int) ∧ MT B n (tkS B n p') mR' ∧ WkR B n mC' mR' ∧ Cf mC mC' ∧ Mf mR mR')
  ∨ (∃ (f : Int) (s : Nat) (mC' mR' : Mem), rC = some (0, mC') ∧ rR = some (0, mR') ∧ 1 ≤ f ∧ f ≤ 6 ∧ FC f s mC mC' ∧ FM f s mR mR')
theorem PRw.md {B : Nat → Int} {n p : Nat} {mC mR : Mem} {rC rR : Option (Int × Mem)} (h : PRw B n p mC mR rC rR) : PRw B n p mC mR (bE rC fun x m => some ((x % 2), m)) rR := by
  rcases h with ⟨p', mC', mR', a, b⟩ | ⟨f, s, mC', mR', a, b⟩
  · exact Or.inl ⟨p', mC', mR', by rw [a, bE_some]; rfl, b⟩
  · exact Or.inr ⟨f, s, mC', mR', by rw [a, bE_some]; rfl, b⟩
theorem PRw.fl {B : Nat → Int} {n p : Nat} {mC mR mC' mR' : Mem} {rC rR : Option (Int × Mem)} {f : Int} {s : Nat} (a : rC = some (0, mC')) (b : rR = some (0, mR')) (c : 1 ≤ f) (d : f ≤ 6) (e : FC f s mC mC') (g : FM f s mR mR') : PRw B n p mC mR rC rR := Or.inr ⟨f, s, mC', mR', a, b, c, d, e, g⟩
/-- the reference's end of a step -/
noncomputable def mEn2 (m : Mem) : Option (Int × Mem) := bE (Mo_closes m) fun x38 m40 => some ((if (w32 x38) = 0 then 0 else 1 : Int), m40)
theorem mEn2T {B : Nat → Int} {n s : Nat} {m m' : Mem} (ht : MT B n s m) (q : tkK B n s = 3) (k : Mo_ahead m = some m') : mEn2 m = some (1, m') := by
  unfold mEn2 Mo_closes
  rw [if_pos ((m_isS ht).mpr q), k, bV_some, bE_some]; rfl
theorem mEn2F {B : Nat → Int} {n s : Nat} {m m' : Mem} (ht : MT B n s m) (q : tkK B n s ≠ 3) (k : Mo_fails 2 m = (0, m')) : mEn2 m = some (0, m') := by
  unfold mEn2 Mo_closes
  rw [if_neg (fun z => q ((m_isS ht).mp z)), k, bE_some]; rfl
theorem sgW {B : Nat → Int} {n p p0 : Nat} {mC mR mC0 mR0 : Mem} (h : WkR B n mC mR) (hp : p ≤ n) (hp0 : p0 ≤ p) (e3 : mC 5 3 = (p : Int)) (ht : MT B n (tkS B n p) mR) (fC : Cf mC0 mC) (fR : Mf mR0 mR) : PRw B n p0 mC0 mR0 (bE (Tape_takeKind 3 mC) fun x7 m9 => some ((x7 % 2), m9)) (mEn2 mR) := by
  obtain ⟨h1, hM, h3, _⟩ := id h
  have hs := tkS_b B hp
  rcases c_tKind h1 hp e3 (k := 3) (by omega) with ⟨q, mC', j1, j2, j3⟩ | ⟨q, mC', j1, j2⟩
  · have g := tkE_gt B (n := n) (s := tkS B n p) (by omega)
    have gb := tkE_b B hs.2
    obtain ⟨mR', k1, k2, k3⟩ := m_next hM hs.2 (ht.2.2.1 (by omega))
    left
    exact ⟨tkE B n (tkS B n p), mC', mR', by rw [j1, bE_some]; rfl, mEn2T ht q k1, by omega, gb.2, j3.2.1, k3, h.tk j2 k2, fC.trans j2.cf, fR.trans k2.mf⟩
  · obtain ⟨mR', k1, k2⟩ := m_fail ht h3 (f := 2) (g := if tkK B n (tkS B n p) = 4 then 1 else 2) rfl
    exact PRw.fl (by rw [j1, bE_some]; rfl) (mEn2F ht q k1) (ff_b _).1 (ff_b _).2 (j2.cf fC) (k2.mf fR)
theorem c_wadd {m : Mem} {t f g z : Int} (ez : m 22 0 = z) (h0 : 0 ≤ z) (h1 : z < 60) : ∃ m', Way_add 22 t f g m = some m' ∧ (∀ c, c ≠ 22 → c ≠ 23 → c ≠ 24 → c ≠ 25 → m' c = m c) ∧ m' 22 0 = z + 1 ∧ (∀ i, i ≠ 0 → m' 22 i = m 22 i) ∧ (∀ i, m' 23 i = if i = z then t else m 23 i) ∧ (∀ i, m' 24 i = if i = z then f else m 24 i) ∧ (∀ i, m' 25 i = if i = z then g else m 25 i) := by
  have ew : w32 z = z := w32_id (by omega) (by omega)
  have e1 : Way_add 22 t f g m = some (st (st (st (st m 23 z t) 24 z f) 25 z g) 22 0 (z + 1)) := by
    have a1 : (st m (22 + 1) z t) 22 0 = z := ez
    have a2 : (st (st m (22 + 1) z t) (22 + 2) z f) 22 0 = z := ez
    have a3 : (st (st (st m (22 + 1) z t) (22 + 2) z f) (22 + 3) z g) 22 0 = z := ez
    unfold Way_add
    rw [ez, ew, if_neg (by omega), if_neg (by omega), a1, ew, if_pos (by omega), a2, ew, if_pos (by omega)]
    show some (st (st (st (st m 23 z t) 24 z f) 25 z g) 22 0 ((st (st (st m (22 + 1) z t) (22 + 2) z f) (22 + 3) z g) 22 0 + 1)) = _
    rw [a3]
  refine ⟨_, e1, fun c h22 h23 h24 h25 => ?_, ?_, fun i hi => ?_, fun i => ?_, fun i => ?_, fun i => ?_⟩
  · rw [st_ne _ _ _ h22, st_ne _ _ _ h25, st_ne _ _ _ h24, st_ne _ _ _ h23]
  · rw [st_eq, if_pos rfl]
  · rw [st_eq, if_neg hi, st_ne _ _ _ (by decide), st_ne _ _ _ (by decide), st_ne _ _ _ (by decide)]
  · rw [st_ne _ _ _ (by decide), st_ne _ _ _ (by decide), st_ne _ _ _ (by decide), st_eq]
  · rw [st_ne _ _ _ (by decide), st_ne _ _ _ (by decide), st_eq, st_ne _ _ _ (by decide)]
  · rw [st_ne _ _ _ (by decide), st_eq, st_ne _ _ _ (by decide), st_ne _ _ _ (by decide)]
/-- the reference behind a step's word -/
def PreM (mR : Mem) (code z dl : Int) (m : Mem) : Prop := (∀ c, c ≠ 75 → c ≠ 76 → m c = mR c) ∧ (∀ i, i < 11 ∨ (14 < i ∧ i ≠ 22) → m 75 i = mR 75 i) ∧ m 75 22 = mR 75 22 + dl ∧ m 76 (2528 + 6 * z) = code ∧ (∀ i, 2528 + 6 * z < i → i ≤ 2528 + 6 * z + 5 → m 76 i = 0) ∧ m 76 2334 = z + 1 ∧ (∀ i, i ≠ 2334 → i < 2528 + 6 * z ∨ 2528 + 6 * z + 5 < i → m 76 i = mR 76 i)
theorem PreM.mf {mR m : Mem} {code z dl : Int} (h : PreM mR code z dl m) (hz : 0 ≤ z) : Mf mR m := by
  obtain ⟨a, b, c, d, e, f, g⟩ := h
  exact ⟨fun x x1 x2 _ => a x x1 x2, fun i hi => b i (by omega), fun i hi => g i (by omega) (by omega)⟩
theorem m_126 {m : Mem} {v1 v2 r : Int} {K : Mem → Option (Int × Mem)} (hr : 2528 ≤ r ∧ r + 5 < 2900) : ∀ (f q k : Nat) (mm : Mem), k + q = 6 → q < f → 1 ≤ k → (∀ c, c ≠ 76 → mm c = m c) → (∀ i, mm 76 i = if r < i ∧ i < r + (k : Int) then 0 else m 76 i) → ∃ m', Mo_step_L126 v1 v2 r K f (k : Int) mm = K m' ∧ (∀ c, c ≠ 76 → m' c = m c) ∧ (∀ i, m' 76 i = if r < i ∧ i < r + 6 then 0 else m 76 i) := by
  intro f
  induction f with
  | zero => intro q k mm _ h; omega
  | succ f ih =>
    intro q k mm hq hf hk e1 e2
    rw [Mo_step_L126, w32_id (x := (k : Int)) (by omega) (by omega)]
    cases q with
    | zero =>
      rw [if_pos (by omega)]
      refine ⟨mm, rfl, e1, fun i => ?_⟩
      have : (k : Int) = 6 := by omega
      rw [e2 i, this]
    | succ q =>
      rw [if_neg (by omega), w32_id (x := r + (k : Int)) (by omega) (by omega), if_pos (by omega), show (k : Int) + 1 = ((k + 1 : Nat) : Int) by omega]
      refine ih q (k + 1) _ (by omega) (by omega) (by omega) (fun c hc => by rw [st_ne _ _ _ hc]; exact e1 c hc) (fun i => ?_)
      rw [st_eq]
      by_cases y : i = r + (k : Int)
      · rw [if_pos y, if_pos (by omega)]
      · rw [if_neg y, e2]
        by_cases x : r < i ∧ i < r + (k : Int)
        · rw [if_pos x, if_pos (by omega)]
        · rw [if_neg x, if_neg (by omega)]
theorem m_pre {B : Nat → Int} {n s : Nat} {mR : Mem} {code z : Int} (hM : TpM B n mR) (hs : s ≤ n) (e13 : mR 75 13 = (tkE B n s : Int)) (hc : 3 ≤ code ∧ code ≤ 10) (hz : 0 ≤ z ∧ z < 60) (e34 : mR 76 2334 = z) : ∃ m17, Mo_step_J103 code z (2528 + 6 * z) mR = (if ¬ code = 3 then Mo_step_J192 code z (2528 + 6 * z) 1 m17 else (bE (Mo_number (2528 + 6 * z + 1) 1 60 m17) fun x80 m82 => Mo_step_J192 code z (2528 + 6 * z) x80 m82)) ∧ PreM mR code z (if code = 10 then 0 else 1) m17 ∧ MT B n (tkS B n (tkE B n s)) m17 := by
  have ewc : w32 code = code := w32_id (by omega) (by omega)
  unfold Mo_step_J103
  rw [ewc]
  generalize hdl : (if code = 10 then 0 else 1 : Int) = dl
  generalize hK : (fun m14 : Mem => (if 0 ≤ (w32 (2528 + 6 * z)) ∧ (w32 (2528 + 6 * z)) < 2900 then (bV (Mo_ahead (st (st m14 76 (w32 (2528 + 6 * z)) code) 76 2334 (((st m14 76 (w32 (2528 + 6 * z)) code) 76 2334) + 1))) fun m17 => (if ¬ code = 3 then (Mo_step_J192 code z (2528 + 6 * z) 1 m17) else (bE (Mo_number (2528 + 6 * z + 1) 1 60 m17) fun x80 m82 => (Mo_step_J192 code z (2528 + 6 * z) x80 m82)))) else none)) = KK
  obtain ⟨ma, a1, a2, a3⟩ := m_126 (m := st mR 75 22 (mR 75 22 + dl)) (v1 := code) (v2 := z) (r := 2528 + 6 * z) (K := KK) (by omega) FU 5 1 (st mR 75 22 (mR 75 22 + dl)) (by omega) (by rw [FU_eq]; omega) (by omega) (fun _ _ => rfl) (fun i => by rw [if_neg (by omega)])
  rw [show ((1 : Nat) : Int) = 1 from rfl] at a1
  rw [a1, ← hK]
  show ∃ m17, (if 0 ≤ (w32 (2528 + 6 * z)) ∧ (w32 (2528 + 6 * z)) < 2900 then _ else none) = _ ∧ _
  rw [w32_id (x := 2528 + 6 * z) (by omega) (by omega), if_pos (by omega)]
  have e4 : (st ma 76 (2528 + 6 * z) code) 76 2334 = z := by rw [st_eq, if_neg (by omega), a3, if_neg (by omega), st_ne _ _ _ (by decide)]; exact e34
  rw [e4]
  have hTm : TpM B n (st (st ma 76 (2528 + 6 * z) code) 76 2334 (z + 1)) := by
    refine hM.mf ⟨fun c h1 h2 h3 => ?_, fun i hi => ?_, fun i hi => ?_⟩
    · rw [st_ne _ _ _ h2, st_ne _ _ _ h2, a2 c h2, st_ne _ _ _ h1]
    · rw [st_ne _ _ _ (by decide), st_ne _ _ _ (by decide), a2 75 (by decide), st_eq, if_neg (by omega)]
    · rw [st_eq, if_neg (by omega), st_eq, if_neg (by omega), a3, if_neg (by omega), st_ne _ _ _ (by decide)]
  obtain ⟨m', k1, k2, k3⟩ := m_next hTm hs (by rw [st_ne _ _ _ (by decide), st_ne _ _ _ (by decide), a2 75 (by decide), st_eq, if_neg (by decide)]; exact e13)
  have k76 : m' 76 = st (st ma 76 (2528 + 6 * z) code) 76 2334 (z + 1) 76 := k2.1 76 (by decide)
  refine ⟨m', by rw [k1, bV_some], ⟨fun c h1 h2 => ?_, fun i hi => ?_, ?_, ?_, fun i i0 i1 => ?_, ?_, fun i i0 i1 => ?_⟩, k3⟩
  · rw [k2.1 c h1, st_ne _ _ _ h2, st_ne _ _ _ h2, a2 c h2, st_ne _ _ _ h1]
  · rw [k2.2 i (by omega) (by omega) (by omega) (by omega), st_ne _ _ _ (by decide), st_ne _ _ _ (by decide), a2 75 (by decide), st_eq, if_neg (by omega)]
  · rw [k2.2 _ (by decide) (by decide) (by decide) (by decide), st_ne _ _ _ (by decide), st_ne _ _ _ (by decide), a2 75 (by decide), st_eq, if_pos rfl]
  · rw [k76, st_eq, if_neg (by omega), st_eq, if_pos rfl]
  · rw [k76, st_eq, if_neg (by omega), st_eq, if_neg (by omega), a3, if_pos (by omega)]
  · rw [k76, st_eq, if_pos rfl]
  · rw [k76, st_eq, if_neg i0, st_eq, if_neg (by omega), a3, if_neg (by omega), st_ne _ _ _ (by decide)]
noncomputable def mTl (x : Int) (m : Mem) : Option (Int × Mem) := if w32 x = 0 then some (0, m) else mEn2 m
theorem mTl0 (m : Mem) : mTl 0 m = some (0, m) := by unfold mTl; rw [if_pos (show w32 0 = 0 by decide)]
theorem mTl1 (m : Mem) : mTl 1 m = mEn2 m := by unfold mTl; rw [if_neg (show ¬ w32 1 = 0 by decide)]
theorem j322 {c z r x : Int} {m : Mem} (hc : ¬ w32 c = 10) : Mo_step_J322 c z r x m = mTl x m := by
  unfold Mo_step_J322
  rw [if_pos hc]; rfl
theorem j272 {c z r x : Int} {m : Mem} (h8 : ¬ w32 c = 8) (h9 : ¬ w32 c = 9) (h10 : ¬ w32 c = 10) : Mo_step_J272 c z r x m = mTl x m := by
  unfold Mo_step_J272 Mo_step_J290
  rw [if_pos h8, if_neg h8, if_pos h9, j322 h10]
theorem j259 {c z r x : Int} {m : Mem} (h7 : ¬ w32 c = 7) (h8 : ¬ w32 c = 8) (h9 : ¬ w32 c = 9) (h10 : ¬ w32 c = 10) : Mo_step_J259 c z r x m = mTl x m := by
  unfold Mo_step_J259
  rw [if_pos h7, j272 h8 h9 h10]
theorem j192_3 {z r x : Int} {m : Mem} : Mo_step_J192 3 z r x m = mTl x m := by
  unfold Mo_step_J192
  rw [if_neg (by decide), if_neg (by decide), if_pos (by decide), j259 (by decide) (by decide) (by decide) (by decide)]
/-- ease -/
theorem ease_pr {B : Nat → Int} {n s : Nat} {mC mR m17 : Mem} {z : Int} (h : WkR B n mC mR) (hs : s ≤ n) (hc : CTk B n s mC) (hK : tkK B n s = 1) (ez : mC 22 0 = z) (hst : mC 22 1 < 30) (hpre : PreM mR 3 z 1 m17) (h17 : MT B n (tkS B n (tkE B n s)) m17) : PRw B n s mC mR (WayR_readCount 1 60 (st mC 22 1 (mC 22 1 + 1))) (bE (Mo_number (2528 + 6 * z + 1) 1 60 m17) fun x80 m82 => Mo_step_J192 3 z (2528 + 6 * z) x80 m82) := by
  obtain ⟨h1, hM, h3, h4, hW⟩ := id h
  have hb := hW.2.1
  rw [ez] at hb
  have hz : 0 ≤ z ∧ z < 60 := by omega
  have fM := hpre.mf hz.1
  have hM17 := hM.mf fM
  have h170 : m17 75 17 = 0 := by rw [hpre.2.1 _ (by omega)]; exact h3
  have ge := tkE_gt B (n := n) (s := s) (by omega)
  have gb := tkE_b B hs
  have gs := tkS_b B gb.2
  have hC1 : Cf mC (st mC 22 1 (mC 22 1 + 1)) := (Cf.refl mC).st _ _ (by omega)
  unfold WayR_readCount
  rcases c_tNum (h1.cf hC1) gb.2 (show (st mC 22 1 (mC 22 1 + 1)) 5 3 = (tkE B n s : Int) from hc.2.1) (lo := 1) (hi := 60) (by omega) (by omega) with ⟨q, qv, mC3, j1, j2, j3⟩ | ⟨q, qv, mC3, j1, j2⟩ | ⟨q, mC3, j1, j2⟩
  · rcases m_num hM17 gs.2 h17 h170 (a := 2528 + 6 * z + 1) (lo := 1) (hi := 60) (by omega) (by omega) (by omega) with ⟨_, _, mR3, l1, l2, l3⟩ | ⟨_, y, _⟩ | ⟨y, _⟩
    · have ev := j3.2.2.2 q
      have gge := tkE_gt B (n := n) (s := tkS B n (tkE B n s)) (by omega)
      have ggb := tkE_b B gs.2
      generalize hv : tkV B n (tkS B n (tkE B n s)) = v at *
      have ez3 : mC3 22 0 = z := by rw [j2.1 _ (by decide)]; exact ez
      obtain ⟨mA, w1, w2, w3, w4, w5, w6, w7⟩ := c_wadd (m := mC3) (t := 1) (f := mC3 5 6) (g := 0) ez3 hz.1 hz.2
      rw [j1, bE_some, if_pos (show ¬ w32 1 = 0 by decide), w1, bV_some, l1, bE_some, j192_3, mTl1]
      rw [ev] at w6
      have hWn : WyB mA (st m17 76 (2528 + 6 * z + 1) v) := by
        refine hW.add (t := 1) (f := v) (g := 0) (z := z) ez (by omega) hst ?_ w3 ?_ (fun i => ?_) (fun i => ?_) (fun i => ?_) ?_ ?_ ?_ (fun i i0 i1 => ?_) ?_ ?_ ?_ ?_
        · rw [w2 21 (by decide) (by decide) (by decide) (by decide), j2.1 _ (by decide), st_ne _ _ _ (by decide)]
        · rw [w4 1 (by decide), j2.1 _ (by decide), st_eq, if_pos rfl]
        · rw [w5, j2.1 _ (by decide), st_ne _ _ _ (by decide)]
        · rw [w6, j2.1 _ (by decide), st_ne _ _ _ (by decide)]
        · rw [w7, j2.1 _ (by decide), st_ne _ _ _ (by decide)]
        · rw [w2 26 (by decide) (by decide) (by decide) (by decide), j2.1 _ (by decide), st_ne _ _ _ (by decide)]
        · rw [w2 27 (by decide) (by decide) (by decide) (by decide), j2.1 _ (by decide), st_ne _ _ _ (by decide)]
        · rw [st_eq, if_neg (by omega)]; exact hpre.2.2.2.2.2.1
        · rw [st_eq, if_neg (by omega)]; exact hpre.2.2.2.2.2.2 i (by omega) (by omega)
        · rw [st_ne _ _ _ (by decide)]; exact hpre.1 82 (by decide) (by decide)
        · exact hpre.2.1 21 (by omega)
        · exact hpre.2.2.1
        · refine ⟨⟨by omega, by omega, ?_⟩, fun _ => ⟨?_, by omega, by omega, fun y => by omega⟩, fun y => by omega, fun y => by omega, fun y => by omega⟩
          · rw [st_eq, if_neg (by omega), hpre.2.2.2.1]; rfl
          · rw [st_eq, if_pos rfl]
      have cA : Cf mC mA := (hC1.trans j2.cf).trans ⟨fun c a b => w2 c (by omega) (by omega) (by omega) (by omega), fun i _ => by rw [w2 5 (by decide) (by decide) (by decide) (by decide)]⟩
      have e5A : mA 5 = mC3 5 := w2 5 (by decide) (by decide) (by decide) (by decide)
      have hk : WkR B n mA (st m17 76 (2528 + 6 * z + 1) v) := by
        refine ⟨h1.cf cA, hM17.mf ((Mf.refl _).s76 _ (by omega)), h170, ⟨?_, ?_, ?_⟩, hWn⟩
        · rw [e5A, j2.2 _ (by decide) (by decide) (by decide) (by decide)]; exact h4.1
        · rw [e5A, j2.2 _ (by decide) (by decide) (by decide) (by decide)]; exact h4.2.1
        · exact (hpre.2.1 16 (by omega)).trans h4.2.2
      exact sgW (mC0 := mC) (mR0 := mR) (hk.tk (Tk5.refl _) l2) ggb.2 (by omega) (by rw [e5A]; exact j3.2.1) l3 cA ((fM.s76 _ (by omega)).trans l2.mf)
    · exact absurd qv y
    · exact absurd q y
  · rcases m_num hM17 gs.2 h17 h170 (a := 2528 + 6 * z + 1) (lo := 1) (hi := 60) (by omega) (by omega) (by omega) with ⟨_, y, _⟩ | ⟨_, _, mR3, l1, l2⟩ | ⟨y, _⟩
    · exact absurd y qv
    · refine PRw.fl ?_ ?_ (by omega) (by omega) (j2.cf hC1) (l2.mf fM)
      · rw [j1, bE_some, if_neg (show ¬ ¬ w32 0 = 0 by decide)]
      · rw [l1, bE_some, j192_3, mTl0]
    · exact absurd q y
  · rcases m_num hM17 gs.2 h17 h170 (a := 2528 + 6 * z + 1) (lo := 1) (hi := 60) (by omega) (by omega) (by omega) with ⟨y, _⟩ | ⟨y, _⟩ | ⟨_, mR3, l1, l2⟩
    · exact absurd y q
    · exact absurd y q
    · refine PRw.fl ?_ ?_ (ff_b _).1 (ff_b _).2 (j2.cf hC1) (l2.mf fM)
      · rw [j1, bE_some, if_neg (show ¬ ¬ w32 0 = 0 by decide)]
      · rw [l1, bE_some, j192_3, mTl0]
