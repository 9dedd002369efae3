/-! layer 2: run, the floor by both sides -/
def RX (mC mR : Mem) : Prop :=
  (mR 76 0 = mC 7 0 ∧ mR 76 1 = mC 7 1 ∧ mR 76 4 = mC 7 4 ∧ mR 76 5 = mC 7 5 ∧ mR 76 6 = mC 7 6)
  ∧ gSW (mC 7 0) (mC 7 1)
  ∧ (0 ≤ mC 7 4 ∧ mC 7 4 ≤ 999 ∧ 1 ≤ mC 7 5 ∧ mC 7 5 ≤ 99 ∧ 1 ≤ mC 7 6 ∧ mC 7 6 ≤ 6)
  ∧ (∀ k, 0 ≤ k → k < mC 7 6 → mR 76 (7 + k) = mC 8 k ∧ 0 ≤ mC 8 k ∧ mC 8 k ≤ 2)
  ∧ (∀ p, Pt (mC 7 0) (mC 7 1) p → (mR 76 (80 + p) = mC 10 p ∧ 0 ≤ mC 10 p ∧ mC 10 p ≤ 999) ∧ mR 76 (144 + p) = Sheet_isKept 7 p mC)
/-- what the class may change while it runs -/
def KC (m mC : Mem) : Prop := (∀ c, c ≠ 7 → c ≠ 10 → c ≠ 28 → c ≠ 29 → c ≠ 30 → c ≠ 31 → c ≠ 37 → c ≠ 38 → mC c = m c) ∧ (∀ i, i ≠ 10 → mC 7 i = m 7 i) ∧ (∀ i, i ≠ 1 → i ≠ 2 → i ≠ 3 → mC 28 i = m 28 i)
def KR (m mR : Mem) : Prop := (∀ c, c ≠ 75 → c ≠ 76 → c ≠ 83 → c ≠ 84 → c ≠ 85 → c ≠ 86 → c ≠ 87 → c ≠ 88 → mR c = m c) ∧ (∀ i, i < 23 ∨ 28 < i → i ≠ 33 → i ≠ 38 → mR 75 i = m 75 i) ∧ (∀ i, i < 80 ∨ 208 ≤ i → mR 76 i = m 76 i)
theorem KC.refl (m : Mem) : KC m m := ⟨fun _ _ _ _ _ _ _ _ _ => rfl, fun _ _ => rfl, fun _ _ _ _ => rfl⟩
theorem KC.trans {m m' m'' : Mem} (h : KC m m') (h' : KC m' m'') : KC m m'' := ⟨fun c a1 a2 a3 a4 a5 a6 a7 a8 => (h'.1 c a1 a2 a3 a4 a5 a6 a7 a8).trans (h.1 c a1 a2 a3 a4 a5 a6 a7 a8), fun i a => (h'.2.1 i a).trans (h.2.1 i a), fun i a b d => (h'.2.2 i a b d).trans (h.2.2 i a b d)⟩
theorem KR.refl (m : Mem) : KR m m := ⟨fun _ _ _ _ _ _ _ _ _ => rfl, fun _ _ _ _ => rfl, fun _ _ => rfl⟩
theorem KR.trans {m m' m'' : Mem} (h : KR m m') (h' : KR m' m'') : KR m m'' := ⟨fun c a1 a2 a3 a4 a5 a6 a7 a8 => (h'.1 c a1 a2 a3 a4 a5 a6 a7 a8).trans (h.1 c a1 a2 a3 a4 a5 a6 a7 a8), fun i a b d => (h'.2.1 i a b d).trans (h.2.1 i a b d), fun i a => (h'.2.2 i a).trans (h.2.2 i a)⟩
theorem Sc.kr {m m' : Mem} (h : Sc m m') : KR m m' := ⟨fun c a _ _ _ _ _ _ _ => h.1 c a, fun i hi _ _ => h.2 i hi, fun i _ => by rw [h.1 76 (by decide)]⟩
theorem RX.sc {mC mR mR' : Mem} (h : RX mC mR) (e : mR' 76 = mR 76) : RX mC mR' := by
  unfold RX; rw [e]; exact h
theorem RX.cl {mC mC' mR : Mem} (h : RX mC mR) (e7 : mC' 7 = mC 7) (e8 : mC' 8 = mC 8) (e10 : mC' 10 = mC 10) : RX mC' mR := by
  obtain ⟨a, b, c, d, e⟩ := h
  unfold RX
  rw [e7, e8, e10]
  refine ⟨a, b, c, d, fun p hp => ?_⟩
  rw [isK_c e7]; exact e p hp
theorem RX.flC {mC mR : Mem} (h : RX mC mR) : ∀ q, Pt (mC 7 0) (mC 7 1) q → 0 ≤ mC 10 q ∧ mC 10 q ≤ 999 := fun q hq => (h.2.2.2.2 q hq).1.2
theorem RX.flM {mC mR : Mem} (h : RX mC mR) : ∀ q, Pt (mC 7 0) (mC 7 1) q → mR 76 (80 + q) = mC 10 q := fun q hq => (h.2.2.2.2 q hq).1.1
theorem RX.flR {mC mR : Mem} (h : RX mC mR) : ∀ q, Pt (mC 7 0) (mC 7 1) q → 0 ≤ mR 76 (80 + q) ∧ mR 76 (80 + q) ≤ 999 := fun q hq => by rw [h.flM q hq]; exact h.flC q hq
/-- whether some place is unfair: both say it -/
theorem uf_both {mC mR : Mem} (h : RX mC mR) : ∃ (x y : Int) (mR' : Mem), Sheet_unfairBeyond 7 0 mC = some x ∧ Mo_unfairs 0 mR = some (y, mR') ∧ Sc mR mR' ∧ RX mC mR' ∧ w32 x = x ∧ 0 ≤ x ∧ 0 ≤ y ∧ y ≤ 1 ∧ (x = 0 ↔ y = 0) := by
  obtain ⟨⟨z0, z1, z4, z5, z6⟩, hs, hr, _, _⟩ := id h
  have e1 := c_unfB (m := mC) 0 hs h.flC (by omega)
  rw [alC0] at e1
  obtain ⟨mR', y, y1, y2, y3, y4, y5⟩ := m_uf0 (S := mC 7 0) (W := mC 7 1) (m := mR) hs z0 z1 h.flR (by rw [z4]; omega)
  have ea : alU (fun q => mR 76 (80 + q)) (mR 76 4) (mC 7 0) (mC 7 1) = alU (mC 10) (mC 7 4) (mC 7 0) (mC 7 1) := by
    rw [z4]; exact alU_c hs h.flM
  have b0 := vwU_b (mC 10) (mC 7 4) hs (v := 0) (by omega) (by omega)
  have b1 := vwU_b (mC 10) (mC 7 4) hs (v := 1) (by omega) (by omega)
  have b2 := vwU_b (mC 10) (mC 7 4) hs (v := 2) (by omega) (by omega)
  have eb : 0 ≤ alU (mC 10) (mC 7 4) (mC 7 0) (mC 7 1) ∧ alU (mC 10) (mC 7 4) (mC 7 0) (mC 7 1) ≤ 400 := by unfold alU; omega
  refine ⟨_, y, mR', e1, y2, y1, h.sc (y1.1 76 (by decide)), w32_id (by omega) (by omega), eb.1, y3, y4, ?_⟩
  rw [y5, ← alU_0 _ _ hs, ea]
/-! steps -/
theorem pt_both {mC mR : Mem} (h : RX mC mR) {p : Int} (p0 : 0 ≤ p) (p1 : p < 64) : (Pt (mC 7 0) (mC 7 1) p ∧ Sheet_hasPoint 7 p mC = 1 ∧ Mo_isPoint p mR = 1) ∨ (¬ Pt (mC 7 0) (mC 7 1) p ∧ Sheet_hasPoint 7 p mC = 0 ∧ Mo_isPoint p mR = 0) := by
  obtain ⟨⟨z0, z1, z4, z5, z6⟩, hs, hr, _, _⟩ := id h
  have ca : w64 p = p := w64_id (by omega) (by omega)
  by_cases q : Pt (mC 7 0) (mC 7 1) p
  · left; exact ⟨q, hpT hs q, mpT hs z0 z1 q⟩
  · right; exact ⟨q, hpF hs ca q, mpF hs z0 z1 ca q⟩
theorem RX.put {mC mR : Mem} (h : RX mC mR) {p v : Int} (hp : 0 ≤ p ∧ p < 64) (hv : 0 ≤ v ∧ v ≤ 999) : RX (st mC 10 p v) (st mR 76 (80 + p) v) := by
  obtain ⟨⟨z0, z1, z4, z5, z6⟩, hs, hr, ho, hpt⟩ := h
  have g : ∀ i, i ≠ 80 + p → (st mR 76 (80 + p) v) 76 i = mR 76 i := fun i hi => by rw [st_eq, if_neg hi]
  refine ⟨⟨?_, ?_, ?_, ?_, ?_⟩, hs, hr, fun k k0 k1 => ?_, fun q hq => ?_⟩
  · rw [g _ (by omega)]; exact z0
  · rw [g _ (by omega)]; exact z1
  · rw [g _ (by omega)]; exact z4
  · rw [g _ (by omega)]; exact z5
  · rw [g _ (by omega)]; exact z6
  · have k1' : k < mC 7 6 := k1
    rw [g _ (by omega)]; exact ho k k0 k1
  · have hq' : Pt (mC 7 0) (mC 7 1) q := hq
    have q64 := pt64 hs hq'
    have b := hpt q hq'
    refine ⟨?_, ?_⟩
    · show (st mR 76 (80 + p) v) 76 (80 + q) = (st mC 10 p v) 10 q ∧ 0 ≤ (st mC 10 p v) 10 q ∧ (st mC 10 p v) 10 q ≤ 999
      rw [st_eq, st_eq]
      by_cases y : q = p
      · rw [if_pos (by omega), if_pos y]; exact ⟨rfl, hv⟩
      · rw [if_neg (by omega), if_neg y]; exact b.1
    · rw [g _ (by omega)]; exact b.2
theorem RX.kept {mC mR mC' : Mem} (h : RX mC mR) {p v : Int} (hp : 0 ≤ p ∧ p < 64) (e7 : ∀ i, i ≠ 10 → mC' 7 i = mC 7 i) (e8 : mC' 8 = mC 8) (e10 : mC' 10 = mC 10) (ek : ∀ q, 0 ≤ q → q < 64 → Sheet_isKept 7 q mC' = if q = p then v else Sheet_isKept 7 q mC) : RX mC' (st mR 76 (144 + p) v) := by
  obtain ⟨⟨z0, z1, z4, z5, z6⟩, hs, hr, ho, hpt⟩ := h
  have g : ∀ i, i ≠ 144 + p → (st mR 76 (144 + p) v) 76 i = mR 76 i := fun i hi => by rw [st_eq, if_neg hi]
  unfold RX
  rw [e7 0 (by decide), e7 1 (by decide), e7 4 (by decide), e7 5 (by decide), e7 6 (by decide), e8, e10]
  refine ⟨⟨?_, ?_, ?_, ?_, ?_⟩, hs, hr, fun k k0 k1 => ?_, fun q hq => ?_⟩
  · rw [g _ (by omega)]; exact z0
  · rw [g _ (by omega)]; exact z1
  · rw [g _ (by omega)]; exact z4
  · rw [g _ (by omega)]; exact z5
  · rw [g _ (by omega)]; exact z6
  · rw [g _ (by omega)]; exact ho k k0 k1
  · have q64 := pt64 hs hq
    have b := hpt q hq
    refine ⟨by rw [g _ (by omega)]; exact b.1, ?_⟩
    rw [ek q q64.1 q64.2, st_eq]
    by_cases y : q = p
    · rw [if_pos (by omega), if_pos y]
    · rw [if_neg (by omega), if_neg y]; exact b.2
/-- rounds within a way -/
theorem ease_run {mC mR : Mem} (h : RX mC mR) {M : Nat} (hM : M ≤ 60) : ∃ (R : Nat) (mC' mR' : Mem), Rounds_go (M : Int) mC = some ((R : Int), mC') ∧ Mo_doesRounds (M : Int) mR = some ((R : Int), mR') ∧ KC mC mC' ∧ mC' 37 = mC 37 ∧ mC' 38 = mC 38 ∧ (∀ c, c ≠ 75 → c ≠ 76 → c ≠ 88 → mR' c = mR c) ∧ (∀ i, i < 23 ∨ 25 < i → i ≠ 35 → i ≠ 36 → i ≠ 37 → mR' 75 i = mR 75 i) ∧ (∀ i, i < 80 ∨ 144 ≤ i → mR' 76 i = mR 76 i) ∧ RX mC' mR' ∧ R ≤ 60 := by
  obtain ⟨⟨z0, z1, z4, z5, z6⟩, hs, hv, ho, hp⟩ := id h
  have hSw : Sw mC (fun q => decide (Sheet_isKept 7 q mC = 1)) (mC 7 5) := ⟨hs, rfl, by omega, by omega, fun q _ => kp_is, by omega, by omega, fun k k0 k1 => (ho k k0 k1).2⟩
  have e80 : ∀ i : Int, 80 + (i - 80) = i := fun i => by omega
  have hSm : Sm (fun q => mR 76 (80 + q)) (mC 7 0) (mC 7 1) (mC 7 6) (mC 7 5) (mC 8) (fun q => decide (Sheet_isKept 7 q mC = 1)) := by
    refine ⟨hs, by omega, by omega, ?_, ?_, ?_, ?_, by omega, by omega, fun k k0 k1 => ?_, fun q hq => ?_, h.flR⟩
    · show mR 76 (80 + (0 - 80)) = _; rw [e80]; exact z0
    · show mR 76 (80 + (1 - 80)) = _; rw [e80]; exact z1
    · show mR 76 (80 + (5 - 80)) = _; rw [e80]; exact z5
    · show mR 76 (80 + (6 - 80)) = _; rw [e80]; exact z6
    · show mR 76 (80 + (7 + k - 80)) = _ ∧ _; rw [e80]; exact ho k k0 k1
    · show mR 76 (80 + (144 + q - 80)) = _
      rw [e80, (hp q hq).2]; exact kp_is
  obtain ⟨H, eH⟩ : ∃ H : Nat → Int → Int, H = itS (rdX (fun q => decide (Sheet_isKept 7 q mC = 1)) (mC 7 5) (mC 7 0) (mC 7 1) (mC 7 6) (mC 8)) (mC 10) := ⟨_, rfl⟩
  obtain ⟨R, hR⟩ : ∃ R, rdE (fun t => (rdX (fun q => decide (Sheet_isKept 7 q mC = 1)) (mC 7 5) (mC 7 0) (mC 7 1) (mC 7 6) (mC 8) (H t)).2) (fun d => faS (fun r => eqB (mC 7 0) (mC 7 1) (H r) (H d)) d 0) M 0 = R := ⟨_, rfl⟩
  obtain ⟨ma, a1, a2, a3, a4, a5⟩ := c_go hSw h.flC eH hM R hR
  obtain ⟨H', eH'⟩ : ∃ H' : Nat → Int → Int, H' = itS (rdX (fun q => decide (Sheet_isKept 7 q mC = 1)) (mC 7 5) (mC 7 0) (mC 7 1) (mC 7 6) (mC 8)) (fun q => mR 76 (80 + q)) := ⟨_, rfl⟩
  have ge := go_eq (S := mC 7 0) (W := mC 7 1) (V := mC 7 6) (stp := mC 7 5) (o := mC 8) (o' := mC 8) (kp := fun q => decide (Sheet_isKept 7 q mC = 1)) (kq := fun q => decide (Sheet_isKept 7 q mC = 1)) (F := mC 10) (G := fun q => mR 76 (80 + q)) hs (fun _ _ => rfl) (fun k k0 k1 => ⟨rfl, (ho k k0 k1).2⟩) (fun q hq => (h.flM q hq).symm)
  rw [← eH, ← eH'] at ge
  have hR' : rdE (fun t => (rdX (fun q => decide (Sheet_isKept 7 q mC = 1)) (mC 7 5) (mC 7 0) (mC 7 1) (mC 7 6) (mC 8) (H' t)).2) (fun d => faS (fun r => eqB (mC 7 0) (mC 7 1) (H' r) (H' d)) d 0) M 0 = R := by
    rw [← hR]
    refine congrFun (congrFun (rdE_c (fun t => ((ge t).1.2).symm) (fun d => ?_)) M) 0
    have e : (fun r => eqB (mC 7 0) (mC 7 1) (H' r) (H' d)) = fun r => eqB (mC 7 0) (mC 7 1) (H r) (H d) := funext (fun r => eqB_c hs (fun q hq => ((ge r).2 q hq).symm) (fun q hq => ((ge d).2 q hq).symm))
    rw [e]
  obtain ⟨mb, d1, d2, d3, d4, d5⟩ := m_go (m := mR) hSm eH' (fun i => by show mR 76 i = mR 76 (80 + (i - 80)); rw [e80]) hM R hR'
  have rb := rdE_b (fun t => (rdX (fun q => decide (Sheet_isKept 7 q mC = 1)) (mC 7 5) (mC 7 0) (mC 7 1) (mC 7 6) (mC 8) (H t)).2) (fun d => faS (fun r => eqB (mC 7 0) (mC 7 1) (H r) (H d)) d 0) M 0
  rw [hR] at rb
  have kpr := itS_kp (kp := fun q => decide (Sheet_isKept 7 q mC = 1)) (stp := mC 7 5) (V := mC 7 6) (o := mC 8) hs (fun k k0 k1 => (ho k k0 k1).2) h.flC R.1
  have kpr' := itS_kp (kp := fun q => decide (Sheet_isKept 7 q mC = 1)) (stp := mC 7 5) (V := mC 7 6) (o := mC 8) (F := fun q => mR 76 (80 + q)) hs (fun k k0 k1 => (ho k k0 k1).2) h.flR R.1
  rw [← eH] at kpr
  rw [← eH'] at kpr'
  have np : ∀ x : Int, ¬ (0 ≤ x ∧ x < 64) → ¬ Pt (mC 7 0) (mC 7 1) x := fun x hx hp => hx (pt64 hs hp)
  have o76 : ∀ i, ¬ (80 ≤ i ∧ i < 144) → mb 76 i = mR 76 i := fun i hi => by
    rw [d2.2.2, kpr'.2 _ (np _ (by omega))]
    show mR 76 (80 + (i - 80)) = _
    rw [e80]
  refine ⟨R.1, ma, mb, a1, d1, ⟨fun c c7 c10 c28 c29 c30 c31 c37 c38 => a2.1 c c10 c28 c29, fun i _ => by rw [a2.1 7 (by decide) (by decide) (by decide)], fun i i1 i2 i3 => a2.2.2 i i1 i2 i3⟩, a2.1 37 (by decide) (by decide) (by decide), a2.1 38 (by decide) (by decide) (by decide), d2.1, d2.2.1, fun i hi => o76 i (by omega), ?_, by omega⟩
  have e7 : ma 7 = mC 7 := a2.1 7 (by decide) (by decide) (by decide)
  have e8 : ma 8 = mC 8 := a2.1 8 (by decide) (by decide) (by decide)
  unfold RX
  rw [e7, e8, a2.2.1]
  refine ⟨⟨?_, ?_, ?_, ?_, ?_⟩, hs, hv, fun k k0 k1 => ?_, fun q hq => ?_⟩
  · rw [o76 _ (by omega)]; exact z0
  · rw [o76 _ (by omega)]; exact z1
  · rw [o76 _ (by omega)]; exact z4
  · rw [o76 _ (by omega)]; exact z5
  · rw [o76 _ (by omega)]; exact z6
  · rw [o76 _ (by omega)]; exact ho k k0 k1
  · have q64 := pt64 hs hq
    refine ⟨⟨?_, kpr.1 q hq⟩, ?_⟩
    · rw [d2.2.2, show 80 + q - 80 = q by omega]; exact ((ge R.1).2 q hq).symm
    · rw [o76 _ (by omega), isK_c e7]; exact (hp q hq).2
