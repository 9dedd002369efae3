/-! layer 2: run, bending a line -/
theorem tdiv_b {a b K : Int} (hb : 0 < b) (h0 : -K ≤ a) (h1 : a ≤ K) : -K ≤ Int.tdiv a b ∧ Int.tdiv a b ≤ K := by
  by_cases q : 0 ≤ a
  · rw [Int.tdiv_eq_ediv_of_nonneg q]
    have e1 := Int.ediv_nonneg q (Int.le_of_lt hb)
    have e2 := Int.ediv_le_self b q
    omega
  · have e : Int.tdiv a b = -(Int.tdiv (-a) b) := by rw [Int.neg_tdiv, Int.neg_neg]
    rw [e, Int.tdiv_eq_ediv_of_nonneg (by omega)]
    have e1 := Int.ediv_nonneg (show 0 ≤ -a by omega) (Int.le_of_lt hb)
    have e2 := Int.ediv_le_self b (show 0 ≤ -a by omega)
    omega
theorem fd_some {a b : Int} (hb : 0 < b) (hb1 : b ≤ 1000000) (h0 : -100000000 ≤ a) (h1 : a ≤ 100000000) : ∃ x, J_floorDivL a b = some x ∧ 0 ≤ J_maxL 0 (J_minL 999 x) ∧ J_maxL 0 (J_minL 999 x) ≤ 999 := by
  have hd := tdiv_b (K := 100000000) hb h0 h1
  have key : ∀ x : Int, -200000000 ≤ x → x ≤ 200000000 → 0 ≤ J_maxL 0 (J_minL 999 x) ∧ J_maxL 0 (J_minL 999 x) ≤ 999 := by
    intro x x0 x1
    have e1 : J_minL 999 x = if x < 999 then x else 999 := by
      unfold J_minL
      rw [w64_id (x := x) (by omega) (by omega), w64_id (x := 999) (by omega) (by omega)]
    have e2 : ∀ y : Int, -200000000 ≤ y → y ≤ 999 → 0 ≤ J_maxL 0 y ∧ J_maxL 0 y ≤ 999 := by
      intro y y0 y1
      unfold J_maxL
      rw [w64_id (x := y) (by omega) (by omega), w64_id (x := 0) (by omega) (by omega)]
      split <;> omega
    rw [e1]
    by_cases z : x < 999
    · rw [if_pos z]; exact e2 x x0 (by omega)
    · rw [if_neg z]; exact e2 999 (by omega) (by omega)
  unfold J_floorDivL
  rw [w64_id (x := b) (by omega) (by omega), if_neg (by omega), w64_id (x := a) (by omega) (by omega)]
  by_cases q1 : 0 ≤ w64 (lXor a b)
  · rw [if_pos q1]
    exact ⟨_, rfl, key _ (by omega) (by omega)⟩
  · rw [if_neg q1]
    by_cases q2 : w64 (Int.tdiv a b * b) = a
    · rw [if_pos q2]
      exact ⟨_, rfl, key _ (by clear q1 q2; omega) (by clear q1 q2; omega)⟩
    · rw [if_neg q2]
      exact ⟨_, rfl, key _ (by clear q1 q2; omega) (by clear q1 q2; omega)⟩
/-- what bending changes at the reference -/
def KB (m m' : Mem) : Prop := (∀ c, c ≠ 75 → c ≠ 76 → c ≠ 84 → c ≠ 85 → c ≠ 86 → c ≠ 87 → m' c = m c) ∧ (∀ i, i ≠ 33 → m' 75 i = m 75 i) ∧ (∀ i, i < 80 ∨ 144 ≤ i → m' 76 i = m 76 i)
theorem KB.refl (m : Mem) : KB m m := ⟨fun _ _ _ _ _ _ _ => rfl, fun _ _ => rfl, fun _ _ => rfl⟩
theorem KB.trans {m m' m'' : Mem} (h : KB m m') (h' : KB m' m'') : KB m m'' := ⟨fun c a1 a2 a3 a4 a5 a6 => (h'.1 c a1 a2 a3 a4 a5 a6).trans (h.1 c a1 a2 a3 a4 a5 a6), fun i a => (h'.2.1 i a).trans (h.2.1 i a), fun i a => (h'.2.2 i a).trans (h.2.2 i a)⟩
theorem La.kb {m m' : Mem} (h : La m m') : KB m m' := ⟨fun c a1 a2 a3 a4 a5 a6 => h.1 c a1 a3 a4 a5 a6, fun i a => h.2 i a, fun i _ => by rw [h.1 76 (by decide) (by decide) (by decide) (by decide) (by decide)]⟩
theorem bend_loop {P D : Nat} {v l S W f ap bf : Int} {T b0 : Nat → Int} (hP : P ≤ 8) (hD : D < 256) (hs : gSW S W) (hl : isLn S W v l) (eP : plS S W v l = (P : Int)) (ef : fsS S v l = f) (ea : srS v = ap) (k2 : 0 < bf) (k3 : bf ≤ 1000) (hTb : ∀ p, p < P → -8000000 ≤ T p ∧ T p ≤ 8000000) (k4 : ∀ r, dtN (fmN P D).length (enN P (fmN P D) 100 r) (fmN P D).length (2 ^ (fmN P D).length - 1) = bf) (k6 : ∀ p, p < P → Fz D p → T p = dtN (fmN P D).length (enN P (fmN P D) (frN D p 0).length (fun x => sdN (fun d => bbN D b0 d * rgN P (fmN P D) d x) P)) (fmN P D).length (2 ^ (fmN P D).length - 1)) : ∀ (r p fC fR : Nat) (mC mR : Mem), p + r = P → r < fC → r < fR → mC 7 0 = S → mC 7 1 = W → mC 30 1 = (P : Int) → mC 30 2 = bf → (∀ q : Nat, q < P → mC 31 (9 * (q : Int) + P) = T q) → mR 75 23 = f → mR 75 24 = ap → mR 75 25 = (P : Int) → RX mC mR → (∀ d : Nat, d < P → ¬ Fz D d → mC 10 (f + ap * (d : Int)) = b0 d) → ∃ mC' mR', Runner_bendLine_L35 v l (D : Int) (P : Int) fC (p : Int) mC = some mC' ∧ Mo_bends_L30 (D : Int) fR (p : Int) mR = some mR' ∧ (∀ c, c ≠ 10 → mC' c = mC c) ∧ KB mR mR' ∧ RX mC' mR' := by
  intro r
  induction r with
  | zero =>
    intro p fC fR mC mR hp hfC hfR e0 e1 e301 e302 e31 e23 e24 e25 h hb
    match fC, hfC, fR, hfR with
    | fC + 1, _, fR + 1, _ =>
      rw [Runner_bendLine_L35, Mo_bends_L30, e25, w32_id (x := (P : Int)) (by omega) (by omega), w32_id (x := (p : Int)) (by omega) (by omega), if_pos (by omega), if_pos (by omega)]
      exact ⟨mC, mR, rfl, rfl, fun _ _ => rfl, KB.refl mR, h⟩
  | succ r ih =>
    intro p fC fR mC mR hp hfC hfR e0 e1 e301 e302 e31 e23 e24 e25 h hb
    have hpP : p < P := by omega
    have hpt := pt_in hs hl (p := (p : Int)) (by omega) (by omega)
    rw [ef, ea] at hpt
    have p64 := pt64 hs hpt
    have hptC : Pt (mC 7 0) (mC 7 1) (f + ap * (p : Int)) := by rw [e0, e1]; exact hpt
    -- the line as it lies now
    obtain ⟨b, hbd⟩ : ∃ b : Nat → Int, b = fun d : Nat => mC 10 (f + ap * (d : Int)) := ⟨_, rfl⟩
    have hbb : ∀ d, d < P → bbN D b d = bbN D b0 d := fun d hd => by
      unfold bbN
      by_cases y : fzB D d = true
      · rw [if_pos y, if_pos y]
      · rw [if_neg y, if_neg y, hbd]; exact hb d hd (fun z => y (fzB_t.mpr z))
    have hLn : LnR P b f ap mR := by
      refine ⟨e23, e24, e25, fun d hd => ?_⟩
      have q := pt_in hs hl (p := (d : Int)) (by omega) (by omega)
      rw [ef, ea] at q
      have q' : Pt (mC 7 0) (mC 7 1) (f + ap * (d : Int)) := by rw [e0, e1]; exact q
      rw [hbd]
      exact ⟨pt64 hs q, h.flM _ q', h.flC _ q'⟩
    obtain ⟨mb, b1, b2, b3⟩ := m_laid (P := P) (D := D) (pl := p) hP hD hpP hLn
    have e76b : mb 76 = mR 76 := b2.1 76 (by decide) (by decide) (by decide) (by decide) (by decide)
    have epa : Sheet_pointAt 7 v l (p : Int) mC = f + ap * (p : Int) := by
      unfold Sheet_pointAt
      rw [c_first (by rw [e0, e1]; exact hs) (by rw [e0, e1]; exact hl), c_stride hl.1.1 hl.1.2, e0, ef, ea, Int.mul_comm]
    match fC, hfC, fR, hfR with
    | fC + 1, hfC, fR + 1, hfR =>
      rw [Runner_bendLine_L35, Mo_bends_L30, e25, w32_id (x := (P : Int)) (by omega) (by omega), w32_id (x := (p : Int)) (by omega) (by omega), if_neg (show ¬ (P : Int) ≤ (p : Int) by omega), if_neg (show ¬ (P : Int) ≤ (p : Int) by omega), b1, bE_some, e23, e24, show (p : Int) + 1 = ((p + 1 : Nat) : Int) by omega]
      have skip : ∃ mC' mR', Runner_bendLine_L35 v l (D : Int) (P : Int) fC ((p + 1 : Nat) : Int) mC = some mC' ∧ Mo_bends_L30 (D : Int) fR ((p + 1 : Nat) : Int) mb = some mR' ∧ (∀ c, c ≠ 10 → mC' c = mC c) ∧ KB mR mR' ∧ RX mC' mR' := by
        obtain ⟨mC', mR', x1, x2, x3, x4, x5⟩ := ih (p + 1) fC fR mC mb (by omega) (by omega) (by omega) e0 e1 e301 e302 e31 (by rw [b2.2 _ (by decide)]; exact e23) (by rw [b2.2 _ (by decide)]; exact e24) (by rw [b2.2 _ (by decide)]; exact e25) (h.sc e76b) hb
        exact ⟨mC', mR', x1, x2, x3, b2.kb.trans x4, x5⟩
      by_cases z : Fz D p
      · have hlt := frN_sub D hpP z
        have hle2 : (frN D P 0).length ≤ P := frN_len D P 0
        rw [if_pos (fzB_t.mpr z), bitZ (by omega) (by omega) z, if_neg (show ¬ ¬ (0 : Int) = 0 by decide), epa, w32_id (x := ((frN D p 0).length : Int)) (by omega) (by omega), if_neg (show ¬ ((frN D p 0).length : Int) = -1 by omega), w32_id (x := 144 + (f + ap * (p : Int))) (by omega) (by omega), if_pos (show 0 ≤ 144 + (f + ap * (p : Int)) ∧ 144 + (f + ap * (p : Int)) < 2900 by omega), e76b, (h.2.2.2.2 _ hptC).2]
        rcases kept01 (c := 7) (p := f + ap * (p : Int)) (m := mC) with y | y
        · rw [y, if_neg (show ¬ ¬ (0 : Int) = 0 by decide), if_pos (show ¬ w32 0 = 1 by decide)]
          obtain ⟨mc, d1, d2⟩ := m_det (P := P) (D := D) (col := (frN D p 0).length) (v1 := ((frN D p 0).length : Int)) hP b3 ⟨w32_id (by omega) (by omega), fun c _ => by omega⟩
          have hl2 : LdR P D b mc := ⟨by rw [d2 _ (by decide)]; exact b3.1, by rw [d2 _ (by decide)]; exact b3.2.1, by rw [d2 _ (by decide)]; exact b3.2.2⟩
          have ele : (fmN P D).length = (frN D P 0).length := rfl
          obtain ⟨md, x1, x2⟩ := m_det (P := P) (D := D) (col := 100) (v1 := -1) hP hl2 ⟨rfl, fun c hc => by rw [ele] at hc; omega⟩
          rw [k4] at x1
          have eqf : (fun x => sdN (fun d => bbN D b d * rgN P (fmN P D) d x) P) = fun x => sdN (fun d => bbN D b0 d * rgN P (fmN P D) d x) P := funext (fun x => sdN_c P (fun d hd => by show bbN D b d * _ = bbN D b0 d * _; rw [hbb d hd]))
          rw [eqf, ← k6 p hpP z] at d1
          have tb := hTb p hpP
          obtain ⟨x, w1, w2⟩ := fd_some (a := 2 * T p + bf) (b := 2 * bf) (by omega) (by omega) (by omega) (by omega)
          have enr : Lath_nearestAt (p : Int) mC = some (J_maxL 0 (J_minL 999 x)) := by
            unfold Lath_nearestAt Lath_topAt
            rw [e301, e302, w64_id (x := bf) (by omega) (by omega), if_pos k2, c_cell (by omega) (by omega), e31 p hpP, w1, bP_some]
          generalize hval : J_maxL 0 (J_minL 999 x) = val at *
          have eput : Sheet_put 7 (f + ap * (p : Int)) val mC = st mC 10 (f + ap * (p : Int)) val := by
            unfold Sheet_put
            rw [w32_id (x := f + ap * (p : Int)) (by omega) (by omega), if_neg (by omega), if_neg (by omega)]
          rw [enr, bP_some, eput, d1, bE_some, x1, bE_some, w1, bP_some, w32_id (x := 80 + (f + ap * (p : Int))) (by omega) (by omega), if_pos (show 0 ≤ 80 + (f + ap * (p : Int)) ∧ 80 + (f + ap * (p : Int)) < 2900 by omega), hval]
          have la2 : La mR md := b2.trans ((La.refl mb).ch (fun c _ _ h86 _ => by rw [x2 c h86, d2 c h86]))
          have e76d : md 76 = mR 76 := la2.1 76 (by decide) (by decide) (by decide) (by decide) (by decide)
          have hRX : RX (st mC 10 (f + ap * (p : Int)) val) (st md 76 (80 + (f + ap * (p : Int))) val) := (h.sc e76d).put p64 w2
          obtain ⟨mC', mR', y1, y2, y3, y4, y5⟩ := ih (p + 1) fC fR (st mC 10 (f + ap * (p : Int)) val) (st md 76 (80 + (f + ap * (p : Int))) val) (by omega) (by omega) (by omega) e0 e1 e301 e302 e31 (by rw [st_ne _ _ _ (by decide), la2.2 _ (by decide)]; exact e23) (by rw [st_ne _ _ _ (by decide), la2.2 _ (by decide)]; exact e24) (by rw [st_ne _ _ _ (by decide), la2.2 _ (by decide)]; exact e25) hRX (fun d hd hz => by
            have hdp : d ≠ p := fun e => hz (by rw [e]; exact z)
            have hne : f + ap * (d : Int) ≠ f + ap * (p : Int) := by
              have hap := srS_b v
              rw [ea] at hap
              intro e
              have : ap * (d : Int) = ap * (p : Int) := by omega
              have := Int.eq_of_mul_eq_mul_left (by omega) this
              omega
            rw [st_eq, if_neg hne]; exact hb d hd hz)
          refine ⟨mC', mR', y1, y2, fun c hc => by rw [y3 c hc, st_ne _ _ _ hc], ?_, y5⟩
          refine (la2.kb.trans ⟨fun c a1 a2 _ _ _ _ => st_ne _ _ _ a2, fun i _ => by rw [st_ne _ _ _ (by decide)], fun i hi => ?_⟩).trans y4
          rw [st_eq, if_neg (by omega)]
        · rw [y, if_pos (show ¬ (1 : Int) = 0 by decide), if_neg (show ¬ ¬ w32 1 = 1 by decide)]
          exact skip
      · rw [if_neg (fun y => z (fzB_t.mp y)), bitO (by omega) (by omega) z, if_pos (show ¬ (1 : Int) = 0 by decide), if_pos (show w32 (-1) = -1 by decide)]
        exact skip
theorem bend_run {mC mR : Mem} (h : RX mC mR) {v l : Int} {D : Nat} (hv : 0 ≤ v ∧ v ≤ 2) (hl : 0 ≤ l ∧ l ≤ 12) (hD : D < 256) (h2 : 2 ≤ pcN 10 D) : ∃ mC' mR', Runner_bendLine v l (D : Int) mC = some mC' ∧ Mo_bends v l (D : Int) mR = some mR' ∧ KC mC mC' ∧ mC' 37 = mC 37 ∧ mC' 38 = mC 38 ∧ KR mR mR' ∧ mR' 75 38 = mR 75 38 ∧ mR' 83 = mR 83 ∧ RX mC' mR' := by
  obtain ⟨⟨z0, z1, z4, z5, z6⟩, hs, hr, ho, hp⟩ := id h
  have cv : w32 v = v := w32_id (by omega) (by omega)
  have cl : w32 l = l := w32_id (by omega) (by omega)
  have cD : w32 (D : Int) = (D : Int) := w32_id (by omega) (by omega)
  unfold Runner_bendLine Mo_bends
  by_cases gl : isLn (mC 7 0) (mC 7 1) v l
  · have gp := plS_le hs gl
    obtain ⟨P, eP⟩ : ∃ P : Nat, plS (mC 7 0) (mC 7 1) v l = (P : Int) := ⟨(plS (mC 7 0) (mC 7 1) v l).toNat, by omega⟩
    have hP : P ≤ 8 := by omega
    have hP1 : 1 ≤ P := by omega
    obtain ⟨M, eM⟩ : ∃ M : Nat, M = 2 ^ P := ⟨_, rfl⟩
    have hM : M ≤ 256 := by rw [eM]; exact (dtE ⟨P, by omega⟩).2.1
    have e2 := c_ducks hP eM hM hs gl eP cD
    have eSh : bShl 1 (P : Int) = (M : Int) := by rw [shlN (by omega), eM]
    have hin : ∀ D : Nat, D < M → D < 2 ^ P := fun D hD => by rw [← eM]; exact hD
    clear eM
    have eSw : w32 (M : Int) = (M : Int) := w32_id (by omega) (by omega)
    have eT := m_takes (m := mR) hs z0 z1 gl
    have kT : KR mR (tk mR (fsS (mC 7 0) v l) (srS v) (plS (mC 7 0) (mC 7 1) v l)) := by
      refine ⟨fun c c75 _ _ _ _ _ _ _ => tk_96 _ _ _ _ c75, fun i hi _ _ => ?_, fun i _ => by rw [tk_96 _ _ _ _ (by decide)]⟩
      unfold tk
      rw [st_eq, if_neg (by omega), st_eq, if_neg (by omega), st_eq, if_neg (by omega)]
    rw [m_isLineT hs z0 z1 gl, if_pos (show ¬ (1 : Int) = 0 by decide), eT, cD]
    have e25 : tk mR (fsS (mC 7 0) v l) (srS v) (plS (mC 7 0) (mC 7 1) v l) 75 25 = (P : Int) := eP
    rw [e25, eSh, eSw]
    by_cases gd : D < M
    · have gd' : (D : Int) < (M : Int) := Int.ofNat_lt.mpr gd
      rw [if_pos (show 0 ≤ (D : Int) ∧ (D : Int) < (M : Int) from ⟨Int.natCast_nonneg D, gd'⟩)] at e2
      rw [e2, if_pos (show ¬ (1 : Int) = 0 by decide), if_pos gd']
      have hb : ∀ d : Nat, d < P → 0 ≤ mC 10 (fsS (mC 7 0) v l + srS v * (d : Int)) ∧ mC 10 (fsS (mC 7 0) v l + srS v * (d : Int)) ≤ 999 := fun d hd => h.flC _ (pt_in hs gl (p := (d : Int)) (by clear e2; omega) (by clear e2; omega))
      obtain ⟨b0, hb0⟩ : ∃ b0 : Nat → Int, b0 = fun d : Nat => mC 10 (fsS (mC 7 0) v l + srS v * (d : Int)) := ⟨_, rfl⟩
      have hb10 : ∀ d : Nat, d < P → mC 10 (fsS (mC 7 0) v l + srS v * (d : Int)) = b0 d := fun d _ => by rw [hb0]
      obtain ⟨bf, L, k1, k2, k3, k4, k5, k6⟩ := ck_use hP1 hP (hin D gd) h2 b0
      obtain ⟨ma, j1, j2, j3, j4, j5, j6⟩ := c_lay (P := P) (D := D) (v := v) (l := l) (b := b0) hP hD hs gl eP (fun d hd => by rw [← hb10 d hd]; exact hb d hd) hb10 k1
      have f7 : ma 7 = mC 7 := j2 7 (by decide) (by decide)
      rw [j1, bV_some, c_places (by rw [f7]; exact hs) (by rw [f7]; exact gl), f7, eP]
      clear e2
      have hR1 : RX ma (tk mR (fsS (mC 7 0) v l) (srS v) (P : Int)) := (h.cl f7 (j2 8 (by decide) (by decide)) (j2 10 (by decide) (by decide))).sc (tk_96 _ _ _ _ (by decide))
      obtain ⟨mC', mR', x1, x2, x3, x4, x5⟩ := bend_loop (P := P) (D := D) (v := v) (l := l) (S := mC 7 0) (W := mC 7 1) (f := fsS (mC 7 0) v l) (ap := srS v) (bf := bf) (T := fun p => sdN (fun d => b0 d * gt2 L p (P + d)) P) (b0 := b0) hP hD hs gl eP rfl rfl k2 k3 (fun p hp => by
        have := vl_b (b := b0) (c := P) hP j5 (fun d hd => by rw [← hb10 d hd]; exact hb d hd) hp (Nat.le_refl P)
        unfold vlN at this
        rw [if_neg (by omega)] at this
        exact this) k4 k6 P 0 FU FU ma (tk mR (fsS (mC 7 0) v l) (srS v) (P : Int)) (by omega) (by rw [FU_eq]; omega) (by rw [FU_eq]; omega) (by rw [f7]) (by rw [f7]) j3 j4 (fun q hq => j6 q hq) rfl rfl rfl hR1 (fun d hd _ => by rw [j2 10 (by decide) (by decide)]; exact hb10 d hd)
      refine ⟨mC', mR', x1, x2, ?_, by rw [x3 37 (by decide), j2 37 (by decide) (by decide)], by rw [x3 38 (by decide), j2 38 (by decide) (by decide)], ?_, ?_, ?_, x5⟩
      · refine ⟨fun c c7 c10 c28 c29 c30 c31 c37 c38 => by rw [x3 c c10, j2 c c30 c31], fun i _ => by rw [x3 7 (by decide), f7], fun i _ _ _ => by rw [x3 28 (by decide), j2 28 (by decide) (by decide)]⟩
      · rw [eP] at kT
        refine kT.trans ⟨fun c c75 c76 c83 c84 c85 c86 c87 c88 => x4.1 c c75 c76 c84 c85 c86 c87, fun i hi i33 i38 => x4.2.1 i i33, fun i hi => x4.2.2 i (by omega)⟩
      · rw [x4.2.1 38 (by decide)]; rfl
      · rw [x4.1 83 (by decide) (by decide) (by decide) (by decide) (by decide) (by decide), tk_96 _ _ _ _ (by decide)]
    · have gd' : ¬ (D : Int) < (M : Int) := fun z => gd (Int.ofNat_lt.mp z)
      rw [if_neg (show ¬ (0 ≤ (D : Int) ∧ (D : Int) < (M : Int)) from fun z => gd' z.2)] at e2
      rw [e2, if_neg (show ¬ ¬ (0 : Int) = 0 by decide), if_neg gd']
      exact ⟨mC, _, rfl, rfl, KC.refl mC, rfl, rfl, kT, rfl, tk_96 _ _ _ _ (by decide), h.sc (tk_96 _ _ _ _ (by decide))⟩
  · have e1 : Sheet_hasDucks 7 v l (D : Int) mC = 0 := by
      unfold Sheet_hasDucks
      rw [c_hasLineF hs cv cl gl, if_pos rfl]
    rw [e1, if_neg (show ¬ ¬ (0 : Int) = 0 by decide), m_isLineF hs z0 z1 cv cl gl, if_neg (show ¬ ¬ (0 : Int) = 0 by decide)]
    exact ⟨mC, mR, rfl, rfl, KC.refl mC, rfl, rfl, KR.refl mR, rfl, rfl, h⟩
