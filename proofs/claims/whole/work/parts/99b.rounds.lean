/-! layer 2: rounds, both sides' sweeps -/
theorem kp_is {m : Mem} {q : Int} : Sheet_isKept 7 q m = bI (decide (Sheet_isKept 7 q m = 1)) := by
  rcases kept01 (c := 7) (p := q) (m := m) with z | z <;> rw [z] <;> rfl
theorem isK_c {m mm : Mem} (e : mm 7 = m 7) (q : Int) : Sheet_isKept 7 q mm = Sheet_isKept 7 q m := by unfold Sheet_isKept; rw [e]
theorem c_sl30 {m : Mem} {v l stp : Int} (s : gSW (m 7 0) (m 7 1)) (hl : isLn (m 7 0) (m 7 1) v l) (e5 : m 7 5 = stp) (s0 : 1 ≤ stp) (s1 : stp ≤ 99) {kp : Int → Bool} (hk : ∀ q, Pt (m 7 0) (m 7 1) q → Sheet_isKept 7 q m = bI (kp q)) : ∀ (n : Nat) (p : Int) (b : Bool) (F : Int → Int) (mm : Mem), Fl m mm F → Fb (m 7 0) (m 7 1) F → 2 ≤ p → p ≤ 20 → (plS (m 7 0) (m 7 1) v l - 2 - p).toNat < n → ∃ m', Fl m m' (lwS kp stp (fsS (m 7 0) v l) (srS v) (plS (m 7 0) (m 7 1) v l - 2 - p).toNat p (F, b)).1 ∧ Rounds_sweepLine_L30 (srS v) (plS (m 7 0) (m 7 1) v l) n (bI b) (fsS (m 7 0) v l + srS v * p) p mm = some (bI (lwS kp stp (fsS (m 7 0) v l) (srS v) (plS (m 7 0) (m 7 1) v l - 2 - p).toNat p (F, b)).2, m') := by
  have g := plS_le s hl
  have sb := srS_b v
  intro n
  induction n with
  | zero => intro p b F mm _ _ _ _ q; omega
  | succ n ih =>
    intro p b F mm hf hF p0 p1 hn
    have e7 : mm 7 = m 7 := hf.1 7 (by decide)
    by_cases q : plS (m 7 0) (m 7 1) v l - 2 ≤ p
    · rw [show (plS (m 7 0) (m 7 1) v l - 2 - p).toNat = 0 by omega]
      refine ⟨mm, hf, ?_⟩
      rw [Rounds_sweepLine_L30, w32_id (x := plS (m 7 0) (m 7 1) v l - 2) (by omega) (by omega), w32_id (x := p) (by omega) (by omega), if_pos q]
      show some (bI b % 2, mm) = some (bI b, mm)
      cases b <;> rfl
    · obtain ⟨h0, h1, h2, h3, h4⟩ := lin_pt s hl p0 (show p < plS (m 7 0) (m 7 1) v l - 2 by omega)
      have ep : fsS (m 7 0) v l + srS v * p + srS v = fsS (m 7 0) v l + srS v * (p + 1) := by rw [Int.mul_add]; omega
      have ek : Sheet_isKept 7 (fsS (m 7 0) v l + srS v * p) mm = bI (kp (fsS (m 7 0) v l + srS v * p)) := by rw [isK_c e7, hk _ h0]
      rw [Rounds_sweepLine_L30, w32_id (x := plS (m 7 0) (m 7 1) v l - 2) (by omega) (by omega), w32_id (x := p) (by omega) (by omega), if_neg q, ek, ep, show (plS (m 7 0) (m 7 1) v l - 2 - p).toNat = (plS (m 7 0) (m 7 1) v l - 2 - (p + 1)).toNat + 1 by omega, lwS_s]
      by_cases z : kp (fsS (m 7 0) v l + srS v * p) = true
      · rw [z, if_pos (show ¬ bI true = 0 by decide), if_pos rfl]
        exact ih (p + 1) b F mm hf hF (by omega) (by omega) (by omega)
      · have z' : kp (fsS (m 7 0) v l + srS v * p) = false := by simpa using z
        have nb := ndS_b stp F (fsS (m 7 0) v l + srS v * p) (srS v)
        rw [z', if_neg (show ¬ ¬ bI false = 0 by decide), if_neg (show ¬ false = true by decide), c_nudge s (by rw [hf.2]; exact hF) (by rw [e7]; exact e5) s0 s1 sb.1 sb.2 h0 h1 h2 h3 h4, bE_some, hf.2]
        have eb : (if w32 (bI (decide (¬ ndS stp F (fsS (m 7 0) v l + srS v * p) (srS v) = F (fsS (m 7 0) v l + srS v * p)))) = 0 then bI b else 1 : Int) = bI (b || decide (¬ ndS stp F (fsS (m 7 0) v l + srS v * p) (srS v) = F (fsS (m 7 0) v l + srS v * p))) := by
          generalize decide (¬ ndS stp F (fsS (m 7 0) v l + srS v * p) (srS v) = F (fsS (m 7 0) v l + srS v * p)) = d
          cases b <;> cases d <;> decide
        rw [eb]
        exact ih (p + 1) _ _ _ (hf.up _ _) (hF.up _ nb.1 nb.2) (by omega) (by omega) (by omega)
theorem c_sl {m mm : Mem} {v l stp : Int} (s : gSW (m 7 0) (m 7 1)) (hl : isLn (m 7 0) (m 7 1) v l) (e5 : m 7 5 = stp) (s0 : 1 ≤ stp) (s1 : stp ≤ 99) {kp : Int → Bool} (hk : ∀ q, Pt (m 7 0) (m 7 1) q → Sheet_isKept 7 q m = bI (kp q)) {F : Int → Int} (hf : Fl m mm F) (hF : Fb (m 7 0) (m 7 1) F) : ∃ m', Fl m m' (lwS kp stp (fsS (m 7 0) v l) (srS v) (plS (m 7 0) (m 7 1) v l - 2 - 2).toNat 2 (F, false)).1 ∧ Rounds_sweepLine v l mm = some (bI (lwS kp stp (fsS (m 7 0) v l) (srS v) (plS (m 7 0) (m 7 1) v l - 2 - 2).toNat 2 (F, false)).2, m') := by
  have g := plS_le s hl
  have hv := isLn_pos s hl
  have e7 : mm 7 = m 7 := hf.1 7 (by decide)
  obtain ⟨m', j1, j2⟩ := c_sl30 s hl e5 s0 s1 hk FU 2 false F mm hf hF (by omega) (by omega) (by rw [FU_eq]; omega)
  refine ⟨m', j1, ?_⟩
  have hl' : isLn (mm 7 0) (mm 7 1) v l := by rw [e7]; exact hl
  have s' : gSW (mm 7 0) (mm 7 1) := by rw [e7]; exact s
  unfold Rounds_sweepLine Sheet_pointAt
  rw [c_stride (by omega) (by omega), c_places s' hl', c_first s' hl', e7, Int.mul_comm 2 (srS v)]
  exact j2
theorem c_sw40 {m : Mem} {v stp : Int} (s : gSW (m 7 0) (m 7 1)) (v0 : 0 ≤ v) (v2 : v ≤ 2) (e5 : m 7 5 = stp) (s0 : 1 ≤ stp) (s1 : stp ≤ 99) {kp : Int → Bool} (hk : ∀ q, Pt (m 7 0) (m 7 1) q → Sheet_isKept 7 q m = bI (kp q)) {k : Int} {K : Int → Int → Mem → Option (Int × Mem)} : ∀ (n : Nat) (l : Int) (b : Bool) (F : Int → Int) (mm : Mem), Fl m mm F → Fb (m 7 0) (m 7 1) F → 0 ≤ l → l ≤ 20 → (lnS (m 7 0) (m 7 1) v - l).toNat < n → ∃ m', Fl m m' (vrS kp stp (m 7 0) (m 7 1) v (lnS (m 7 0) (m 7 1) v - l).toNat l (F, b)).1 ∧ Rounds_sweep_L40 v (lnS (m 7 0) (m 7 1) v) K n (bI b) k l mm = K (bI (vrS kp stp (m 7 0) (m 7 1) v (lnS (m 7 0) (m 7 1) v - l).toNat l (F, b)).2) (k + 1) m' := by
  have bl := lnS_le s v
  intro n
  induction n with
  | zero => intro l b F mm _ _ _ _ q; omega
  | succ n ih =>
    intro l b F mm hf hF l0 l1 hn
    rw [Rounds_sweep_L40, w32_id (x := lnS (m 7 0) (m 7 1) v) (by omega) (by omega), w32_id (x := l) (by omega) (by omega)]
    by_cases q : lnS (m 7 0) (m 7 1) v ≤ l
    · rw [show (lnS (m 7 0) (m 7 1) v - l).toNat = 0 by omega, if_pos q]
      exact ⟨mm, hf, rfl⟩
    · have hl := isLn_of v0 v2 l0 (show l < lnS (m 7 0) (m 7 1) v by omega)
      have g := plS_le s hl
      obtain ⟨ma, a1, a2⟩ := c_sl s hl e5 s0 s1 hk hf hF
      have kp1 := lwS_kp (S := m 7 0) (W := m 7 1) (v := v) (l := l) (stp := stp) (kp := kp) (F := F) s hl (plS (m 7 0) (m 7 1) v l - 2 - 2).toNat 2 (F, false) (by omega) (by omega) ⟨hF, fun _ _ => rfl⟩
      rw [if_neg q, a2, bE_some, show (lnS (m 7 0) (m 7 1) v - l).toNat = (lnS (m 7 0) (m 7 1) v - (l + 1)).toNat + 1 by omega, vrS_s, lwS_or kp stp _ _ _ 2 F b]
      have eb : ∀ d : Bool, (if w32 (bI d) = 0 then bI b else 1 : Int) = bI (b || d) := by
        intro d; cases b <;> cases d <;> decide
      rw [eb]
      exact ih (l + 1) _ _ ma a1 kp1.1 (by omega) (by omega) (by omega)
theorem c_sw4 {m : Mem} {stp : Int} (s : gSW (m 7 0) (m 7 1)) (e5 : m 7 5 = stp) (s0 : 1 ≤ stp) (s1 : stp ≤ 99) {kp : Int → Bool} (hk : ∀ q, Pt (m 7 0) (m 7 1) q → Sheet_isKept 7 q m = bI (kp q)) (v0 : 1 ≤ m 7 6) (v1 : m 7 6 ≤ 6) (ho : ∀ k, 0 ≤ k → k < m 7 6 → 0 ≤ m 8 k ∧ m 8 k ≤ 2) : ∀ (n : Nat) (k : Int) (b : Bool) (F : Int → Int) (mm : Mem), Fl m mm F → Fb (m 7 0) (m 7 1) F → 0 ≤ k → k ≤ 6 → (m 7 6 - k).toNat < n → ∃ m', Fl m m' (rwS kp stp (m 7 0) (m 7 1) (m 8) (m 7 6 - k).toNat k (F, b)).1 ∧ Rounds_sweep_L4 n (bI b) k mm = some (bI (rwS kp stp (m 7 0) (m 7 1) (m 8) (m 7 6 - k).toNat k (F, b)).2, m') := by
  intro n
  induction n with
  | zero => intro k b F mm _ _ _ _ q; omega
  | succ n ih =>
    intro k b F mm hf hF k0 k1 hn
    have e7 : mm 7 = m 7 := hf.1 7 (by decide)
    have e8 : mm 8 = m 8 := hf.1 8 (by decide)
    rw [Rounds_sweep_L4, e7, e8, w32_id (x := m 7 6) (by omega) (by omega), w32_id (x := k) (by omega) (by omega)]
    by_cases q : m 7 6 ≤ k
    · rw [show (m 7 6 - k).toNat = 0 by omega, if_pos q]
      refine ⟨mm, hf, ?_⟩
      show some (bI b % 2, mm) = some (bI b, mm)
      cases b <;> rfl
    · have ob := ho k k0 (by omega)
      have bl := lnS_le s (m 8 k)
      have s' : gSW (mm 7 0) (mm 7 1) := by rw [e7]; exact s
      have el : Sheet_linesOf 7 (m 8 k) mm = lnS (m 7 0) (m 7 1) (m 8 k) := by rw [c_lines s' ob.1 ob.2, e7]
      obtain ⟨ma, a1, a2⟩ := c_sw40 (m := m) (v := m 8 k) s ob.1 ob.2 e5 s0 s1 hk (k := k) (K := Rounds_sweep_L4 n) FU 0 b F mm hf hF (by omega) (by omega) (by rw [FU_eq]; omega)
      have kp1 := vrS_kp (S := m 7 0) (W := m 7 1) (v := m 8 k) (stp := stp) (kp := kp) (F := F) s ob.1 ob.2 (lnS (m 7 0) (m 7 1) (m 8 k) - 0).toNat 0 (F, b) (by omega) (by omega) ⟨hF, fun _ _ => rfl⟩
      rw [if_neg q, if_neg (by omega), if_pos (by omega), el, show (m 7 6 - k).toNat = (m 7 6 - (k + 1)).toNat + 1 by omega, rwS_s]
      obtain ⟨m', j1, j2⟩ := ih (k + 1) (vrS kp stp (m 7 0) (m 7 1) (m 8 k) (lnS (m 7 0) (m 7 1) (m 8 k) - 0).toNat 0 (F, b)).2 (vrS kp stp (m 7 0) (m 7 1) (m 8 k) (lnS (m 7 0) (m 7 1) (m 8 k) - 0).toNat 0 (F, b)).1 ma a1 kp1.1 (by omega) (by omega) (by omega)
      exact ⟨m', j1, a2.trans j2⟩
theorem m_r48 {m : Mem} {S W v l stp k : Int} (s : gSW S W) (hl : isLn S W v l) (s0 : 1 ≤ stp) (s1 : stp ≤ 99) {kp : Int → Bool} {F0 : Int → Int} (e5 : F0 (5 - 80) = stp) (hk : ∀ q, Pt S W q → F0 (144 + q - 80) = bI (kp q)) {K : Int → Int → Int → Mem → Option (Int × Mem)} : ∀ (n : Nat) (p : Int) (b : Bool) (F : Int → Int) (mm : Mem), Fm m mm F → Kp S W F0 F → mm 75 23 = fsS S v l → mm 75 24 = srS v → mm 75 25 = plS S W v l → 2 ≤ p → p ≤ 20 → (plS S W v l - 2 - p).toNat < n → ∃ m', Fm m m' (lwS kp stp (fsS S v l) (srS v) (plS S W v l - 2 - p).toNat p (F, b)).1 ∧ Mo_round_L48 k v K n (bI b) l p mm = K (bI (lwS kp stp (fsS S v l) (srS v) (plS S W v l - 2 - p).toNat p (F, b)).2) k (l + 1) m' := by
  have g := plS_le s hl
  intro n
  induction n with
  | zero => intro p b F mm _ _ _ _ _ _ _ q; omega
  | succ n ih =>
    intro p b F mm hf hF e23 e24 e25 p0 p1 hn
    rw [Mo_round_L48, e25, w32_id (x := plS S W v l - 2) (by omega) (by omega), w32_id (x := p) (by omega) (by omega)]
    by_cases q : plS S W v l - 2 ≤ p
    · rw [show (plS S W v l - 2 - p).toNat = 0 by omega, if_pos q]
      exact ⟨mm, hf, rfl⟩
    · obtain ⟨h0, -⟩ := lin_pt s hl p0 (show p < plS S W v l - 2 by omega)
      have np : ∀ x : Int, ¬ (0 ≤ x ∧ x < 64) → ¬ Pt S W x := fun x hx hp => hx (pt64 s hp)
      have e5' : F (5 - 80) = stp := by rw [hF.2 _ (np _ (by omega))]; exact e5
      have hk' : ∀ q, Pt S W q → F (144 + q - 80) = bI (kp q) := fun q hq => by
        have := pt64 s hq
        rw [hF.2 _ (np _ (by omega))]; exact hk q hq
      rw [if_neg q, m_wish s hl hf hF.1 e23 e24 e5' s0 s1 hk' p0 (by omega), show (plS S W v l - 2 - p).toNat = (plS S W v l - 2 - (p + 1)).toNat + 1 by omega, lwS_s]
      by_cases z : kp (fsS S v l + srS v * p) = true
      · rw [if_pos z, if_pos z, bE_some]
        have eb : bOr (bI b) 0 = bI b := by cases b <;> decide
        rw [eb]
        exact ih (p + 1) b F mm hf hF e23 e24 e25 (by omega) (by omega) (by omega)
      · rw [if_neg z, if_neg z, bE_some]
        have nb := ndS_b stp F (fsS S v l + srS v * p) (srS v)
        have eb : ∀ d : Bool, bOr (bI b) (bI d) = bI (b || d) := by intro d; cases b <;> cases d <;> decide
        rw [eb]
        exact ih (p + 1) _ _ _ (hf.up _ _) (hF.up h0 nb.1 nb.2) e23 e24 e25 (by omega) (by omega) (by omega)
theorem m_r28 {m : Mem} {S W v stp k : Int} (s : gSW S W) (v0 : 0 ≤ v) (v2 : v ≤ 2) (s0 : 1 ≤ stp) (s1 : stp ≤ 99) {kp : Int → Bool} {F0 : Int → Int} (z0 : F0 (0 - 80) = S) (z1 : F0 (1 - 80) = W) (e5 : F0 (5 - 80) = stp) (hk : ∀ q, Pt S W q → F0 (144 + q - 80) = bI (kp q)) {K : Int → Int → Mem → Option (Int × Mem)} : ∀ (n : Nat) (l : Int) (b : Bool) (F : Int → Int) (mm : Mem), Fm m mm F → Kp S W F0 F → 0 ≤ l → l ≤ 20 → (lnS S W v - l).toNat < n → ∃ m', Fm m m' (vrS kp stp S W v (lnS S W v - l).toNat l (F, b)).1 ∧ Mo_round_L28 v K n (bI b) k l mm = K (bI (vrS kp stp S W v (lnS S W v - l).toNat l (F, b)).2) (k + 1) m' := by
  have bl := lnS_le s v
  have np : ∀ x : Int, ¬ (0 ≤ x ∧ x < 64) → ¬ Pt S W x := fun x hx hp => hx (pt64 s hp)
  intro n
  induction n with
  | zero => intro l b F mm _ _ _ _ q; omega
  | succ n ih =>
    intro l b F mm hf hF l0 l1 hn
    have y0 : mm 76 0 = S := by rw [hf.2.2, hF.2 _ (np _ (by omega))]; exact z0
    have y1 : mm 76 1 = W := by rw [hf.2.2, hF.2 _ (np _ (by omega))]; exact z1
    rw [Mo_round_L28, m_lines s y0 y1 v0 v2, w32_id (x := lnS S W v) (by omega) (by omega), w32_id (x := l) (by omega) (by omega)]
    by_cases q : lnS S W v ≤ l
    · rw [show (lnS S W v - l).toNat = 0 by omega, if_pos q]
      exact ⟨mm, hf, rfl⟩
    · have hl := isLn_of v0 v2 l0 (show l < lnS S W v by omega)
      have g := plS_le s hl
      have et := m_takes s y0 y1 hl
      obtain ⟨ma, a1, a2⟩ := m_r48 (m := m) (k := k) s hl s0 s1 e5 hk (K := Mo_round_L28 v K n) FU 2 b F (tk mm (fsS S v l) (srS v) (plS S W v l)) (hf.tk _ _ _) hF rfl rfl rfl (by omega) (by omega) (by rw [FU_eq]; omega)
      have kp1 := lwS_kp (S := S) (W := W) (v := v) (l := l) (stp := stp) (kp := kp) (F := F0) s hl (plS S W v l - 2 - 2).toNat 2 (F, b) (by omega) (by omega) hF
      rw [if_neg q, et, show (lnS S W v - l).toNat = (lnS S W v - (l + 1)).toNat + 1 by omega, vrS_s]
      obtain ⟨m', j1, j2⟩ := ih (l + 1) (lwS kp stp (fsS S v l) (srS v) (plS S W v l - 2 - 2).toNat 2 (F, b)).2 (lwS kp stp (fsS S v l) (srS v) (plS S W v l - 2 - 2).toNat 2 (F, b)).1 ma a1 kp1 (by omega) (by omega) (by omega)
      exact ⟨m', j1, a2.trans j2⟩
theorem m_r4 {m : Mem} {S W stp V : Int} (s : gSW S W) (s0 : 1 ≤ stp) (s1 : stp ≤ 99) {kp : Int → Bool} {F0 o : Int → Int} (z0 : F0 (0 - 80) = S) (z1 : F0 (1 - 80) = W) (e5 : F0 (5 - 80) = stp) (e6 : F0 (6 - 80) = V) (v0 : 1 ≤ V) (v1 : V ≤ 6) (ho : ∀ k, 0 ≤ k → k < V → F0 (7 + k - 80) = o k ∧ 0 ≤ o k ∧ o k ≤ 2) (hk : ∀ q, Pt S W q → F0 (144 + q - 80) = bI (kp q)) : ∀ (n : Nat) (k : Int) (b : Bool) (F : Int → Int) (mm : Mem), Fm m mm F → Kp S W F0 F → 0 ≤ k → k ≤ 6 → (V - k).toNat < n → ∃ m', Fm m m' (rwS kp stp S W o (V - k).toNat k (F, b)).1 ∧ Mo_round_L4 n (bI b) k mm = some (bI (rwS kp stp S W o (V - k).toNat k (F, b)).2, m') := by
  have np : ∀ x : Int, ¬ (0 ≤ x ∧ x < 64) → ¬ Pt S W x := fun x hx hp => hx (pt64 s hp)
  intro n
  induction n with
  | zero => intro k b F mm _ _ _ _ q; omega
  | succ n ih =>
    intro k b F mm hf hF k0 k1 hn
    have y6 : mm 76 6 = V := by rw [hf.2.2, hF.2 _ (np _ (by omega))]; exact e6
    rw [Mo_round_L4, y6, w32_id (x := V) (by omega) (by omega), w32_id (x := k) (by omega) (by omega), w32_id (x := 7 + k) (by omega) (by omega)]
    by_cases q : V ≤ k
    · rw [show (V - k).toNat = 0 by omega, if_pos q]
      refine ⟨mm, hf, ?_⟩
      show some (bI b % 2, mm) = some (bI b, mm)
      cases b <;> rfl
    · have ob := ho k k0 (by omega)
      have yo : mm 76 (7 + k) = o k := by rw [hf.2.2, hF.2 _ (np _ (by omega))]; exact ob.1
      have bl := lnS_le s (o k)
      obtain ⟨ma, a1, a2⟩ := m_r28 (m := m) (v := o k) (k := k) s ob.2.1 ob.2.2 s0 s1 z0 z1 e5 hk (K := Mo_round_L4 n) FU 0 b F mm hf hF (by omega) (by omega) (by rw [FU_eq]; omega)
      have kp1 := vrS_kp (S := S) (W := W) (v := o k) (stp := stp) (kp := kp) (F := F0) s ob.2.1 ob.2.2 (lnS S W (o k) - 0).toNat 0 (F, b) (by omega) (by omega) hF
      rw [if_neg q, if_pos (by omega), yo, show (V - k).toNat = (V - (k + 1)).toNat + 1 by omega, rwS_s]
      obtain ⟨m', j1, j2⟩ := ih (k + 1) (vrS kp stp S W (o k) (lnS S W (o k) - 0).toNat 0 (F, b)).2 (vrS kp stp S W (o k) (lnS S W (o k) - 0).toNat 0 (F, b)).1 ma a1 kp1 (by omega) (by omega) (by omega)
      exact ⟨m', j1, a2.trans j2⟩
