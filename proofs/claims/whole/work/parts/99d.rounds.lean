/-! layer 2: rounds until they end -/
def itS (r : (Int → Int) → (Int → Int) × Bool) (F : Int → Int) : Nat → (Int → Int)
  | 0 => F
  | n + 1 => (r (itS r F n)).1
theorem itS_s (r : (Int → Int) → (Int → Int) × Bool) (F : Int → Int) (n : Nat) : itS r F (n + 1) = (r (itS r F n)).1 := rfl
/-- how many, how it ended, rounds ahead of the ring -/
def rdE (mv : Nat → Bool) (fa : Nat → Int) : Nat → Nat → Nat × Int × Int
  | 0, t => (t, 0, -1)
  | k + 1, t => if mv t then (if fa (t + 1) = -1 then rdE mv fa k (t + 1) else (t + 1, 2, fa (t + 1))) else (t + 1, 1, -1)
theorem rdE_s (mv : Nat → Bool) (fa : Nat → Int) (k t : Nat) : rdE mv fa (k + 1) t = if mv t then (if fa (t + 1) = -1 then rdE mv fa k (t + 1) else (t + 1, 2, fa (t + 1))) else (t + 1, 1, -1) := rfl
theorem rdE_b (mv : Nat → Bool) (fa : Nat → Int) : ∀ (k t : Nat), t ≤ (rdE mv fa k t).1 ∧ (rdE mv fa k t).1 ≤ t + k ∧ 0 ≤ (rdE mv fa k t).2.1 ∧ (rdE mv fa k t).2.1 ≤ 2
  | 0, t => by show t ≤ t ∧ t ≤ t + 0 ∧ (0 : Int) ≤ 0 ∧ (0 : Int) ≤ 2; omega
  | k + 1, t => by
    rw [rdE_s]
    have := rdE_b mv fa k (t + 1)
    split
    · split
      · omega
      · show t ≤ t + 1 ∧ t + 1 ≤ t + (k + 1) ∧ (0 : Int) ≤ 2 ∧ (2 : Int) ≤ 2; omega
    · show t ≤ t + 1 ∧ t + 1 ≤ t + (k + 1) ∧ (0 : Int) ≤ 1 ∧ (1 : Int) ≤ 2; omega
theorem rdE_c {mv mv' : Nat → Bool} {fa fa' : Nat → Int} (h1 : ∀ t, mv t = mv' t) (h2 : ∀ t, fa t = fa' t) : rdE mv fa = rdE mv' fa' := by
  have e1 : mv = mv' := funext h1
  have e2 : fa = fa' := funext h2
  rw [e1, e2]
/-- the class while rounds go on -/
def Gc (m mm : Mem) (F : Int → Int) : Prop := (∀ c, c ≠ 10 → c ≠ 28 → c ≠ 29 → mm c = m c) ∧ mm 10 = F ∧ ∀ i, i ≠ 1 → i ≠ 2 → i ≠ 3 → mm 28 i = m 28 i
/-- what a sheet must be -/
def Sw (m : Mem) (kp : Int → Bool) (stp : Int) : Prop := gSW (m 7 0) (m 7 1) ∧ m 7 5 = stp ∧ 1 ≤ stp ∧ stp ≤ 99 ∧ (∀ q, Pt (m 7 0) (m 7 1) q → Sheet_isKept 7 q m = bI (kp q)) ∧ 1 ≤ m 7 6 ∧ m 7 6 ≤ 6 ∧ (∀ k, 0 ≤ k → k < m 7 6 → 0 ≤ m 8 k ∧ m 8 k ≤ 2)
def rdX (kp : Int → Bool) (stp S W V : Int) (o : Int → Int) (F : Int → Int) : (Int → Int) × Bool := rwS kp stp S W o (V - 0).toNat 0 (F, false)
theorem rdX_kp {kp : Int → Bool} {stp S W V : Int} {o : Int → Int} (s : gSW S W) (ho : ∀ k, 0 ≤ k → k < V → 0 ≤ o k ∧ o k ≤ 2) {F0 F : Int → Int} (h : Kp S W F0 F) : Kp S W F0 (rdX kp stp S W V o F).1 := by
  unfold rdX
  exact rwS_kp s _ _ _ (fun x x0 x1 => ho x x0 (by omega)) h
theorem itS_kp {kp : Int → Bool} {stp S W V : Int} {o : Int → Int} (s : gSW S W) (ho : ∀ k, 0 ≤ k → k < V → 0 ≤ o k ∧ o k ≤ 2) {F : Int → Int} (hF : Fb S W F) : ∀ n, Kp S W F (itS (rdX kp stp S W V o) F n)
  | 0 => ⟨hF, fun _ _ => rfl⟩
  | n + 1 => by rw [itS_s]; exact rdX_kp s ho (itS_kp s ho hF n)
theorem c_sweep {m mm : Mem} {kp : Int → Bool} {stp : Int} {F : Int → Int} (w : Sw m kp stp) (hg : Gc m mm F) (hF : Fb (m 7 0) (m 7 1) F) : ∃ m', Rounds_sweep mm = some (bI (rdX kp stp (m 7 0) (m 7 1) (m 7 6) (m 8) F).2, m') ∧ Fl mm m' (rdX kp stp (m 7 0) (m 7 1) (m 7 6) (m 8) F).1 := by
  obtain ⟨s, e5, s0, s1, hk, v0, v1, ho⟩ := w
  have e7 : mm 7 = m 7 := hg.1 7 (by decide) (by decide) (by decide)
  have e8 : mm 8 = m 8 := hg.1 8 (by decide) (by decide) (by decide)
  obtain ⟨m', j1, j2⟩ := c_sw4 (m := mm) (stp := stp) (kp := kp) (by rw [e7]; exact s) (by rw [e7]; exact e5) s0 s1 (by intro q hq; rw [e7] at hq; rw [isK_c e7]; exact hk q hq) (by rw [e7]; exact v0) (by rw [e7]; exact v1) (by rw [e7, e8]; exact ho) FU 0 false F mm ⟨fun _ _ => rfl, hg.2.1⟩ (by rw [e7]; exact hF) (by omega) (by omega) (by rw [FU_eq, e7]; omega)
  rw [e7, e8] at j1 j2
  exact ⟨m', j2, j1⟩
theorem c_go22 {m : Mem} {kp : Int → Bool} {stp : Int} {F : Int → Int} {H : Nat → Int → Int} (w : Sw m kp stp) (hF : Fb (m 7 0) (m 7 1) F) (eH : H = itS (rdX kp stp (m 7 0) (m 7 1) (m 7 6) (m 8)) F) {most : Nat} (hm : most ≤ 60) : ∀ (n k t : Nat) (mm : Mem), t + k = most → k < n → Gc m mm (H t) → mm 28 1 = 0 → mm 28 2 = -1 → mm 28 3 = (t : Int) → (∀ r : Nat, r ≤ t → ∀ x, 0 ≤ x → x < 8 → mm 29 (8 * (r : Int) + x) = hyR (H r) (m 7 0) (m 7 1) x) → ∀ R, rdE (fun t => (rdX kp stp (m 7 0) (m 7 1) (m 7 6) (m 8) (H t)).2) (fun d => faS (fun r => eqB (m 7 0) (m 7 1) (H r) (H d)) d 0) k t = R → ∃ m', Rounds_go_L22 (most : Int) n (t : Int) mm = some ((R.1 : Int), m') ∧ Gc m m' (H R.1) ∧ m' 28 1 = R.2.1 ∧ m' 28 2 = R.2.2 ∧ m' 28 3 = (R.1 : Int) := by
  have hH : ∀ r, Fb (m 7 0) (m 7 1) (H r) := fun r => by rw [eH]; exact (itS_kp w.1 w.2.2.2.2.2.2.2 hF r).1
  have hHs : ∀ t, H (t + 1) = (rdX kp stp (m 7 0) (m 7 1) (m 7 6) (m 8) (H t)).1 := fun t => by rw [eH]; rfl
  intro n
  induction n with
  | zero => intro k t mm _ q; omega
  | succ n ih =>
    intro k t mm hk hn hg e1 e2 e3 hh R hR
    rw [Rounds_go_L22, w32_id (x := (most : Int)) (by omega) (by omega), w32_id (x := (t : Int)) (by omega) (by omega), e3]
    cases k with
    | zero =>
      have hR' : R = (t, 0, -1) := hR.symm
      subst hR'
      rw [if_pos (by omega)]
      exact ⟨mm, rfl, hg, e1, e2, e3⟩
    | succ k =>
      rw [rdE_s] at hR
      obtain ⟨ma, a1, a2⟩ := c_sweep w hg (hH t)
      rw [← hHs] at a2
      have x28 : ma 28 = mm 28 := a2.1 28 (by decide)
      have x7 : ma 7 = m 7 := by rw [a2.1 7 (by decide), hg.1 7 (by decide) (by decide) (by decide)]
      obtain ⟨mb, b1, b2, b3, b4⟩ := c_note (m := m) (mm := st ma 28 3 (ma 28 3 + 1)) (F := H (t + 1)) (d := ((t + 1 : Nat) : Int)) w.1 (hH (t + 1)) (by rw [st_ne _ _ _ (by decide)]; exact x7) (by rw [st_ne _ _ _ (by decide)]; exact a2.2) (by rw [st_eq, if_pos rfl, x28, e3]; omega) (by omega) (by omega)
      have y28 : ∀ i, mb 28 i = if i = 3 then ((t + 1 : Nat) : Int) else mm 28 i := fun i => by
        rw [b2 28 (by decide), st_eq, x28, e3]
        by_cases z : i = 3
        · rw [if_pos z, if_pos z]; omega
        · rw [if_neg z, if_neg z]
      have yg : ∀ (u1 u2 : Int), Gc m (st (st mb 28 2 u2) 28 1 u1) (H (t + 1)) := fun u1 u2 => by
        refine ⟨fun c c1 c2 c3 => ?_, ?_, fun i i1 i2 i3 => ?_⟩
        · rw [st_ne _ _ _ c2, st_ne _ _ _ c2, b2 c c3, st_ne _ _ _ c2, a2.1 c c1, hg.1 c c1 c2 c3]
        · rw [st_ne _ _ _ (by decide), st_ne _ _ _ (by decide), b2 10 (by decide), st_ne _ _ _ (by decide), a2.2]
        · rw [st_eq, if_neg i1, st_eq, if_neg i2, y28, if_neg i3, hg.2.2 i i1 i2 i3]
      have yh : ∀ r : Nat, r ≤ t + 1 → ∀ x, 0 ≤ x → x < 8 → mb 29 (8 * (r : Int) + x) = hyR (H r) (m 7 0) (m 7 1) x := by
        intro r hr x x0 x1
        by_cases z : r = t + 1
        · subst z; exact b3 x x0 x1
        · rw [b4 _ (by omega), st_ne _ _ _ (by decide), a2.1 29 (by decide)]
          exact hh r (by omega) x x0 x1
      have fs := c_find_same (m := mb) (H := H) (d := t + 1) w.1 hH (by rw [y28, if_pos rfl]) (by omega) yh
      rw [if_neg (by omega), if_neg (by omega), e1, if_neg (by decide), a1, bE_some, b1, bV_some]
      have y1 : mb 28 1 = 0 := by rw [y28, if_neg (by decide), e1]
      have y2 : mb 28 2 = -1 := by rw [y28, if_neg (by decide), e2]
      have y3 : mb 28 3 = ((t + 1 : Nat) : Int) := by rw [y28, if_pos rfl]
      obtain ⟨n', hn'⟩ : ∃ n', n = n' + 1 := ⟨n - 1, by omega⟩
      have stop : ∀ (u1 u2 : Int) (m5 : Mem), u1 = 1 ∨ u1 = 2 → m5 28 1 = u1 → m5 28 3 = ((t + 1 : Nat) : Int) → Rounds_go_L22 (most : Int) n ((t : Int) + 1) m5 = some (((t + 1 : Nat) : Int), m5) := by
        intro u1 u2 m5 hu h1 h3
        rw [hn', Rounds_go_L22, h1, h3, w32_id (x := u1) (by omega) (by omega), if_pos (show ¬ u1 = 0 by omega)]
        split
        · rfl
        · split <;> rfl
      cases hmv : (rdX kp stp (m 7 0) (m 7 1) (m 7 6) (m 8) (H t)).2 with
      | false =>
        simp only [hmv] at hR
        rw [if_neg (by decide)] at hR
        subst hR
        rw [show w32 (bI false) = 0 from by decide, if_neg (by decide)]
        refine ⟨st mb 28 1 1, stop 1 0 _ (Or.inl rfl) (by rw [st_eq, if_pos rfl]) (by rw [st_eq, if_neg (by decide)]; exact y3), ?_, by rw [st_eq, if_pos rfl], by rw [st_eq, if_neg (by decide)]; exact y2, by rw [st_eq, if_neg (by decide)]; exact y3⟩
        have e : st mb 28 1 1 = st (st mb 28 2 (mb 28 2)) 28 1 1 := by
          congr 1; funext c i; unfold st; split
          · rename_i h; subst h; split
            · rename_i h; subst h; rfl
            · rfl
          · rfl
        rw [e]; exact yg 1 _
      | true =>
        simp only [hmv] at hR
        rw [if_pos trivial] at hR
        rw [show w32 (bI true) = 1 from by decide, if_pos (by decide), fs, bP_some]
        have fb := faS_b (fun r => eqB (m 7 0) (m 7 1) (H r) (H (t + 1))) (t + 1) 0
        generalize hfa : faS (fun r => eqB (m 7 0) (m 7 1) (H r) (H (t + 1))) (t + 1) 0 = fa at fb hR
        have ef : st mb 28 2 fa 28 2 = fa := by rw [st_eq, if_pos rfl]
        rw [ef, w32_id (x := fa) (by omega) (by omega)]
        by_cases z : fa = -1
        · rw [if_pos z] at hR
          rw [if_neg (not_not_intro z)]
          exact ih k (t + 1) _ (by omega) (by omega) (yg 0 fa) (by rw [st_eq, if_pos rfl]) (by rw [st_eq, if_neg (by decide), st_eq, if_pos rfl]; exact z) (by rw [st_eq, if_neg (by decide), st_eq, if_neg (by decide)]; exact y3) (by rw [st_ne _ _ _ (by decide), st_ne _ _ _ (by decide)]; exact yh) R hR
        · rw [if_neg z] at hR
          subst hR
          rw [if_pos z]
          refine ⟨_, stop 2 0 _ (Or.inr rfl) (by rw [st_eq, if_pos rfl]) (by rw [st_eq, if_neg (by decide), st_eq, if_neg (by decide)]; exact y3), yg 2 fa, by rw [st_eq, if_pos rfl], by rw [st_eq, if_neg (by decide), st_eq, if_pos rfl], by rw [st_eq, if_neg (by decide), st_eq, if_neg (by decide)]; exact y3⟩
theorem c_go {m : Mem} {kp : Int → Bool} {stp : Int} {H : Nat → Int → Int} (w : Sw m kp stp) (hF : Fb (m 7 0) (m 7 1) (m 10)) (eH : H = itS (rdX kp stp (m 7 0) (m 7 1) (m 7 6) (m 8)) (m 10)) {most : Nat} (hm : most ≤ 60) : ∀ R, rdE (fun t => (rdX kp stp (m 7 0) (m 7 1) (m 7 6) (m 8) (H t)).2) (fun d => faS (fun r => eqB (m 7 0) (m 7 1) (H r) (H d)) d 0) most 0 = R → ∃ m', Rounds_go (most : Int) m = some ((R.1 : Int), m') ∧ Gc m m' (H R.1) ∧ m' 28 1 = R.2.1 ∧ m' 28 2 = R.2.2 ∧ m' 28 3 = (R.1 : Int) := by
  intro R hR
  have h0 : H 0 = m 10 := by rw [eH]; rfl
  obtain ⟨mb, b1, b2, b3, b4⟩ := c_note (m := m) (mm := st (st (st m 28 1 0) 28 2 (-1)) 28 3 0) (F := m 10) (d := 0) w.1 hF rfl rfl rfl (by omega) (by omega)
  unfold Rounds_go
  rw [b1, bV_some]
  refine c_go22 w hF eH hm FU most 0 mb (by omega) (by rw [FU_eq]; omega) ?_ ?_ ?_ ?_ ?_ R hR
  · refine ⟨fun c c1 c2 c3 => by rw [b2 c c3, st_ne _ _ _ c2, st_ne _ _ _ c2, st_ne _ _ _ c2], by rw [b2 10 (by decide), h0]; rfl, fun i i1 i2 i3 => ?_⟩
    rw [b2 28 (by decide), st_eq, if_neg i3, st_eq, if_neg i2, st_eq, if_neg i1]
  · rw [b2 28 (by decide)]; rfl
  · rw [b2 28 (by decide)]; rfl
  · rw [b2 28 (by decide)]; rfl
  · intro r hr x x0 x1
    have z : r = 0 := by omega
    subst z
    rw [h0]; exact b3 x x0 x1
