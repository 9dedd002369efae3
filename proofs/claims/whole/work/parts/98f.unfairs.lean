noncomputable def lnU (F : Int → Int) (eye S W v l : Int) : Int := suS (ufS F eye (fsS S v l) (srS v)) (plS S W v l - 1 - 2).toNat 2
theorem lnU_b (F : Int → Int) (eye : Int) {S W v l : Int} (s : gSW S W) (h : isLn S W v l) : 0 ≤ lnU F eye S W v l ∧ lnU F eye S W v l ≤ 8 := by
  have g := plS_le s h
  have b := suS_b (g := ufS F eye (fsS S v l) (srS v)) (B := 1) (plS S W v l - 1 - 2).toNat 2 (fun x _ _ => ufS01 _ _ _ _ _)
  unfold lnU; omega
noncomputable def vwU (F : Int → Int) (eye S W v : Int) : Int := suS (lnU F eye S W v) (lnS S W v - 0).toNat 0
theorem vwU_b (F : Int → Int) (eye : Int) {S W v : Int} (s : gSW S W) (v0 : 0 ≤ v) (v2 : v ≤ 2) : 0 ≤ vwU F eye S W v ∧ vwU F eye S W v ≤ 104 := by
  have g := lnS_le s v
  have b := suS_b (g := lnU F eye S W v) (B := 8) (lnS S W v - 0).toNat 0 (fun x x0 x1 => lnU_b F eye s (isLn_of v0 v2 (by omega) (by omega)))
  unfold vwU; omega
noncomputable def alU (F : Int → Int) (eye S W : Int) : Int := vwU F eye S W 0 + vwU F eye S W 1 + vwU F eye S W 2
theorem hold0 (x : Int) : w64 (lAnd 0 x) = 0 := by
  unfold lAnd
  rw [w64_zero]
  show (Int64.ofInt 0).toBitVec &&& _ = _
  simp
theorem lnC0 (F : Int → Int) (eye S W v l : Int) : lnC F eye 0 S W v l = lnU F eye S W v l := by
  unfold lnC lnU
  exact suS_congr _ _ (fun x _ _ => by unfold ubS; rw [if_pos (hold0 _)])
theorem alC0 (F : Int → Int) (eye S W : Int) : alC F eye 0 S W = alU F eye S W := by
  have e : ∀ v, vwC F eye 0 S W v = vwU F eye S W v := fun v => by
    unfold vwC vwU
    exact suS_congr _ _ (fun x _ _ => lnC0 _ _ _ _ _ _)
  unfold alC alU
  rw [e, e, e]
theorem lnU_c {F G : Int → Int} {S W v l eye : Int} (s : gSW S W) (e : ∀ q, Pt S W q → F q = G q) (h : isLn S W v l) : lnU F eye S W v l = lnU G eye S W v l := by
  unfold lnU
  exact suS_congr _ _ (fun x x0 x1 => uf_congr s e h (by omega) (by omega))
theorem alU_c {F G : Int → Int} {S W eye : Int} (s : gSW S W) (e : ∀ q, Pt S W q → F q = G q) : alU F eye S W = alU G eye S W := by
  have k : ∀ v, 0 ≤ v → v ≤ 2 → vwU F eye S W v = vwU G eye S W v := fun v v0 v2 => by
    unfold vwU
    exact suS_congr _ _ (fun x x0 x1 => lnU_c s e (isLn_of v0 v2 (by omega) (by omega)))
  unfold alU
  rw [k 0 (by omega) (by omega), k 1 (by omega) (by omega), k 2 (by omega) (by omega)]
theorem Sc_tk {m : Mem} (f a p : Int) : Sc m (tk m f a p) := (((Sc.refl m).st (by decide) (by decide)).st (by decide) (by decide)).st (by decide) (by decide)
theorem m_un12 {S W v : Int} (s : gSW S W) (v0 : 0 ≤ v) (v2 : v ≤ 2) {K : Int → Int → Mem → Option (Int × Mem)} : ∀ (n : Nat) (acc l : Int) (m : Mem), m 76 0 = S → m 76 1 = W → (∀ q, Pt S W q → 0 ≤ m 76 (80 + q) ∧ m 76 (80 + q) ≤ 999) → (0 ≤ m 76 4 ∧ m 76 4 ≤ 999) → 0 ≤ acc → acc ≤ 400 + 20 * l → 0 ≤ l → l ≤ 20 → (lnS S W v - l).toNat < n → ∃ m', Mo_unfairs_L12 (-1) K n acc v l m = K (acc + suS (lnU (fun q => m 76 (80 + q)) (m 76 4) S W v) (lnS S W v - l).toNat l) (v + 1) m' ∧ Sc m m' := by
  have bl := lnS_le s v
  intro n
  induction n with
  | zero => intro acc l m _ _ _ _ _ _ _ _ q; omega
  | succ n ih =>
    intro acc l m z0 z1 hfl he a0 a1 l0 l20 hn
    have el := m_lines s z0 z1 v0 v2
    by_cases q : lnS S W v ≤ l
    · refine ⟨m, ?_, Sc.refl m⟩
      rw [Mo_unfairs_L12, el, w32_id (x := l) (by omega) (by omega), w32_id (x := lnS S W v) (by omega) (by omega), if_pos q, show (lnS S W v - l).toNat = 0 by omega]; simp [suS]
    · have hl := isLn_of v0 v2 l0 (show l < lnS S W v by omega)
      have g := plS_le s hl
      have b := lnU_b (fun q => m 76 (80 + q)) (m 76 4) s hl
      have et := m_takes s z0 z1 hl
      obtain ⟨ma, k1, k2⟩ := m_un32 s hl (K := Mo_unfairs_L12 (-1) K n) FU acc 2 (tk m (fsS S v l) (srS v) (plS S W v l)) hfl he rfl rfl rfl a0 (by omega) (by omega) (by omega) (by rw [FU_eq]; omega)
      have ks := (Sc_tk (m := m) (fsS S v l) (srS v) (plS S W v l)).trans k2
      have e76 : ma 76 = m 76 := ks.1 76 (by decide)
      obtain ⟨mb, j1, j2⟩ := ih (acc + lnU (fun q => m 76 (80 + q)) (m 76 4) S W v l) (l + 1) ma (by rw [e76]; exact z0) (by rw [e76]; exact z1) (by rw [e76]; exact hfl) (by rw [e76]; exact he) (by omega) (by omega) (by omega) (by omega) (by omega)
      refine ⟨mb, ?_, ks.trans j2⟩
      have k1' : Mo_unfairs_L32 (-1) v (Mo_unfairs_L12 (-1) K n) FU acc l 2 (tk m (fsS S v l) (srS v) (plS S W v l)) = Mo_unfairs_L12 (-1) K n (acc + lnU (fun q => m 76 (80 + q)) (m 76 4) S W v l) v (l + 1) ma := k1
      rw [Mo_unfairs_L12, el, w32_id (x := l) (by omega) (by omega), w32_id (x := lnS S W v) (by omega) (by omega), if_neg q, et, k1', j1, e76, show (lnS S W v - l).toNat = (lnS S W v - (l + 1)).toNat + 1 by omega, suS_succ]
      congr 1; omega
theorem m_unAll {S W : Int} {m : Mem} (s : gSW S W) (z0 : m 76 0 = S) (z1 : m 76 1 = W) (hfl : ∀ q, Pt S W q → 0 ≤ m 76 (80 + q) ∧ m 76 (80 + q) ≤ 999) (he : 0 ≤ m 76 4 ∧ m 76 4 ≤ 999) : ∃ m', Mo_unfairs (-1) m = some (alU (fun q => m 76 (80 + q)) (m 76 4) S W, m') ∧ Sc m m' := by
  have st1 : ∀ (n : Nat) (acc v : Int) (mm : Mem), 0 ≤ v → v ≤ 2 → 0 ≤ acc → acc ≤ 400 → mm 76 = m 76 → ∃ m', Mo_unfairs_L4 (-1) (n + 1) acc v mm = Mo_unfairs_L4 (-1) n (acc + vwU (fun q => m 76 (80 + q)) (m 76 4) S W v) (v + 1) m' ∧ Sc mm m' := by
    intro n acc v mm v0 v2 a0 a1 e76
    have bl := lnS_le s v
    obtain ⟨m', k1, k2⟩ := m_un12 s v0 v2 (K := Mo_unfairs_L4 (-1) n) FU acc 0 mm (by rw [e76]; exact z0) (by rw [e76]; exact z1) (by rw [e76]; exact hfl) (by rw [e76]; exact he) a0 (by omega) (by omega) (by omega) (by rw [FU_eq]; omega)
    refine ⟨m', ?_, k2⟩
    rw [e76] at k1
    have k1' : Mo_unfairs_L12 (-1) (Mo_unfairs_L4 (-1) n) FU acc v 0 mm = Mo_unfairs_L4 (-1) n (acc + vwU (fun q => m 76 (80 + q)) (m 76 4) S W v) (v + 1) m' := k1
    rw [Mo_unfairs_L4, w32_id (x := v) (by omega) (by omega), if_neg (by omega), k1']
  have b0 := vwU_b (fun q => m 76 (80 + q)) (m 76 4) s (v := 0) (by omega) (by omega)
  have b1 := vwU_b (fun q => m 76 (80 + q)) (m 76 4) s (v := 1) (by omega) (by omega)
  obtain ⟨ma, a1, a2⟩ := st1 19999 0 0 m (by omega) (by omega) (by omega) (by omega) rfl
  obtain ⟨mb, c1, c2⟩ := st1 19998 _ 1 ma (by omega) (by omega) (show 0 ≤ 0 + vwU (fun q => m 76 (80 + q)) (m 76 4) S W 0 by omega) (by omega) (a2.1 76 (by decide))
  obtain ⟨mc, d1, d2⟩ := st1 19997 _ 2 mb (by omega) (by omega) (show 0 ≤ 0 + vwU (fun q => m 76 (80 + q)) (m 76 4) S W 0 + vwU (fun q => m 76 (80 + q)) (m 76 4) S W 1 by omega) (by omega) ((c2.1 76 (by decide)).trans (a2.1 76 (by decide)))
  refine ⟨mc, ?_, (a2.trans c2).trans d2⟩
  unfold Mo_unfairs
  rw [show FU = 19999 + 1 from rfl, a1, show (0 : Int) + 1 = 1 from rfl, show 19999 = 19998 + 1 from rfl, c1, show (1 : Int) + 1 = 2 from rfl, show 19998 = 19997 + 1 from rfl, d1, show (2 : Int) + 1 = 3 from rfl, show 19997 = 19996 + 1 from rfl, Mo_unfairs_L4, w32_id (by omega) (by omega), if_pos (by decide)]
  unfold alU
  congr 2; omega
theorem s_unfairAll {m : Mem} (h : Rel m) : Stq w32 (FL_unfairAll m) (fun m1 => Mo_unfairAll m1) := by
  obtain ⟨⟨z0, z1, z2, z3, z4, z5, z6⟩, hs, hr, hv, hp⟩ := shF h
  have e1 := c_unfB 0 hs (flC h) (eyC h)
  rw [alC0] at e1
  obtain ⟨m', e2, e3⟩ := m_unAll (m := st m 0 0 0) hs z0 z1 (flMb h) (by have := eyC h; rw [← z4] at this; exact this)
  have ea : alU (fun q => st m 0 0 0 76 (80 + q)) (st m 0 0 0 76 4) (m 7 0) (m 7 1) = alU (m 10) (m 7 4) (m 7 0) (m 7 1) := by
    rw [st_ne _ _ _ (by decide), z4]; exact alU_c hs (flM h)
  refine Stq.mk (x := alU (m 10) (m 7 4) (m 7 0) (m 7 1)) (m1 := st m 0 0 0) (y := alU (m 10) (m 7 4) (m 7 0) (m 7 1)) (m2 := st m' 75 1 0) ?_ ?_ rfl ?_
  · unfold FL_unfairAll
    rw [e1, bP_some]; rfl
  · show bE (Mo_unfairs (-1) (st m 0 0 0)) _ = _
    rw [e2, bE_some, ea]; rfl
  · refine h.ans ?_ ?_
    · exact Ag.st (((Ag.refl m).st (by decide)).trans e3.ag) (by decide)
    · refine Rst_set h.1 (k := 0) ?_ (by rw [st_eq, if_pos rfl]) ?_ ?_ ?_ ?_
      · rw [st_ne _ _ _ (by decide), e3.1 0 (by decide), st_eq, if_pos rfl]
      · rw [st_ne _ _ _ (by decide), e3.1 0 (by decide), st_eq, if_neg (by decide)]
      · rw [st_ne _ _ _ (by decide), e3.1 0 (by decide), st_eq, if_neg (by decide)]
      · rw [st_eq, if_neg (by decide), e3.2 2 (by decide), st_ne _ _ _ (by decide)]
      · rw [st_eq, if_neg (by decide), e3.2 3 (by decide), st_ne _ _ _ (by decide)]
