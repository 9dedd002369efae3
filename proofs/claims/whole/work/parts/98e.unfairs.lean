/-! layer 2: all unfair places -/
noncomputable def ubS (F : Int → Int) (eye set f a p : Int) : Int := if w64 (lAnd set (Sheet_hold (f + a * p) a)) = 0 then ufS F eye f a p else 0
theorem ubS01 (F : Int → Int) (eye set f a p : Int) : 0 ≤ ubS F eye set f a p ∧ ubS F eye set f a p ≤ 1 := by
  unfold ubS; split
  · exact ufS01 _ _ _ _ _
  · omega
theorem bP_some {ρ : Type} (x : Int) (K : Int → Option ρ) : bP (some x) K = K x := rfl
theorem bE_some {ρ : Type} (x : Int) (m : Mem) (K : Int → Mem → Option ρ) : bE (some (x, m)) K = K x m := rfl
noncomputable def lnC (F : Int → Int) (eye set S W v l : Int) : Int := suS (ubS F eye set (fsS S v l) (srS v)) (plS S W v l - 1 - 2).toNat 2
theorem lnC_b (F : Int → Int) (eye set : Int) {S W v l : Int} (s : gSW S W) (h : isLn S W v l) : 0 ≤ lnC F eye set S W v l ∧ lnC F eye set S W v l ≤ 8 := by
  have g := plS_le s h
  have b := suS_b (g := ubS F eye set (fsS S v l) (srS v)) (B := 1) (plS S W v l - 1 - 2).toNat 2 (fun x _ _ => ubS01 _ _ _ _ _ _)
  unfold lnC; omega
noncomputable def vwC (F : Int → Int) (eye set S W v : Int) : Int := suS (lnC F eye set S W v) (lnS S W v - 0).toNat 0
theorem isLn_of {S W v l : Int} (v0 : 0 ≤ v) (v2 : v ≤ 2) (l0 : 0 ≤ l) (l1 : l < lnS S W v) : isLn S W v l := ⟨⟨v0, v2⟩, l0, l1⟩
theorem vwC_b (F : Int → Int) (eye set : Int) {S W v : Int} (s : gSW S W) (v0 : 0 ≤ v) (v2 : v ≤ 2) : 0 ≤ vwC F eye set S W v ∧ vwC F eye set S W v ≤ 104 := by
  have g := lnS_le s v
  have b := suS_b (g := lnC F eye set S W v) (B := 8) (lnS S W v - 0).toNat 0 (fun x x0 x1 => lnC_b F eye set s (isLn_of v0 v2 (by omega) (by omega)))
  unfold vwC; omega
noncomputable def alC (F : Int → Int) (eye set S W : Int) : Int := vwC F eye set S W 0 + vwC F eye set S W 1 + vwC F eye set S W 2
theorem c_ub65 {m : Mem} {v l set lns : Int} (s : gSW (m 7 0) (m 7 1)) (hfl : ∀ q, Pt (m 7 0) (m 7 1) q → 0 ≤ m 10 q ∧ m 10 q ≤ 999) (he : 0 ≤ m 7 4 ∧ m 7 4 ≤ 999) (h : isLn (m 7 0) (m 7 1) v l) {K : Int → Int → Int → Option Int} : ∀ (n : Nat) (acc p : Int), 2 ≤ p → p ≤ 20 → (plS (m 7 0) (m 7 1) v l - 1 - p).toNat < n → Sheet_unfairBeyond_L65 7 set v (srS v) lns (plS (m 7 0) (m 7 1) v l) K m n acc l (fsS (m 7 0) v l + srS v * p) p = K (acc + suS (ubS (m 10) (m 7 4) set (fsS (m 7 0) v l) (srS v)) (plS (m 7 0) (m 7 1) v l - 1 - p).toNat p) v (l + 1) := by
  have g := plS_le s h
  intro n
  induction n with
  | zero => intro acc p _ _ q; omega
  | succ n ih =>
    intro acc p p0 p20 hn
    rw [Sheet_unfairBeyond_L65, w32_id (x := p) (by omega) (by omega), w32_id (x := plS (m 7 0) (m 7 1) v l - 1) (by omega) (by omega)]
    by_cases q : plS (m 7 0) (m 7 1) v l - 1 ≤ p
    · rw [if_pos q, show (plS (m 7 0) (m 7 1) v l - 1 - p).toNat = 0 by omega]; simp [suS]
    · have ep : fsS (m 7 0) v l + srS v * p + srS v = fsS (m 7 0) v l + srS v * (p + 1) := by rw [Int.mul_add]; omega
      rw [if_neg q, ep, show (plS (m 7 0) (m 7 1) v l - 1 - p).toNat = (plS (m 7 0) (m 7 1) v l - 1 - (p + 1)).toNat + 1 by omega, suS_succ]
      by_cases z : w64 (lAnd set (Sheet_hold (fsS (m 7 0) v l + srS v * p) (srS v))) = 0
      · have e : ubS (m 10) (m 7 4) set (fsS (m 7 0) v l) (srS v) p = ufS (m 10) (m 7 4) (fsS (m 7 0) v l) (srS v) p := by unfold ubS; rw [if_pos z]
        have b := ufS01 (m 10) (m 7 4) (fsS (m 7 0) v l) (srS v) p
        rw [if_neg (by simpa using z), c_unf s hfl he h p0 (by omega), bP_some, ih _ (p + 1) (by omega) (by omega) (by omega), e, w32_id (by omega) (by omega)]
        congr 1
        split <;> omega
      · have e : ubS (m 10) (m 7 4) set (fsS (m 7 0) v l) (srS v) p = 0 := by unfold ubS; rw [if_neg z]
        rw [if_pos z, ih _ (p + 1) (by omega) (by omega) (by omega), e]
        congr 1; omega
theorem c_ub30 {m : Mem} {v set : Int} (s : gSW (m 7 0) (m 7 1)) (hfl : ∀ q, Pt (m 7 0) (m 7 1) q → 0 ≤ m 10 q ∧ m 10 q ≤ 999) (he : 0 ≤ m 7 4 ∧ m 7 4 ≤ 999) (v0 : 0 ≤ v) (v2 : v ≤ 2) {K : Int → Int → Option Int} : ∀ (n : Nat) (acc l : Int), 0 ≤ l → l ≤ 20 → (lnS (m 7 0) (m 7 1) v - l).toNat < n → Sheet_unfairBeyond_L30 7 set (srS v) (lnS (m 7 0) (m 7 1) v) K m n acc v l = K (acc + suS (lnC (m 10) (m 7 4) set (m 7 0) (m 7 1) v) (lnS (m 7 0) (m 7 1) v - l).toNat l) (v + 1) := by
  have bl := lnS_le s v
  intro n
  induction n with
  | zero => intro acc l _ _ q; omega
  | succ n ih =>
    intro acc l l0 l20 hn
    by_cases q : lnS (m 7 0) (m 7 1) v ≤ l
    · rw [Sheet_unfairBeyond_L30, w32_id (x := l) (by omega) (by omega), w32_id (x := lnS (m 7 0) (m 7 1) v) (by omega) (by omega), if_pos q, show (lnS (m 7 0) (m 7 1) v - l).toNat = 0 by omega]; simp [suS]
    · have hl := isLn_of v0 v2 l0 (show l < lnS (m 7 0) (m 7 1) v by omega)
      have g := plS_le s hl
      have e2 : fsS (m 7 0) v l + 2 * srS v = fsS (m 7 0) v l + srS v * 2 := by omega
      rw [Sheet_unfairBeyond_L30, w32_id (x := l) (by omega) (by omega), w32_id (x := lnS (m 7 0) (m 7 1) v) (by omega) (by omega), if_neg q, c_places s hl, c_first s hl, e2, c_ub65 s hfl he hl FU acc 2 (by omega) (by omega) (by rw [FU_eq]; omega), ih _ (l + 1) (by omega) (by omega) (by omega), show (lnS (m 7 0) (m 7 1) v - l).toNat = (lnS (m 7 0) (m 7 1) v - (l + 1)).toNat + 1 by omega, suS_succ]
      congr 1
      unfold lnC; omega
theorem c_unfB {m : Mem} (set : Int) (s : gSW (m 7 0) (m 7 1)) (hfl : ∀ q, Pt (m 7 0) (m 7 1) q → 0 ≤ m 10 q ∧ m 10 q ≤ 999) (he : 0 ≤ m 7 4 ∧ m 7 4 ≤ 999) : Sheet_unfairBeyond 7 set m = some (alC (m 10) (m 7 4) set (m 7 0) (m 7 1)) := by
  have e : ∀ (n : Nat) (acc v : Int), 0 ≤ v → v ≤ 2 → Sheet_unfairBeyond_L5 7 set m (n + 1) acc v = Sheet_unfairBeyond_L5 7 set m n (acc + vwC (m 10) (m 7 4) set (m 7 0) (m 7 1) v) (v + 1) := by
    intro n acc v v0 v2
    have bl := lnS_le s v
    rw [Sheet_unfairBeyond_L5, w32_id (x := v) (by omega) (by omega), if_neg (by omega), c_stride v0 v2, c_lines s v0 v2, c_ub30 s hfl he v0 v2 FU acc 0 (by omega) (by omega) (by rw [FU_eq]; omega)]
    rfl
  have e3 : ∀ (n : Nat) (acc : Int), Sheet_unfairBeyond_L5 7 set m (n + 1) acc 3 = some acc := by
    intro n acc
    rw [Sheet_unfairBeyond_L5, w32_id (by omega) (by omega), if_pos (by omega)]
  unfold Sheet_unfairBeyond
  rw [show FU = 19996 + 1 + 1 + 1 + 1 from rfl, e _ 0 0 (by omega) (by omega), show (0 : Int) + 1 = 1 from rfl, e _ _ 1 (by omega) (by omega), show (1 : Int) + 1 = 2 from rfl, e _ _ 2 (by omega) (by omega), show (2 : Int) + 1 = 3 from rfl, e3]
  unfold alC
  congr 1; omega
/-- only the reference's line and place of unfair ones have changed -/
def Sc (m m' : Mem) : Prop := (∀ c, c ≠ 75 → m' c = m c) ∧ ∀ i, i < 23 ∨ 28 < i → m' 75 i = m 75 i
theorem Sc.refl (m : Mem) : Sc m m := ⟨fun _ _ => rfl, fun _ _ => rfl⟩
theorem Sc.trans {a b c : Mem} (h : Sc a b) (h' : Sc b c) : Sc a c := ⟨fun x hx => (h'.1 x hx).trans (h.1 x hx), fun i hi => (h'.2 i hi).trans (h.2 i hi)⟩
theorem Sc.st {m m' : Mem} (h : Sc m m') {i v : Int} (h1 : 23 ≤ i) (h2 : i ≤ 28) : Sc m (st m' 75 i v) := ⟨fun c hc => by rw [st_ne _ _ _ hc]; exact h.1 c hc, fun j hj => by rw [st_eq, if_neg (by omega)]; exact h.2 j hj⟩
theorem Sc.ag {m m' : Mem} (h : Sc m m') : Ag [0, 1] m m' := by
  intro c i q
  by_cases e : c = 75
  · subst e
    by_cases z : i < 23 ∨ 28 < i
    · exact h.2 i z
    · exfalso
      apply q
      rcases (by omega : i = 23 ∨ i = 24 ∨ i = 25 ∨ i = 26 ∨ i = 27 ∨ i = 28) with y | y | y | y | y | y <;> subst y <;> decide
  · rw [h.1 c e]
theorem m_un32 {S W v l : Int} (s : gSW S W) (h : isLn S W v l) {K : Int → Int → Int → Mem → Option (Int × Mem)} : ∀ (n : Nat) (acc p : Int) (m : Mem), (∀ q, Pt S W q → 0 ≤ m 76 (80 + q) ∧ m 76 (80 + q) ≤ 999) → (0 ≤ m 76 4 ∧ m 76 4 ≤ 999) → m 75 23 = fsS S v l → m 75 24 = srS v → m 75 25 = plS S W v l → 0 ≤ acc → acc ≤ 1000 + p → 2 ≤ p → p ≤ 20 → (plS S W v l - 1 - p).toNat < n → ∃ m', Mo_unfairs_L32 (-1) v K n acc l p m = K (acc + suS (ufS (fun q => m 76 (80 + q)) (m 76 4) (fsS S v l) (srS v)) (plS S W v l - 1 - p).toNat p) v (l + 1) m' ∧ Sc m m' := by
  have g := plS_le s h
  intro n
  induction n with
  | zero => intro acc p m _ _ _ _ _ _ _ _ _ q; omega
  | succ n ih =>
    intro acc p m hfl he e23 e24 e25 a0 a1 p0 p20 hn
    by_cases q : plS S W v l - 1 ≤ p
    · refine ⟨m, ?_, Sc.refl m⟩
      rw [Mo_unfairs_L32, e25, w32_id (x := p) (by omega) (by omega), w32_id (x := plS S W v l - 1) (by omega) (by omega), if_pos q, show (plS S W v l - 1 - p).toNat = 0 by omega]; simp [suS]
    · have b := ufS01 (fun q => m 76 (80 + q)) (m 76 4) (fsS S v l) (srS v) p
      have eu := m_unf s hfl he h e23 e24 e25 p0 (by omega)
      rw [show (plS S W v l - 1 - p).toNat = (plS S W v l - 1 - (p + 1)).toNat + 1 by omega, suS_succ]
      by_cases z : ufS (fun q => m 76 (80 + q)) (m 76 4) (fsS S v l) (srS v) p = 0
      · obtain ⟨m', k1, k2⟩ := ih acc (p + 1) m hfl he e23 e24 e25 a0 (by omega) (by omega) (by omega) (by omega)
        refine ⟨m', ?_, k2⟩
        rw [Mo_unfairs_L32, e25, w32_id (x := p) (by omega) (by omega), w32_id (x := plS S W v l - 1) (by omega) (by omega), if_neg q, eu, bP_some, z, w32_id (x := 0) (by omega) (by omega), if_neg (by decide), k1, Int.zero_add]
      · have z1 : ufS (fun q => m 76 (80 + q)) (m 76 4) (fsS S v l) (srS v) p = 1 := by omega
        obtain ⟨m', k1, k2⟩ := ih (acc + 1) (p + 1) (st (st (st m 75 26 v) 75 27 l) 75 28 p) hfl he (by rw [st_eq, if_neg (by decide), st_eq, if_neg (by decide), st_eq, if_neg (by decide)]; exact e23) (by rw [st_eq, if_neg (by decide), st_eq, if_neg (by decide), st_eq, if_neg (by decide)]; exact e24) (by rw [st_eq, if_neg (by decide), st_eq, if_neg (by decide), st_eq, if_neg (by decide)]; exact e25) (by omega) (by omega) (by omega) (by omega) (by omega)
        refine ⟨m', ?_, ((((Sc.refl m).st (by decide) (by decide)).st (by decide) (by decide)).st (by decide) (by decide)).trans k2⟩
        rw [Mo_unfairs_L32, e25, w32_id (x := p) (by omega) (by omega), w32_id (x := plS S W v l - 1) (by omega) (by omega), if_neg q, eu, bP_some, z1, w32_id (x := 1) (by omega) (by omega), if_pos (by decide), w32_id (x := -1) (by omega) (by omega), w32_id (x := acc + 1) (by omega) (by omega), if_pos (by omega), if_pos (by decide), k1]
        congr 1
        have : (fun q => st (st (st m 75 26 v) 75 27 l) 75 28 p 76 (80 + q)) = fun q => m 76 (80 + q) := rfl
        rw [this]
        show acc + 1 + suS (ufS (fun q => m 76 (80 + q)) (m 76 4) (fsS S v l) (srS v)) _ _ = _
        omega
