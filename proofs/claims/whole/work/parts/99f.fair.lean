/-! layer 2: which places are fair -/
def isPl (S W v l p : Int) : Prop := isLn S W v l ∧ 2 ≤ p ∧ p < plS S W v l - 1
def AF (F : Int → Int) (eye S W : Int) : Prop := ∀ v l p, isPl S W v l p → ufS F eye (fsS S v l) (srS v) p = 0
theorem su0 {g : Int → Int} : ∀ (k : Nat) (a : Int), (∀ x, a ≤ x → x < a + k → 0 ≤ g x) → (suS g k a = 0 ↔ ∀ x, a ≤ x → x < a + k → g x = 0)
  | 0, a, _ => ⟨fun _ x h1 h2 => by omega, fun _ => rfl⟩
  | k + 1, a, h => by
    have ih := su0 (g := g) k (a + 1) (fun x h1 h2 => h x (by omega) (by omega))
    have n0 := h a (by omega) (by omega)
    have nn : ∀ (k : Nat) (a : Int), (∀ x, a ≤ x → x < a + k → 0 ≤ g x) → 0 ≤ suS g k a := by
      intro k
      induction k with
      | zero => intro a _; exact Int.le_refl _
      | succ k ih2 =>
        intro a h
        rw [suS_succ]
        have := h a (by omega) (by omega)
        have := ih2 (a + 1) (fun x h1 h2 => h x (by omega) (by omega))
        omega
    have n1 := nn k (a + 1) (fun x h1 h2 => h x (by omega) (by omega))
    rw [suS_succ]
    constructor
    · intro e x h1 h2
      by_cases z : x = a
      · subst z; omega
      · exact ih.mp (by omega) x (by omega) (by omega)
    · intro e
      have e1 := e a (by omega) (by omega)
      have e2 := ih.mpr (fun x h1 h2 => e x (by omega) (by omega))
      omega
theorem alC_0 (F : Int → Int) (eye set : Int) {S W : Int} (s : gSW S W) : alC F eye set S W = 0 ↔ ∀ v l p, isPl S W v l p → w64 (lAnd set (Sheet_hold (fsS S v l + srS v * p) (srS v))) = 0 → ufS F eye (fsS S v l) (srS v) p = 0 := by
  have hv : ∀ v, 0 ≤ v → v ≤ 2 → (vwC F eye set S W v = 0 ↔ ∀ l p, isPl S W v l p → w64 (lAnd set (Sheet_hold (fsS S v l + srS v * p) (srS v))) = 0 → ufS F eye (fsS S v l) (srS v) p = 0) := by
    intro v v0 v2
    have bl := lnS_le s v
    unfold vwC
    rw [su0 _ _ (fun x h1 h2 => (lnC_b F eye set s (isLn_of v0 v2 h1 (by omega))).1)]
    constructor
    · intro h l p hp hd
      have e := h l hp.1.2.1 (by have := hp.1.2.2; omega)
      unfold lnC at e
      rw [su0 _ _ (fun x _ _ => (ubS01 _ _ _ _ _ _).1)] at e
      have := e p hp.2.1 (by have := hp.2.2; omega)
      unfold ubS at this
      rw [if_pos hd] at this
      exact this
    · intro h l h1 h2
      unfold lnC
      rw [su0 _ _ (fun x _ _ => (ubS01 _ _ _ _ _ _).1)]
      intro p h3 h4
      unfold ubS
      by_cases hd : w64 (lAnd set (Sheet_hold (fsS S v l + srS v * p) (srS v))) = 0
      · rw [if_pos hd]; exact h l p ⟨isLn_of v0 v2 h1 (by omega), h3, by omega⟩ hd
      · rw [if_neg hd]
  have b0 := vwC_b F eye set s (v := 0) (by omega) (by omega)
  have b1 := vwC_b F eye set s (v := 1) (by omega) (by omega)
  have b2 := vwC_b F eye set s (v := 2) (by omega) (by omega)
  unfold alC
  constructor
  · intro h v l p hp hd
    have v0 := hp.1.1.1
    have v2 := hp.1.1.2
    have : v = 0 ∨ v = 1 ∨ v = 2 := by omega
    rcases this with z | z | z <;> subst z
    · exact (hv 0 (by omega) (by omega)).mp (by omega) l p hp hd
    · exact (hv 1 (by omega) (by omega)).mp (by omega) l p hp hd
    · exact (hv 2 (by omega) (by omega)).mp (by omega) l p hp hd
  · intro h
    have e0 := (hv 0 (by omega) (by omega)).mpr (fun l p => h 0 l p)
    have e1 := (hv 1 (by omega) (by omega)).mpr (fun l p => h 1 l p)
    have e2 := (hv 2 (by omega) (by omega)).mpr (fun l p => h 2 l p)
    omega
theorem alU_0 (F : Int → Int) (eye : Int) {S W : Int} (s : gSW S W) : alU F eye S W = 0 ↔ AF F eye S W := by
  rw [← alC0, alC_0 F eye 0 s]
  exact ⟨fun h v l p hp => h v l p hp (hold0 _), fun h v l p hp _ => h v l p hp⟩
theorem fd0 {c : Int → Int} : ∀ (n : Nat) (l : Int), (∀ x, l ≤ x → x < l + n → 0 ≤ c x) → 0 ≤ l → ((fdS c 0 n l 0).1 = -1 ↔ ∀ x, l ≤ x → x < l + n → c x = 0) ∧ ((fdS c 0 n l 0).1 = -1 → (fdS c 0 n l 0).2 = 0)
  | 0, l, _, _ => ⟨⟨fun _ x h1 h2 => by omega, fun _ => rfl⟩, fun _ => rfl⟩
  | n + 1, l, h, l0 => by
    have hl := h l (by omega) (by omega)
    have ih := fd0 (c := c) n (l + 1) (fun x h1 h2 => h x (by omega) (by omega)) (by omega)
    rw [fdS_s]
    by_cases q : 0 < 0 + c l
    · rw [if_pos q]
      refine ⟨⟨fun z => absurd (show l = -1 from z) (by omega), fun z => ?_⟩, fun z => absurd (show l = -1 from z) (by omega)⟩
      have := z l (by omega) (by omega)
      omega
    · have e : (0 : Int) + c l = 0 := by omega
      rw [if_neg q, e]
      refine ⟨⟨fun z x h1 h2 => ?_, fun z => ih.1.mpr (fun x h1 h2 => z x (by omega) (by omega))⟩, ih.2⟩
      by_cases y : x = l
      · subst y; omega
      · exact ih.1.mp z x (by omega) (by omega)
theorem wr0 (F : Int → Int) (eye : Int) {S W : Int} (s : gSW S W) : (wrS F eye S W 0).1 = 3 ↔ AF F eye S W := by
  have hv : ∀ v, 0 ≤ v → v ≤ 2 → ((fdS (lnU F eye S W v) 0 (lnS S W v - 0).toNat 0 0).1 = -1 ↔ vwU F eye S W v = 0) ∧ ((fdS (lnU F eye S W v) 0 (lnS S W v - 0).toNat 0 0).1 = -1 → (fdS (lnU F eye S W v) 0 (lnS S W v - 0).toNat 0 0).2 = 0) := by
    intro v v0 v2
    have bl := lnS_le s v
    have hb : ∀ x, 0 ≤ x → x < 0 + ((lnS S W v - 0).toNat : Int) → 0 ≤ lnU F eye S W v x := fun x h1 h2 => (lnU_b F eye s (isLn_of v0 v2 h1 (by omega))).1
    have a := fd0 (c := lnU F eye S W v) (lnS S W v - 0).toNat 0 hb (by omega)
    refine ⟨?_, a.2⟩
    rw [a.1]; unfold vwU; rw [su0 _ _ hb]
  have h0 := hv 0 (by omega) (by omega)
  have h1 := hv 1 (by omega) (by omega)
  have h2 := hv 2 (by omega) (by omega)
  have b0 := vwU_b F eye s (v := 0) (by omega) (by omega)
  have b1 := vwU_b F eye s (v := 1) (by omega) (by omega)
  have b2 := vwU_b F eye s (v := 2) (by omega) (by omega)
  rw [← alU_0 F eye s]
  unfold wrS alU
  by_cases q0 : (fdS (lnU F eye S W 0) 0 (lnS S W 0 - 0).toNat 0 0).1 = -1
  · rw [if_neg (not_not_intro q0), h0.2 q0]
    have e0 := h0.1.mp q0
    by_cases q1 : (fdS (lnU F eye S W 1) 0 (lnS S W 1 - 0).toNat 0 0).1 = -1
    · rw [if_neg (not_not_intro q1), h1.2 q1]
      have e1 := h1.1.mp q1
      by_cases q2 : (fdS (lnU F eye S W 2) 0 (lnS S W 2 - 0).toNat 0 0).1 = -1
      · rw [if_neg (not_not_intro q2)]
        have e2 := h2.1.mp q2
        exact ⟨fun _ => by omega, fun _ => rfl⟩
      · rw [if_pos q2]
        exact ⟨fun z => absurd (show (2 : Int) = 3 from z) (by decide), fun z => absurd (h2.1.mpr (by omega)) q2⟩
    · rw [if_pos q1]
      exact ⟨fun z => absurd (show (1 : Int) = 3 from z) (by decide), fun z => absurd (h1.1.mpr (by omega)) q1⟩
  · rw [if_pos q0]
    exact ⟨fun z => absurd (show (0 : Int) = 3 from z) (by decide), fun z => absurd (h0.1.mpr (by omega)) q0⟩
/-- the reference asks whether all is fair -/
theorem m_uf0 {S W : Int} {m : Mem} (s : gSW S W) (z0 : m 76 0 = S) (z1 : m 76 1 = W) (hfl : ∀ q, Pt S W q → 0 ≤ m 76 (80 + q) ∧ m 76 (80 + q) ≤ 999) (he : 0 ≤ m 76 4 ∧ m 76 4 ≤ 999) : ∃ m' x, Sc m m' ∧ Mo_unfairs 0 m = some (x, m') ∧ 0 ≤ x ∧ x ≤ 1 ∧ (x = 0 ↔ AF (fun q => m 76 (80 + q)) (m 76 4) S W) := by
  obtain ⟨m', h1, h2, h3⟩ := m_find (k := 0) s (by omega) (by omega) z0 z1 hfl he
  have w := wr0 (fun q => m 76 (80 + q)) (m 76 4) s
  by_cases q : (wrS (fun q => m 76 (80 + q)) (m 76 4) S W 0).1 = 3
  · obtain ⟨a, b, c⟩ := h2 q
    have e : (wrS (fun q => m 76 (80 + q)) (m 76 4) S W 0).2.2 = 0 := by omega
    rw [e] at a
    exact ⟨m', 0, h1, a, by omega, by omega, ⟨fun _ => w.mp q, fun _ => rfl⟩⟩
  · obtain ⟨a, -⟩ := h3 q
    exact ⟨m', 1, h1, a, by omega, by omega, ⟨fun z => absurd z (by decide), fun z => absurd (w.mpr z) q⟩⟩
theorem or_bv (x y : Int) : BitVec.ofInt 64 (lOr x y) = BitVec.ofInt 64 x ||| BitVec.ofInt 64 y := by
  unfold lOr
  rw [bv_toInt64, Int64.toBitVec_or, Int64.toBitVec_ofInt, Int64.toBitVec_ofInt]
theorem hold_kb {K o a : Int} (a0 : 1 ≤ a) (h0 : 0 ≤ o - 2 * a) (h1 : o + a < 64) : w64 (lAnd K (Sheet_hold o a)) = 0 ↔ (kb K (o - 2 * a) = false ∧ kb K (o - a) = false ∧ kb K o = false ∧ kb K (o + a) = false) := by
  have e : (Int64.ofInt K &&& Int64.ofInt (Sheet_hold o a)).toBitVec = BitVec.ofInt 64 K &&& (BitVec.twoPow 64 (o - 2 * a).toNat ||| BitVec.twoPow 64 (o - a).toNat ||| BitVec.twoPow 64 o.toNat ||| BitVec.twoPow 64 (o + a).toNat) := by
    rw [Int64.toBitVec_and, Int64.toBitVec_ofInt, Int64.toBitVec_ofInt]
    unfold Sheet_hold
    rw [or_bv, or_bv, or_bv, bit_bv (by omega) (by omega), bit_bv (by omega) (by omega), bit_bv (by omega) (by omega), bit_bv (by omega) (by omega)]
  unfold lAnd
  rw [w64_zero, e]
  unfold kb
  constructor
  · intro h
    have g : ∀ i, i < 64 → (BitVec.ofInt 64 K &&& (BitVec.twoPow 64 (o - 2 * a).toNat ||| BitVec.twoPow 64 (o - a).toNat ||| BitVec.twoPow 64 o.toNat ||| BitVec.twoPow 64 (o + a).toNat)).getLsbD i = false := fun i hi => by rw [h]; simp
    have g0 := g (o - 2 * a).toNat (by omega)
    have g1 := g (o - a).toNat (by omega)
    have g2 := g o.toNat (by omega)
    have g3 := g (o + a).toNat (by omega)
    simp only [BitVec.getLsbD_and, BitVec.getLsbD_or, BitVec.getLsbD_twoPow] at g0 g1 g2 g3
    have i0 : (o - 2 * a).toNat < 64 := by omega
    have i1 : (o - a).toNat < 64 := by omega
    have i2 : o.toNat < 64 := by omega
    have i3 : (o + a).toNat < 64 := by omega
    simp [i0] at g0
    simp [i1] at g1
    simp [i2] at g2
    simp [i3] at g3
    exact ⟨g0, g1, g2, g3⟩
  · rintro ⟨g0, g1, g2, g3⟩
    apply BitVec.eq_of_getLsbD_eq
    intro i hi
    simp only [BitVec.getLsbD_and, BitVec.getLsbD_or, BitVec.getLsbD_twoPow, BitVec.getLsbD_zero]
    by_cases q0 : (o - 2 * a).toNat = i
    · subst q0; rw [g0]; rfl
    by_cases q1 : (o - a).toNat = i
    · subst q1; rw [g1]; rfl
    by_cases q2 : o.toNat = i
    · subst q2; rw [g2]; rfl
    by_cases q3 : (o + a).toNat = i
    · subst q3; rw [g3]; rfl
    simp [q0, q1, q2, q3]
theorem kb_bit {p q : Int} (p0 : 0 ≤ p) (p1 : p < 64) (q0 : 0 ≤ q) (q1 : q < 64) : kb (Sheet_bit p) q = decide (q = p) := by
  unfold kb
  rw [bit_bv p0 p1, BitVec.getLsbD_twoPow]
  have hp : p.toNat < 64 := by omega
  by_cases h : q = p
  · subst h; simp [hp]
  · have : ¬ p.toNat = q.toNat := by omega
    simp [h, this]
theorem kb_0 (q : Int) : kb 0 q = false := by unfold kb; simp
theorem jm4 (F : Int → Int) (f a p : Int) : jmS F f a p = F (f + a * (p + 1)) - F (f + a * (p - 2)) + 3 * (F (f + a * (p - 1)) - F (f + a * p)) := by
  unfold jmS bdS
  rw [show p - 1 - 1 = p - 2 by omega, show p - 1 + 1 = p by omega]
  omega
theorem uf0 (F : Int → Int) (eye f a p : Int) : ufS F eye f a p = 0 ↔ (-eye ≤ jmS F f a p ∧ jmS F f a p ≤ eye) := by
  unfold ufS iab
  by_cases z : 0 ≤ jmS F f a p
  · rw [if_pos z]
    by_cases y : jmS F f a p ≤ eye
    · rw [if_pos y]; exact ⟨fun _ => by omega, fun _ => rfl⟩
    · rw [if_neg y]; exact ⟨fun w => absurd w (by decide), fun w => by omega⟩
  · rw [if_neg z]
    by_cases y : -jmS F f a p ≤ eye
    · rw [if_pos y]; exact ⟨fun _ => by omega, fun _ => rfl⟩
    · rw [if_neg y]; exact ⟨fun w => absurd w (by decide), fun w => by omega⟩
/-- line and place of a point in a view -/
def ltS (S v q : Int) : Int := if v = 0 then q / 8 else if v = 1 then q % 8 else q % 8 - q / 8 + S - 1
def heS (v q : Int) : Int := if v = 0 then q % 8 else if v = 1 then q / 8 else if q % 8 < q / 8 then q % 8 else q / 8
theorem co1 {S W v q : Int} (s : gSW S W) (v0 : 0 ≤ v) (v2 : v ≤ 2) (hq : Pt S W q) : isLn S W v (ltS S v q) ∧ 0 ≤ heS v q ∧ heS v q < plS S W v (ltS S v q) ∧ fsS S v (ltS S v q) + srS v * heS v q = q := by
  unfold Pt at hq
  have : v = 0 ∨ v = 1 ∨ v = 2 := by omega
  unfold isLn lnS ltS heS plS fsS srS
  rcases this with z | z | z <;> subst z
  · simp only [↓reduceIte]
    rw [if_neg (by omega)]
    omega
  · simp only [Int.reduceEq, ↓reduceIte]
    rw [if_neg (by omega)]
    omega
  · simp only [Int.reduceEq, ↓reduceIte]
    rw [if_neg (show ¬ S = 0 by omega)]
    by_cases y : q % 8 < q / 8
    · rw [if_pos y, if_pos (show q % 8 - q / 8 + S - 1 - S + 1 < 0 by omega), if_pos (show q % 8 - q / 8 + S - 1 - S + 1 < 0 by omega)]
      split <;> omega
    · rw [if_neg y, if_neg (show ¬ q % 8 - q / 8 + S - 1 - S + 1 < 0 by omega), if_neg (show ¬ q % 8 - q / 8 + S - 1 - S + 1 < 0 by omega)]
      split <;> omega
theorem co2 {S W v l x : Int} (s : gSW S W) (h : isLn S W v l) (x0 : 0 ≤ x) (x1 : x < plS S W v l) : ltS S v (fsS S v l + srS v * x) = l ∧ heS v (fsS S v l + srS v * x) = x := by
  have hp := isLn_pos s h
  have : v = 0 ∨ v = 1 ∨ v = 2 := by omega
  unfold plS at x1
  unfold ltS heS fsS srS
  rcases this with z | z | z <;> subst z
  · simp only [↓reduceIte] at x1 ⊢
    omega
  · simp only [Int.reduceEq, ↓reduceIte] at x1 ⊢
    omega
  · simp only [Int.reduceEq, ↓reduceIte] at x1 ⊢
    by_cases y : l - S + 1 < 0
    · rw [if_pos y] at x1 ⊢
      have x8 : x < 8 := by split at x1 <;> omega
      have e1 : (-8 * (l - S + 1) + 9 * x) / 8 = x - (l - S + 1) := by omega
      have e2 : (-8 * (l - S + 1) + 9 * x) % 8 = x := by omega
      rw [e1, e2]
      refine ⟨by omega, ?_⟩
      rw [if_pos (by omega)]
    · rw [if_neg y] at x1 ⊢
      split at x1
      · refine ⟨by omega, ?_⟩
        split <;> omega
      · refine ⟨by omega, ?_⟩
        split <;> omega
theorem c_lt {m : Mem} {v q : Int} (v0 : 0 ≤ v) (v2 : v ≤ 2) (q0 : 0 ≤ q) (q1 : q < 64) : Sheet_lineThrough 7 v q m = ltS (m 7 0) v q := by
  unfold Sheet_lineThrough ltS
  rw [w32_id (x := v) (by omega) (by omega), bAnd_7, bShr3 (by omega) (by omega)]
  have : v = 0 ∨ v = 1 ∨ v = 2 := by omega
  rcases this with z | z | z <;> subst z <;> simp
theorem c_he {v q : Int} (v0 : 0 ≤ v) (v2 : v ≤ 2) (q0 : 0 ≤ q) (q1 : q < 64) : Sheet_placeOf 7 v q = heS v q := by
  unfold Sheet_placeOf heS J_min
  rw [w32_id (x := v) (by omega) (by omega), bAnd_7, bShr3 (by omega) (by omega), w32_id (x := q % 8) (by omega) (by omega), w32_id (x := q / 8) (by omega) (by omega)]
  have : v = 0 ∨ v = 1 ∨ v = 2 := by omega
  rcases this with z | z | z <;> subst z <;> simp
/-- a point and a place bear on one another -/
def Tc (f a p q : Int) : Prop := q = f + a * p ∨ q = f + a * (p - 1) ∨ q = f + a * (p - 2) ∨ q = f + a * (p + 1)
theorem pl4 {S W v l p : Int} (s : gSW S W) (h : isPl S W v l p) : Pt S W (fsS S v l + srS v * p) ∧ Pt S W (fsS S v l + srS v * (p - 1)) ∧ Pt S W (fsS S v l + srS v * (p - 2)) ∧ Pt S W (fsS S v l + srS v * (p + 1)) := by
  obtain ⟨h1, h2, h3⟩ := h
  exact ⟨pt_in s h1 (by omega) (by omega), pt_in s h1 (by omega) (by omega), pt_in s h1 (by omega) (by omega), pt_in s h1 (by omega) (by omega)⟩
theorem uf_nt {F : Int → Int} {eye f a p q b : Int} (h : ¬ Tc f a p q) : ufS (upF F q b) eye f a p = ufS F eye f a p := by
  have e : jmS (upF F q b) f a p = jmS F f a p := by
    rw [jm4, jm4]
    unfold upF
    rw [if_neg (fun z => h (Or.inr (Or.inr (Or.inr z.symm)))), if_neg (fun z => h (Or.inr (Or.inr (Or.inl z.symm)))), if_neg (fun z => h (Or.inr (Or.inl z.symm))), if_neg (fun z => h (Or.inl z.symm))]
  unfold ufS; rw [e]
