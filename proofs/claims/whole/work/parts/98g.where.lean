/-! layer 2: where -/
def ktS (u : Int → Int) : Nat → Int → Int → Int
  | 0, _, _ => -1
  | n + 1, p, k => if u p = 0 then ktS u n (p + 1) k else if k = 0 then p else ktS u n (p + 1) (k - 1)
theorem ktS_s (u : Int → Int) (n : Nat) (p k : Int) : ktS u (n + 1) p k = if u p = 0 then ktS u n (p + 1) k else if k = 0 then p else ktS u n (p + 1) (k - 1) := rfl
theorem ktS_c {u u' : Int → Int} : ∀ (n : Nat) (p k : Int), (∀ x, p ≤ x → x < p + n → u x = u' x) → ktS u n p k = ktS u' n p k
  | 0, _, _, _ => rfl
  | n + 1, p, k, h => by
    rw [ktS_s, ktS_s, h p (by omega) (by omega), ktS_c n (p + 1) k (fun x a b => h x (by omega) (by omega)), ktS_c n (p + 1) (k - 1) (fun x a b => h x (by omega) (by omega))]
def fdS (c : Int → Int) (k : Int) : Nat → Int → Int → Int × Int
  | 0, _, acc => (-1, acc)
  | n + 1, l, acc => if k < acc + c l then (l, acc) else fdS c k n (l + 1) (acc + c l)
theorem fdS_s (c : Int → Int) (k : Int) (n : Nat) (l acc : Int) : fdS c k (n + 1) l acc = if k < acc + c l then (l, acc) else fdS c k n (l + 1) (acc + c l) := rfl
theorem fdS_c {c c' : Int → Int} {k : Int} : ∀ (n : Nat) (l acc : Int), (∀ x, l ≤ x → x < l + n → c x = c' x) → fdS c k n l acc = fdS c' k n l acc
  | 0, _, _, _ => rfl
  | n + 1, l, acc, h => by
    rw [fdS_s, fdS_s, h l (by omega) (by omega), fdS_c n (l + 1) _ (fun x a b => h x (by omega) (by omega))]
/-- either a line is found, or all are counted -/
theorem fdS_r {c : Int → Int} {k B : Int} (hB : 0 ≤ B) : ∀ (n : Nat) (l acc : Int), (∀ x, l ≤ x → x < l + n → 0 ≤ c x ∧ c x ≤ B) → 0 ≤ l → 0 ≤ acc → acc ≤ k → ((fdS c k n l acc).1 = -1 ∧ acc ≤ (fdS c k n l acc).2 ∧ (fdS c k n l acc).2 ≤ k ∧ (fdS c k n l acc).2 ≤ acc + n * B) ∨ (l ≤ (fdS c k n l acc).1 ∧ (fdS c k n l acc).1 < l + n ∧ acc ≤ (fdS c k n l acc).2 ∧ (fdS c k n l acc).2 ≤ k ∧ k < (fdS c k n l acc).2 + c (fdS c k n l acc).1 ∧ (fdS c k n l acc).2 ≤ acc + n * B)
  | 0, l, acc, _, l0, a0, a1 => Or.inl ⟨rfl, Int.le_refl _, a1, by simp [fdS]⟩
  | n + 1, l, acc, h, l0, a0, a1 => by
    have hl := h l (by omega) (by omega)
    rw [fdS_s]
    have eB : ((n + 1 : Nat) : Int) * B = n * B + B := by rw [Int.natCast_add, Int.add_mul]; simp
    have nB : 0 ≤ (n : Int) * B := Int.mul_nonneg (by omega) hB
    by_cases q : k < acc + c l
    · rw [if_pos q]; right; dsimp only; omega
    · rw [if_neg q]
      have eB : ((n + 1 : Nat) : Int) * B = n * B + B := by rw [Int.natCast_add, Int.add_mul]; simp
      rcases fdS_r (c := c) (k := k) (B := B) hB n (l + 1) (acc + c l) (fun x a b => h x (by omega) (by omega)) (by omega) (by omega) (by omega) with z | z
      · left; rw [eB]; omega
      · right; omega
theorem c_fup {m : Mem} {v l k : Int} (s : gSW (m 7 0) (m 7 1)) (hfl : ∀ q, Pt (m 7 0) (m 7 1) q → 0 ≤ m 10 q ∧ m 10 q ≤ 999) (he : 0 ≤ m 7 4 ∧ m 7 4 ≤ 999) (h : isLn (m 7 0) (m 7 1) v l) (k1 : k < 2147483648) : ∀ (n : Nat) (acc p : Int), 0 ≤ acc → acc ≤ k → 2 ≤ p → p ≤ 20 → (plS (m 7 0) (m 7 1) v l - 1 - p).toNat < n → Sheet_findUnfairPlace_L14 7 v l k (plS (m 7 0) (m 7 1) v l) m n acc p = some (ktS (ufS (m 10) (m 7 4) (fsS (m 7 0) v l) (srS v)) (plS (m 7 0) (m 7 1) v l - 1 - p).toNat p (k - acc)) := by
  have g := plS_le s h
  intro n
  induction n with
  | zero => intro acc p _ _ _ _ q; omega
  | succ n ih =>
    intro acc p a0 a1 p0 p20 hn
    rw [Sheet_findUnfairPlace_L14, w32_id (x := p) (by omega) (by omega), w32_id (x := plS (m 7 0) (m 7 1) v l - 1) (by omega) (by omega)]
    by_cases q : plS (m 7 0) (m 7 1) v l - 1 ≤ p
    · rw [if_pos q, show (plS (m 7 0) (m 7 1) v l - 1 - p).toNat = 0 by omega]; rfl
    · have b := ufS01 (m 10) (m 7 4) (fsS (m 7 0) v l) (srS v) p
      unfold Sheet_pointAt
      rw [if_neg q, c_first s h, c_stride h.1.1 h.1.2, Int.mul_comm p, c_unf s hfl he h p0 (by omega), bP_some, show (plS (m 7 0) (m 7 1) v l - 1 - p).toNat = (plS (m 7 0) (m 7 1) v l - 1 - (p + 1)).toNat + 1 by omega, ktS_s, w32_id (x := ufS (m 10) (m 7 4) (fsS (m 7 0) v l) (srS v) p) (by omega) (by omega)]
      by_cases z : ufS (m 10) (m 7 4) (fsS (m 7 0) v l) (srS v) p = 0
      · rw [if_pos z, if_pos z, ih acc (p + 1) a0 a1 (by omega) (by omega) (by omega)]
      · rw [if_neg z, if_neg z, w32_id (x := acc) (by omega) (by omega), w32_id (x := k) (by omega) (by omega)]
        by_cases y : acc = k
        · rw [if_neg (by omega), if_pos (by omega)]
        · rw [if_pos y, if_neg (by omega), ih (acc + 1) (p + 1) (by omega) (by omega) (by omega) (by omega) (by omega), show k - (acc + 1) = k - acc - 1 by omega]
theorem c_findPl {m : Mem} {v l k : Int} (s : gSW (m 7 0) (m 7 1)) (hfl : ∀ q, Pt (m 7 0) (m 7 1) q → 0 ≤ m 10 q ∧ m 10 q ≤ 999) (he : 0 ≤ m 7 4 ∧ m 7 4 ≤ 999) (h : isLn (m 7 0) (m 7 1) v l) (k0 : 0 ≤ k) (k1 : k < 2147483648) : Sheet_findUnfairPlace 7 v l k m = some (ktS (ufS (m 10) (m 7 4) (fsS (m 7 0) v l) (srS v)) (plS (m 7 0) (m 7 1) v l - 1 - 2).toNat 2 k) := by
  have g := plS_le s h
  unfold Sheet_findUnfairPlace
  rw [c_places s h, c_fup s hfl he h k1 FU 0 2 (by omega) k0 (by omega) (by omega) (by rw [FU_eq]; omega), Int.sub_zero]
theorem c_fu12 {m : Mem} {v k : Int} (s : gSW (m 7 0) (m 7 1)) (hfl : ∀ q, Pt (m 7 0) (m 7 1) q → 0 ≤ m 10 q ∧ m 10 q ≤ 999) (he : 0 ≤ m 7 4 ∧ m 7 4 ≤ 999) (v0 : 0 ≤ v) (v2 : v ≤ 2) (k1 : k < 2147483648) {K : Int → Int → Mem → Option (Int × Mem)} : ∀ (n : Nat) (acc l : Int), 0 ≤ acc → acc ≤ 400 + 20 * l → acc ≤ k → 0 ≤ l → l ≤ 20 → (lnS (m 7 0) (m 7 1) v - l).toNat < n → ∀ R, fdS (lnU (m 10) (m 7 4) (m 7 0) (m 7 1) v) k (lnS (m 7 0) (m 7 1) v - l).toNat l acc = R → Sheet_findUnfair_L12 7 k K n acc v l m = if R.1 = -1 then K R.2 (v + 1) m else some (1, st (st (st m 7 11 v) 7 12 R.1) 7 13 (ktS (ufS (m 10) (m 7 4) (fsS (m 7 0) v R.1) (srS v)) (plS (m 7 0) (m 7 1) v R.1 - 1 - 2).toNat 2 (k - R.2))) := by
  have bl := lnS_le s v
  intro n
  induction n with
  | zero => intro acc l _ _ _ _ _ q; omega
  | succ n ih =>
    intro acc l a0 a4 a1 l0 l20 hn R hR
    rw [Sheet_findUnfair_L12, c_lines s v0 v2, w32_id (x := l) (by omega) (by omega), w32_id (x := lnS (m 7 0) (m 7 1) v) (by omega) (by omega)]
    by_cases q : lnS (m 7 0) (m 7 1) v ≤ l
    · rw [show (lnS (m 7 0) (m 7 1) v - l).toNat = 0 by omega] at hR
      subst hR
      rw [if_pos q]; rfl
    · have hl := isLn_of v0 v2 l0 (show l < lnS (m 7 0) (m 7 1) v by omega)
      have g := plS_le s hl
      have b := lnU_b (m 10) (m 7 4) s hl
      rw [show (lnS (m 7 0) (m 7 1) v - l).toNat = (lnS (m 7 0) (m 7 1) v - (l + 1)).toNat + 1 by omega, fdS_s] at hR
      have eu : Sheet_unfairOn 7 v l m = some (lnU (m 10) (m 7 4) (m 7 0) (m 7 1) v l) := by
        rw [c_unfOn s hfl he hl]; unfold lnU; rw [show plS (m 7 0) (m 7 1) v l - 1 - 2 = plS (m 7 0) (m 7 1) v l - 3 by omega]
      rw [if_neg q, eu, bP_some, w32_id (x := acc + lnU (m 10) (m 7 4) (m 7 0) (m 7 1) v l) (by omega) (by omega), w32_id (x := k) (by omega) (by omega)]
      by_cases z : k < acc + lnU (m 10) (m 7 4) (m 7 0) (m 7 1) v l
      · rw [if_pos z] at hR
        subst hR
        have ef := c_findPl (m := st (st m 7 11 v) 7 12 l) s hfl he hl (show 0 ≤ k - acc by omega) (by omega)
        rw [if_neg (by omega), ef, bP_some, if_neg (by show ¬ l = -1; omega)]
        rfl
      · rw [if_neg z] at hR
        rw [if_pos (by omega)]
        exact ih _ (l + 1) (by omega) (by omega) (by omega) (by omega) (by omega) (by omega) R hR
theorem m_un32k {S W v l k : Int} (s : gSW S W) (h : isLn S W v l) (k0 : 0 ≤ k) (k1 : k < 2147483648) {K : Int → Int → Int → Mem → Option (Int × Mem)} {m : Mem} (hfl : ∀ q, Pt S W q → 0 ≤ m 76 (80 + q) ∧ m 76 (80 + q) ≤ 999) (he : 0 ≤ m 76 4 ∧ m 76 4 ≤ 999) (e23 : m 75 23 = fsS S v l) (e24 : m 75 24 = srS v) (e25 : m 75 25 = plS S W v l) : ∀ (n : Nat) (acc p : Int), 0 ≤ acc → acc ≤ 1000 + p → acc ≤ k → 2 ≤ p → p ≤ 20 → (plS S W v l - 1 - p).toNat < n → Mo_unfairs_L32 k v K n acc l p m = if k < acc + suS (ufS (fun q => m 76 (80 + q)) (m 76 4) (fsS S v l) (srS v)) (plS S W v l - 1 - p).toNat p then some (k + 1, st (st (st m 75 26 v) 75 27 l) 75 28 (ktS (ufS (fun q => m 76 (80 + q)) (m 76 4) (fsS S v l) (srS v)) (plS S W v l - 1 - p).toNat p (k - acc))) else K (acc + suS (ufS (fun q => m 76 (80 + q)) (m 76 4) (fsS S v l) (srS v)) (plS S W v l - 1 - p).toNat p) v (l + 1) m := by
  have g := plS_le s h
  intro n
  induction n with
  | zero => intro acc p _ _ _ _ _ q; omega
  | succ n ih =>
    intro acc p a0 a2 a1 p0 p20 hn
    rw [Mo_unfairs_L32, e25, w32_id (x := p) (by omega) (by omega), w32_id (x := plS S W v l - 1) (by omega) (by omega)]
    by_cases q : plS S W v l - 1 ≤ p
    · rw [if_pos q, show (plS S W v l - 1 - p).toNat = 0 by omega]
      simp only [suS, Int.add_zero]
      rw [if_neg (by omega)]
    · have b := ufS01 (fun q => m 76 (80 + q)) (m 76 4) (fsS S v l) (srS v) p
      have bs := suS_b (g := (ufS (fun q => m 76 (80 + q)) (m 76 4) (fsS S v l) (srS v))) (B := 1) (plS S W v l - 1 - (p + 1)).toNat (p + 1) (fun x _ _ => ufS01 _ _ _ _ _)
      rw [if_neg q, m_unf s hfl he h e23 e24 e25 p0 (by omega), bP_some, show (plS S W v l - 1 - p).toNat = (plS S W v l - 1 - (p + 1)).toNat + 1 by omega, suS_succ, ktS_s, w32_id (x := ufS (fun q => m 76 (80 + q)) (m 76 4) (fsS S v l) (srS v) p) (by omega) (by omega)]
      by_cases z : ufS (fun q => m 76 (80 + q)) (m 76 4) (fsS S v l) (srS v) p = 0
      · rw [if_neg (by omega), ih acc (p + 1) a0 (by omega) a1 (by omega) (by omega) (by omega), if_pos z, z, Int.zero_add]
      · have z1 : ufS (fun q => m 76 (80 + q)) (m 76 4) (fsS S v l) (srS v) p = 1 := by omega
        rw [if_pos z, if_neg z, z1, w32_id (x := k) (by omega) (by omega), w32_id (x := acc + 1) (by omega) (by omega)]
        by_cases y : acc = k
        · rw [if_pos (by omega), if_neg (by omega), if_pos (by omega), if_pos (by omega), y]
        · rw [if_neg (by omega), ih (acc + 1) (p + 1) (by omega) (by omega) (by omega) (by omega) (by omega) (by omega), if_neg (show ¬ k - acc = 0 by omega), show k - (acc + 1) = k - acc - 1 by omega, show acc + 1 + suS (ufS (fun q => m 76 (80 + q)) (m 76 4) (fsS S v l) (srS v)) (plS S W v l - 1 - (p + 1)).toNat (p + 1) = acc + (1 + suS (ufS (fun q => m 76 (80 + q)) (m 76 4) (fsS S v l) (srS v)) (plS S W v l - 1 - (p + 1)).toNat (p + 1)) by omega]
