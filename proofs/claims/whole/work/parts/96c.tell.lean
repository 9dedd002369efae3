/-! layer 2: fractions -/
def gcS : Nat → Int → Int → Int
  | 0, a, _ => a
  | n + 1, a, b => if b = 0 then a else gcS n b (a % b)
theorem gcS_s (n : Nat) (a b : Int) : gcS (n + 1) a b = if b = 0 then a else gcS n b (a % b) := rfl
theorem gcS_z : ∀ (n : Nat) (a : Int), gcS n a 0 = a
  | 0, _ => rfl
  | n + 1, a => by unfold gcS; rw [if_pos rfl]
/-- b below 2^k: after 2k+1 turns nothing changes -/
theorem gcS_st : ∀ (k n n' : Nat) (a b : Int), 0 ≤ b → b < ((2 ^ k : Nat) : Int) → 2 * k + 1 ≤ n → 2 * k + 1 ≤ n' → gcS n a b = gcS n' a b := by
  intro k
  induction k with
  | zero =>
    intro n n' a b b0 b1 _ _
    have : b = 0 := by have e : ((2 ^ 0 : Nat) : Int) = 1 := by decide
                       omega
    subst this; rw [gcS_z, gcS_z]
  | succ k ih =>
    intro n n' a b b0 b1 hn hn'
    match n, n', hn, hn' with
    | n + 2, n' + 2, hn, hn' =>
      by_cases q : b = 0
      · subst q; rw [gcS_z, gcS_z]
      · have r0 := Int.emod_nonneg a q
        have r1 := Int.emod_lt_of_pos a (show 0 < b by omega)
        rw [gcS_s (n + 1) a b, gcS_s (n' + 1) a b, if_neg q, if_neg q]
        by_cases q2 : a % b = 0
        · rw [q2, gcS_z, gcS_z]
        · rw [gcS_s n, gcS_s n', if_neg q2, if_neg q2]
          have s0 := Int.emod_nonneg b q2
          have s1 := Int.emod_lt_of_pos b (show 0 < a % b by omega)
          have s2 : b % (a % b) ≤ b - a % b := by
            have hd := Int.emod_add_mul_ediv b (a % b)
            have hq : 1 ≤ b / (a % b) := by
              rw [Int.le_ediv_iff_mul_le (by omega)]; omega
            have hm := Int.mul_le_mul_of_nonneg_left hq (show 0 ≤ a % b by omega)
            omega
          have e2 : ((2 ^ (k + 1) : Nat) : Int) = 2 * ((2 ^ k : Nat) : Int) := by rw [Nat.pow_succ]; omega
          exact ih n n' (a % b) (b % (a % b)) s0 (by omega) (by omega) (by omega)
theorem gcS_pos : ∀ (n : Nat) (a b : Int), 0 ≤ a → 0 ≤ b → (0 < a ∨ 0 < b) → 0 < a ∨ 1 ≤ n → 0 < gcS n a b
  | 0, a, b, a0, b0, h, h' => by unfold gcS; omega
  | n + 1, a, b, a0, b0, h, h' => by
    unfold gcS
    by_cases q : b = 0
    · rw [if_pos q]; omega
    · rw [if_neg q]
      exact gcS_pos n b (a % b) b0 (Int.emod_nonneg a q) (Or.inl (by omega)) (Or.inl (by omega))
theorem gcS_le : ∀ (n : Nat) (a b B : Int), 0 ≤ a → 0 ≤ b → a ≤ B → b ≤ B → 0 ≤ gcS n a b ∧ gcS n a b ≤ B
  | 0, a, b, B, a0, b0, h, h' => by unfold gcS; omega
  | n + 1, a, b, B, a0, b0, h, h' => by
    unfold gcS
    by_cases q : b = 0
    · rw [if_pos q]; omega
    · rw [if_neg q]
      have r1 := Int.emod_lt_of_pos a (show 0 < b by omega)
      exact gcS_le n b (a % b) B b0 (Int.emod_nonneg a q) h' (by omega)
theorem c_gcd_loop {m : Mem} : ∀ (n : Nat) (a b t : Int), 0 ≤ a → a < 4611686018427387904 → 0 ≤ b → b < 4611686018427387904 → 0 ≤ t → t ≤ 200 → (200 - t).toNat < n → FL_commonDivisor_L15 m n a b t = some (gcS (200 - t).toNat a b) := by
  intro n
  induction n with
  | zero => intro a b t _ _ _ _ _ _ h; omega
  | succ n ih =>
    intro a b t a0 a1 b0 b1 t0 t1 hn
    rw [FL_commonDivisor_L15, w32_id (x := t) (by omega) (by omega), w64_id (x := b) (by omega) (by omega), w64_id (x := a) (by omega) (by omega)]
    by_cases q : 200 ≤ t
    · rw [if_pos q, show (200 - t).toNat = 0 by omega]; rfl
    · rw [if_neg q, show (200 - t).toNat = (200 - (t + 1)).toNat + 1 by omega, gcS]
      by_cases q2 : b = 0
      · rw [if_pos q2, if_pos q2]
      · have r1 := Int.emod_lt_of_pos a (show 0 < b by omega)
        have r0 := Int.emod_nonneg a q2
        rw [if_neg q2, if_neg q2, Int.tmod_eq_emod_of_nonneg a0]
        exact ih b (a % b) (t + 1) b0 b1 r0 (by omega) (by omega) (by omega) (by omega)
noncomputable def gdS (a b : Int) : Int := gcS 200 (iab a) (iab b)
theorem m_gcd {m : Mem} {v1 v3 : Int} {K : Int → Option (Int × Mem)} : ∀ (k n : Nat) (a b : Int), 0 ≤ a → a < 4611686018427387904 → 0 ≤ b → b < 4611686018427387904 → b < ((2 ^ k : Nat) : Int) → 2 * k + 1 < n → Mo_tells_L28 v1 v3 K m n a b = K (gcS (2 * k + 1) a b) := by
  intro k
  induction k with
  | zero =>
    intro n a b a0 a1 b0 b1 bk hn
    have : b = 0 := by have e : ((2 ^ 0 : Nat) : Int) = 1 := by decide
                       omega
    subst this
    match n, hn with
    | n + 1, _ => rw [Mo_tells_L28, w64_id (by omega) (by omega), if_pos rfl, gcS_z]
  | succ k ih =>
    intro n a b a0 a1 b0 b1 bk hn
    match n, hn with
    | n + 2, hn =>
      rw [Mo_tells_L28, w64_id (x := b) (by omega) (by omega), w64_id (x := a) (by omega) (by omega)]
      by_cases q : b = 0
      · subst q; rw [if_pos rfl, gcS_z]
      · have r0 := Int.emod_nonneg a q
        have r1 := Int.emod_lt_of_pos a (show 0 < b by omega)
        rw [if_neg q, Int.tmod_eq_emod_of_nonneg a0, Mo_tells_L28, w64_id (x := b) (by omega) (by omega), w64_id (x := a % b) (by omega) (by omega)]
        rw [show 2 * (k + 1) + 1 = 2 * k + 1 + 1 + 1 by omega, gcS_s (2 * k + 1 + 1) a b, if_neg q]
        by_cases q2 : a % b = 0
        · rw [if_pos q2, gcS_s, if_pos q2]
        · rw [if_neg q2, gcS_s, if_neg q2, Int.tmod_eq_emod_of_nonneg b0]
          have s0 := Int.emod_nonneg b q2
          have s1 := Int.emod_lt_of_pos b (show 0 < a % b by omega)
          have s2 : b % (a % b) ≤ b - a % b := by
            have hd := Int.emod_add_mul_ediv b (a % b)
            have hq : 1 ≤ b / (a % b) := by
              rw [Int.le_ediv_iff_mul_le (by omega)]; omega
            have hm := Int.mul_le_mul_of_nonneg_left hq (show 0 ≤ a % b by omega)
            omega
          have e2 : ((2 ^ (k + 1) : Nat) : Int) = 2 * ((2 ^ k : Nat) : Int) := by rw [Nat.pow_succ]; omega
          exact ih n (a % b) (b % (a % b)) r0 (by omega) s0 (by omega) (by omega) (by omega)
theorem c_tell {m : Mem} {a b : Int} (a0 : -4611686018427387904 < a) (a1 : a < 4611686018427387904) (b0 : 0 < b) (b1 : b < 4611686018427387904) : FL_tell a b m = some (1, st (st (st m 0 1 (Int.tdiv a (gdS a b))) 0 2 (Int.tdiv b (gdS a b))) 0 0 0) := by
  have ia := iab_b (x := a) (B := 4611686018427387903) (by omega) (by omega)
  have ib := iab_b (x := b) (B := 4611686018427387903) (by omega) (by omega)
  have eb : iab b = b := by unfold iab; rw [if_pos (by omega)]
  have hg := gcS_pos 200 (iab a) (iab b) ia.1 ib.1 (Or.inr (by omega)) (Or.inr (by omega))
  have hg2 := gcS_le 200 (iab a) (iab b) 4611686018427387903 ia.1 ib.1 ia.2 ib.2
  have e : FL_commonDivisor a b m = some (gdS a b) := by
    unfold FL_commonDivisor gdS
    have j1 : J_absL a = iab a := by unfold J_absL iab; rw [w64_id (by omega) (by omega)]
    have j2 : J_absL b = iab b := by unfold J_absL iab; rw [w64_id (by omega) (by omega)]
    rw [j1, j2, c_gcd_loop FU (iab a) (iab b) 0 ia.1 (by omega) ib.1 (by omega) (by omega) (by omega) (by rw [FU_eq]; omega)]
    rfl
  have hg' : 0 < gdS a b ∧ gdS a b ≤ 4611686018427387903 := ⟨hg, hg2.2⟩
  unfold FL_tell
  rw [e]
  simp only [bP]
  rw [w64_id (x := gdS a b) (by omega) (by omega), if_neg (by omega), w64_id (x := a) (by omega) (by omega), w64_id (x := b) (by omega) (by omega)]
  rfl
theorem m_tell {m : Mem} {a b : Int} (a0 : -4611686018427387904 < a) (a1 : a < 4611686018427387904) (b0 : 0 < b) (b1 : b < 4611686018427387904) : Mo_tells a b m = some (1, st (st (st m 75 2 (Int.tdiv a (gdS a b))) 75 3 (Int.tdiv b (gdS a b))) 75 1 0) := by
  have ia := iab_b (x := a) (B := 4611686018427387903) (by omega) (by omega)
  have ib := iab_b (x := b) (B := 4611686018427387903) (by omega) (by omega)
  have eb : iab b = b := by unfold iab; rw [if_pos (by omega)]
  have hg := gcS_pos 200 (iab a) (iab b) ia.1 ib.1 (Or.inr (by omega)) (Or.inr (by omega))
  have hg2 := gcS_le 200 (iab a) (iab b) 4611686018427387903 ia.1 ib.1 ia.2 ib.2
  have hg' : 0 < gdS a b ∧ gdS a b ≤ 4611686018427387903 := ⟨hg, hg2.2⟩
  have e62 : ((2 ^ 62 : Nat) : Int) = 4611686018427387904 := by decide
  unfold Mo_tells
  rw [w64_id (x := a) (by omega) (by omega), w64_id (x := b) (by omega) (by omega)]
  rw [show (if 0 ≤ a then a else -a) = iab a from rfl, show (if 0 ≤ b then b else -b) = iab b from rfl]
  rw [m_gcd 62 FU (iab a) (iab b) ia.1 (by omega) ib.1 (by omega) (by rw [e62]; omega) (by rw [FU_eq]; omega)]
  have e2 : gcS (2 * 62 + 1) (iab a) (iab b) = gdS a b := gcS_st 62 _ _ _ _ ib.1 (by rw [e62]; omega) (by omega) (by omega)
  rw [e2, w64_id (x := gdS a b) (by omega) (by omega)]
  simp (disch := omega) only [↓reduceIte, ile_t, ieq_f, Mo_is, w32_id, not_true_eq_false, Int.reduceMod]
/-- both tell the same fraction -/
theorem Rel.tell {m : Mem} (h : Rel m) (t b : Int) : Rel (st (st (st (st (st (st m 0 1 t) 0 2 b) 0 0 0) 75 2 t) 75 3 b) 75 1 0) := by
  refine h.ans ((((((((Ag.refl m).st (by decide)).st (by decide)).st (by decide)).st (by decide)).st (by decide)).st (by decide))) ?_
  exact ⟨rfl, rfl, rfl⟩
