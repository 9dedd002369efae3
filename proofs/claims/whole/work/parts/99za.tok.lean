/-! layer 2: tokens -/
def blB (x : Int) : Bool := decide (x = 10) || decide (x = 32)
def smB (x : Int) : Bool := decide (97 ≤ x) && decide (x ≤ 122)
def dgB (x : Int) : Bool := decide (48 ≤ x) && decide (x ≤ 57)
theorem blB_t {x : Int} : blB x = true ↔ x = 10 ∨ x = 32 := by unfold blB; simp
theorem smB_t {x : Int} : smB x = true ↔ 97 ≤ x ∧ x ≤ 122 := by unfold smB; simp
theorem dgB_t {x : Int} : dgB x = true ↔ 48 ≤ x ∧ x ≤ 57 := by unfold dgB; simp
/-- the end of a run of bytes -/
def ruN (f : Int → Bool) (B : Nat → Int) : Nat → Nat → Nat
  | 0, p => p
  | k + 1, p => if f (B p) then ruN f B k (p + 1) else p
theorem ruN_s (f : Int → Bool) (B : Nat → Int) (k p : Nat) : ruN f B (k + 1) p = if f (B p) then ruN f B k (p + 1) else p := rfl
theorem ruN_b {f : Int → Bool} {B : Nat → Int} : ∀ (k p : Nat), p ≤ ruN f B k p ∧ ruN f B k p ≤ p + k
  | 0, p => ⟨Nat.le_refl _, Nat.le_refl _⟩
  | k + 1, p => by
    rw [ruN_s]
    have := ruN_b (f := f) (B := B) k (p + 1)
    split <;> omega
theorem ruN_in {f : Int → Bool} {B : Nat → Int} : ∀ (k p i : Nat), p ≤ i → i < ruN f B k p → f (B i) = true
  | 0, p, i, h1, h2 => by unfold ruN at h2; omega
  | k + 1, p, i, h1, h2 => by
    rw [ruN_s] at h2
    by_cases q : f (B p) = true
    · rw [if_pos q] at h2
      by_cases z : i = p
      · subst z; exact q
      · exact ruN_in k (p + 1) i (by omega) h2
    · rw [if_neg q] at h2; omega
theorem ruN_end {f : Int → Bool} {B : Nat → Int} : ∀ (k p : Nat), ruN f B k p < p + k → ¬ f (B (ruN f B k p)) = true
  | 0, p, h => by unfold ruN at h; omega
  | k + 1, p, h => by
    rw [ruN_s] at h ⊢
    by_cases q : f (B p) = true
    · rw [if_pos q] at h ⊢
      exact ruN_end k (p + 1) (by omega)
    · rw [if_neg q]; exact q
def tkS (B : Nat → Int) (n p : Nat) : Nat := ruN blB B (n - p) p
def tkE (B : Nat → Int) (n s : Nat) : Nat := if n ≤ s then s else if smB (B s) then ruN smB B (n - s) s else if dgB (B s) then ruN dgB B (n - s) s else if B s = 59 then s + 1 else s
/-- the class's kinds: 0 the end, 1 a word, 2 a number, 3 the sign, 4 none -/
def tkK (B : Nat → Int) (n s : Nat) : Int := if n ≤ s then 0 else if smB (B s) then 1 else if dgB (B s) then (if tkE B n s - s ≤ 3 then 2 else 4) else if B s = 59 then 3 else 4
def dgN (B : Nat → Int) (s : Nat) : Nat → Int
  | 0 => 0
  | k + 1 => dgN B s k * 10 + B (s + k) - 48
def tkV (B : Nat → Int) (n s : Nat) : Int := dgN B s (tkE B n s - s)
def cgN (cap : Int) (B : Nat → Int) (s : Nat) : Nat → Int
  | 0 => 0
  | k + 1 => if cgN cap B s k * 10 + B (s + k) - 48 < cap then cgN cap B s k * 10 + B (s + k) - 48 else cap
theorem cgN_b {cap : Int} {B : Nat → Int} {s : Nat} (hc : 999 < cap) : ∀ (k : Nat), (∀ i, i < k → 48 ≤ B (s + i) ∧ B (s + i) ≤ 57) → 0 ≤ cgN cap B s k ∧ cgN cap B s k ≤ cap
  | 0, _ => by unfold cgN; omega
  | k + 1, h => by
    have := cgN_b hc k (fun i hi => h i (by omega))
    have b := h k (by omega)
    unfold cgN
    split <;> omega
theorem dgN_b {B : Nat → Int} {s : Nat} : ∀ (k : Nat), k ≤ 3 → (∀ i, i < k → 48 ≤ B (s + i) ∧ B (s + i) ≤ 57) → 0 ≤ dgN B s k ∧ dgN B s k < ((10 ^ k : Nat) : Int)
  | 0, _, _ => by unfold dgN; decide
  | k + 1, hk, h => by
    have := dgN_b k (by omega) (fun i hi => h i (by omega))
    have b := h k (by omega)
    unfold dgN
    rw [Nat.pow_succ]
    omega
theorem cgN_d {cap : Int} {B : Nat → Int} {s : Nat} (hc : 999 < cap) : ∀ (k : Nat), k ≤ 3 → (∀ i, i < k → 48 ≤ B (s + i) ∧ B (s + i) ≤ 57) → cgN cap B s k = dgN B s k
  | 0, _, _ => rfl
  | k + 1, hk, h => by
    have ih := cgN_d hc k (by omega) (fun i hi => h i (by omega))
    have b := dgN_b (k + 1) hk h
    have e : (10 : Nat) ^ (k + 1) ≤ 10 ^ 3 := Nat.pow_le_pow_right (by decide) hk
    have e3 : (10 : Nat) ^ 3 = 1000 := by decide
    unfold dgN at b
    unfold cgN
    rw [ih, if_pos (by omega)]
    rfl
theorem tkS_b (B : Nat → Int) {n p : Nat} (h : p ≤ n) : p ≤ tkS B n p ∧ tkS B n p ≤ n := by
  have := ruN_b (f := blB) (B := B) (n - p) p
  unfold tkS; omega
theorem tkE_b (B : Nat → Int) {n s : Nat} (h : s ≤ n) : s ≤ tkE B n s ∧ tkE B n s ≤ n := by
  have h1 := ruN_b (f := smB) (B := B) (n - s) s
  have h2 := ruN_b (f := dgB) (B := B) (n - s) s
  unfold tkE
  split
  · omega
  · split
    · omega
    · split
      · omega
      · split <;> omega
/-- a token that is one, goes on by a byte at least -/
theorem tkE_gt (B : Nat → Int) {n s : Nat} (h : tkK B n s = 1 ∨ tkK B n s = 2 ∨ tkK B n s = 3) : s < tkE B n s ∧ s < n := by
  unfold tkK at h
  by_cases q : n ≤ s
  · rw [if_pos q] at h; omega
  · rw [if_neg q] at h
    refine ⟨?_, by omega⟩
    unfold tkE
    rw [if_neg q]
    obtain ⟨k, ek⟩ : ∃ k, n - s = k + 1 := ⟨n - s - 1, by omega⟩
    by_cases q1 : smB (B s) = true
    · rw [if_pos q1, ek, ruN_s, if_pos q1]
      have := ruN_b (f := smB) (B := B) k (s + 1)
      omega
    · rw [if_neg q1] at h ⊢
      by_cases q2 : dgB (B s) = true
      · rw [if_pos q2, ek, ruN_s, if_pos q2]
        have := ruN_b (f := dgB) (B := B) k (s + 1)
        omega
      · rw [if_neg q2] at h ⊢
        by_cases q3 : B s = 59
        · rw [if_pos q3]; omega
        · rw [if_neg q3] at h; omega
theorem tkV_b {B : Nat → Int} {n s : Nat} (h : tkK B n s = 2) : 0 ≤ tkV B n s ∧ tkV B n s ≤ 999 := by
  unfold tkK at h
  by_cases q : n ≤ s
  · rw [if_pos q] at h; omega
  · rw [if_neg q] at h
    by_cases q1 : smB (B s) = true
    · rw [if_pos q1] at h; omega
    · rw [if_neg q1] at h
      by_cases q2 : dgB (B s) = true
      · rw [if_pos q2] at h
        by_cases q3 : tkE B n s - s ≤ 3
        · have e : tkE B n s = ruN dgB B (n - s) s := by unfold tkE; rw [if_neg q, if_neg q1, if_pos q2]
          have := dgN_b (B := B) (s := s) (tkE B n s - s) q3 (fun i hi => dgB_t.mp (ruN_in (n - s) s (s + i) (by omega) (by rw [← e]; omega)))
          have e1 : (10 : Nat) ^ (tkE B n s - s) ≤ 10 ^ 3 := Nat.pow_le_pow_right (by decide) q3
          have e3 : (10 : Nat) ^ 3 = 1000 := by decide
          unfold tkV; omega
        · rw [if_neg q3] at h; omega
      · rw [if_neg q2] at h; split at h <;> omega
/-! the class -/
def TpC (B : Nat → Int) (n : Nat) (m : Mem) : Prop := m 5 2 = (n : Int) ∧ n ≤ 600 ∧ ∀ i : Nat, i < n → m 6 (i : Int) = B i ∧ 0 ≤ B i ∧ B i ≤ 255
def kdN (x : Int) : Int := if smB x then 1 else if dgB x then 2 else if blB x then 5 else if x = 59 then 3 else 4
theorem c_kd {m : Mem} {p : Int} {x : Int} (h0 : 0 ≤ p) (h1 : p < 600) (e : m 6 p = x) (x0 : 0 ≤ x) (x1 : x ≤ 255) : Tape_kindAt p m = kdN x := by
  have ew : w32 p = p := w32_id (by omega) (by omega)
  have ex : w32 x = x := w32_id (by omega) (by omega)
  have eb : (if w32 p < 0 then 0 else (if 600 ≤ w32 p then 0 else m 6 (w32 p) : Int) : Int) = x := by
    rw [ew, if_neg (by omega), if_neg (by omega), e]
  unfold Tape_kindAt kdN
  simp only [eb, ex]
  by_cases s : smB x = true
  · have := smB_t.mp s
    rw [if_pos s, if_neg (by omega), if_neg (by omega)]
  · have s' : ¬ (97 ≤ x ∧ x ≤ 122) := fun z => s (smB_t.mpr z)
    rw [if_neg s]
    by_cases d : dgB x = true
    · have := dgB_t.mp d
      rw [if_pos d, if_pos (by omega), if_neg (by omega), if_neg (by omega)]
    · have d' : ¬ (48 ≤ x ∧ x ≤ 57) := fun z => d (dgB_t.mpr z)
      rw [if_neg d]
      have fin : (if x = 10 then 5 else (if ¬ x = 32 then (if ¬ x = 59 then 4 else 3 : Int) else 5) : Int) = if blB x = true then 5 else if x = 59 then 3 else 4 := by
        by_cases b : blB x = true
        · rw [if_pos b]
          rcases blB_t.mp b with z | z
          · rw [if_pos z]
          · rw [if_neg (by omega), if_neg (by omega)]
        · have b' : ¬ (x = 10 ∨ x = 32) := fun z => b (blB_t.mpr z)
          rw [if_neg b, if_neg (by omega), if_pos (by omega)]
          by_cases z : x = 59
          · rw [if_neg (by omega), if_pos z]
          · rw [if_pos z, if_neg z]
      by_cases a : x < 97
      · rw [if_pos a]
        by_cases a2 : x < 48
        · rw [if_pos a2]; exact fin
        · rw [if_neg a2, if_pos (by omega)]; exact fin
      · rw [if_neg a, if_pos (by omega)]
        by_cases a2 : x < 48
        · omega
        · rw [if_neg a2, if_pos (by omega)]; exact fin
theorem kdN_w (x : Int) : w32 (kdN x) = kdN x := by
  unfold kdN
  split
  · rfl
  · split
    · rfl
    · split
      · rfl
      · split <;> rfl
theorem c_kind {m : Mem} {p : Int} {x : Int} (h0 : 0 ≤ p) (h1 : p < 600) (e : m 6 p = x) (x0 : 0 ≤ x) (x1 : x ≤ 255) : w32 (Tape_kindAt p m) = kdN x := by
  rw [c_kd h0 h1 e x0 x1, kdN_w]
theorem kdN_5 {x : Int} : kdN x = 5 ↔ blB x = true := by
  unfold kdN
  by_cases b : blB x = true
  · have hb := blB_t.mp b
    have h1 : ¬ smB x = true := fun z => by have := smB_t.mp z; omega
    have h2 : ¬ dgB x = true := fun z => by have := dgB_t.mp z; omega
    rw [if_neg h1, if_neg h2, if_pos b]; simp [b]
  · rw [if_neg b]
    constructor
    · intro h; split at h
      · omega
      · split at h
        · omega
        · split at h <;> omega
    · intro h; exact absurd h b
theorem kdN_1 {x : Int} : kdN x = 1 ↔ smB x = true := by
  unfold kdN
  by_cases b : smB x = true
  · rw [if_pos b]; simp [b]
  · rw [if_neg b]
    constructor
    · intro h; split at h
      · omega
      · split at h
        · omega
        · split at h <;> omega
    · intro h; exact absurd h b
theorem kdN_2 {x : Int} : kdN x = 2 ↔ dgB x = true := by
  unfold kdN
  by_cases b : dgB x = true
  · have hb := dgB_t.mp b
    have h1 : ¬ smB x = true := fun z => by have := smB_t.mp z; omega
    rw [if_neg h1, if_pos b]; simp [b]
  · rw [if_neg b]
    constructor
    · intro h; split at h
      · omega
      · split at h
        · omega
        · split at h <;> omega
    · intro h; exact absurd h b
