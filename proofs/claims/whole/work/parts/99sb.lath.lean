/-! layer 2: laths, the check of all sets of ducks, the rest -/
theorem ckB_8_96 : ckB 8 96 32 = true := by decide +kernel
theorem ckB_8_128 : ckB 8 128 32 = true := by decide +kernel
theorem ckB_8_160 : ckB 8 160 32 = true := by decide +kernel
theorem ckB_8_192 : ckB 8 192 32 = true := by decide +kernel
theorem ckB_8_224 : ckB 8 224 32 = true := by decide +kernel
theorem ckB_of {P lo : Nat} : ∀ (n D : Nat), D < n → 2 ≤ pcN 10 (lo + D) → ckB P lo n = true → ckN P (lo + D) = true
  | 0, _, h, _, _ => by omega
  | n + 1, D, h, h2, hc => by
    rw [ckB, Bool.and_eq_true] at hc
    by_cases q : D = n
    · subst q
      have := hc.1
      rw [Bool.or_eq_true, decide_eq_true_eq] at this
      rcases this with z | z
      · omega
      · exact z
    · exact ckB_of n D (by omega) h2 hc.2
theorem ckB_at {P D : Nat} (lo n : Nat) (h1 : lo ≤ D) (h2 : D < lo + n) (h3 : 2 ≤ pcN 10 D) (hc : ckB P lo n = true) : ckN P D = true := by
  have e : lo + (D - lo) = D := by omega
  have := ckB_of (P := P) (lo := lo) n (D - lo) (by omega) (by rw [e]; exact h3) hc
  rw [e] at this; exact this
theorem ck_all {P D : Nat} (h1 : 1 ≤ P) (h8 : P ≤ 8) (hD : D < 2 ^ P) (h2 : 2 ≤ pcN 10 D) : ckN P D = true := by
  have : P = 1 ∨ P = 2 ∨ P = 3 ∨ P = 4 ∨ P = 5 ∨ P = 6 ∨ P = 7 ∨ P = 8 := by omega
  rcases this with e | e | e | e | e | e | e | e <;> subst e
  · have hM : D < 2 := hD
    exact ckB_at 0 2 (by omega) (by omega) h2 ckB_1_0
  · have hM : D < 4 := hD
    exact ckB_at 0 4 (by omega) (by omega) h2 ckB_2_0
  · have hM : D < 8 := hD
    exact ckB_at 0 8 (by omega) (by omega) h2 ckB_3_0
  · have hM : D < 16 := hD
    exact ckB_at 0 16 (by omega) (by omega) h2 ckB_4_0
  · have hM : D < 32 := hD
    exact ckB_at 0 32 (by omega) (by omega) h2 ckB_5_0
  · have hM : D < 64 := hD
    have : (0 ≤ D ∧ D < 32) ∨ (32 ≤ D ∧ D < 64) := by omega
    rcases this with q | q
    · exact ckB_at 0 32 (by omega) (by omega) h2 ckB_6_0
    · exact ckB_at 32 32 (by omega) (by omega) h2 ckB_6_32
  · have hM : D < 128 := hD
    have : (0 ≤ D ∧ D < 32) ∨ (32 ≤ D ∧ D < 64) ∨ (64 ≤ D ∧ D < 96) ∨ (96 ≤ D ∧ D < 128) := by omega
    rcases this with q | q | q | q
    · exact ckB_at 0 32 (by omega) (by omega) h2 ckB_7_0
    · exact ckB_at 32 32 (by omega) (by omega) h2 ckB_7_32
    · exact ckB_at 64 32 (by omega) (by omega) h2 ckB_7_64
    · exact ckB_at 96 32 (by omega) (by omega) h2 ckB_7_96
  · have hM : D < 256 := hD
    have : (0 ≤ D ∧ D < 32) ∨ (32 ≤ D ∧ D < 64) ∨ (64 ≤ D ∧ D < 96) ∨ (96 ≤ D ∧ D < 128) ∨ (128 ≤ D ∧ D < 160) ∨ (160 ≤ D ∧ D < 192) ∨ (192 ≤ D ∧ D < 224) ∨ (224 ≤ D ∧ D < 256) := by omega
    rcases this with q | q | q | q | q | q | q | q
    · exact ckB_at 0 32 (by omega) (by omega) h2 ckB_8_0
    · exact ckB_at 32 32 (by omega) (by omega) h2 ckB_8_32
    · exact ckB_at 64 32 (by omega) (by omega) h2 ckB_8_64
    · exact ckB_at 96 32 (by omega) (by omega) h2 ckB_8_96
    · exact ckB_at 128 32 (by omega) (by omega) h2 ckB_8_128
    · exact ckB_at 160 32 (by omega) (by omega) h2 ckB_8_160
    · exact ckB_at 192 32 (by omega) (by omega) h2 ckB_8_192
    · exact ckB_at 224 32 (by omega) (by omega) h2 ckB_8_224
