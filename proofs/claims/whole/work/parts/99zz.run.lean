/-! layer 2: run, which blocks are open, and how long it can go on -/
theorem wyF {m : Mem} (h : WyR m 11 0) : m 76 14 = m 11 0 ∧ 0 ≤ m 11 0 ∧ m 11 0 ≤ 60 ∧ ∀ k, 0 ≤ k → k < m 11 0 →
    (0 ≤ m 12 k ∧ m 12 k ≤ 7 ∧ m 76 (208 + 6 * k) = (if m 12 k = 0 then 10 else m 12 k + 2))
    ∧ ((m 12 k = 1 ∨ m 12 k = 6) → m 13 k = m 76 (208 + 6 * k + 1) ∧ 1 ≤ m 13 k ∧ m 13 k ≤ 60 ∧ (m 12 k = 6 → m 13 k ≤ 9))
    ∧ ((m 12 k = 2 ∨ m 12 k = 3 ∨ m 12 k = 4) → m 13 k = 8 * m 76 (208 + 6 * k + 1) + m 76 (208 + 6 * k + 2) ∧ 0 ≤ m 76 (208 + 6 * k + 1) ∧ m 76 (208 + 6 * k + 1) ≤ 7 ∧ 0 ≤ m 76 (208 + 6 * k + 2) ∧ m 76 (208 + 6 * k + 2) ≤ 5)
    ∧ (m 12 k = 2 → m 14 k = m 76 (208 + 6 * k + 3) ∧ 0 ≤ m 14 k ∧ m 14 k ≤ 999)
    ∧ (m 12 k = 5 → m 13 k = 16 * m 76 (208 + 6 * k + 1) + m 76 (208 + 6 * k + 2) ∧ 0 ≤ m 76 (208 + 6 * k + 1) ∧ m 76 (208 + 6 * k + 1) ≤ 2 ∧ 0 ≤ m 76 (208 + 6 * k + 2) ∧ m 76 (208 + 6 * k + 2) ≤ 12 ∧ m 14 k = m 76 (208 + 6 * k + 4) ∧ 0 ≤ m 14 k ∧ m 14 k < 256 ∧ 2 ≤ J_bitCount (m 14 k))
    ∧ (m 12 k = 0 → m 15 k = m 76 (208 + 6 * k + 5) ∧ 0 ≤ m 15 k ∧ m 15 k < k ∧ (m 12 (m 15 k) = 6 ∨ m 12 (m 15 k) = 7) ∧ m 15 (m 15 k) = k)
    ∧ ((m 12 k = 6 ∨ m 12 k = 7) → m 15 k = m 76 (208 + 6 * k + 5) ∧ k < m 15 k ∧ m 15 k < m 11 0 ∧ m 12 (m 15 k) = 0 ∧ m 15 (m 15 k) = k ∧ ∀ j, k < j → j < m 15 k → (m 12 j = 6 ∨ m 12 j = 7) → m 15 j < m 15 k) := h
def actB (m : Mem) (o x : Int) : Bool := (decide (m 12 o = 6) || decide (m 12 o = 7)) && decide (o < x) && decide (x ≤ m 15 o)
theorem actB_t {m : Mem} {o x : Int} : actB m o x = true ↔ (m 12 o = 6 ∨ m 12 o = 7) ∧ o < x ∧ x ≤ m 15 o := by
  unfold actB
  simp only [Bool.and_eq_true, Bool.or_eq_true, decide_eq_true_eq]
  constructor
  · intro ⟨⟨a, b⟩, c⟩; exact ⟨a, b, c⟩
  · intro ⟨a, b, c⟩; exact ⟨⟨a, b⟩, c⟩
theorem act_iff {m : Mem} {o x x' : Int} (h : ((m 12 o = 6 ∨ m 12 o = 7) ∧ o < x ∧ x ≤ m 15 o) ↔ ((m 12 o = 6 ∨ m 12 o = 7) ∧ o < x' ∧ x' ≤ m 15 o)) : actB m o x = actB m o x' := by
  rw [Bool.eq_iff_iff, actB_t, actB_t]; exact h
/-- a plain step on -/
theorem act_1 {m : Mem} (hw : WyR m 11 0) {x o : Int} (x0 : 0 ≤ x) (x1 : x < m 11 0) (hk : m 12 x ≠ 0 ∧ m 12 x ≠ 6 ∧ m 12 x ≠ 7) (o0 : 0 ≤ o) : actB m o (x + 1) = actB m o x := by
  have hf := (wyF hw).2.2.2
  apply act_iff
  constructor
  · intro ⟨a, b, c⟩
    have : o ≠ x := fun e => by rw [e] at a; omega
    exact ⟨a, by omega, by omega⟩
  · intro ⟨a, b, c⟩
    have q := (hf o o0 (by omega)).2.2.2.2.2.2 a
    have : m 15 o ≠ x := fun e => by rw [e] at q; omega
    exact ⟨a, by omega, by omega⟩
/-- into a block: the others as before -/
theorem act_in {m : Mem} (hw : WyR m 11 0) {x o : Int} (x0 : 0 ≤ x) (x1 : x < m 11 0) (hk : m 12 x = 6 ∨ m 12 x = 7) (o0 : 0 ≤ o) (hne : o ≠ x) : actB m o (x + 1) = actB m o x := by
  have hf := (wyF hw).2.2.2
  apply act_iff
  constructor
  · intro ⟨a, b, c⟩
    exact ⟨a, by omega, by omega⟩
  · intro ⟨a, b, c⟩
    have q := (hf o o0 (by omega)).2.2.2.2.2.2 a
    have : m 15 o ≠ x := fun e => by rw [e] at q; omega
    exact ⟨a, by omega, by omega⟩
/-- past a block -/
theorem act_skip {m : Mem} (hw : WyR m 11 0) {x o : Int} (x0 : 0 ≤ x) (x1 : x < m 11 0) (hk : m 12 x = 6 ∨ m 12 x = 7) (o0 : 0 ≤ o) : actB m o (m 15 x + 1) = actB m o x := by
  have hf := (wyF hw).2.2.2
  have qx := (hf x x0 x1).2.2.2.2.2.2 hk
  apply act_iff
  constructor
  · intro ⟨a, b, c⟩
    have h1 : o ≠ x := fun e => by rw [e] at c; omega
    have h2 : o ≠ m 15 x := fun e => by rw [e] at a; omega
    by_cases y : o < x
    · exact ⟨a, y, by omega⟩
    · have := qx.2.2.2.2.2 o (by omega) (by omega) a
      omega
  · intro ⟨a, b, c⟩
    have q := (hf o o0 (by omega)).2.2.2.2.2.2 a
    have hne : x ≠ m 15 o := fun e => by
      have := q.2.2.2.1
      rw [← e] at this
      omega
    have := q.2.2.2.2.2 x b (by omega) hk
    exact ⟨a, by omega, by omega⟩
/-- out of a block at its end -/
theorem act_out {m : Mem} (hw : WyR m 11 0) {x o : Int} (x0 : 0 ≤ x) (x1 : x < m 11 0) (hk : m 12 x = 0) (o0 : 0 ≤ o) (hne : o ≠ m 15 x) : actB m o (x + 1) = actB m o x := by
  have hf := (wyF hw).2.2.2
  apply act_iff
  constructor
  · intro ⟨a, b, c⟩
    have : o ≠ x := fun e => by rw [e] at a; omega
    exact ⟨a, by omega, by omega⟩
  · intro ⟨a, b, c⟩
    have q := (hf o o0 (by omega)).2.2.2.2.2.2 a
    have : m 15 o ≠ x := fun e => by
      have := q.2.2.2.2.1
      rw [e] at this
      exact hne this.symm
    exact ⟨a, by omega, by omega⟩
theorem act_out0 {m : Mem} (hw : WyR m 11 0) {x : Int} (x0 : 0 ≤ x) (x1 : x < m 11 0) (hk : m 12 x = 0) : actB m (m 15 x) (x + 1) = false ∧ actB m (m 15 x) x = true := by
  have q := ((wyF hw).2.2.2 x x0 x1).2.2.2.2.2.1 hk
  constructor
  · rw [Bool.eq_false_iff]
    intro z
    have := actB_t.mp z
    omega
  · exact actB_t.mpr ⟨q.2.2.2.1, q.2.2.1, by omega⟩
/-- back to a block's beginning -/
theorem act_back {m : Mem} (hw : WyR m 11 0) {x o : Int} (x0 : 0 ≤ x) (x1 : x < m 11 0) (hk : m 12 x = 0) (o0 : 0 ≤ o) : actB m o (m 15 x + 1) = actB m o x := by
  have hf := (wyF hw).2.2.2
  have q := (hf x x0 x1).2.2.2.2.2.1 hk
  have qs := (hf (m 15 x) q.2.1 (by omega)).2.2.2.2.2.2 q.2.2.2.1
  rw [q.2.2.2.2] at qs
  apply act_iff
  constructor
  · intro ⟨a, b, c⟩
    have qo := (hf o o0 (by omega)).2.2.2.2.2.2 a
    by_cases y : o = m 15 x
    · exact ⟨a, by omega, by rw [y, q.2.2.2.2]; omega⟩
    · by_cases w : m 15 x = m 15 o
      · have e1 := qo.2.2.2.1
        rw [← w] at e1
        omega
      · have := qo.2.2.2.2.2 (m 15 x) (by omega) (by omega) q.2.2.2.1
        rw [q.2.2.2.2] at this
        exact ⟨a, by omega, by omega⟩
  · intro ⟨a, b, c⟩
    by_cases y : o ≤ m 15 x
    · exact ⟨a, by omega, by omega⟩
    · have := qs.2.2.2.2.2 o (by omega) b a
      omega
theorem su_upd {g g' : Int → Int} {o0 : Int} : ∀ (k : Nat) (a : Int), a ≤ o0 → o0 < a + k → (∀ x, a ≤ x → x < a + k → x ≠ o0 → g x = g' x) → suS g k a = suS g' k a + (g o0 - g' o0)
  | 0, a, h1, h2, _ => by omega
  | k + 1, a, h1, h2, h3 => by
    rw [suS_succ, suS_succ]
    by_cases q : a = o0
    · subst q
      rw [suS_congr (g := g) (g' := g') k (a + 1) (fun x x0 x1 => h3 x (by omega) (by omega) (by omega))]
      omega
    · rw [su_upd k (a + 1) (by omega) (by omega) (fun x x0 x1 x2 => h3 x (by omega) (by omega) x2), h3 a (by omega) (by omega) q]
      omega
noncomputable def pot (m : Mem) (L : Int → Int) (x : Int) : Int := suS (fun o => if actB m o x then 1 + L o else 0) 60 0
theorem pot_c {m : Mem} {L L' : Int → Int} {x x' : Int} (h : ∀ o, 0 ≤ o → o < 60 → actB m o x' = actB m o x ∧ (actB m o x = true → L' o = L o)) : pot m L' x' = pot m L x := by
  unfold pot
  refine suS_congr 60 0 (fun o o0 o1 => ?_)
  have q := h o o0 (by omega)
  show (if actB m o x' then 1 + L' o else 0) = if actB m o x then 1 + L o else 0
  rw [q.1]
  by_cases y : actB m o x = true
  · rw [if_pos y, if_pos y, q.2 y]
  · rw [if_neg y, if_neg y]
theorem pot_u {m : Mem} {L L' : Int → Int} {x x' o0 : Int} (h0 : 0 ≤ o0) (h1 : o0 < 60) (h : ∀ o, 0 ≤ o → o < 60 → o ≠ o0 → actB m o x' = actB m o x ∧ (actB m o x = true → L' o = L o)) : pot m L' x' = pot m L x + ((if actB m o0 x' then 1 + L' o0 else 0) - (if actB m o0 x then 1 + L o0 else 0)) := by
  unfold pot
  refine su_upd (o0 := o0) (g := fun o => if actB m o x' then 1 + L' o else 0) (g' := fun o => if actB m o x then 1 + L o else 0) 60 0 h0 (by omega) (fun o o0' o1 o2 => ?_)
  have q := h o o0' (by omega) o2
  show (if actB m o x' then 1 + L' o else 0) = if actB m o x then 1 + L o else 0
  rw [q.1]
  by_cases y : actB m o x = true
  · rw [if_pos y, if_pos y, q.2 y]
  · rw [if_neg y, if_neg y]
theorem pot_0 {m : Mem} {L : Int → Int} {x : Int} (h : ∀ o, 0 ≤ o → o < 60 → actB m o x = true → 0 ≤ L o ∧ L o ≤ 8) : 0 ≤ pot m L x := by
  unfold pot
  refine (suS_b (B := 9) 60 0 (fun o o0 o1 => ?_)).1
  show 0 ≤ (if actB m o x then 1 + L o else 0) ∧ (if actB m o x then 1 + L o else 0) ≤ 9
  by_cases y : actB m o x = true
  · have := h o o0 (by omega) y
    rw [if_pos y]; omega
  · rw [if_neg y]; omega
theorem pot_z (m : Mem) (L : Int → Int) : pot m L 0 = 0 := by
  have e : pot m L 0 = suS (fun _ => 0) 60 0 := by
    unfold pot
    refine suS_congr 60 0 (fun o o0 o1 => ?_)
    show (if actB m o 0 then 1 + L o else 0) = 0
    rw [if_neg (fun z => by have := actB_t.mp z; omega)]
  rw [e]
  decide +kernel
