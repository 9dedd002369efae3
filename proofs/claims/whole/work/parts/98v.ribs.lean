/-! layer 2: ribs, sets of trees -/
def pcN : Nat → Nat → Nat
  | 0, _ => 0
  | k + 1, u => u % 2 + pcN k (u / 2)
theorem rbC : ∀ u : Fin 1024, J_bitCount (u.val : Int) = (pcN 10 u.val : Int) := by decide +kernel
theorem rbO : ∀ (u : Fin 1024) (t : Fin 10), (u.val / 2 ^ t.val) % 2 = 0 → bOr (u.val : Int) (bShl 1 (t.val : Int)) = ((u.val + 2 ^ t.val : Nat) : Int) := by decide +kernel
theorem rbP : ∀ (u : Fin 1024) (t : Fin 10), (u.val / 2 ^ t.val) % 2 = 0 → pcN 10 (u.val + 2 ^ t.val) = pcN 10 u.val + 1 := by decide +kernel
theorem rbL : ∀ (n : Fin 11) (u : Fin 1024), u.val < 2 ^ n.val → ∀ t : Fin 10, t.val < n.val → (u.val / 2 ^ t.val) % 2 = 0 → u.val + 2 ^ t.val < 2 ^ n.val := by decide +kernel
theorem rbE : ∀ (n : Fin 11) (u : Fin 1024), u.val < 2 ^ n.val → pcN 10 u.val < n.val → ∃ t : Fin 10, t.val < n.val ∧ (u.val / 2 ^ t.val) % 2 = 0 := by decide +kernel
def Fz (u t : Nat) : Prop := (u / 2 ^ t) % 2 = 0
def In2 (u n : Nat) : Prop := u < 2 ^ n
theorem in2_1024 {u n : Nat} (hn : n ≤ 10) (h : In2 u n) : u < 1024 := by
  have : 2 ^ n ≤ 2 ^ 10 := Nat.pow_le_pow_right (by decide) hn
  have e : 2 ^ 10 = 1024 := by decide
  unfold In2 at h; omega
def up (u t : Nat) : Nat := u + 2 ^ t
theorem up_or {u t : Nat} (hu : u < 1024) (ht : t < 10) (h : Fz u t) : bOr (u : Int) (bShl 1 (t : Int)) = (up u t : Int) := rbO ⟨u, hu⟩ ⟨t, ht⟩ h
theorem up_pc {u t : Nat} (hu : u < 1024) (ht : t < 10) (h : Fz u t) : pcN 10 (up u t) = pcN 10 u + 1 := rbP ⟨u, hu⟩ ⟨t, ht⟩ h
theorem up_in {u t n : Nat} (hn : n ≤ 10) (hu : In2 u n) (ht : t < n) (h : Fz u t) : In2 (up u t) n := rbL ⟨n, by omega⟩ ⟨u, in2_1024 hn hu⟩ hu ⟨t, by omega⟩ ht h
theorem up_gt (u t : Nat) : u < up u t := by
  have : 0 < 2 ^ t := Nat.pow_pos (by decide)
  unfold up; omega
theorem up_ex {u n : Nat} (hn : n ≤ 10) (hu : In2 u n) (h : pcN 10 u < n) : ∃ t, t < n ∧ Fz u t := by
  obtain ⟨t, h1, h2⟩ := rbE ⟨n, by omega⟩ ⟨u, in2_1024 hn hu⟩ hu h
  exact ⟨t.val, h1, h2⟩
theorem bitN {u t : Nat} (hu : u < 1024) (ht : t < 31) : bAnd (bShr (u : Int) (t : Int)) 1 = ((u / 2 ^ t % 2 : Nat) : Int) := by
  rw [bAnd_1, bShr_nn (by omega) (by omega) (by omega) (by omega)]
  have e : (t : Int).toNat = t := by omega
  rw [e]
  rfl
theorem bitZ {u t : Nat} (hu : u < 1024) (ht : t < 31) (h : Fz u t) : w32 (bAnd (bShr (u : Int) (t : Int)) 1) = 0 := by
  have h' : u / 2 ^ t % 2 = 0 := h
  rw [(bit01 _ _).1, bitN hu ht, h']; rfl
theorem bitO {u t : Nat} (hu : u < 1024) (ht : t < 31) (h : ¬ Fz u t) : w32 (bAnd (bShr (u : Int) (t : Int)) 1) = 1 := by
  have h' : ¬ u / 2 ^ t % 2 = 0 := h
  have h2 : u / 2 ^ t % 2 = 1 := by
    have := Nat.mod_lt (u / 2 ^ t) (show 0 < 2 by decide)
    generalize u / 2 ^ t % 2 = x at *
    omega
  rw [(bit01 _ _).1, bitN hu ht, h2]; rfl
def fzB (u t : Nat) : Bool := decide ((u / 2 ^ t) % 2 = 0)
theorem fzB_t {u t : Nat} : fzB u t = true ↔ Fz u t := by unfold fzB Fz; simp
/-- the least over trees that are free -/
def mnS (u : Nat) (f : Nat → Int) : Nat → Nat → Int → Int
  | 0, _, x => x
  | k + 1, t, x => mnS u f k (t + 1) (if fzB u t then (if f t < x then f t else x) else x)
theorem mnS_s (u : Nat) (f : Nat → Int) (k t : Nat) (x : Int) : mnS u f (k + 1) t x = mnS u f k (t + 1) (if fzB u t then (if f t < x then f t else x) else x) := rfl
theorem mnS_c {u : Nat} {f f' : Nat → Int} : ∀ (k t : Nat) (x : Int), (∀ y, t ≤ y → y < t + k → Fz u y → f y = f' y) → mnS u f k t x = mnS u f' k t x
  | 0, _, _, _ => rfl
  | k + 1, t, x, h => by
    rw [mnS_s, mnS_s, mnS_c k (t + 1) _ (fun y a b c => h y (by omega) (by omega) c)]
    by_cases q : fzB u t = true
    · rw [if_pos q, if_pos q, h t (by omega) (by omega) (fzB_t.mp q)]
    · rw [if_neg q, if_neg q]
theorem mnS_b {u : Nat} {f : Nat → Int} {B : Int} : ∀ (k t : Nat) (x : Int), (∀ y, t ≤ y → y < t + k → Fz u y → 0 ≤ f y) → 0 ≤ x → x ≤ B → 0 ≤ mnS u f k t x ∧ mnS u f k t x ≤ B
  | 0, _, _, _, h0, h1 => ⟨h0, h1⟩
  | k + 1, t, x, h, h0, h1 => by
    rw [mnS_s]
    refine mnS_b k (t + 1) _ (fun y a b c => h y (by omega) (by omega) c) ?_ ?_
    · by_cases q : fzB u t = true
      · have := h t (by omega) (by omega) (fzB_t.mp q)
        rw [if_pos q]; split <;> omega
      · rw [if_neg q]; exact h0
    · by_cases q : fzB u t = true
      · rw [if_pos q]; split <;> omega
      · rw [if_neg q]; exact h1
/-- two beginnings, both above all, end alike; and the least is met -/
theorem mnS_e {u : Nat} {f : Nat → Int} {B : Int} : ∀ (k t : Nat) (x x' : Int), (∀ y, t ≤ y → y < t + k → Fz u y → 0 ≤ f y ∧ f y ≤ B) → (∃ y, t ≤ y ∧ y < t + k ∧ Fz u y) → B ≤ x → B ≤ x' → mnS u f k t x = mnS u f k t x' ∧ (0 ≤ mnS u f k t x ∧ mnS u f k t x ≤ B)
  | 0, t, x, x', _, h2, _, _ => by obtain ⟨y, a, b, _⟩ := h2; omega
  | k + 1, t, x, x', h, h2, hx, hx' => by
    rw [mnS_s, mnS_s]
    by_cases q : fzB u t = true
    · have b := h t (by omega) (by omega) (fzB_t.mp q)
      have e1 : (if f t < x then f t else x) = f t := by split <;> omega
      have e2 : (if f t < x' then f t else x') = f t := by split <;> omega
      rw [if_pos q, if_pos q, e1, e2]
      exact ⟨rfl, mnS_b k (t + 1) _ (fun y a b c => (h y (by omega) (by omega) c).1) b.1 b.2⟩
    · rw [if_neg q, if_neg q]
      refine mnS_e k (t + 1) x x' (fun y a b c => h y (by omega) (by omega) c) ?_ hx hx'
      obtain ⟨y, a, b, c⟩ := h2
      by_cases z : y = t
      · subst z; exact absurd (fzB_t.mpr c) q
      · exact ⟨y, by omega, by omega, c⟩
theorem mnS_m {u : Nat} {f : Nat → Int} : ∀ (k t : Nat) (x : Int), mnS u f k t x = x ∨ ∃ y, t ≤ y ∧ y < t + k ∧ Fz u y ∧ f y = mnS u f k t x
  | 0, _, _ => Or.inl rfl
  | k + 1, t, x => by
    rw [mnS_s]
    by_cases q : fzB u t = true
    · rw [if_pos q]
      rcases mnS_m k (t + 1) (if f t < x then f t else x) with z | ⟨y, a, b, c, d⟩
      · by_cases w : f t < x
        · rw [if_pos w] at z ⊢
          exact Or.inr ⟨t, by omega, by omega, fzB_t.mp q, z.symm⟩
        · rw [if_neg w] at z ⊢
          exact Or.inl z
      · exact Or.inr ⟨y, by omega, by omega, c, d⟩
    · rw [if_neg q]
      rcases mnS_m k (t + 1) x with z | ⟨y, a, b, c, d⟩
      · exact Or.inl z
      · exact Or.inr ⟨y, by omega, by omega, c, d⟩
/-- the least cost of all stations from s on -/
def rcS (x0 : Int) (g : Nat → Nat → Int) (many : Nat) : Nat → Nat → Nat → Int
  | 0, _, _ => 0
  | d + 1, s, u => mnS u (fun t => g s t + rcS x0 g many d (s + 1) (up u t)) many 0 x0
theorem rcS_s (x0 : Int) (g : Nat → Nat → Int) (many d s u : Nat) : rcS x0 g many (d + 1) s u = mnS u (fun t => g s t + rcS x0 g many d (s + 1) (up u t)) many 0 x0 := rfl
theorem rcS_b {x0 : Int} {g : Nat → Nat → Int} {many : Nat} (hg : ∀ s t, 0 ≤ g s t) (hx : 0 ≤ x0) : ∀ (d s u : Nat), 0 ≤ rcS x0 g many d s u ∧ rcS x0 g many d s u ≤ x0
  | 0, _, _ => ⟨Int.le_refl _, hx⟩
  | d + 1, s, u => by
    rw [rcS_s]
    refine mnS_b _ _ _ (fun y _ _ _ => ?_) hx (Int.le_refl _)
    have h1 := hg s y
    have h2 := rcS_b (many := many) hg hx d (s + 1) (up u y)
    show 0 ≤ g s y + _
    omega
theorem rcS_e {x0 x1 : Int} {g : Nat → Nat → Int} {many n : Nat} (hm : many ≤ 10) (hnm : n ≤ many) (hn8 : n ≤ 8) (hg : ∀ s t, s < n → t < many → 0 ≤ g s t ∧ g s t ≤ 20000) (h0 : 200000 ≤ x0) (h1 : 200000 ≤ x1) : ∀ (d s u : Nat), s + d = n → pcN 10 u = s → In2 u many → rcS x0 g many d s u = rcS x1 g many d s u ∧ 0 ≤ rcS x0 g many d s u ∧ rcS x0 g many d s u ≤ 20000 * d
  | 0, _, _, _, _, _ => ⟨rfl, Int.le_refl _, by show (0 : Int) ≤ _; omega⟩
  | d + 1, s, u, hs, hp, hu => by
    rw [rcS_s, rcS_s]
    have hu' := in2_1024 hm hu
    have ih : ∀ y, y < many → Fz u y → rcS x0 g many d (s + 1) (up u y) = rcS x1 g many d (s + 1) (up u y) ∧ 0 ≤ rcS x0 g many d (s + 1) (up u y) ∧ rcS x0 g many d (s + 1) (up u y) ≤ 20000 * d := fun y ya yb => rcS_e hm hnm hn8 hg h0 h1 d (s + 1) (up u y) (by omega) (by rw [up_pc hu' (by omega) yb, hp]) (up_in hm hu ya yb)
    rw [mnS_c (f := fun t => g s t + rcS x1 g many d (s + 1) (up u t)) (f' := fun t => g s t + rcS x0 g many d (s + 1) (up u t)) many 0 x1 (fun y _ yb yc => by show _ + _ = _ + _; rw [(ih y (by omega) yc).1])]
    obtain ⟨y, y1, y2⟩ := up_ex hm hu (show pcN 10 u < many by omega)
    have r := mnS_e (u := u) (f := fun t => g s t + rcS x0 g many d (s + 1) (up u t)) (B := 20000 * ((d : Int) + 1)) many 0 x0 x1 (fun z _ zb zc => by
      have a := ih z (by omega) zc
      have b := hg s z (by omega) (by omega)
      show 0 ≤ g s z + _ ∧ g s z + _ ≤ _
      omega) ⟨y, by omega, by omega, y2⟩ (by omega) (by omega)
    refine ⟨r.1, r.2.1, ?_⟩
    have := r.2.2
    omega
/-- the first tree with that cost -/
def fcS (u : Nat) (f : Nat → Int) (x : Int) : Nat → Nat → Nat
  | 0, _ => 0
  | k + 1, t => if fzB u t && decide (f t = x) then t else fcS u f x k (t + 1)
theorem fcS_s (u : Nat) (f : Nat → Int) (x : Int) (k t : Nat) : fcS u f x (k + 1) t = if fzB u t && decide (f t = x) then t else fcS u f x k (t + 1) := rfl
theorem fcS_is {u : Nat} {f : Nat → Int} {x : Int} : ∀ (k t : Nat), (∃ y, t ≤ y ∧ y < t + k ∧ Fz u y ∧ f y = x) → t ≤ fcS u f x k t ∧ fcS u f x k t < t + k ∧ Fz u (fcS u f x k t) ∧ f (fcS u f x k t) = x
  | 0, t, h => by obtain ⟨y, a, b, _⟩ := h; omega
  | k + 1, t, h => by
    rw [fcS_s]
    by_cases q : (fzB u t && decide (f t = x)) = true
    · rw [if_pos q]
      rw [Bool.and_eq_true, decide_eq_true_eq] at q
      exact ⟨by omega, by omega, fzB_t.mp q.1, q.2⟩
    · rw [if_neg q]
      obtain ⟨y, a, b, c, d⟩ := h
      have r := fcS_is k (t + 1) ⟨y, by
        by_cases z : y = t
        · subst z; exact absurd (by rw [fzB_t.mpr c, decide_eq_true d]; rfl) q
        · omega, by omega, c, d⟩
      exact ⟨by omega, by omega, r.2.2⟩
noncomputable def chS (g : Nat → Nat → Int) (many : Nat) : Nat → Nat → Nat → (Int → Int) → (Int → Int)
  | 0, _, _, B => B
  | d + 1, s, u, B => chS g many d (s + 1) (up u (fcS u (fun t => g s t + rcS 1073741824 g many d (s + 1) (up u t)) (rcS 1073741824 g many (d + 1) s u) many 0)) (fun i => if i = (s : Int) then (fcS u (fun t => g s t + rcS 1073741824 g many d (s + 1) (up u t)) (rcS 1073741824 g many (d + 1) s u) many 0 : Int) else B i)
theorem chS_s (g : Nat → Nat → Int) (many d s u : Nat) (B : Int → Int) : chS g many (d + 1) s u B = chS g many d (s + 1) (up u (fcS u (fun t => g s t + rcS 1073741824 g many d (s + 1) (up u t)) (rcS 1073741824 g many (d + 1) s u) many 0)) (fun i => if i = (s : Int) then (fcS u (fun t => g s t + rcS 1073741824 g many d (s + 1) (up u t)) (rcS 1073741824 g many (d + 1) s u) many 0 : Int) else B i) := rfl
theorem chS_e {g : Nat → Nat → Int} {many : Nat} : ∀ (d s u : Nat) (B B' : Int → Int), (∀ k, 0 ≤ k → k < (s : Int) → B k = B' k) → ∀ k, 0 ≤ k → k < (s : Int) + d → chS g many d s u B k = chS g many d s u B' k
  | 0, s, u, B, B', h, k, k0, k1 => h k k0 (by omega)
  | d + 1, s, u, B, B', h, k, k0, k1 => by
    rw [chS_s, chS_s]
    refine chS_e d (s + 1) _ _ _ (fun i i0 i1 => ?_) k k0 (by omega)
    by_cases z : i = (s : Int)
    · simp only [if_pos z]
    · simp only [if_neg z]; exact h i i0 (by omega)
/-- the tree taken is a free one -/
theorem fc_ok {g : Nat → Nat → Int} {many n : Nat} (hm : many ≤ 10) (hnm : n ≤ many) (hn8 : n ≤ 8) (hg : ∀ s t, s < n → t < many → 0 ≤ g s t ∧ g s t ≤ 20000) {d s u : Nat} (hs : s + (d + 1) = n) (hp : pcN 10 u = s) (hu : In2 u many) : ∃ y, 0 ≤ y ∧ y < 0 + many ∧ Fz u y ∧ (fun t => g s t + rcS 1073741824 g many d (s + 1) (up u t)) y = rcS 1073741824 g many (d + 1) s u := by
  have r := rcS_e (x0 := 1073741824) (x1 := 1073741824) hm hnm hn8 hg (by omega) (by omega) (d + 1) s u hs hp hu
  rcases mnS_m (u := u) (f := fun t => g s t + rcS 1073741824 g many d (s + 1) (up u t)) many 0 1073741824 with z | ⟨y, a, b, c, e⟩
  · rw [← rcS_s] at z; omega
  · exact ⟨y, a, b, c, e⟩
