/-! layer 2: the points that are chosen; the call least -/
theorem kb_and {K p : Int} (p0 : 0 ≤ p) (p1 : p < 64) : w64 (lAnd K (Sheet_bit p)) = 0 ↔ kb K p = false := by
  have e := kept_kb (c := 0) (m := fun _ _ => K) p0 p1
  unfold Sheet_isKept at e
  simp only at e
  by_cases z : w64 (lAnd K (Sheet_bit p)) = 0
  · rw [if_pos z] at e
    refine ⟨fun _ => ?_, fun _ => z⟩
    cases y : kb K p with
    | true => rw [y] at e; exact absurd e (by decide)
    | false => rfl
  · rw [if_neg z] at e
    refine ⟨fun y => absurd y z, fun y => ?_⟩
    rw [y] at e; exact absurd e (by decide)
def gdP (m : Mem) (Q : Int → Int) (k : Int) : Prop := Pt (m 7 0) (m 7 1) (Q k) ∧ Sheet_isKept 7 (Q k) m = 0 ∧ ∀ i, 0 ≤ i → i < k → Q i ≠ Q k
theorem c_choose {m : Mem} {t n : Int} {Q : Int → Int} (s : gSW (m 7 0) (m 7 1)) (t0 : 0 ≤ t) (t1 : t < 4) (n0 : 1 ≤ n) (n5 : n ≤ 5) (hQ : ∀ k, 0 ≤ k → k < n → m 2 (60 * t + k) = Q k ∧ w64 (Q k) = Q k) : ∀ (f : Nat) (v k : Int) (mm : Mem), 0 ≤ k → k ≤ n → (n - k).toNat < f → (∀ c, c ≠ 32 → c ≠ 33 → mm c = m c) → (∀ i, i ≠ 3 → mm 32 i = m 32 i) → mm 32 3 = k → (∀ i, 0 ≤ i → i < k → mm 33 i = Q i) → (∀ i, 0 ≤ i → i < k → gdP m Q i) → (∀ q, 0 ≤ q → q < 64 → (kb v q = true ↔ ∃ i, 0 ≤ i ∧ i < k ∧ Q i = q)) → ∃ mm' x, Mender_choose_L11 t n f v k mm = some (x, mm') ∧ (∀ c, c ≠ 32 → c ≠ 33 → mm' c = m c) ∧ (∀ i, i ≠ 3 → mm' 32 i = m 32 i) ∧ ((x = 1 ∧ (∀ i, 0 ≤ i → i < n → gdP m Q i) ∧ mm' 32 3 = n ∧ ∀ i, 0 ≤ i → i < n → mm' 33 i = Q i) ∨ (x = 0 ∧ ¬ ∀ i, 0 ≤ i → i < n → gdP m Q i)) := by
  intro f
  induction f with
  | zero => intro v k mm _ _ z; omega
  | succ f ih =>
    intro v k mm k0 kn hf hc h32 h3 h33 hg hv
    rw [Mender_choose_L11, w32_id (x := k) (by omega) (by omega), w32_id (x := n) (by omega) (by omega)]
    by_cases g : n ≤ k
    · rw [if_pos g]
      have : k = n := by omega
      subst this
      exact ⟨mm, 1, rfl, hc, h32, Or.inl ⟨rfl, hg, h3, h33⟩⟩
    · have q := hQ k k0 (by omega)
      have e7 : mm 7 = m 7 := hc 7 (by decide) (by decide)
      rw [if_neg g, if_neg (by omega), trA t0 t1 k0 (by omega), hc 2 (by decide) (by decide), q.1]
      have bad : ¬ gdP m Q k → ∃ mm' x, (some (0, mm) : Option (Int × Mem)) = some (x, mm') ∧ (∀ c, c ≠ 32 → c ≠ 33 → mm' c = m c) ∧ (∀ i, i ≠ 3 → mm' 32 i = m 32 i) ∧ ((x = 1 ∧ (∀ i, 0 ≤ i → i < n → gdP m Q i) ∧ mm' 32 3 = n ∧ ∀ i, 0 ≤ i → i < n → mm' 33 i = Q i) ∨ (x = 0 ∧ ¬ ∀ i, 0 ≤ i → i < n → gdP m Q i)) :=
        fun z => ⟨mm, 0, rfl, hc, h32, Or.inr ⟨rfl, fun y => z (y k k0 (by omega))⟩⟩
      by_cases g1 : Pt (m 7 0) (m 7 1) (Q k)
      · have p64 := pt64 s g1
        rw [hpT (m := mm) (by rw [e7]; exact s) (by rw [e7]; exact g1), if_pos (by decide), isK_c e7]
        by_cases g2 : w64 (lAnd v (Sheet_bit (Q k))) = 0
        · rw [if_neg (not_not_intro g2)]
          have nk := (kb_and p64.1 p64.2).mp g2
          have new : ∀ i, 0 ≤ i → i < k → Q i ≠ Q k := fun i a b c => by
            have := (hv (Q k) p64.1 p64.2).mpr ⟨i, a, b, c⟩
            rw [nk] at this; exact absurd this (by decide)
          by_cases g3 : Sheet_isKept 7 (Q k) m = 0
          · rw [if_pos g3, if_pos (by omega)]
            refine ih _ (k + 1) _ (by omega) (by omega) (by omega) (fun c a b => by rw [st_ne _ _ _ a, st_ne _ _ _ b]; exact hc c a b) (fun i a => by rw [st_eq, if_neg a, st_ne _ _ _ (by decide)]; exact h32 i a) (by rw [st_eq, if_pos rfl, st_ne _ _ _ (by decide), h3]) (fun i a b => ?_) (fun i a b => ?_) (fun x x0 x1 => ?_)
            · rw [st_ne _ _ _ (by decide), st_eq]
              by_cases z : i = k
              · rw [if_pos z, z]
              · rw [if_neg z]; exact h33 i a (by omega)
            · by_cases z : i = k
              · rw [z]; exact ⟨g1, g3, new⟩
              · exact hg i a (by omega)
            · rw [kb_set p64.1 p64.2 x0 x1, Bool.or_eq_true, decide_eq_true_iff, hv x x0 x1]
              constructor
              · rintro (⟨i, a, b, c⟩ | z)
                · exact ⟨i, a, by omega, c⟩
                · exact ⟨k, k0, by omega, z.symm⟩
              · rintro ⟨i, a, b, c⟩
                by_cases z : i = k
                · subst z; exact Or.inr c.symm
                · exact Or.inl ⟨i, a, by omega, c⟩
          · rw [if_neg g3]
            exact bad (fun z => g3 z.2.1)
        · rw [if_pos g2]
          refine bad (fun z => ?_)
          have nk : kb v (Q k) = true := by
            cases y : kb v (Q k) with
            | true => rfl
            | false => exact absurd ((kb_and p64.1 p64.2).mpr y) g2
          obtain ⟨i, a, b, c⟩ := (hv (Q k) p64.1 p64.2).mp nk
          exact z.2.2 i a b c
      · rw [hpF (m := mm) (by rw [e7]; exact s) q.2 (by rw [e7]; exact g1), if_neg (by decide)]
        exact bad (fun z => g1 z.1)
theorem m_w106 {m : Mem} {Q : Int → Int} {v1 v2 : Int} {k : Int} (k0 : 0 ≤ k) (k5 : k < 5) (h89 : ∀ i, 0 ≤ i → i < k → m 89 i = Q i ∧ 0 ≤ Q i ∧ Q i < 64) (qk : 0 ≤ Q k ∧ Q k < 64) {K0 : Int → Mem → Option (Int × Mem)} : ∀ (f : Nat) (i : Int), 0 ≤ i → i ≤ k → (k - i).toNat < f → ((∀ x, i ≤ x → x < k → Q x ≠ Q k) → Mo_wrongPoints_L106 v1 v2 (Q k) K0 f k i m = K0 (k + 1) (st (st m 89 k (Q k)) 90 k (m 76 (80 + Q k)))) ∧ (¬ (∀ x, i ≤ x → x < k → Q x ≠ Q k) → Mo_wrongPoints_L106 v1 v2 (Q k) K0 f k i m = some (5, m)) := by
  intro f
  induction f with
  | zero => intro i _ _ z; omega
  | succ f ih =>
    intro i i0 ik hf
    rw [Mo_wrongPoints_L106, w32_id (x := k) (by omega) (by omega), w32_id (x := i) (by omega) (by omega)]
    by_cases g : k ≤ i
    · rw [if_pos g, if_pos (by omega), if_pos (by omega), st_eq, if_pos rfl, w32_id (x := 80 + Q k) (by omega) (by omega), if_pos (by omega), if_pos (by omega), st_ne (c' := 76) _ _ _ (by decide)]
      exact ⟨fun _ => rfl, fun z => absurd (fun x a b => by omega) z⟩
    · have q := h89 i i0 (by omega)
      rw [if_neg g, if_pos (by omega), q.1, w32_id (x := Q i) (by omega) (by omega), w64_id (x := Q i) (by omega) (by omega), w64_id (x := Q k) (by omega) (by omega)]
      have r := ih (i + 1) (by omega) (by omega) (by omega)
      by_cases z : Q i = Q k
      · rw [if_neg (not_not_intro z)]
        exact ⟨fun y => absurd z (y i (by omega) (by omega)), fun _ => rfl⟩
      · rw [if_pos z]
        refine ⟨fun y => r.1 (fun x a b => y x (by omega) b), fun y => r.2 (fun w => y (fun x a b => ?_))⟩
        by_cases u : x = i
        · rw [u]; exact z
        · exact w x (by omega) b
theorem m_w56 {m : Mem} {t n S W : Int} {Q : Int → Int} {kp : Int → Int} (s : gSW S W) (z0 : m 76 0 = S) (z1 : m 76 1 = W) (t0 : 0 ≤ t) (t1 : t < 4) (n0 : 1 ≤ n) (n5 : n ≤ 5) (hQ : ∀ k, 0 ≤ k → k < n → m 79 (60 * t + k) = Q k ∧ w64 (Q k) = Q k) (hk : ∀ q, Pt S W q → m 76 (144 + q) = kp q ∧ 0 ≤ kp q ∧ kp q ≤ 1) : ∀ (f : Nat) (k : Int) (mm : Mem), 0 ≤ k → k ≤ n → (n - k).toNat < f → (∀ c, c ≠ 89 → c ≠ 90 → mm c = m c) → (∀ i, 0 ≤ i → i < k → mm 89 i = Q i ∧ mm 90 i = m 76 (80 + Q i)) → (∀ i, 0 ≤ i → i < k → Pt S W (Q i) ∧ kp (Q i) = 0 ∧ ∀ x, 0 ≤ x → x < i → Q x ≠ Q i) → ∃ mm' x, Mo_wrongPoints_L56 t n f k mm = some (x, mm') ∧ (∀ c, c ≠ 89 → c ≠ 90 → mm' c = m c) ∧ ((x = 0 ∧ (∀ i, 0 ≤ i → i < n → Pt S W (Q i) ∧ kp (Q i) = 0 ∧ ∀ x, 0 ≤ x → x < i → Q x ≠ Q i) ∧ ∀ i, 0 ≤ i → i < n → mm' 89 i = Q i ∧ mm' 90 i = m 76 (80 + Q i)) ∨ (x = 5 ∧ ¬ ∀ i, 0 ≤ i → i < n → Pt S W (Q i) ∧ kp (Q i) = 0 ∧ ∀ x, 0 ≤ x → x < i → Q x ≠ Q i)) := by
  intro f
  induction f with
  | zero => intro k mm _ _ z; omega
  | succ f ih =>
    intro k mm k0 kn hf hc h89 hg
    rw [Mo_wrongPoints_L56, w32_id (x := k) (by omega) (by omega), w32_id (x := n) (by omega) (by omega)]
    by_cases g : n ≤ k
    · rw [if_pos g]
      have : k = n := by omega
      subst this
      exact ⟨mm, 0, rfl, hc, Or.inl ⟨rfl, hg, h89⟩⟩
    · have f1 : (n - (k + 1)).toNat < f := by omega
      have q := hQ k k0 (by omega)
      have e76 := hc 76 (by decide) (by decide)
      rw [if_neg g, w32_id (x := 60 * t + k) (by omega) (by omega), if_pos (by omega), hc 79 (by decide) (by decide), q.1, e76]
      have bad : ¬ (Pt S W (Q k) ∧ kp (Q k) = 0 ∧ ∀ x, 0 ≤ x → x < k → Q x ≠ Q k) → ∃ mm' x, (some (5, mm) : Option (Int × Mem)) = some (x, mm') ∧ (∀ c, c ≠ 89 → c ≠ 90 → mm' c = m c) ∧ ((x = 0 ∧ (∀ i, 0 ≤ i → i < n → Pt S W (Q i) ∧ kp (Q i) = 0 ∧ ∀ x, 0 ≤ x → x < i → Q x ≠ Q i) ∧ ∀ i, 0 ≤ i → i < n → mm' 89 i = Q i ∧ mm' 90 i = m 76 (80 + Q i)) ∨ (x = 5 ∧ ¬ ∀ i, 0 ≤ i → i < n → Pt S W (Q i) ∧ kp (Q i) = 0 ∧ ∀ x, 0 ≤ x → x < i → Q x ≠ Q i)) :=
        fun z => ⟨mm, 5, rfl, hc, Or.inr ⟨rfl, fun y => z (y k k0 (by omega))⟩⟩
      by_cases g1 : Pt S W (Q k)
      · have p64 := pt64 s g1
        have hkk := hk _ g1
        rw [mpT (m := mm) s (by rw [e76]; exact z0) (by rw [e76]; exact z1) g1, if_neg (by decide), w32_id (x := 144 + Q k) (by omega) (by omega), if_pos (by omega), hkk.1, w32_id (x := kp (Q k)) (by omega) (by omega)]
        by_cases g2 : kp (Q k) = 1
        · rw [if_neg (not_not_intro g2)]
          exact bad (fun z => by omega)
        · rw [if_pos g2]
          have r := m_w106 (m := mm) (Q := Q) (v1 := t) (v2 := n) (k := k) k0 (by omega) (fun i a b => ⟨(h89 i a b).1, pt64 s (hg i a b).1⟩) p64 (K0 := Mo_wrongPoints_L56 t n f) FU 0 (by omega) k0 (by rw [FU_eq]; omega)
          by_cases g3 : ∀ x, 0 ≤ x → x < k → Q x ≠ Q k
          · rw [r.1 g3, e76]
            refine ih (k + 1) _ (by omega) (by omega) f1 (fun c a b => by rw [st_ne _ _ _ b, st_ne _ _ _ a]; exact hc c a b) (fun i a b => ?_) (fun i a b => ?_)
            · rw [st_ne _ _ _ (by decide), st_eq, st_eq, st_ne (c' := 90) _ _ _ (by decide)]
              by_cases z : i = k
              · rw [if_pos z, if_pos z, z]; exact ⟨rfl, rfl⟩
              · rw [if_neg z, if_neg z]; exact h89 i a (by omega)
            · by_cases z : i = k
              · rw [z]; exact ⟨g1, by omega, g3⟩
              · exact hg i a (by omega)
          · rw [r.2 g3]
            exact bad (fun z => g3 z.2.2)
      · rw [mpF (m := mm) s (by rw [e76]; exact z0) (by rw [e76]; exact z1) q.2 g1, if_pos rfl]
        exact bad (fun z => g1 z.1)
theorem m_l34 {n : Nat} {r wd : Int} {m : Mem} (n5 : n ≤ 5) {K0 : Int → Option (Int × Mem)} : ∀ (j f t : Nat), t + j = n → j < f → Mo_least_L34 n r wd K0 m f (wd ^ t) t = K0 (wd ^ n) := by
  intro j
  induction j with
  | zero =>
    intro f t ht hf
    obtain ⟨f, rfl⟩ : ∃ x, f = x + 1 := ⟨f - 1, by omega⟩
    rw [Mo_least_L34, if_pos (by rw [w32_id (by omega) (by omega), w32_id (by omega) (by omega)]; omega), show t = n by omega]
  | succ j ih =>
    intro f t ht hf
    obtain ⟨f, rfl⟩ : ∃ x, f = x + 1 := ⟨f - 1, by omega⟩
    rw [Mo_least_L34, if_neg (by rw [w32_id (by omega) (by omega), w32_id (by omega) (by omega)]; omega), ← Int.pow_succ]
    exact ih f (t + 1) (by omega) (by omega)
theorem wd_b {n : Nat} {wd : Int} (n5 : n ≤ 5) (n1 : 1 ≤ n) (w0 : 3 ≤ wd) (w7 : wd ≤ 7) : 0 ≤ wd ^ n ∧ wd ^ n ≤ 19000 := by
  have h1 : wd = 3 ∨ wd = 4 ∨ wd = 5 ∨ wd = 6 ∨ wd = 7 := by omega
  have h2 : n = 1 ∨ n = 2 ∨ n = 3 ∨ n = 4 ∨ n = 5 := by omega
  rcases h1 with h1 | h1 | h1 | h1 | h1 <;> subst h1 <;> rcases h2 with h2 | h2 | h2 | h2 | h2 <;> subst h2 <;> decide
