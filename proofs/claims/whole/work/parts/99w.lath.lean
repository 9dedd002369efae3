/-! layer 2: laths, the reference -/
theorem frPC : ∀ (n : Fin 9) (u : Fin 256), u.val < 2 ^ n.val → pcN 10 u.val + (frN u.val n.val 0).length = n.val := by decide +kernel
/-- the same but for the reference's lath cells -/
def La (m m' : Mem) : Prop := (∀ c, c ≠ 75 → c ≠ 84 → c ≠ 85 → c ≠ 86 → c ≠ 87 → m' c = m c) ∧ ∀ i, i ≠ 33 → m' 75 i = m 75 i
theorem La.refl (m : Mem) : La m m := ⟨fun _ _ _ _ _ _ => rfl, fun _ _ => rfl⟩
theorem La.trans {m m' m'' : Mem} (h : La m m') (h' : La m' m'') : La m m'' := ⟨fun c a b d e f => (h'.1 c a b d e f).trans (h.1 c a b d e f), fun i hi => (h'.2 i hi).trans (h.2 i hi)⟩
theorem La.ch {m m' m'' : Mem} (h : La m m') (e : ∀ c, c ≠ 84 → c ≠ 85 → c ≠ 86 → c ≠ 87 → m'' c = m' c) : La m m'' :=
  h.trans ⟨fun c _ b d x f => e c b d x f, fun i _ => by rw [e 75 (by decide) (by decide) (by decide) (by decide)]⟩
theorem m_ct {p b : Nat} (hp : p < 100) (hb : b < 100) : Mo_counts (p : Int) (b : Int) = ctN p b := by
  unfold Mo_counts ctN
  rw [w32_id (x := (p : Int)) (by omega) (by omega), w32_id (x := (b : Int)) (by omega) (by omega), w32_id (x := (p : Int) - 1) (by omega) (by omega), w32_id (x := (p : Int) + 1) (by omega) (by omega)]
  by_cases q1 : b = p
  · rw [if_neg (by omega), if_pos q1]
  · rw [if_pos (by omega), if_neg q1]
    by_cases q2 : b + 1 = p
    · rw [if_pos (by omega), if_pos q2]
    · rw [if_neg (by omega), if_neg q2]
      by_cases q3 : b = p + 1
      · rw [if_neg (by omega), if_pos q3]
      · rw [if_pos (by omega), if_neg q3]
theorem m_l10 {P D pl : Nat} (hP : P ≤ 8) (hD : D < 256) (hpl : pl < P) {K : Int → Mem → Option (Int × Mem)} : ∀ (n p : Nat) (v3 : Int) (m : Mem), p ≤ P → P - p < n → m 75 25 = (P : Int) → m 75 33 = ((frN D p 0).length : Int) → (∀ j : Nat, j < (frN D p 0).length → m 87 (j : Int) = ((frN D p 0).getD j 0 : Int)) → v3 = (if pl < p ∧ fzB D pl = true then ((frN D pl 0).length : Int) else -1) → ∃ m', Mo_laid_L10 (D : Int) (pl : Int) K n v3 (p : Int) m = K (if fzB D pl = true then ((frN D pl 0).length : Int) else -1) m' ∧ (∀ c, c ≠ 75 → c ≠ 87 → m' c = m c) ∧ (∀ i, i ≠ 33 → m' 75 i = m 75 i) ∧ m' 75 33 = ((frN D P 0).length : Int) ∧ (∀ j : Nat, j < (frN D P 0).length → m' 87 (j : Int) = ((frN D P 0).getD j 0 : Int)) := by
  intro n
  induction n with
  | zero => intro p v3 m _ h; omega
  | succ n ih =>
    intro p v3 m hp hn e25 e33 e87 ev
    rw [Mo_laid_L10, e25, w32_id (x := (P : Int)) (by omega) (by omega), w32_id (x := (p : Int)) (by omega) (by omega)]
    by_cases q : P ≤ p
    · have e : p = P := by omega
      subst e
      rw [if_pos (by omega)]
      refine ⟨m, ?_, fun _ _ _ => rfl, fun _ _ => rfl, e33, e87⟩
      rw [ev]
      by_cases z : fzB D pl = true
      · rw [if_pos ⟨hpl, z⟩, if_pos z]
      · rw [if_neg (fun y => z y.2), if_neg z]
    · rw [if_neg (by omega)]
      have hle := frN_len D p 0
      have hpp : (p : Int) + 1 = ((p + 1 : Nat) : Int) := by omega
      have hee := frN_e D p 0
      rw [Nat.zero_add] at hee
      by_cases z : Fz D p
      · rw [if_pos (fzB_t.mpr z)] at hee
        rw [bitZ (by omega) (by omega) z, if_pos (by omega), e33, w32_id (x := ((frN D p 0).length : Int)) (by omega) (by omega), if_pos (by omega), w32_id (x := (pl : Int)) (by omega) (by omega)]
        have e5 : (st m 87 ((frN D p 0).length : Int) (p : Int)) 75 33 = ((frN D p 0).length : Int) := by rw [st_ne _ _ _ (by decide)]; exact e33
        rw [e5, hpp]
        obtain ⟨m', j1, j2, j3, j4, j5⟩ := ih (p + 1) (if ¬ (p : Int) = (pl : Int) then v3 else ((frN D p 0).length : Int)) (st (st m 87 ((frN D p 0).length : Int) (p : Int)) 75 33 (((frN D p 0).length : Int) + 1)) (by omega) (by omega) (by rw [st_eq, if_neg (by decide), st_ne _ _ _ (by decide)]; exact e25) (by rw [st_eq, if_pos rfl, hee, List.length_append]; simp) (fun j hj => by
          rw [st_ne _ _ _ (by decide), st_eq]
          rw [hee, List.length_append] at hj
          simp only [List.length_cons, List.length_nil] at hj
          by_cases y : j = (frN D p 0).length
          · rw [if_pos (by omega), hee, List.getD_eq_getElem?_getD, List.getElem?_append_right (by omega), y]; simp
          · rw [if_neg (by omega), e87 j (by omega), hee, List.getD_eq_getElem?_getD, List.getD_eq_getElem?_getD, List.getElem?_append_left (by omega)]) (by
          by_cases y : p = pl
          · subst y
            rw [if_neg (by omega), if_pos ⟨by omega, fzB_t.mpr z⟩]
          · rw [if_pos (by omega), ev]
            by_cases x : pl < p ∧ fzB D pl = true
            · rw [if_pos x, if_pos ⟨by omega, x.2⟩]
            · rw [if_neg x, if_neg (fun h => x ⟨by omega, h.2⟩)])
        refine ⟨m', j1, fun c h1 h2 => by rw [j2 c h1 h2, st_ne _ _ _ h1, st_ne _ _ _ h2], fun i hi => by rw [j3 i hi, st_eq, if_neg hi, st_ne _ _ _ (by decide)], j4, j5⟩
      · have z' : ¬ fzB D p = true := fun y => z (fzB_t.mp y)
        rw [if_neg z', List.append_nil] at hee
        rw [bitO (by omega) (by omega) z, if_neg (by omega), hpp]
        obtain ⟨m', j1, j2⟩ := ih (p + 1) v3 m (by omega) (by omega) e25 (by rw [hee]; exact e33) (by rw [hee]; exact e87) (by
          rw [ev]
          by_cases x : pl < p ∧ fzB D pl = true
          · rw [if_pos x, if_pos ⟨by omega, x.2⟩]
          · rw [if_neg x, if_neg (fun h => x ⟨by
              have : pl ≠ p := fun e => z (by rw [← e]; exact fzB_t.mp h.2)
              omega, h.2⟩)])
        exact ⟨m', j1, j2⟩
theorem m_l97 {F a : Nat} (hF : F ≤ 8) (ha : a < F) {v1 v3 : Int} {K : Mem → Option (Int × Mem)} : ∀ (n c : Nat) (m : Mem), c ≤ F → F - c < n → m 75 33 = (F : Int) → ∃ m', Mo_laid_L97 v1 v3 (a : Int) K n (c : Int) m = K m' ∧ (∀ q, q ≠ 84 → m' q = m q) ∧ (∀ j : Nat, c ≤ j → j < F → m' 84 (8 * (a : Int) + j) = 0) ∧ (∀ i, i < 8 * (a : Int) + c ∨ 8 * (a : Int) + F ≤ i → m' 84 i = m 84 i) := by
  intro n
  induction n with
  | zero => intro c m _ h; omega
  | succ n ih =>
    intro c m hc hn e33
    rw [Mo_laid_L97, e33, w32_id (x := (F : Int)) (by omega) (by omega), w32_id (x := (c : Int)) (by omega) (by omega)]
    by_cases q : F ≤ c
    · rw [if_pos (by omega)]
      exact ⟨m, rfl, fun _ _ => rfl, fun j h1 h2 => by omega, fun _ _ => rfl⟩
    · rw [if_neg (by omega), w32_id (x := 8 * (a : Int) + c) (by omega) (by omega), if_pos (by omega), show (c : Int) + 1 = ((c + 1 : Nat) : Int) by omega]
      obtain ⟨m', j1, j2, j3, j4⟩ := ih (c + 1) (st m 84 (8 * (a : Int) + c) 0) (by omega) (by omega) (by rw [st_ne _ _ _ (by decide)]; exact e33)
      refine ⟨m', j1, fun q hq => by rw [j2 q hq, st_ne _ _ _ hq], fun j h1 h2 => ?_, fun i hi => by rw [j4 i (by omega), st_eq, if_neg (by omega)]⟩
      by_cases z : j = c
      · subst z; rw [j4 _ (by omega), st_eq, if_pos rfl]
      · exact j3 j (by omega) h2
theorem m_l167 {F a p : Nat} {fr : Nat → Nat} {mine : Int} (hF : F ≤ 8) (ha : a < F) (hp : p < 10) (hfr : ∀ j, j < F → fr j < 8) {v1 v3 : Int} {K : Mem → Option (Int × Mem)} : ∀ (n c : Nat) (m : Mem), c ≤ F → F - c < n → m 75 33 = (F : Int) → (∀ j : Nat, j < F → m 87 (j : Int) = (fr j : Int)) → ∃ m', Mo_laid_L167 v1 v3 (a : Int) (p : Int) mine K n (c : Int) m = K m' ∧ (∀ q, q ≠ 84 → m' q = m q) ∧ (∀ j : Nat, c ≤ j → j < F → m' 84 (8 * (a : Int) + j) = m 84 (8 * (a : Int) + j) + mine * ctN p (fr j)) ∧ (∀ i, i < 8 * (a : Int) + c ∨ 8 * (a : Int) + F ≤ i → m' 84 i = m 84 i) := by
  intro n
  induction n with
  | zero => intro c m _ h; omega
  | succ n ih =>
    intro c m hc hn e33 e87
    rw [Mo_laid_L167, e33, w32_id (x := (F : Int)) (by omega) (by omega), w32_id (x := (c : Int)) (by omega) (by omega)]
    by_cases q : F ≤ c
    · rw [if_pos (by omega)]
      exact ⟨m, rfl, fun _ _ => rfl, fun j h1 h2 => by omega, fun _ _ => rfl⟩
    · have hf := hfr c (by omega)
      rw [if_neg (by omega), w32_id (x := 8 * (a : Int) + c) (by omega) (by omega), if_pos (by omega), if_pos (by omega), if_pos (by omega), e87 c (by omega), m_ct (by omega) (by omega), show (c : Int) + 1 = ((c + 1 : Nat) : Int) by omega]
      obtain ⟨m', j1, j2, j3, j4⟩ := ih (c + 1) (st m 84 (8 * (a : Int) + c) (m 84 (8 * (a : Int) + c) + mine * ctN p (fr c))) (by omega) (by omega) (by rw [st_ne _ _ _ (by decide)]; exact e33) (by rw [st_ne _ _ _ (by decide)]; exact e87)
      refine ⟨m', j1, fun q hq => by rw [j2 q hq, st_ne _ _ _ hq], fun j h1 h2 => ?_, fun i hi => by rw [j4 i (by omega), st_eq, if_neg (by omega)]⟩
      by_cases z : j = c
      · subst z; rw [j4 _ (by omega), st_eq, if_pos rfl]
      · rw [j3 j (by omega) h2, st_eq, if_neg (by omega)]
theorem sdN3 {g : Nat → Int} {q : Nat} : ∀ (k : Nat), (∀ d, d < q + 3 + k → d ≠ q → d ≠ q + 1 → d ≠ q + 2 → g d = 0) → sdN g (q + 3 + k) = g q + g (q + 1) + g (q + 2)
  | 0, h => by
    show sdN g q + g q + g (q + 1) + g (q + 2) = _
    rw [sdN_z q (fun d hd => h d (by omega) (by omega) (by omega) (by omega))]; omega
  | k + 1, h => by
    rw [show q + 3 + (k + 1) = (q + 3 + k) + 1 by omega, sdN_s, sdN3 k (fun d h1 => h d (by omega)), h (q + 3 + k) (by omega) (by omega) (by omega) (by omega)]; omega
/-- what a lath's line is to the reference -/
def LnR (P : Nat) (b : Nat → Int) (f ap : Int) (m : Mem) : Prop := m 75 23 = f ∧ m 75 24 = ap ∧ m 75 25 = (P : Int) ∧ ∀ d : Nat, d < P → (0 ≤ f + ap * (d : Int) ∧ f + ap * (d : Int) < 64) ∧ m 76 (80 + (f + ap * (d : Int))) = b d ∧ 0 ≤ b d ∧ b d ≤ 999
theorem LnR.la {P : Nat} {b : Nat → Int} {f ap : Int} {m m' : Mem} (h : LnR P b f ap m) (e : La m m') : LnR P b f ap m' := by
  obtain ⟨h1, h2, h3, h4⟩ := h
  refine ⟨by rw [e.2 _ (by decide)]; exact h1, by rw [e.2 _ (by decide)]; exact h2, by rw [e.2 _ (by decide)]; exact h3, fun d hd => ?_⟩
  rw [e.1 76 (by decide) (by decide) (by decide) (by decide) (by decide)]; exact h4 d hd
def bbN (D : Nat) (b : Nat → Int) (d : Nat) : Int := if fzB D d then 0 else b d
theorem m_l219s {P D a p d : Nat} {b : Nat → Int} {f ap mine v3 : Int} (hP : P ≤ 8) (hD : D < 256) (ha : a < 8) (hp : p < 10) (hd : d < P) (hdp : d ≤ p + 1) {K : Int → Int → Mem → Option (Int × Mem)} {m : Mem} (h : LnR P b f ap m) (n : Nat) : Mo_laid_L219 (D : Int) v3 (a : Int) mine K (n + 1) (p : Int) (d : Int) m = Mo_laid_L219 (D : Int) v3 (a : Int) mine K n (p : Int) ((d : Int) + 1) (st m 85 (a : Int) (m 85 (a : Int) - mine * (bbN D b d * ctN p d))) := by
  obtain ⟨h1, h2, h3, h4⟩ := h
  have q := h4 d hd
  rw [Mo_laid_L219, w32_id (x := (p : Int) + 1) (by omega) (by omega), w32_id (x := (d : Int)) (by omega) (by omega), if_neg (by omega), w32_id (x := (a : Int)) (by omega) (by omega), if_pos (by omega)]
  unfold bbN
  by_cases z : Fz D d
  · rw [bitZ (by omega) (by omega) z, if_pos (by omega), if_pos (by omega), if_pos (fzB_t.mpr z), Int.zero_mul, Int.mul_zero]
  · have z' : ¬ fzB D d = true := fun y => z (fzB_t.mp y)
    rw [bitO (by omega) (by omega) z, if_neg (by omega), m_breadth h1 h2 q.1.1 q.1.2, bP_some, if_pos (by omega), if_neg z', q.2.1, w32_id (x := b d) (by omega) (by omega), m_ct (by omega) (by omega), Int.mul_assoc, Int.mul_comm (ctN p d)]
theorem m_l219 {P D a p : Nat} {b : Nat → Int} {f ap mine v3 : Int} (hP : P ≤ 8) (hD : D < 256) (ha : a < 8) (hp1 : p + 2 < P) {K : Int → Int → Mem → Option (Int × Mem)} {m : Mem} (h : LnR P b f ap m) : ∃ m', Mo_laid_L219 (D : Int) v3 (a : Int) mine K FU ((p + 1 : Nat) : Int) (((p + 1 : Nat) : Int) - 1) m = K (a : Int) (((p + 1 : Nat) : Int) + 1) m' ∧ (∀ q, q ≠ 85 → m' q = m q) ∧ (∀ i, i ≠ (a : Int) → m' 85 i = m 85 i) ∧ m' 85 (a : Int) = m 85 (a : Int) - mine * sdN (fun d => bbN D b d * ctN (p + 1) d) P := by
  have hla : ∀ v, La m (st m 85 (a : Int) v) := fun v => (La.refl m).ch (fun c _ h _ _ => st_ne _ _ _ h)
  have s1 := m_l219s (v3 := v3) (mine := mine) (p := p + 1) (d := p) hP hD ha (by omega) (by omega) (by omega) (K := K) h 19999
  generalize e1 : m 85 (a : Int) - mine * (bbN D b p * ctN (p + 1) p) = x1 at s1
  have s2 := m_l219s (v3 := v3) (mine := mine) (p := p + 1) (d := p + 1) hP hD ha (by omega) (by omega) (by omega) (K := K) (h.la (hla x1)) 19998
  generalize e2 : st m 85 (a : Int) x1 85 (a : Int) - mine * (bbN D b (p + 1) * ctN (p + 1) (p + 1)) = x2 at s2
  have s3 := m_l219s (v3 := v3) (mine := mine) (p := p + 1) (d := p + 2) hP hD ha (by omega) (by omega) (by omega) (K := K) (h.la ((hla x1).trans ((La.refl _).ch (fun c _ h _ _ => st_ne (st m 85 (a : Int) x1) (a : Int) x2 h)))) 19997
  generalize e3 : st (st m 85 (a : Int) x1) 85 (a : Int) x2 85 (a : Int) - mine * (bbN D b (p + 2) * ctN (p + 1) (p + 2)) = x3 at s3
  refine ⟨st (st (st m 85 (a : Int) x1) 85 (a : Int) x2) 85 (a : Int) x3, ?_, fun q hq => by rw [st_ne _ _ _ hq, st_ne _ _ _ hq, st_ne _ _ _ hq], fun i hi => by rw [st_eq, if_neg hi, st_eq, if_neg hi, st_eq, if_neg hi], ?_⟩
  · rw [show ((p + 1 : Nat) : Int) - 1 = (p : Int) by omega, FU_eq]
    rw [show (20000 : Nat) = 19999 + 1 from rfl, s1, show (p : Int) + 1 = ((p + 1 : Nat) : Int) by omega, show (19999 : Nat) = 19998 + 1 from rfl, s2, show ((p + 1 : Nat) : Int) + 1 = ((p + 2 : Nat) : Int) by omega, show (19998 : Nat) = 19997 + 1 from rfl, s3, show (19997 : Nat) = 19996 + 1 from rfl, Mo_laid_L219, w32_id (x := ((p + 1 : Nat) : Int) + 1) (by omega) (by omega), w32_id (x := ((p + 2 : Nat) : Int) + 1) (by omega) (by omega), if_pos (by omega)]
    rw [show ((p + 1 : Nat) : Int) + 1 = ((p + 2 : Nat) : Int) by omega]
  · rw [st_eq, if_pos rfl, ← e3, st_eq, if_pos rfl, ← e2, st_eq, if_pos rfl, ← e1]
    have e : P = p + 3 + (P - (p + 3)) := by omega
    rw [e, sdN3 (g := fun d => bbN D b d * ctN (p + 1) d) (q := p) (P - (p + 3)) (fun d _ h1 h2 h3 => by
      show _ * ctN (p + 1) d = 0
      unfold ctN
      rw [if_neg h2, if_neg (by omega), if_neg (by omega), Int.mul_zero])]
    simp only [Int.mul_add]
    omega
theorem sdN_sub {x y : Nat → Int} {k : Int} {z : Nat → Int} (n : Nat) (h : ∀ d, d < n → x d = y d - k * z d) : sdN x n = sdN y n - k * sdN z n := by
  have := sdN_lin (x := x) (y := y) (z := z) (bf := 1) (pv := 1) (f := k) n (fun d hd => by rw [Int.one_mul, Int.one_mul]; exact h d hd)
  omega
theorem m_l129 {P D F a : Nat} {b : Nat → Int} {f ap v3 : Int} {fr : Nat → Nat} (hP : P ≤ 8) (hD : D < 256) (hF : F ≤ 8) (ha : a < F) (hfP : ∀ j, j < F → fr j < P) {K : Int → Mem → Option (Int × Mem)} : ∀ (n i : Nat) (m : Mem), i ≤ P - 2 → P - i < n → LnR P b f ap m → m 75 33 = (F : Int) → (∀ j : Nat, j < F → m 87 (j : Int) = (fr j : Int)) → (∀ j : Nat, j < F → m 84 (8 * (a : Int) + j) = gmN (fr a) (fr j) i) → m 85 (a : Int) = sdN (fun d => bbN D b d * -(gmN (fr a) d i)) P → ∃ m', Mo_laid_L129 (D : Int) v3 K n (a : Int) ((i : Int) + 1) m = K ((a : Int) + 1) m' ∧ (∀ q, q ≠ 84 → q ≠ 85 → m' q = m q) ∧ (∀ j : Nat, j < F → m' 84 (8 * (a : Int) + j) = GN P (fr a) (fr j)) ∧ (∀ i, i < 8 * (a : Int) ∨ 8 * (a : Int) + F ≤ i → m' 84 i = m 84 i) ∧ m' 85 (a : Int) = sdN (fun d => bbN D b d * -(GN P (fr a) d)) P ∧ (∀ i, i ≠ (a : Int) → m' 85 i = m 85 i) := by
  intro n
  induction n with
  | zero => intro i m h1 h; omega
  | succ n ih =>
    intro i m hi hn hl e33 e87 e84 e85
    have hfr : ∀ j, j < F → fr j < 8 := fun j hj => by have := hfP j hj; omega
    obtain ⟨h1, h2, h3, h4⟩ := hl
    rw [Mo_laid_L129, h3, w32_id (x := (P : Int) - 1) (by omega) (by omega), w32_id (x := (i : Int) + 1) (by omega) (by omega)]
    by_cases q : P - 2 ≤ i
    · have e : i = P - 2 := by omega
      subst e
      rw [if_pos (by omega)]
      refine ⟨m, rfl, fun _ _ _ => rfl, fun j hj => by rw [e84 j hj, GN_gm hP (hfP a ha) (hfP j hj)], fun _ _ => rfl, ?_, fun _ _ => rfl⟩
      rw [e85]
      exact sdN_c P (fun d hd => by show _ * -_ = _ * -_; rw [GN_gm hP (hfP a ha) hd])
    · have hf := hfr a ha
      rw [if_neg (by omega), w32_id (x := (a : Int)) (by omega) (by omega), if_pos (by omega), e87 a ha, show (i : Int) + 1 = ((i + 1 : Nat) : Int) by omega, m_ct (by omega) (by omega)]
      have hc : -2 ≤ ctN (i + 1) (fr a) ∧ ctN (i + 1) (fr a) ≤ 1 := by unfold ctN; split <;> (try split) <;> (try split) <;> omega
      have e85' : ∀ x : Int, x = m 85 (a : Int) - ctN (i + 1) (fr a) * sdN (fun d => bbN D b d * ctN (i + 1) d) P → x = sdN (fun d => bbN D b d * -(gmN (fr a) d (i + 1))) P := by
        intro x hx
        rw [hx, e85]
        refine (sdN_sub P (fun d _ => ?_)).symm
        show bbN D b d * -(gmN (fr a) d i + ctN (i + 1) (fr a) * ctN (i + 1) d) = _
        rw [Int.neg_add, Int.mul_add, ← Int.neg_mul, Int.mul_left_comm, Int.neg_mul]
        omega
      by_cases z : ctN (i + 1) (fr a) = 0
      · rw [if_neg (by rw [z]; decide)]
        obtain ⟨m', j⟩ := ih (i + 1) m (by omega) (by omega) ⟨h1, h2, h3, h4⟩ e33 e87 (fun j hj => by
          rw [e84 j hj]
          show _ = gmN (fr a) (fr j) i + ctN (i + 1) (fr a) * ctN (i + 1) (fr j)
          rw [z]; omega) (e85' _ (by rw [z]; omega))
        exact ⟨m', j⟩
      · rw [if_pos (by rw [w64_id (by omega) (by omega)]; exact z)]
        obtain ⟨ma, a1, a2, a3, a4⟩ := m_l167 (F := F) (a := a) (p := i + 1) (fr := fr) (mine := ctN (i + 1) (fr a)) hF ha (by omega) hfr (v1 := (D : Int)) (v3 := v3) (K := fun m31 => Mo_laid_L219 (D : Int) v3 (a : Int) (ctN (i + 1) (fr a)) (Mo_laid_L129 (D : Int) v3 K n) FU ((i + 1 : Nat) : Int) (((i + 1 : Nat) : Int) - 1) m31) FU 0 m (by omega) (by rw [FU_eq]; omega) e33 e87
        have hla : La m ma := (La.refl m).ch (fun c h _ _ _ => a2 c h)
        obtain ⟨mb, b1, b2, b3, b4⟩ := m_l219 (P := P) (D := D) (a := a) (p := i) (b := b) (f := f) (ap := ap) (mine := ctN (i + 1) (fr a)) (v3 := v3) hP hD (by omega) (by omega) (K := Mo_laid_L129 (D : Int) v3 K n) (LnR.la ⟨h1, h2, h3, h4⟩ hla)
        have hlb : La m mb := hla.trans ((La.refl ma).ch (fun c _ h _ _ => b2 c h))
        obtain ⟨m', j1, j2, j3, j4, j5, j6⟩ := ih (i + 1) mb (by omega) (by omega) (LnR.la ⟨h1, h2, h3, h4⟩ hlb) (by rw [b2 _ (by decide), a2 _ (by decide)]; exact e33) (by rw [b2 _ (by decide), a2 _ (by decide)]; exact e87) (fun j hj => by
          rw [b2 _ (by decide), a3 j (by omega) hj, e84 j hj]; rfl) (e85' _ (by rw [b4, a2 _ (by decide)]))
        refine ⟨m', ?_, fun q hq hq' => by rw [j2 q hq hq', b2 q hq', a2 q hq], j3, fun x hx => by rw [j4 x hx, b2 _ (by decide), a4 x (by omega)], j5, fun x hx => by rw [j6 x hx, b3 x hx, a2 _ (by decide)]⟩
        rw [show ((0 : Nat) : Int) = 0 from rfl] at a1
        exact a1.trans (b1.trans j1)
theorem m_l77 {P D F : Nat} {b : Nat → Int} {f ap v3 : Int} {fr : Nat → Nat} (hP : P ≤ 8) (hD : D < 256) (hF : F ≤ 8) (hfr : ∀ j, j < F → fr j < P) : ∀ (n a : Nat) (m : Mem), a ≤ F → F - a < n → LnR P b f ap m → m 75 33 = (F : Int) → (∀ j : Nat, j < F → m 87 (j : Int) = (fr j : Int)) → (∀ x j : Nat, x < a → j < F → m 84 (8 * (x : Int) + j) = GN P (fr x) (fr j)) → (∀ x : Nat, x < a → m 85 (x : Int) = sdN (fun d => bbN D b d * -(GN P (fr x) d)) P) → ∃ m', Mo_laid_L77 (D : Int) v3 n (a : Int) m = some (v3, m') ∧ (∀ q, q ≠ 84 → q ≠ 85 → m' q = m q) ∧ (∀ x j : Nat, x < F → j < F → m' 84 (8 * (x : Int) + j) = GN P (fr x) (fr j)) ∧ (∀ x : Nat, x < F → m' 85 (x : Int) = sdN (fun d => bbN D b d * -(GN P (fr x) d)) P) := by
  intro n
  induction n with
  | zero => intro a m _ h; omega
  | succ n ih =>
    intro a m ha hn hl e33 e87 e84 e85
    rw [Mo_laid_L77, e33, w32_id (x := (F : Int)) (by omega) (by omega), w32_id (x := (a : Int)) (by omega) (by omega)]
    by_cases q : F ≤ a
    · rw [if_pos (by omega)]
      exact ⟨m, rfl, fun _ _ _ => rfl, fun x j hx hj => e84 x j (by omega) hj, fun x hx => e85 x (by omega)⟩
    · rw [if_neg (by omega), if_pos (by omega)]
      obtain ⟨ma, a1, a2, a3, a4⟩ := m_l97 (F := F) (a := a) hF (by omega) (v1 := (D : Int)) (v3 := v3) (K := fun m19 => Mo_laid_L129 (D : Int) v3 (Mo_laid_L77 (D : Int) v3 n) FU (a : Int) 1 m19) FU 0 (st m 85 (a : Int) 0) (by omega) (by rw [FU_eq]; omega) (by rw [st_ne _ _ _ (by decide)]; exact e33)
      have hla : La m ma := (La.refl m).ch (fun c h h' _ _ => by rw [a2 c h, st_ne _ _ _ h'])
      obtain ⟨mb, b1, b2, b3, b4, b5, b6⟩ := m_l129 (P := P) (D := D) (F := F) (a := a) (b := b) (f := f) (ap := ap) (v3 := v3) (fr := fr) hP hD hF (by omega) hfr (K := Mo_laid_L77 (D : Int) v3 n) FU 0 ma (by omega) (by rw [FU_eq]; omega) (hl.la hla) (by rw [a2 _ (by decide), st_ne _ _ _ (by decide)]; exact e33) (by rw [a2 _ (by decide), st_ne _ _ _ (by decide)]; exact e87) (fun j hj => a3 j (by omega) hj) (by
        rw [a2 _ (by decide), st_eq, if_pos rfl]
        exact (sdN_z P (fun d _ => by show bbN D b d * -(0 : Int) = 0; rw [Int.neg_zero, Int.mul_zero])).symm)
      have hlb : La m mb := hla.trans ((La.refl ma).ch (fun c h h' _ _ => b2 c h h'))
      obtain ⟨m', j1, j2, j3, j4⟩ := ih (a + 1) mb (by omega) (by omega) (hl.la hlb) (by rw [b2 _ (by decide) (by decide), a2 _ (by decide), st_ne _ _ _ (by decide)]; exact e33) (by rw [b2 _ (by decide) (by decide), a2 _ (by decide), st_ne _ _ _ (by decide)]; exact e87) (fun x j hx hj => by
        by_cases y : x = a
        · subst y; exact b3 j hj
        · rw [b4 _ (by omega), a4 _ (by omega), st_ne _ _ _ (by decide)]; exact e84 x j (by omega) hj) (fun x hx => by
        by_cases y : x = a
        · subst y; exact b5
        · rw [b6 _ (by omega), a2 _ (by decide), st_eq, if_neg (by omega)]; exact e85 x (by omega))
      refine ⟨m', ?_, fun q hq hq' => by rw [j2 q hq hq', b2 q hq hq', a2 q hq, st_ne _ _ _ hq'], j3, j4⟩
      rw [show ((0 : Nat) : Int) = 0 from rfl] at a1
      rw [show ((0 : Nat) : Int) + 1 = 1 from rfl] at b1
      rw [show (a : Int) + 1 = ((a + 1 : Nat) : Int) by omega] at b1
      exact a1.trans (b1.trans j1)
/-- the reference's rows and right sides -/
def LdR (P D : Nat) (b : Nat → Int) (m : Mem) : Prop := m 75 33 = ((fmN P D).length : Int) ∧ (∀ x j : Nat, x < (fmN P D).length → j < (fmN P D).length → m 84 (8 * (x : Int) + j) = GN P ((fmN P D).getD x 0) ((fmN P D).getD j 0)) ∧ ∀ x : Nat, x < (fmN P D).length → m 85 (x : Int) = sdN (fun d => bbN D b d * rgN P (fmN P D) d x) P
theorem m_laid {P D pl : Nat} {b : Nat → Int} {f ap : Int} {m : Mem} (hP : P ≤ 8) (hD : D < 256) (hpl : pl < P) (hl : LnR P b f ap m) : ∃ m', Mo_laid (D : Int) (pl : Int) m = some ((if fzB D pl = true then ((frN D pl 0).length : Int) else -1), m') ∧ La m m' ∧ LdR P D b m' := by
  have hle := frN_len D P 0
  have hle2 : (fmN P D).length ≤ P := hle
  obtain ⟨ma, a1, a2, a3, a4, a5⟩ := m_l10 (P := P) (D := D) (pl := pl) hP hD hpl (K := fun u11 m12 => Mo_laid_L77 (D : Int) u11 FU 0 m12) FU 0 (-1) (st m 75 33 0) (by omega) (by rw [FU_eq]; omega) (by rw [st_eq, if_neg (by decide)]; exact hl.2.2.1) (by rw [st_eq, if_pos rfl]; rfl) (fun j hj => by simp [frN] at hj) (by rw [if_neg (by omega)])
  have hla : La m ma := ⟨fun c h1 h2 h3 h4 h5 => by rw [a2 c h1 h5, st_ne _ _ _ h1], fun i hi => by rw [a3 i hi, st_eq, if_neg hi]⟩
  obtain ⟨m', j1, j2, j3, j4⟩ := m_l77 (P := P) (D := D) (F := (fmN P D).length) (b := b) (f := f) (ap := ap) (v3 := if fzB D pl = true then ((frN D pl 0).length : Int) else -1) (fr := fun j => (fmN P D).getD j 0) hP hD (by unfold fmN; omega) (fun j hj => by have := frN_lt D P 0 j hj; unfold fmN; omega) FU 0 ma (by omega) (by rw [FU_eq]; omega) (hl.la hla) a4 a5 (fun x j hx => by omega) (fun x hx => by omega)
  refine ⟨m', ?_, hla.trans ((La.refl ma).ch (fun c h1 h2 _ _ => j2 c h1 h2)), ?_, j3, j4⟩
  · unfold Mo_laid
    rw [show ((0 : Nat) : Int) = 0 from rfl] at a1 j1
    exact a1.trans j1
  · rw [j2 _ (by decide) (by decide)]; exact a4
