/-! layer 2: between which breadths a point leaves places fair -/
theorem nby_w {m : Mem} {pt o a J w0 r w x : Int} (ej : Sheet_jumpAt 7 o a m = some J) (hw : (if ¬ (w32 pt) = (w32 o) then (if ¬ (w32 pt) = (w32 (o - a)) then (if ¬ (w32 pt) = (w32 (o - (2 * a))) then 1 else (-1) : Int) else 3 : Int) else (-3) : Int) = w0) (ea : Sheet_at 7 pt m = x) (hw1 : (w0 = 1 ∧ w = 1 ∧ r = J - x) ∨ (w0 = -1 ∧ w = 1 ∧ r = -(J + x)) ∨ (w0 = 3 ∧ w = 3 ∧ r = J - 3 * x) ∨ (w0 = -3 ∧ w = 3 ∧ r = -(J + 3 * x))) (j0 : -4000 ≤ J) (j1 : J ≤ 4000) (x0 : 0 ≤ x) (x1 : x ≤ 999) (e0 : 0 ≤ m 7 4) (e1 : m 7 4 ≤ 999) : Sheet_narrowBy 7 pt o a m = some (st (st m 7 14 (J_max (m 7 14) (-((m 7 4 + r) / w)))) 7 15 (J_min (m 7 15) ((m 7 4 - r) / w))) := by
  have k : ∀ y : Int, st m 7 14 y 7 4 = m 7 4 := fun y => by rw [st_eq, if_neg (by decide)]
  have k' : ∀ y : Int, st m 7 14 y 7 15 = m 7 15 := fun y => by rw [st_eq, if_neg (by decide)]
  unfold Sheet_narrowBy
  rw [ej, bP_some]
  simp only [ltI]
  rw [hw, ea]
  rcases hw1 with ⟨h1, h2, h3⟩ | ⟨h1, h2, h3⟩ | ⟨h1, h2, h3⟩ | ⟨h1, h2, h3⟩
  · subst h1 h2
    rw [show w32 1 = 1 from by decide, if_pos (by decide : (0 : Int) ≤ 1), show w32 1 = 1 from by decide, if_neg (by decide), if_pos (by decide : (0 : Int) ≤ 1), show J - 1 * x = r by omega, fdiv_p (by omega) (by omega) (by omega) (by omega), bP_some, k, fdiv_p (by omega) (by omega) (by omega) (by omega), bP_some, k']
  · subst h1 h2
    rw [show w32 (-1) = -1 from by decide, if_neg (by decide : ¬ (0 : Int) ≤ -1), show w32 (-(-1)) = 1 from by decide, if_neg (by decide), if_neg (by decide : ¬ (0 : Int) ≤ -1), show -(J - -1 * x) = r by omega, show -(-1 : Int) = 1 from rfl, fdiv_p (by omega) (by omega) (by omega) (by omega), bP_some, k, fdiv_p (by omega) (by omega) (by omega) (by omega), bP_some, k']
  · subst h1 h2
    rw [show w32 3 = 3 from by decide, if_pos (by decide : (0 : Int) ≤ 3), show w32 3 = 3 from by decide, if_neg (by decide), if_pos (by decide : (0 : Int) ≤ 3), show J - 3 * x = r by omega, fdiv_p (by omega) (by omega) (by omega) (by omega), bP_some, k, fdiv_p (by omega) (by omega) (by omega) (by omega), bP_some, k']
  · subst h1 h2
    rw [show w32 (-3) = -3 from by decide, if_neg (by decide : ¬ (0 : Int) ≤ -3), show w32 (-(-3)) = 3 from by decide, if_neg (by decide), if_neg (by decide : ¬ (0 : Int) ≤ -3), show -(J - -3 * x) = r by omega, show -(-3 : Int) = 3 from rfl, fdiv_p (by omega) (by omega) (by omega) (by omega), bP_some, k, fdiv_p (by omega) (by omega) (by omega) (by omega), bP_some, k']
theorem jmx2 {a b : Int} (a0 : -30000 ≤ a) (a1 : a ≤ 30000) (b0 : -30000 ≤ b) (b1 : b ≤ 30000) : J_max a b = if a < b then b else a := by unfold J_max; rw [w32_id (by omega) (by omega), w32_id (by omega) (by omega)]
theorem jmn2 {a b : Int} (a0 : -30000 ≤ a) (a1 : a ≤ 30000) (b0 : -30000 ≤ b) (b1 : b ≤ 30000) : J_min a b = if b < a then b else a := by unfold J_min; rw [w32_id (by omega) (by omega), w32_id (by omega) (by omega)]
theorem c_nby {m : Mem} {S W v l p pt : Int} (s : gSW S W) (hp : isPl S W v l p) (hF : Fb S W (m 10)) (e0 : 0 ≤ m 7 4) (e1 : m 7 4 ≤ 999) (ht : Tc (fsS S v l) (srS v) p pt) (l0 : -20000 ≤ m 7 14) (l1 : m 7 14 ≤ 20000) (h0 : -20000 ≤ m 7 15) (h1 : m 7 15 ≤ 20000) : ∃ lo hi, Sheet_narrowBy 7 pt (fsS S v l + srS v * p) (srS v) m = some (st (st m 7 14 lo) 7 15 hi) ∧ -20000 ≤ lo ∧ lo ≤ 20000 ∧ -20000 ≤ hi ∧ hi ≤ 20000 ∧ ∀ b, (lo ≤ b ∧ b ≤ hi) ↔ ((m 7 14 ≤ b ∧ b ≤ m 7 15) ∧ ufS (upF (m 10) pt b) (m 7 4) (fsS S v l) (srS v) p = 0) := by
  obtain ⟨q0, q1, q2, q3⟩ := pl4 s hp
  have sb := srS_b v
  have r0 := pt64 s q0
  have r1 := pt64 s q1
  have r2 := pt64 s q2
  have r3 := pt64 s q3
  have ej := c_jump (m := m) (f := fsS S v l) (a := srS v) (p := p) sb.1 sb.2 r2 r1 r0 r3
  have i1 : fsS S v l + srS v * (p - 1) = fsS S v l + srS v * p - srS v := by rw [Int.mul_sub, Int.mul_one]; omega
  have i2 : fsS S v l + srS v * (p - 2) = fsS S v l + srS v * p - 2 * srS v := by rw [Int.mul_sub]; omega
  have i3 : fsS S v l + srS v * (p + 1) = fsS S v l + srS v * p + srS v := by rw [Int.mul_add, Int.mul_one]; omega
  have f0 := hF _ q0
  have f1 := hF _ q1
  have f2 := hF _ q2
  have f3 := hF _ q3
  have hj : ∀ b, jmS (upF (m 10) pt b) (fsS S v l) (srS v) p = _ := fun b => jm4 _ _ _ _
  rw [jm4] at ej
  unfold Tc at ht
  have hu : ∀ b, (ufS (upF (m 10) pt b) (m 7 4) (fsS S v l) (srS v) p = 0 ↔ _) := fun b => uf0 _ _ _ _ _
  rw [i1] at f1 r1 q1; rw [i2] at f2 r2 q2; rw [i3] at f3 r3 q3
  rw [i1, i2, i3] at ht ej
  have hj' : ∀ b, jmS (upF (m 10) pt b) (fsS S v l) (srS v) p = upF (m 10) pt b (fsS S v l + srS v * p + srS v) - upF (m 10) pt b (fsS S v l + srS v * p - 2 * srS v) + 3 * (upF (m 10) pt b (fsS S v l + srS v * p - srS v) - upF (m 10) pt b (fsS S v l + srS v * p)) := fun b => by rw [hj b, i1, i2, i3]
  clear hj i1 i2 i3
  generalize fsS S v l + srS v * p = o at *
  generalize srS v = a at *
  have fin : ∀ (w r : Int), w = 1 ∨ w = 3 → -8000 ≤ r → r ≤ 8000 → Sheet_narrowBy 7 pt o a m = some (st (st m 7 14 (J_max (m 7 14) (-((m 7 4 + r) / w)))) 7 15 (J_min (m 7 15) ((m 7 4 - r) / w))) → (∀ b, jmS (upF (m 10) pt b) (fsS S v l) a p = r + w * b ∨ jmS (upF (m 10) pt b) (fsS S v l) a p = -(r + w * b)) → ∃ lo hi, Sheet_narrowBy 7 pt o a m = some (st (st m 7 14 lo) 7 15 hi) ∧ -20000 ≤ lo ∧ lo ≤ 20000 ∧ -20000 ≤ hi ∧ hi ≤ 20000 ∧ ∀ b, (lo ≤ b ∧ b ≤ hi) ↔ ((m 7 14 ≤ b ∧ b ≤ m 7 15) ∧ ufS (upF (m 10) pt b) (m 7 4) (fsS S v l) a p = 0) := by
    intro w r hw hr0 hr1 hs hJ
    refine ⟨_, _, hs, ?_⟩
    have d1 : -20000 ≤ (m 7 4 + r) / w ∧ (m 7 4 + r) / w ≤ 20000 := by rcases hw with z | z <;> subst z <;> omega
    have d2 : -20000 ≤ (m 7 4 - r) / w ∧ (m 7 4 - r) / w ≤ 20000 := by rcases hw with z | z <;> subst z <;> omega
    rw [jmx2 (by omega) (by omega) (by omega) (by omega), jmn2 (by omega) (by omega) (by omega) (by omega)]
    refine ⟨by split <;> omega, by split <;> omega, by split <;> omega, by split <;> omega, fun b => ?_⟩
    rw [hu b]
    have e : (-(m 7 4) ≤ jmS (upF (m 10) pt b) (fsS S v l) a p ∧ jmS (upF (m 10) pt b) (fsS S v l) a p ≤ m 7 4) ↔ (-((m 7 4 + r) / w) ≤ b ∧ b ≤ (m 7 4 - r) / w) := by
      rcases hw with z | z <;> subst z
      · rcases hJ b with y | y <;> rw [y] <;> omega
      · rcases hJ b with y | y <;> rw [y] <;> omega
    rw [e]
    constructor
    · rintro ⟨g1, g2⟩
      split at g1 <;> split at g2 <;> omega
    · rintro ⟨⟨g1, g2⟩, g3, g4⟩
      constructor
      · split <;> omega
      · split <;> omega
  rcases ht with e | e | e | e
  · subst e
    refine fin 3 _ (Or.inr rfl) ?_ ?_ (nby_w ej (w0 := -3) (by simp (disch := omega) only [w32_id, ↓reduceIte, ilt_t, ilt_f, ile_t, ile_f, ieq_t, ieq_f, not_true_eq_false, not_false_eq_true]) (c_at (by omega) (by omega)) (Or.inr (Or.inr (Or.inr ⟨rfl, rfl, rfl⟩))) (by omega) (by omega) (by omega) (by omega) e0 e1) (fun b => ?_)
    · omega
    · omega
    · rw [hj' b]; unfold upF
      rw [if_neg (by omega), if_neg (by omega), if_neg (by omega), if_pos rfl]; right; omega
  · subst e
    refine fin 3 _ (Or.inr rfl) ?_ ?_ (nby_w ej (w0 := 3) (by simp (disch := omega) only [w32_id, ↓reduceIte, ilt_t, ilt_f, ile_t, ile_f, ieq_t, ieq_f, not_true_eq_false, not_false_eq_true]) (c_at (by omega) (by omega)) (Or.inr (Or.inr (Or.inl ⟨rfl, rfl, rfl⟩))) (by omega) (by omega) (by omega) (by omega) e0 e1) (fun b => ?_)
    · omega
    · omega
    · rw [hj' b]; unfold upF
      rw [if_neg (by omega), if_neg (by omega), if_pos rfl, if_neg (by omega)]; left; omega
  · subst e
    refine fin 1 _ (Or.inl rfl) ?_ ?_ (nby_w ej (w0 := -1) (by simp (disch := omega) only [w32_id, ↓reduceIte, ilt_t, ilt_f, ile_t, ile_f, ieq_t, ieq_f, not_true_eq_false, not_false_eq_true]) (c_at (by omega) (by omega)) (Or.inr (Or.inl ⟨rfl, rfl, rfl⟩)) (by omega) (by omega) (by omega) (by omega) e0 e1) (fun b => ?_)
    · omega
    · omega
    · rw [hj' b]; unfold upF
      rw [if_neg (by omega), if_pos rfl, if_neg (by omega), if_neg (by omega)]; right; omega
  · subst e
    refine fin 1 _ (Or.inl rfl) ?_ ?_ (nby_w ej (w0 := 1) (by simp (disch := omega) only [w32_id, ↓reduceIte, ilt_t, ilt_f, ile_t, ile_f, ieq_t, ieq_f, not_true_eq_false, not_false_eq_true]) (c_at (by omega) (by omega)) (Or.inl ⟨rfl, rfl, rfl⟩) (by omega) (by omega) (by omega) (by omega) e0 e1) (fun b => ?_)
    · omega
    · omega
    · rw [hj' b]; unfold upF
      rw [if_pos rfl, if_neg (by omega), if_neg (by omega), if_neg (by omega)]; left; omega
/-- only the narrowing has changed -/
def Nw (m m' : Mem) : Prop := (∀ c, c ≠ 7 → m' c = m c) ∧ ∀ i, i ≠ 14 → i ≠ 15 → m' 7 i = m 7 i
theorem Nw.refl (m : Mem) : Nw m m := ⟨fun _ _ => rfl, fun _ _ _ => rfl⟩
theorem Nw.trans {a b c : Mem} (h : Nw a b) (h' : Nw b c) : Nw a c := ⟨fun x hx => (h'.1 x hx).trans (h.1 x hx), fun i i1 i2 => (h'.2 i i1 i2).trans (h.2 i i1 i2)⟩
theorem Nw.st2 (m : Mem) (lo hi : Int) : Nw m (st (st m 7 14 lo) 7 15 hi) := ⟨fun c hc => by rw [st_ne _ _ _ hc, st_ne _ _ _ hc], fun i i1 i2 => by rw [st_eq, if_neg i2, st_eq, if_neg i1]⟩
theorem c_nw76 {m : Mem} {v pt K : Int} {J : Int → Mem → Option Mem} (s : gSW (m 7 0) (m 7 1)) (v0 : 0 ≤ v) (v2 : v ≤ 2) (hq : Pt (m 7 0) (m 7 1) pt) (hF : Fb (m 7 0) (m 7 1) (m 10)) (e0 : 0 ≤ m 7 4) (e1 : m 7 4 ≤ 999) {last : Int} (el : last = if heS v pt + 2 < plS (m 7 0) (m 7 1) v (ltS (m 7 0) v pt) - 2 then heS v pt + 2 else plS (m 7 0) (m 7 1) v (ltS (m 7 0) v pt) - 2) : ∀ (n : Nat) (p : Int) (mm : Mem), Nw m mm → -20000 ≤ mm 7 14 → mm 7 14 ≤ 20000 → -20000 ≤ mm 7 15 → mm 7 15 ≤ 20000 → 2 ≤ p → heS v pt - 1 ≤ p → p ≤ 20 → (last + 1 - p).toNat < n → ∃ m', Sheet_narrow_L76 7 pt K (srS v) (heS v pt) last J n v p mm = J (v + 1) m' ∧ Nw m m' ∧ -20000 ≤ m' 7 14 ∧ m' 7 14 ≤ 20000 ∧ -20000 ≤ m' 7 15 ∧ m' 7 15 ≤ 20000 ∧ ∀ b, (m' 7 14 ≤ b ∧ b ≤ m' 7 15) ↔ ((mm 7 14 ≤ b ∧ b ≤ mm 7 15) ∧ ∀ x, p ≤ x → x ≤ last → w64 (lAnd K (Sheet_hold (fsS (m 7 0) v (ltS (m 7 0) v pt) + srS v * x) (srS v))) = 0 → ufS (upF (m 10) pt b) (m 7 4) (fsS (m 7 0) v (ltS (m 7 0) v pt)) (srS v) x = 0) := by
  obtain ⟨hl, h0, h1, hpt⟩ := co1 s v0 v2 hq
  have g := plS_le s hl
  have lb : last ≤ heS v pt + 2 ∧ last ≤ plS (m 7 0) (m 7 1) v (ltS (m 7 0) v pt) - 2 ∧ -20 ≤ last := by rw [el]; split <;> omega
  clear el
  intro n
  induction n with
  | zero => intro p mm _ _ _ _ _ _ _ _ q; omega
  | succ n ih =>
    intro p mm hn l0 l1 u0 u1 p2 ph p20 hf
    have e7 : ∀ i, i ≠ 14 → i ≠ 15 → mm 7 i = m 7 i := hn.2
    have e10 : mm 10 = m 10 := hn.1 10 (by decide)
    rw [Sheet_narrow_L76]
    by_cases q : last < p
    · have hq' : w32 last < w32 p ∨ ¬ w32 last < w32 p := Classical.em _
      have wl : w32 p = p := w32_id (by omega) (by omega)
      refine ⟨mm, ?_, hn, l0, l1, u0, u1, fun b => ⟨fun z => ⟨z, fun x x0 x1 => by omega⟩, fun z => z.1⟩⟩
      rw [wl, w32_id (x := last) (by omega) (by omega), if_pos q]
    · have eo : pt + (p - heS v pt) * srS v = fsS (m 7 0) v (ltS (m 7 0) v pt) + srS v * p := by
        have : (p - heS v pt) * srS v = srS v * p - srS v * heS v pt := by rw [Int.sub_mul, Int.mul_comm p, Int.mul_comm (heS v pt)]
        omega
      rw [w32_id (x := p) (by omega) (by omega), w32_id (x := last) (by omega) (by omega), if_neg q, eo]
      have hpl : isPl (m 7 0) (m 7 1) v (ltS (m 7 0) v pt) p := ⟨hl, p2, by omega⟩
      by_cases z : w64 (lAnd K (Sheet_hold (fsS (m 7 0) v (ltS (m 7 0) v pt) + srS v * p) (srS v))) = 0
      · have htc : Tc (fsS (m 7 0) v (ltS (m 7 0) v pt)) (srS v) p pt := by
          have : heS v pt = p ∨ heS v pt = p - 1 ∨ heS v pt = p - 2 ∨ heS v pt = p + 1 := by omega
          unfold Tc
          rcases this with y | y | y | y
          · left; rw [← y]; exact hpt.symm
          · right; left; rw [← y]; exact hpt.symm
          · right; right; left; rw [← y]; exact hpt.symm
          · right; right; right; rw [← y]; exact hpt.symm
        obtain ⟨lo, hi, n1, n2, n3, n4, n5, n6⟩ := c_nby (m := mm) s hpl (by rw [e10]; exact hF) (by rw [e7 4 (by decide) (by decide)]; exact e0) (by rw [e7 4 (by decide) (by decide)]; exact e1) htc l0 l1 u0 u1
        rw [e10, e7 4 (by decide) (by decide)] at n6
        obtain ⟨m', j1, j2, j3, j4, j5, j6, j7⟩ := ih (p + 1) (st (st mm 7 14 lo) 7 15 hi) (hn.trans (Nw.st2 mm lo hi)) n2 n3 n4 n5 (by omega) (by omega) (by omega) (by omega)
        refine ⟨m', ?_, j2, j3, j4, j5, j6, fun b => ?_⟩
        · rw [if_neg (not_not_intro z), n1, bV_some]; exact j1
        · have k14 : st (st mm 7 14 lo) 7 15 hi 7 14 = lo := rfl
          have k15 : st (st mm 7 14 lo) 7 15 hi 7 15 = hi := rfl
          rw [j7 b, k14, k15, n6 b]
          constructor
          · rintro ⟨⟨y1, y2⟩, y3⟩
            refine ⟨y1, fun x x0 x1 xd => ?_⟩
            by_cases w : x = p
            · subst w; exact y2
            · exact y3 x (by omega) x1 xd
          · rintro ⟨y1, y3⟩
            exact ⟨⟨y1, y3 p (by omega) (by omega) z⟩, fun x x0 x1 xd => y3 x (by omega) x1 xd⟩
      · obtain ⟨m', j1, j2, j3, j4, j5, j6, j7⟩ := ih (p + 1) mm hn l0 l1 u0 u1 (by omega) (by omega) (by omega) (by omega)
        refine ⟨m', ?_, j2, j3, j4, j5, j6, fun b => ?_⟩
        · rw [if_pos z]; exact j1
        · rw [j7 b]
          constructor
          · rintro ⟨y1, y3⟩
            refine ⟨y1, fun x x0 x1 xd => ?_⟩
            by_cases w : x = p
            · subst w; exact absurd xd z
            · exact y3 x (by omega) x1 xd
          · rintro ⟨y1, y3⟩
            exact ⟨y1, fun x x0 x1 xd => y3 x (by omega) x1 xd⟩
/-- places that a point bears on, and no point of K -/
def Nq (F : Int → Int) (eye S W pt K b : Int) : Prop := ∀ v l p, isPl S W v l p → Tc (fsS S v l) (srS v) p pt → w64 (lAnd K (Sheet_hold (fsS S v l + srS v * p) (srS v))) = 0 → ufS (upF F pt b) eye (fsS S v l) (srS v) p = 0
theorem tc_co {S W v l p pt : Int} (s : gSW S W) (hp : isPl S W v l p) (ht : Tc (fsS S v l) (srS v) p pt) : l = ltS S v pt ∧ heS v pt - 1 ≤ p ∧ p ≤ heS v pt + 2 := by
  obtain ⟨h1, h2, h3⟩ := hp
  rcases ht with e | e | e | e
  · have := co2 s h1 (show 0 ≤ p by omega) (by omega); rw [← e] at this; omega
  · have := co2 s h1 (show 0 ≤ p - 1 by omega) (by omega); rw [← e] at this; omega
  · have := co2 s h1 (show 0 ≤ p - 2 by omega) (by omega); rw [← e] at this; omega
  · have := co2 s h1 (show 0 ≤ p + 1 by omega) (by omega); rw [← e] at this; omega
theorem c_narrow {m : Mem} {pt K : Int} (s : gSW (m 7 0) (m 7 1)) (hq : Pt (m 7 0) (m 7 1) pt) (hF : Fb (m 7 0) (m 7 1) (m 10)) (e0 : 0 ≤ m 7 4) (e1 : m 7 4 ≤ 999) : ∃ m', Sheet_narrow 7 pt K m = some m' ∧ Nw m m' ∧ -20000 ≤ m' 7 14 ∧ m' 7 14 ≤ 20000 ∧ -20000 ≤ m' 7 15 ∧ m' 7 15 ≤ 20000 ∧ ∀ b, (m' 7 14 ≤ b ∧ b ≤ m' 7 15) ↔ ((0 ≤ b ∧ b ≤ 999) ∧ Nq (m 10) (m 7 4) (m 7 0) (m 7 1) pt K b) := by
  have p64 := pt64 s hq
  have st1 : ∀ (n : Nat) (v : Int) (mm : Mem), 0 ≤ v → v ≤ 2 → Nw m mm → -20000 ≤ mm 7 14 → mm 7 14 ≤ 20000 → -20000 ≤ mm 7 15 → mm 7 15 ≤ 20000 → ∃ m', Sheet_narrow_L15 7 pt K (n + 1) v mm = Sheet_narrow_L15 7 pt K n (v + 1) m' ∧ Nw m m' ∧ -20000 ≤ m' 7 14 ∧ m' 7 14 ≤ 20000 ∧ -20000 ≤ m' 7 15 ∧ m' 7 15 ≤ 20000 ∧ ∀ b, (m' 7 14 ≤ b ∧ b ≤ m' 7 15) ↔ ((mm 7 14 ≤ b ∧ b ≤ mm 7 15) ∧ ∀ l p, isPl (m 7 0) (m 7 1) v l p → Tc (fsS (m 7 0) v l) (srS v) p pt → w64 (lAnd K (Sheet_hold (fsS (m 7 0) v l + srS v * p) (srS v))) = 0 → ufS (upF (m 10) pt b) (m 7 4) (fsS (m 7 0) v l) (srS v) p = 0) := by
    intro n v mm v0 v2 hn l0 l1 u0 u1
    obtain ⟨hl, h0, h1, hpt⟩ := co1 s v0 v2 hq
    have g := plS_le s hl
    have x7 : ∀ i, i ≠ 14 → i ≠ 15 → mm 7 i = m 7 i := hn.2
    have y0 := x7 0 (by decide) (by decide)
    have y1 := x7 1 (by decide) (by decide)
    have ep : Sheet_placesOf 7 v (ltS (m 7 0) v pt) mm = plS (m 7 0) (m 7 1) v (ltS (m 7 0) v pt) := by
      rw [c_places (by rw [y0, y1]; exact s) (by rw [y0, y1]; exact hl), y0, y1]
    have ej1 : ∀ _ : Unit, J_max 2 (heS v pt - 1) = if 2 < heS v pt - 1 then heS v pt - 1 else 2 := fun _ => jmx2 (by omega) (by omega) (by omega) (by omega)
    have ej2 : ∀ _ : Unit, J_min (plS (m 7 0) (m 7 1) v (ltS (m 7 0) v pt) - 2) (heS v pt + 2) = if heS v pt + 2 < plS (m 7 0) (m 7 1) v (ltS (m 7 0) v pt) - 2 then heS v pt + 2 else plS (m 7 0) (m 7 1) v (ltS (m 7 0) v pt) - 2 := fun _ => jmn2 (by omega) (by omega) (by omega) (by omega)
    obtain ⟨last, el⟩ : ∃ last, last = if heS v pt + 2 < plS (m 7 0) (m 7 1) v (ltS (m 7 0) v pt) - 2 then heS v pt + 2 else plS (m 7 0) (m 7 1) v (ltS (m 7 0) v pt) - 2 := ⟨_, rfl⟩
    obtain ⟨p0, e2⟩ : ∃ p0, p0 = if 2 < heS v pt - 1 then heS v pt - 1 else 2 := ⟨_, rfl⟩
    have lb : last ≤ heS v pt + 2 ∧ last ≤ plS (m 7 0) (m 7 1) v (ltS (m 7 0) v pt) - 2 ∧ (last = heS v pt + 2 ∨ last = plS (m 7 0) (m 7 1) v (ltS (m 7 0) v pt) - 2) := by rw [el]; split <;> omega
    have pb : 2 ≤ p0 ∧ heS v pt - 1 ≤ p0 ∧ (p0 = 2 ∨ p0 = heS v pt - 1) := by rw [e2]; split <;> omega
    obtain ⟨m', j1, j2, j3, j4, j5, j6, j7⟩ := c_nw76 (m := m) (v := v) (pt := pt) (K := K) (J := Sheet_narrow_L15 7 pt K n) s v0 v2 hq hF e0 e1 el FU p0 mm hn l0 l1 u0 u1 (by omega) (by omega) (by omega) (by rw [FU_eq]; omega)
    refine ⟨m', ?_, j2, j3, j4, j5, j6, fun b => ?_⟩
    · rw [Sheet_narrow_L15, w32_id (x := v) (by omega) (by omega), if_neg (by omega), c_stride v0 v2, c_he v0 v2 p64.1 p64.2, c_lt v0 v2 p64.1 p64.2, y0, ep, ej1 (), ej2 (), ← el, ← e2]
      exact j1
    · rw [j7 b]
      constructor
      · rintro ⟨w1, w2⟩
        refine ⟨w1, fun l p hp ht hd => ?_⟩
        obtain ⟨t1, t2, t3⟩ := tc_co s hp ht
        have hp3 := hp.2.2
        have hp2 := hp.2.1
        subst t1
        exact w2 p (by omega) (by omega) hd
      · rintro ⟨w1, w2⟩
        refine ⟨w1, fun x x0 x1 hd => ?_⟩
        have : heS v pt = x ∨ heS v pt = x - 1 ∨ heS v pt = x - 2 ∨ heS v pt = x + 1 := by omega
        refine w2 (ltS (m 7 0) v pt) x ⟨hl, by omega, by omega⟩ ?_ hd
        unfold Tc
        rcases this with y | y | y | y
        · left; rw [← y]; exact hpt.symm
        · right; left; rw [← y]; exact hpt.symm
        · right; right; left; rw [← y]; exact hpt.symm
        · right; right; right; rw [← y]; exact hpt.symm
  unfold Sheet_narrow
  obtain ⟨ma, a1, a2, a3, a4, a5, a6, a7⟩ := st1 19999 0 (st (st m 7 14 0) 7 15 999) (by omega) (by omega) (Nw.st2 m 0 999) (by show (-20000 : Int) ≤ 0; omega) (by show (0 : Int) ≤ 20000; omega) (by show (-20000 : Int) ≤ 999; omega) (by show (999 : Int) ≤ 20000; omega)
  obtain ⟨mb, b1, b2, b3, b4, b5, b6, b7⟩ := st1 19998 1 ma (by omega) (by omega) a2 a3 a4 a5 a6
  obtain ⟨mc, c1, c2, c3, c4, c5, c6, c7⟩ := st1 19997 2 mb (by omega) (by omega) b2 b3 b4 b5 b6
  refine ⟨mc, ?_, c2, c3, c4, c5, c6, fun b => ?_⟩
  · rw [show FU = 19999 + 1 from rfl, a1, show (0 : Int) + 1 = 1 from rfl, show 19999 = 19998 + 1 from rfl, b1, show (1 : Int) + 1 = 2 from rfl, show 19998 = 19997 + 1 from rfl, c1, show (2 : Int) + 1 = 3 from rfl, show 19997 = 19996 + 1 from rfl, Sheet_narrow_L15, w32_id (by omega) (by omega), if_pos (by decide)]
  · rw [c7 b, b7 b, a7 b]
    have k14 : st (st m 7 14 0) 7 15 999 7 14 = 0 := rfl
    have k15 : st (st m 7 14 0) 7 15 999 7 15 = 999 := rfl
    rw [k14, k15]
    constructor
    · rintro ⟨⟨⟨y0, y1⟩, y2⟩, y3⟩
      refine ⟨y0, fun v l p hp ht hd => ?_⟩
      have hv := hp.1.1
      have : v = 0 ∨ v = 1 ∨ v = 2 := by omega
      rcases this with z | z | z <;> subst z
      · exact y1 l p hp ht hd
      · exact y2 l p hp ht hd
      · exact y3 l p hp ht hd
    · rintro ⟨y0, y⟩
      exact ⟨⟨⟨y0, y 0⟩, y 1⟩, y 2⟩
