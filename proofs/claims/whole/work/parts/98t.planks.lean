/-! layer 2: planks, the best set -/
def Jb (last : Int) (b : Int × Int × Int) : Prop := b.1 = -1 ∨ (0 ≤ b.1 ∧ b.1 < last ∧ 1 ≤ b.2.1 ∧ b.2.1 ≤ 5 ∧ 0 ≤ b.2.2 ∧ b.2.2 ≤ 400000 ∧ b.2.1 = J_bitCount (b.1 + last))
def Jt (last : Int) (tp : Int → Option (Int × Int)) : Prop := ∀ s c x, 0 ≤ s → s < last → tp s = some (c, x) → 1 ≤ c ∧ c ≤ 5 ∧ 0 ≤ x ∧ x ≤ 400000 ∧ c = J_bitCount (s + last)
theorem Jb_n {last s : Int} {tp : Int → Option (Int × Int)} {ah : Int → Int → Bool} {b : Int × Int × Int} (ht : Jt last tp) (hb : Jb last b) (s0 : 0 ≤ s) (s1 : s < last) : Jb last (match tp s with
    | none => b
    | some r => if b.1 = -1 ∨ r.1 < b.2.1 ∨ (r.1 = b.2.1 ∧ (r.2 < b.2.2 ∨ (r.2 = b.2.2 ∧ ah s b.1 = true))) then (s, r.1, r.2) else b) := by
  cases e : tp s with
  | none => exact hb
  | some r =>
    have u := ht s r.1 r.2 s0 s1 e
    show Jb last (if _ then _ else _)
    split
    · exact Or.inr ⟨s0, s1, u⟩
    · exact hb
theorem c_jp {m : Mem} {tr strips last : Int} {tp : Int → Option (Int × Int)} {ah : Int → Int → Bool} (hs : gSW (m 7 0) (m 7 1)) (hfl : ∀ q, Pt (m 7 0) (m 7 1) q → 0 ≤ m 10 q ∧ m 10 q ≤ 999) (hr : 0 ≤ m 7 3 ∧ m 7 3 ≤ 999) (t0 : 1 ≤ tr) (t1 : tr ≤ 9999) (es : strips = m 7 1 - 1) (h2 : 2 ≤ strips) (l0 : 1 ≤ last) (l1 : last ≤ 16) (htp : ∀ s, 0 ≤ s → s < last → tpS (enS (s + last)) (okS (m 10) (m 7 3) (m 7 0) tr) (waS (m 10) (m 7 3) (m 7 0)) (strips - 0).toNat 0 0 0 0 = tp s) (hah : ∀ s b, 0 ≤ s → s < last → 0 ≤ b → b < last → Yard_isAheadOf (s + last) (b + last) = if ah s b then 1 else 0) (ht : Jt last tp) : ∀ (n : Nat) (s bm bw bt : Int) (mm : Mem) (b : Int × Int × Int), Pk m mm → Jb last b → (b.1 = -1 → bm = 0) → (b.1 ≠ -1 → bm = b.2.1 ∧ bw = b.2.2 ∧ bt = b.1 + last) → 0 ≤ s → s ≤ last → (last - s).toNat < n → ∀ R, jpS tp ah (last - s).toNat s b = R → ∃ m', Pk m m' ∧ Jb last R ∧ (R.1 = -1 → Yard_joinPlanks_L40 tr strips last n bm bw bt (s + last) mm = some (0, m')) ∧ (R.1 ≠ -1 → Yard_joinPlanks_L40 tr strips last n bm bw bt (s + last) mm = some (1, st (st (st m' 39 4 R.2.1) 39 5 R.2.2) 39 6 (R.1 + last))) := by
  intro n
  induction n with
  | zero => intro s bm bw bt mm b _ _ _ _ _ _ q; omega
  | succ n ih =>
    intro s bm bw bt mm b hp hb hn0 hn1 s0 s1 hn R hR
    by_cases q : last ≤ s
    · rw [show (last - s).toNat = 0 by omega] at hR
      have hR' : b = R := hR
      subst hR'
      refine ⟨mm, hp, hb, fun z => ?_, fun z => ?_⟩
      · rw [Yard_joinPlanks_L40, w32_id (x := 2 * last) (by omega) (by omega), w32_id (x := s + last) (by omega) (by omega), if_pos (by omega), hn0 z, if_neg (by decide)]
      · obtain ⟨e1, e2, e3⟩ := hn1 z
        rcases hb with y | y
        · exact absurd y z
        · rw [Yard_joinPlanks_L40, w32_id (x := 2 * last) (by omega) (by omega), w32_id (x := s + last) (by omega) (by omega), if_pos (by omega), e1, e2, e3, w32_id (x := b.2.1) (by omega) (by omega), if_pos (by omega)]
    · rw [show (last - s).toNat = (last - (s + 1)).toNat + 1 by omega, jpS_s] at hR
      have hb' := Jb_n (s := s) (ah := ah) ht hb s0 (by omega)
      obtain ⟨ma, a1, a2, a3⟩ := c_tps (m := m) (tops := s + last) hs hfl hr t0 t1 es h2 FU 0 0 (st (st mm 39 7 0) 39 8 0) ((hp.st7 0).st8 0) (by omega) (by omega) (by omega) (by rw [FU_eq]; omega) (tp s) (htp s s0 (by omega))
      have e0 : Yard_joinPlanks_L40 tr strips last (n + 1) bm bw bt (s + last) mm = bE (Yard_tryPlanks_L16 tr (s + last) strips FU 0 0 (st (st mm 39 7 0) 39 8 0)) fun x6 m8 => (ltI (if (if ¬ (w32 (m8 39 7)) = (w32 bm) then 0 else (if ¬ (w32 (m8 39 8)) = (w32 bw) then 0 else 1 : Int) : Int) = 0 then 0 else (if (Yard_isAheadOf (s + last) bt) = 0 then 0 else 1 : Int) : Int) fun v22 => (if (w32 x6) = 0 then (Yard_joinPlanks_L40 tr strips last n bm bw bt (s + last + 1) m8) else (if ¬ (if ¬ (w32 bm) = 0 then 0 else 1 : Int) = 0 then (Yard_joinPlanks_L40 tr strips last n (m8 39 7) (m8 39 8) (s + last) (s + last + 1) m8) else (if ¬ (if (w32 bm) ≤ (w32 (m8 39 7)) then 0 else 1 : Int) = 0 then (Yard_joinPlanks_L40 tr strips last n (m8 39 7) (m8 39 8) (s + last) (s + last + 1) m8) else (if ¬ (if ¬ (w32 (m8 39 7)) = (w32 bm) then 0 else (if (w32 bw) ≤ (w32 (m8 39 8)) then 0 else 1 : Int) : Int) = 0 then (Yard_joinPlanks_L40 tr strips last n (m8 39 7) (m8 39 8) (s + last) (s + last + 1) m8) else (if (w32 v22) = 0 then (Yard_joinPlanks_L40 tr strips last n bm bw bt (s + last + 1) m8) else (Yard_joinPlanks_L40 tr strips last n (m8 39 7) (m8 39 8) (s + last) (s + last + 1) m8))))))) := by
        rw [Yard_joinPlanks_L40, w32_id (x := 2 * last) (by omega) (by omega), w32_id (x := s + last) (by omega) (by omega), if_neg (by omega)]
        rfl
      rw [e0]
      cases e : tp s with
      | none =>
        rw [e] at hR hb'
        rw [a2 e, bE_some]
        simp only [ltI]
        rw [w32_id (x := 0) (by omega) (by omega), if_pos rfl, show s + last + 1 = s + 1 + last by omega]
        exact ih (s + 1) bm bw bt ma b a1 hb hn0 hn1 (by omega) (by omega) (by omega) R hR
      | some r =>
        rw [e] at hR hb'
        obtain ⟨f1, f2, f3⟩ := a3 r.1 r.2 e
        have u := ht s r.1 r.2 s0 (by omega) e
        rw [f1, bE_some, f2, f3, show s + last + 1 = s + 1 + last by omega]
        have tk : (b.1 = -1 ∨ r.1 < b.2.1 ∨ (r.1 = b.2.1 ∧ (r.2 < b.2.2 ∨ (r.2 = b.2.2 ∧ ah s b.1 = true)))) → ∃ m', Pk m m' ∧ Jb last R ∧ (R.1 = -1 → Yard_joinPlanks_L40 tr strips last n r.1 r.2 (s + last) (s + 1 + last) ma = some (0, m')) ∧ (R.1 ≠ -1 → Yard_joinPlanks_L40 tr strips last n r.1 r.2 (s + last) (s + 1 + last) ma = some (1, st (st (st m' 39 4 R.2.1) 39 5 R.2.2) 39 6 (R.1 + last))) := by
          intro c
          have hR2 : jpS tp ah (last - (s + 1)).toNat (s + 1) (s, r.1, r.2) = R := by
            rw [← hR]; congr 1; exact (if_pos c).symm
          exact ih (s + 1) r.1 r.2 (s + last) ma (s, r.1, r.2) a1 (Or.inr ⟨s0, by show s < last; omega, u⟩) (fun z => absurd (show s = -1 from z) (by omega)) (fun _ => ⟨rfl, rfl, rfl⟩) (by omega) (by omega) (by omega) R hR2
        have sk : ¬ (b.1 = -1 ∨ r.1 < b.2.1 ∨ (r.1 = b.2.1 ∧ (r.2 < b.2.2 ∨ (r.2 = b.2.2 ∧ ah s b.1 = true)))) → ∃ m', Pk m m' ∧ Jb last R ∧ (R.1 = -1 → Yard_joinPlanks_L40 tr strips last n bm bw bt (s + 1 + last) ma = some (0, m')) ∧ (R.1 ≠ -1 → Yard_joinPlanks_L40 tr strips last n bm bw bt (s + 1 + last) ma = some (1, st (st (st m' 39 4 R.2.1) 39 5 R.2.2) 39 6 (R.1 + last))) := by
          intro c
          have hR2 : jpS tp ah (last - (s + 1)).toNat (s + 1) b = R := by
            rw [← hR]; congr 1; exact (if_neg c).symm
          exact ih (s + 1) bm bw bt ma b a1 hb hn0 hn1 (by omega) (by omega) (by omega) R hR2
        rcases hb with y | y
        · have y0 := hn0 y
          have e2 := tk (Or.inl y)
          subst y0
          simp (disch := omega) only [w32_id, ↓reduceIte, ilt_t, ilt_f, ile_t, ile_f, ieq_t, ieq_f, not_true_eq_false, not_false_eq_true, and_true, true_and, and_self, and_false, false_and, ltI]
          exact e2
        · obtain ⟨g1, g2, g3⟩ := hn1 (by omega)
          have y4 : ¬ b.1 = -1 := by omega
          have hA := hah s b.1 s0 (by omega) y.1 y.2.1
          rw [← g3] at hA
          by_cases i1 : r.1 < b.2.1
          · have e2 := tk (Or.inr (Or.inl i1))
            simp (disch := omega) only [w32_id, ↓reduceIte, ilt_t, ilt_f, ile_t, ile_f, ieq_t, ieq_f, not_true_eq_false, not_false_eq_true, and_true, true_and, and_self, and_false, false_and, ltI]
            exact e2
          · by_cases i2 : r.1 = b.2.1
            · by_cases i3 : r.2 < b.2.2
              · have e2 := tk (Or.inr (Or.inr ⟨i2, Or.inl i3⟩))
                simp (disch := omega) only [w32_id, ↓reduceIte, ilt_t, ilt_f, ile_t, ile_f, ieq_t, ieq_f, not_true_eq_false, not_false_eq_true, and_true, true_and, and_self, and_false, false_and, ltI]
                exact e2
              · by_cases i4 : r.2 = b.2.2
                · by_cases i5 : ah s b.1 = true
                  · have e2 := tk (Or.inr (Or.inr ⟨i2, Or.inr ⟨i4, i5⟩⟩))
                    rw [if_pos i5] at hA
                    simp (disch := omega) only [w32_id, ↓reduceIte, ilt_t, ilt_f, ile_t, ile_f, ieq_t, ieq_f, not_true_eq_false, not_false_eq_true, and_true, true_and, and_self, and_false, false_and, ltI]
                    exact e2
                  · have e2 := sk (by rintro (z | z | ⟨z, z' | ⟨z', z''⟩⟩) <;> first | omega | exact i5 z'')
                    rw [if_neg i5] at hA
                    simp (disch := omega) only [w32_id, ↓reduceIte, ilt_t, ilt_f, ile_t, ile_f, ieq_t, ieq_f, not_true_eq_false, not_false_eq_true, and_true, true_and, and_self, and_false, false_and, ltI]
                    exact e2
                · have e2 := sk (by rintro (z | z | ⟨z, z' | ⟨z', z''⟩⟩) <;> omega)
                  simp (disch := omega) only [w32_id, ↓reduceIte, ilt_t, ilt_f, ile_t, ile_f, ieq_t, ieq_f, not_true_eq_false, not_false_eq_true, and_true, true_and, and_self, and_false, false_and, ltI]
                  exact e2
            · have e2 := sk (by rintro (z | z | ⟨z, z'⟩) <;> omega)
              simp (disch := omega) only [w32_id, ↓reduceIte, ilt_t, ilt_f, ile_t, ile_f, ieq_t, ieq_f, not_true_eq_false, not_false_eq_true, and_true, true_and, and_self, and_false, false_and, ltI]
              exact e2
def eaS (a b : Int) : Nat → Int → Int
  | 0, _ => 0
  | n + 1, k => if bAnd (bShr a k) 1 = bAnd (bShr b k) 1 then eaS a b n (k + 1) else if bAnd (bShr a k) 1 = 1 then 1 else 0
theorem m_ea {m : Mem} {a b z : Int} (z0 : 0 ≤ z) (z1 : z ≤ 8) : Mo_endsAhead a b z m = some (eaS a b (z - 0).toNat 0) := by
  have key : ∀ (n : Nat) (k : Int), 0 ≤ k → k ≤ 8 → (z - k).toNat < n → Mo_endsAhead_L2 a b z m n k = some (eaS a b (z - k).toNat k) := by
    intro n
    induction n with
    | zero => intro k _ _ q; omega
    | succ n ih =>
      intro k k0 k1 hn
      rw [Mo_endsAhead_L2, w32_id (x := z) (by omega) (by omega), w32_id (x := k) (by omega) (by omega)]
      by_cases q : z ≤ k
      · rw [if_pos q, show (z - k).toNat = 0 by omega]; rfl
      · rw [if_neg q, (bit01 a k).1, (bit01 b k).1, ih (k + 1) (by omega) (by omega) (by omega), show (z - k).toNat = (z - (k + 1)).toNat + 1 by omega, eaS]
        by_cases y : bAnd (bShr a k) 1 = bAnd (bShr b k) 1
        · rw [if_pos y, if_pos y]
        · rw [if_neg y, if_neg y]
          by_cases x : bAnd (bShr a k) 1 = 1
          · rw [if_neg (not_not_intro x), if_pos x]
          · rw [if_pos x, if_neg x]
  exact key FU 0 (by omega) (by omega) (by rw [FU_eq]; omega)
theorem m_jp {m : Mem} {S W tr strips last : Int} {tp : Int → Option (Int × Int)} {ah : Int → Int → Bool} (hs : gSW S W) (z0 : m 76 0 = S) (hfl : ∀ q, Pt S W q → 0 ≤ m 76 (80 + q) ∧ m 76 (80 + q) ≤ 999) (hr : 0 ≤ m 76 3 ∧ m 76 3 ≤ 999) (t0 : 1 ≤ tr) (t1 : tr ≤ 9999) (es : strips = W - 1) (h2 : 2 ≤ strips) (l0 : 1 ≤ last) (l1 : last ≤ 16) (el : bShl 1 (J_max 0 (strips - 1)) = last) (htp : ∀ s, 0 ≤ s → s < last → tpS (erS s strips) (okS (fun q => m 76 (80 + q)) (m 76 3) S tr) (waS (fun q => m 76 (80 + q)) (m 76 3) S) (strips - 0).toNat 0 0 0 0 = tp s) (hah : ∀ s b, 0 ≤ s → s < last → 0 ≤ b → b < last → eaS s b (strips - 0).toNat 0 = if ah s b then 1 else 0) (ht : Jt last tp) {K : Int → Int → Int → Option (Int × Mem)} : ∀ (n : Nat) (s : Int) (b : Int × Int × Int), Jb last b → 0 ≤ s → s ≤ last → (last - s).toNat < n → ∀ R, jpS tp ah (last - s).toNat s b = R → Mo_planks_L42 tr strips K m n b.1 b.2.1 b.2.2 s = K R.1 R.2.1 R.2.2 := by
  intro n
  induction n with
  | zero => intro s b _ _ _ q; omega
  | succ n ih =>
    intro s b hb s0 s1 hn R hR
    by_cases q : last ≤ s
    · rw [show (last - s).toNat = 0 by omega] at hR
      have hR' : b = R := hR
      subst hR'
      rw [Mo_planks_L42, el, w32_id (x := last) (by omega) (by omega), w32_id (x := s) (by omega) (by omega), if_pos q]
    · rw [show (last - s).toNat = (last - (s + 1)).toNat + 1 by omega, jpS_s] at hR
      have tkk : ∀ (b' : Int × Int × Int), Jb last b' → jpS tp ah (last - (s + 1)).toNat (s + 1) b' = R → Mo_planks_L42 tr strips K m n b'.1 b'.2.1 b'.2.2 (s + 1) = K R.1 R.2.1 R.2.2 := fun b' hb' h' => ih (s + 1) b' hb' (by omega) (by omega) (by omega) R h'
      have e0 : Mo_planks_L42 tr strips K m (n + 1) b.1 b.2.1 b.2.2 s = Mo_planks_L75 tr strips b.1 b.2.1 b.2.2 s (fun u27 u28 u29 => (Mo_planks_J181 tr strips (Mo_planks_L42 tr strips K m n) b.1 b.2.1 b.2.2 s u27 u28 u29 m)) m FU (0 + 1) 0 0 1 0 := by
        rw [Mo_planks_L42, el, w32_id (x := last) (by omega) (by omega), w32_id (x := s) (by omega) (by omega), w32_id (x := strips) (by omega) (by omega), if_neg q, if_neg (by omega)]
        rfl
      have hX : ∀ u v, (fun u27 u28 u29 => (Mo_planks_J181 tr strips (Mo_planks_L42 tr strips K m n) b.1 b.2.1 b.2.2 s u27 u28 u29 m)) u v 0 = Mo_planks_L42 tr strips K m n b.1 b.2.1 b.2.2 (s + 1) := by
        intro u v
        show Mo_planks_J181 tr strips (Mo_planks_L42 tr strips K m n) b.1 b.2.1 b.2.2 s u v 0 m = _
        unfold Mo_planks_J181
        rw [w32_id (x := 0) (by omega) (by omega), if_pos rfl]
      have hh := m_tps (m := m) (v3 := b.1) (v4 := b.2.1) (v5 := b.2.2) (set := s) (K := fun u27 u28 u29 => (Mo_planks_J181 tr strips (Mo_planks_L42 tr strips K m n) b.1 b.2.1 b.2.2 s u27 u28 u29 m)) (X := Mo_planks_L42 tr strips K m n b.1 b.2.1 b.2.2 (s + 1)) hs z0 hfl hr t0 t1 es h2 hX FU 0 0 0 0 (by omega) (by omega) (by omega) (by rw [FU_eq]; omega) (tp s) (htp s s0 (by omega))
      rw [e0]
      cases e : tp s with
      | none =>
        rw [e] at hR
        rw [hh.1 e]
        exact tkk b hb hR
      | some r =>
        rw [e] at hR
        rw [hh.2 r.1 r.2 e]
        have u := ht s r.1 r.2 s0 (by omega) e
        show Mo_planks_J181 tr strips (Mo_planks_L42 tr strips K m n) b.1 b.2.1 b.2.2 s r.1 r.2 1 m = _
        unfold Mo_planks_J181
        have tk : (b.1 = -1 ∨ r.1 < b.2.1 ∨ (r.1 = b.2.1 ∧ (r.2 < b.2.2 ∨ (r.2 = b.2.2 ∧ ah s b.1 = true)))) → Mo_planks_L42 tr strips K m n s r.1 r.2 (s + 1) = K R.1 R.2.1 R.2.2 := by
          intro c
          refine tkk (s, r.1, r.2) (Or.inr ⟨s0, by show s < last; omega, u⟩) ?_
          rw [← hR]; congr 1; exact (if_pos c).symm
        have sk : ¬ (b.1 = -1 ∨ r.1 < b.2.1 ∨ (r.1 = b.2.1 ∧ (r.2 < b.2.2 ∨ (r.2 = b.2.2 ∧ ah s b.1 = true)))) → Mo_planks_L42 tr strips K m n b.1 b.2.1 b.2.2 (s + 1) = K R.1 R.2.1 R.2.2 := by
          intro c
          refine tkk b hb ?_
          rw [← hR]; congr 1; exact (if_neg c).symm
        rcases hb with y | y
        · have e2 := tk (Or.inl y)
          rw [y]
          simp (disch := omega) only [w32_id, ↓reduceIte, ilt_t, ilt_f, ile_t, ile_f, ieq_t, ieq_f, not_true_eq_false, not_false_eq_true, and_true, true_and, and_self, and_false, false_and, ltI]
          exact e2
        · have y4 : ¬ b.1 = -1 := by omega
          have hA := hah s b.1 s0 (by omega) y.1 y.2.1
          have hE := m_ea (m := m) (a := s) (b := b.1) (z := strips) (by omega) (by omega)
          rw [hE, bP_some, hA]
          by_cases i1 : r.1 < b.2.1
          · have e2 := tk (Or.inr (Or.inl i1))
            simp (disch := omega) only [w32_id, ↓reduceIte, ilt_t, ilt_f, ile_t, ile_f, ieq_t, ieq_f, not_true_eq_false, not_false_eq_true, and_true, true_and, and_self, and_false, false_and, ltI]
            exact e2
          · by_cases i2 : r.1 = b.2.1
            · by_cases i3 : r.2 < b.2.2
              · have e2 := tk (Or.inr (Or.inr ⟨i2, Or.inl i3⟩))
                simp (disch := omega) only [w32_id, ↓reduceIte, ilt_t, ilt_f, ile_t, ile_f, ieq_t, ieq_f, not_true_eq_false, not_false_eq_true, and_true, true_and, and_self, and_false, false_and, ltI]
                exact e2
              · by_cases i4 : r.2 = b.2.2
                · by_cases i5 : ah s b.1 = true
                  · have e2 := tk (Or.inr (Or.inr ⟨i2, Or.inr ⟨i4, i5⟩⟩))
                    rw [if_pos i5]
                    simp (disch := omega) only [w32_id, ↓reduceIte, ilt_t, ilt_f, ile_t, ile_f, ieq_t, ieq_f, not_true_eq_false, not_false_eq_true, and_true, true_and, and_self, and_false, false_and, ltI]
                    exact e2
                  · have e2 := sk (by rintro (z | z | ⟨z, z' | ⟨z', z''⟩⟩) <;> first | omega | exact i5 z'')
                    rw [if_neg i5]
                    simp (disch := omega) only [w32_id, ↓reduceIte, ilt_t, ilt_f, ile_t, ile_f, ieq_t, ieq_f, not_true_eq_false, not_false_eq_true, and_true, true_and, and_self, and_false, false_and, ltI]
                    exact e2
                · have e2 := sk (by rintro (z | z | ⟨z, z' | ⟨z', z''⟩⟩) <;> omega)
                  simp (disch := omega) only [w32_id, ↓reduceIte, ilt_t, ilt_f, ile_t, ile_f, ieq_t, ieq_f, not_true_eq_false, not_false_eq_true, and_true, true_and, and_self, and_false, false_and, ltI]
                  exact e2
            · have e2 := sk (by rintro (z | z | ⟨z, z'⟩) <;> omega)
              simp (disch := omega) only [w32_id, ↓reduceIte, ilt_t, ilt_f, ile_t, ile_f, ieq_t, ieq_f, not_true_eq_false, not_false_eq_true, and_true, true_and, and_self, and_false, false_and, ltI]
              exact e2
