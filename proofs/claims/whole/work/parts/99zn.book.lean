/-! layer 2: book, the call -/
theorem Ag_read {D : List Nat} {m m2 : Mem} (h0 : 0 ∈ D) (h1 : 1 ∈ D) (h3 : 3 ∈ D) (e : ∀ c, c ≠ 0 → c ≠ 5 → c < 7 ∨ 15 < c → c < 16 ∨ 27 < c → c ≠ 75 → c ≠ 76 → c ≠ 81 → c ≠ 82 → m2 c = m c) (e0 : ∀ i, i ≠ 0 → m2 0 i = m 0 i) (e7 : ∀ c i, 7 ≤ c → c ≤ 15 → comp c i ∉ D → m2 c i = m c i) (e75 : ∀ i, i < 1 ∨ 22 < i → m2 75 i = m 75 i) (e76 : ∀ i, comp 76 i ∉ D → m2 76 i = m 76 i) : Ag D m m2 := by
  intro c i q
  by_cases c0 : c = 0
  · subst c0
    exact e0 i (fun z => q (by subst z; exact h1))
  · by_cases c5 : c = 5
    · subst c5
      exfalso; apply q
      show (if i = 1 ∨ i = 7 ∨ i = 8 then 3 else 0) ∈ D
      split
      · exact h3
      · exact h0
    · by_cases c7 : 7 ≤ c ∧ c ≤ 15
      · exact e7 c i c7.1 c7.2 q
      · by_cases c75 : c = 75
        · subst c75
          refine e75 i ?_
          by_cases z : i < 1 ∨ 22 < i
          · exact z
          · exfalso; apply q
            show (if 1 ≤ i ∧ i ≤ 3 then 1 else if i = 9 ∨ i = 15 ∨ i = 16 then 3 else if 35 ≤ i ∧ i ≤ 37 then 7 else if i = 44 then 8 else if i = 38 ∨ i = 39 then 9 else if i = 56 ∨ (47 ≤ i ∧ i ≤ 50) then 10 else if i = 57 then 6 else 0) ∈ D
            by_cases z1 : 1 ≤ i ∧ i ≤ 3
            · rw [if_pos z1]; exact h1
            · rw [if_neg z1]
              by_cases z2 : i = 9 ∨ i = 15 ∨ i = 16
              · rw [if_pos z2]; exact h3
              · rw [if_neg z2, if_neg (by omega), if_neg (by omega), if_neg (by omega), if_neg (by omega), if_neg (by omega)]; exact h0
        · by_cases c76 : c = 76
          · subst c76; exact e76 i q
          · by_cases c81 : c = 81
            · subst c81; exact absurd h0 q
            · by_cases c82 : c = 82
              · subst c82; exact absurd h0 q
              · by_cases c16 : 16 ≤ c ∧ c ≤ 27
                · exfalso; apply q
                  have : comp c i = 0 := by
                    unfold comp
                    rw [if_neg (by omega), if_neg (by omega), if_neg (by omega), if_neg (by omega), if_neg (by omega), if_neg (by omega), if_neg (by omega), if_neg (by omega), if_neg (by omega), if_neg (by omega), if_neg (by omega), if_neg (by omega), if_neg (by omega), if_neg (by omega), if_neg (by omega), if_neg (by omega), if_neg (by omega)]
                  rw [this]; exact h0
                · rw [e c c0 c5 (by omega) (by omega) c75 c76 c81 c82]
theorem c76w {i : Int} {D : List Nat} (h0 : 0 ∈ D) (h4 : 4 ∈ D) (q : comp 76 i ∉ D) : i = 14 ∨ (208 ≤ i ∧ i < 2320) := by
  by_cases z : i = 14
  · exact Or.inl z
  · by_cases y : 208 ≤ i ∧ i < 2320
    · exact Or.inr y
    · exfalso; apply q
      show (if i = 14 then 5 else if 0 ≤ i ∧ i < 208 then 4 else if 208 ≤ i ∧ i < 580 then 5 else if 580 ≤ i ∧ i < 2320 then 6 else 0) ∈ D
      rw [if_neg z]
      by_cases x : 0 ≤ i ∧ i < 208
      · rw [if_pos x]; exact h4
      · rw [if_neg x, if_neg (by omega), if_neg (by omega)]; exact h0
theorem s_book {m : Mem} (h : Rel m) {a0 : Int} (c0 : w32 a0 = a0) : Stq w32 (FL_book a0 m) (fun m1 => Mo_book a0 m1) := by
  have b0 := cn c0
  obtain ⟨r1, r2, r3, r4, r5, r6⟩ := h.2.2.1
  by_cases g : ¬ (0 ≤ a0 ∧ a0 ≤ m 5 1)
  · refine Stq.mk (x := -1) (m1 := st m 0 0 1) (y := -1) (m2 := st (st m 0 0 1) 75 1 1) ?_ ?_ rfl (h.stat 1)
    · unfold FL_book
      rw [c0, w32_id (x := m 5 1) (by omega) (by omega)]
      by_cases y : a0 < 0
      · rw [if_pos y]; rfl
      · rw [if_neg y, if_neg (by omega)]; rfl
    · show Mo_book a0 (st m 0 0 1) = _
      rw [book_eq, c0, st_ne _ _ _ (by decide), r1, w32_id (x := m 5 1) (by omega) (by omega)]
      by_cases y : a0 < 0
      · rw [if_pos y]; rfl
      · rw [if_neg y, if_neg (by omega)]; rfl
  · replace g := Decidable.not_not.mp g
    obtain ⟨n, en⟩ : ∃ n : Nat, a0 = (n : Int) := ⟨a0.toNat, by omega⟩
    subst en
    have hfl : FL_book (n : Int) m = (bE (BookR_readText (n : Int) m) fun x3 m5 => (if ¬ (w32 x3) = 0 then (bV (Sheet_copyFrom 7 17 (st m5 5 1 0)) fun m8 => some ((FL_answer (m8 7 0) m8).1, (FL_answer (m8 7 0) m8).2)) else some ((FL_none 9 (st m5 5 1 0)).1, (FL_none 9 (st m5 5 1 0)).2))) := by
      unfold FL_book
      rw [c0, w32_id (x := m 5 1) (by omega) (by omega), if_neg (by omega), if_pos g.2]
    rcases bk_run h (n := n) g.2 (m1 := m) rfl rfl with ⟨mC, mRa, x1, _, _, _, _, _, _, _, xC, _⟩ | ⟨f, s, mC, mRa, x1, _, _, _, _, _, _, _, xC, _⟩
    · -- taken
      obtain ⟨m8, s1, s2, s3, s4, s5, s6, s7⟩ := copyS (c := 7) (c2 := 17) (by omega) (st mC 5 1 0)
      have eF : FL_book (n : Int) m = some (m8 7 0, st m8 0 0 0) := by
        rw [hfl, x1, bE_some, if_pos (show ¬ w32 1 = 0 by decide), s1, bV_some]; rfl
      have f8 : ∀ c, c ≠ 5 → c < 7 ∨ 10 < c → c < 16 ∨ 27 < c → m8 c = m c := fun c h1 h2 h3 => by
        rw [s6 c (by omega) (by omega) (by omega) (by omega), st_ne _ _ _ h1, xC c h1 h3]
      have e80 : (st m8 0 0 0) 80 = m 80 := by rw [st_ne _ _ _ (by decide), f8 80 (by decide) (by omega) (by omega)]
      have e75 : (st m8 0 0 0) 75 = m 75 := by rw [st_ne _ _ _ (by decide), f8 75 (by decide) (by omega) (by omega)]
      have e76 : (st m8 0 0 0) 76 = m 76 := by rw [st_ne _ _ _ (by decide), f8 76 (by decide) (by omega) (by omega)]
      rcases bk_run h (n := n) g.2 (m1 := st m8 0 0 0) e80 (by rw [e75]) with ⟨mC2, mR, y1, y2, n1, n2, t1, t2, t3, t4, yC, yM⟩ | ⟨f, s, mC2, mR, y1, _⟩
      · rw [x1] at y1
        have eC : mC2 = mC := ((Prod.mk.inj (Option.some.inj y1)).2).symm
        subst eC
        obtain ⟨m9, k1, k2, k3⟩ := m_cp114 (m := st (st mR 75 15 (mR 75 17)) 76 2334 ((st mR 75 15 (mR 75 17)) 76 14)) FU 208 0 _ (by omega) (by rw [FU_eq]; omega) (fun _ _ => rfl) (fun i => by rw [if_neg (by omega)])
        have eR : Mo_book (n : Int) (st m8 0 0 0) = some (m9 76 0, st m9 75 1 0) := by
          rw [y2]
          unfold bkK
          rw [show (st mR 75 15 (mR 75 17)) 75 17 = mR 75 17 by rw [st_eq, if_neg (by decide)], t3, if_pos (show w32 0 ≤ 0 by decide)]
          rw [t3] at k1
          exact k1
        rw [t3] at k2 k3
        have v76 : ∀ i, 0 ≤ i → i < 208 → i ≠ 14 → m9 76 i = mR 76 (2320 + i) := fun i i0 i1 i2 => by
          rw [k3 i, if_pos ⟨i0, i1⟩, st_eq, if_neg (by omega), st_ne _ _ _ (by decide)]
        have v7 : ∀ i, (0 ≤ i ∧ i ≤ 6) ∨ i = 10 → m8 7 i = mC2 17 i := fun i hi => by rw [s2 i hi, st_ne _ _ _ (by decide)]
        have v8 : ∀ k, 0 ≤ k → k < 6 → m8 8 k = mC2 18 k := fun k k0 k1 => by rw [s3 k k0 k1, st_ne _ _ _ (by decide)]
        have v9 : ∀ k, 0 ≤ k → k < 64 → m8 9 k = mC2 19 k := fun k k0 k1 => by rw [s4 k k0 k1, st_ne _ _ _ (by decide)]
        have v10 : ∀ k, 0 ≤ k → k < 64 → m8 10 k = mC2 20 k := fun k k0 k1 => by rw [s5 k k0 k1, st_ne _ _ _ (by decide)]
        have w8' : ∀ c, c ≠ 75 → c ≠ 76 → c ≠ 81 → c ≠ 82 → (st m9 75 1 0) c = (st m8 0 0 0) c := fun c h1 h2 h3 h4 => by
          rw [st_ne _ _ _ h1, k2 c h2, st_ne _ _ _ h2, st_ne _ _ _ h1, yM.1 c h1 h2 h3 h4]
        have w75 : ∀ i, i ≠ 1 → i ≠ 15 → (st m9 75 1 0) 75 i = mR 75 i := fun i h1 h2 => by
          rw [st_eq, if_neg h1, k2 75 (by decide), st_ne _ _ _ (by decide), st_eq, if_neg h2]
        have w76 : (st m9 75 1 0) 76 = m9 76 := st_ne _ _ _ (by decide)
        obtain ⟨⟨a0, a1, a2, a3, a4, a5⟩, ab, ac, ad, ae⟩ := n1
        obtain ⟨u1, u2, u3, u4⟩ := n2
        refine Stq.mk (x := m8 7 0) (m1 := st m8 0 0 0) (y := m9 76 0) (m2 := st m9 75 1 0) eF eR ?_ ?_
        · rw [v76 0 (by decide) (by decide) (by decide), v7 0 (by omega)]
          rw [show (2320 + 0 : Int) = 2320 by decide, a0]
        · refine h.upd [0, 1, 3, 4] ?_ (fun _ => ?_) (by simp) (fun _ => ?_) (fun _ => ?_) (by simp) (by simp) (by simp) (by simp) (by simp) (by simp)
          · refine Ag_read (by simp) (by simp) (by simp) (fun c h0 h5 h7 h16 h75 h76 h81 h82 => ?_) (fun i i0 => ?_) (fun c i hc1 hc2 q => ?_) (fun i hi => ?_) (fun i q => ?_)
            · rw [w8' c h75 h76 h81 h82, st_ne _ _ _ h0, f8 c h5 (by omega) h16]
            · rw [w8' 0 (by decide) (by decide) (by decide) (by decide), st_eq, if_neg i0, f8 0 (by decide) (by omega) (by omega)]
            · have hc11 : 10 < c := by
                by_cases z : 10 < c
                · exact z
                · exfalso; apply q
                  have : c = 7 ∨ c = 8 ∨ c = 9 ∨ c = 10 := by omega
                  rcases this with e | e | e | e <;> subst e
                  · show (if (0 ≤ i ∧ i ≤ 6) ∨ i = 10 then 4 else 0) ∈ _
                    split <;> decide
                  · show 4 ∈ _; decide
                  · show 4 ∈ _; decide
                  · show 4 ∈ _; decide
              rw [w8' c (by omega) (by omega) (by omega) (by omega), st_ne _ _ _ (by omega), f8 c (by omega) (by omega) (by omega)]
            · rw [w75 i (by omega) (by omega), yM.2.1 i (by omega), e75]
            · have := c76w (by simp) (by simp) q
              rw [w76, k3 i]
              rcases this with e | e
              · subst e
                rw [if_pos (by decide), show (2320 + 14 : Int) = 2334 by decide, st_eq, if_pos rfl, st_ne _ _ _ (by decide), yM.2.2.1 14 (by decide), e76]
              · rw [if_neg (by omega), st_eq, if_neg (by omega), st_ne _ _ _ (by decide), yM.2.2.1 i (by omega), e76]
          · refine Rst_set h.1 (k := 0) ?_ rfl ?_ ?_ ?_ ?_
            · rw [w8' 0 (by decide) (by decide) (by decide) (by decide)]; rfl
            · rw [w8' 0 (by decide) (by decide) (by decide) (by decide), st_eq, if_neg (by decide), f8 0 (by decide) (by omega) (by omega)]
            · rw [w8' 0 (by decide) (by decide) (by decide) (by decide), st_eq, if_neg (by decide), f8 0 (by decide) (by omega) (by omega)]
            · rw [w75 _ (by decide) (by decide), yM.2.1 _ (by omega), e75]
            · rw [w75 _ (by decide) (by decide), yM.2.1 _ (by omega), e75]
          · have e5 : ∀ i, (st m9 75 1 0) 5 i = (st mC2 5 1 0) 5 i := fun i => by rw [w8' 5 (by decide) (by decide) (by decide) (by decide), st_ne _ _ _ (by decide), s6 5 (by decide) (by decide) (by decide) (by decide)]
            unfold Rtp
            rw [e5, e5, e5, w75 9 (by decide) (by decide), yM.2.2.2, w75 16 (by decide) (by decide), t4]
            refine ⟨rfl, Int.le_refl _, by show (0 : Int) ≤ 600; omega, fun i i0 i1 => ?_, ?_, ?_⟩
            · have : i < (0 : Int) := i1
              omega
            · rw [st_eq, if_neg (by decide), k2 75 (by decide), st_ne _ _ _ (by decide), st_eq, if_pos rfl, st_eq, if_neg (by decide), t1]
            · rw [st_eq, if_neg (by decide), t2]
          · have f7 : ∀ c, c ≠ 0 → c ≠ 75 → c ≠ 76 → c ≠ 81 → c ≠ 82 → (st m9 75 1 0) c = m8 c := fun c h0 h1 h2 h3 h4 => by rw [w8' c h1 h2 h3 h4, st_ne _ _ _ h0]
            have g7 := f7 7 (by decide) (by decide) (by decide) (by decide) (by decide)
            have g8 := f7 8 (by decide) (by decide) (by decide) (by decide) (by decide)
            have g9 := f7 9 (by decide) (by decide) (by decide) (by decide) (by decide)
            have g10 := f7 10 (by decide) (by decide) (by decide) (by decide) (by decide)
            unfold Rsh ShR
            rw [g7, show (7 + 1 : Nat) = 8 from rfl, show (7 + 2 : Nat) = 9 from rfl, show (7 + 3 : Nat) = 10 from rfl, g8, g9, g10, w76, v7 0 (by omega), v7 1 (by omega), v7 2 (by omega), v7 3 (by omega), v7 4 (by omega), v7 5 (by omega), v7 6 (by omega)]
            refine ⟨⟨?_, ?_, ?_, ?_, ?_, ?_, ?_⟩, ab, by omega, fun k k0 k1' => ?_, fun p hp => ?_⟩
            · rw [v76 _ (by decide) (by decide) (by decide)]; exact a0
            · rw [v76 _ (by decide) (by decide) (by decide)]; exact a1
            · rw [v76 _ (by decide) (by decide) (by decide)]; exact a2
            · rw [v76 _ (by decide) (by decide) (by decide)]; exact a3
            · rw [v76 _ (by decide) (by decide) (by decide)]; exact a4
            · rw [v76 _ (by decide) (by decide) (by decide)]; exact a5
            · rw [v76 _ (by decide) (by decide) (by decide)]; exact u1
            · rw [v76 _ (by omega) (by omega) (by omega), v8 k k0 (by omega), show 2320 + (0 + 7 + k) = 2327 + k by omega]
              exact u4 k k0 k1'
            · have hp' := hp
              unfold Pt at hp'
              have p64 : p < 64 := by omega
              have q1 := ad p hp
              have q2 := ae p hp'.1 p64
              have ek : Sheet_isKept 7 p (st m9 75 1 0) = Sheet_isKept 17 p mC2 := by unfold Sheet_isKept; rw [g7, v7 10 (by omega)]
              rw [v76 _ (by omega) (by omega) (by omega), v76 _ (by omega) (by omega) (by omega), v76 _ (by omega) (by omega) (by omega), v9 p hp'.1 p64, v10 p hp'.1 p64, ek, show 2320 + (0 + 16 + p) = 2336 + p by omega, show 2320 + (0 + 80 + p) = 2400 + p by omega, show 2320 + (0 + 144 + p) = 2464 + p by omega]
              exact ⟨q1.1, q1.2, q2.1⟩
      · rw [x1] at y1
        have := (Prod.mk.inj (Option.some.inj y1)).1
        omega
    · -- a fault
      have eF : FL_book (n : Int) m = some (-1, st (st mC 5 1 0) 0 0 9) := by
        rw [hfl, x1, bE_some, if_neg (show ¬ ¬ w32 0 = 0 by decide)]; rfl
      have f8 : ∀ c, c ≠ 0 → c ≠ 5 → c < 16 ∨ 27 < c → (st (st mC 5 1 0) 0 0 9) c = m c := fun c h0 h1 h3 => by
        rw [st_ne _ _ _ h0, st_ne _ _ _ h1, xC c h1 h3]
      have e80 := f8 80 (by decide) (by decide) (by omega)
      have e75 := f8 75 (by decide) (by decide) (by omega)
      have e76 := f8 76 (by decide) (by decide) (by omega)
      rcases bk_run h (n := n) g.2 (m1 := st (st mC 5 1 0) 0 0 9) e80 (by rw [e75]) with ⟨mC2, mR, y1, _⟩ | ⟨f2, s2, mC2, mR, y1, y2, q1, q2, t1, t2, t3, t4, yC, yM⟩
      · rw [x1] at y1
        have := (Prod.mk.inj (Option.some.inj y1)).1
        omega
      · rw [x1] at y1
        have eC : mC2 = mC := ((Prod.mk.inj (Option.some.inj y1)).2).symm
        subst eC
        have eR : Mo_book (n : Int) (st (st mC2 5 1 0) 0 0 9) = some (-1, st (st mR 75 15 f2) 75 1 9) := by
          rw [y2]
          unfold bkK
          rw [show (st mR 75 15 (mR 75 17)) 75 17 = mR 75 17 by rw [st_eq, if_neg (by decide)], t3, w32_id (x := f2) (by omega) (by omega), if_neg (by omega)]; rfl
        have w8' : ∀ c, c ≠ 75 → c ≠ 76 → c ≠ 81 → c ≠ 82 → (st (st mR 75 15 f2) 75 1 9) c = (st (st mC2 5 1 0) 0 0 9) c := fun c h1 h2 h3 h4 => by
          rw [st_ne _ _ _ h1, st_ne _ _ _ h1, yM.1 c h1 h2 h3 h4]
        have w75 : ∀ i, i ≠ 1 → i ≠ 15 → (st (st mR 75 15 f2) 75 1 9) 75 i = mR 75 i := fun i h1 h2 => by
          rw [st_eq, if_neg h1, st_eq, if_neg h2]
        refine Stq.mk (x := -1) (m1 := st (st mC2 5 1 0) 0 0 9) (y := -1) (m2 := st (st mR 75 15 f2) 75 1 9) eF eR rfl ?_
        refine h.tp ?_ ?_ ?_
        · refine Ag_read (by simp) (by simp) (by simp) (fun c h0 h5 h7 h16 h75 h76 h81 h82 => ?_) (fun i i0 => ?_) (fun c i hc1 hc2 q => ?_) (fun i hi => ?_) (fun i q => ?_)
          · rw [w8' c h75 h76 h81 h82, f8 c h0 h5 h16]
          · rw [w8' 0 (by decide) (by decide) (by decide) (by decide), st_eq, if_neg i0, st_ne _ _ _ (by decide), xC 0 (by decide) (by omega)]
          · rw [w8' c (by omega) (by omega) (by omega) (by omega), f8 c (by omega) (by omega) (by omega)]
          · rw [w75 i (by omega) (by omega), yM.2.1 i (by omega), e75]
          · have hlt : i < 2320 := by
              by_cases z : i < 2320
              · exact z
              · exfalso; apply q
                show (if i = 14 then 5 else if 0 ≤ i ∧ i < 208 then 4 else if 208 ≤ i ∧ i < 580 then 5 else if 580 ≤ i ∧ i < 2320 then 6 else 0) ∈ _
                rw [if_neg (by omega), if_neg (by omega), if_neg (by omega), if_neg (by omega)]; simp
            rw [st_ne _ _ _ (by decide), st_ne _ _ _ (by decide), yM.2.2.1 i hlt, e76]
        · refine Rst_set h.1 (k := 9) ?_ rfl ?_ ?_ ?_ ?_
          · rw [w8' 0 (by decide) (by decide) (by decide) (by decide)]; rfl
          · rw [w8' 0 (by decide) (by decide) (by decide) (by decide), st_eq, if_neg (by decide), st_ne _ _ _ (by decide), xC 0 (by decide) (by omega)]
          · rw [w8' 0 (by decide) (by decide) (by decide) (by decide), st_eq, if_neg (by decide), st_ne _ _ _ (by decide), xC 0 (by decide) (by omega)]
          · rw [w75 _ (by decide) (by decide), yM.2.1 _ (by omega), e75]
          · rw [w75 _ (by decide) (by decide), yM.2.1 _ (by omega), e75]
        · have e5 : ∀ i, (st (st mR 75 15 f2) 75 1 9) 5 i = (st mC2 5 1 0) 5 i := fun i => by rw [w8' 5 (by decide) (by decide) (by decide) (by decide), st_ne _ _ _ (by decide)]
          unfold Rtp
          rw [e5, e5, e5, w75 9 (by decide) (by decide), yM.2.2.2, w75 16 (by decide) (by decide), t4]
          refine ⟨rfl, Int.le_refl _, by show (0 : Int) ≤ 600; omega, fun i i0 i1 => ?_, ?_, ?_⟩
          · have : i < (0 : Int) := i1
            omega
          · rw [st_eq, if_neg (by decide), st_eq, if_pos rfl, st_eq, if_neg (by decide), t1]
          · rw [st_eq, if_neg (by decide), t2]
