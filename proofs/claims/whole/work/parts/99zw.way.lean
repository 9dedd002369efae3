/-! layer 2: way, the call -/
theorem WyB.wy {mC mR m2 : Mem} (h : WyB mC mR) (h0 : mC 21 3 = 0) (e0 : m2 11 0 = mC 22 0) (e1 : ∀ k, 0 ≤ k → k < 60 → m2 12 k = mC 23 k ∧ m2 13 k = mC 24 k ∧ m2 14 k = mC 25 k ∧ m2 15 k = mC 26 k) (e14 : m2 76 14 = mR 76 2334) (e76 : ∀ i, 208 ≤ i → i < 580 → m2 76 i = mR 76 (2320 + i)) : WyR m2 11 0 := by
  obtain ⟨⟨a1, a2, a3⟩, b, c, d, e⟩ := h
  rw [h0] at b c
  unfold WyR
  rw [show (11 + 1 : Nat) = 12 from rfl, show (11 + 2 : Nat) = 13 from rfl, show (11 + 3 : Nat) = 14 from rfl, show (11 + 4 : Nat) = 15 from rfl, e0]
  refine ⟨by rw [show (0 + 14 : Int) = 14 from rfl, e14, a1], b.1, by omega, fun k k0 k1 => ?_⟩
  have hk : k < 60 := by omega
  obtain ⟨f1, f2, f3⟩ := e k k0 k1
  obtain ⟨x1, x2, x3, x4⟩ := e1 k k0 hk
  have r : ∀ j, 0 ≤ j → j ≤ 5 → m2 76 (0 + 208 + 6 * k + j) = mR 76 (2528 + 6 * k + j) := fun j j0 j1 => by
    rw [e76 _ (by omega) (by omega)]; congr 1; omega
  have r0 : m2 76 (0 + 208 + 6 * k) = mR 76 (2528 + 6 * k) := by
    rw [e76 _ (by omega) (by omega)]; congr 1; omega
  rw [x1, x2, x3, x4, r0, r 1 (by omega) (by omega), r 2 (by omega) (by omega), r 3 (by omega) (by omega), r 4 (by omega) (by omega), r 5 (by omega) (by omega)]
  obtain ⟨g1, g2, g3, g4, g5⟩ := f1
  refine ⟨g1, g2, g3, g4, g5, fun y => ?_, fun y => ?_⟩
  · obtain ⟨y1, y2, y3, y4, y5, _⟩ := f2 y
    have z := e1 (mC 26 k) y2 (by omega)
    rw [z.1, z.2.2.2]
    exact ⟨y1, y2, y3, y4, y5⟩
  · rcases f3 y with ⟨j, j0, j1, _⟩ | ⟨y1, y2, y3, y4, y5, y6, _⟩
    · rw [h0] at j1; omega
    · have z := e1 (mC 26 k) (by omega) (by omega)
      rw [z.1, z.2.2.2]
      refine ⟨y1, y2, y3, y4, y5, fun j j1 j2 j3 => ?_⟩
      have w := e1 j (by omega) (by omega)
      rw [w.1] at j3
      rw [w.2.2.2]
      exact y6 j j1 j2 j3
theorem c76v {i : Int} {D : List Nat} (h0 : 0 ∈ D) (h5 : 5 ∈ D) (q : comp 76 i ∉ D) : i ≠ 14 ∧ ((0 ≤ i ∧ i < 208) ∨ (580 ≤ i ∧ i < 2320)) := by
  have key : ¬ (i = 14 ∨ ¬ ((0 ≤ i ∧ i < 208) ∨ (580 ≤ i ∧ i < 2320))) := by
    intro z
    apply q
    show (if i = 14 then 5 else if 0 ≤ i ∧ i < 208 then 4 else if 208 ≤ i ∧ i < 580 then 5 else if 580 ≤ i ∧ i < 2320 then 6 else 0) ∈ D
    by_cases y : i = 14
    · rw [if_pos y]; exact h5
    · rw [if_neg y, if_neg (by omega)]
      by_cases x : 208 ≤ i ∧ i < 580
      · rw [if_pos x]; exact h5
      · rw [if_neg x, if_neg (by omega)]; exact h0
  omega
theorem s_way {m : Mem} (h : Rel m) {a0 : Int} (c0 : w32 a0 = a0) : Stq w32 (FL_way a0 m) (fun m1 => Mo_way a0 m1) := by
  have b0 := cn c0
  obtain ⟨r1, r2, r3, r4, r5, r6⟩ := h.2.2.1
  by_cases g : ¬ (0 ≤ a0 ∧ a0 ≤ m 5 1 ∧ a0 ≤ 300)
  · refine Stq.mk (x := -1) (m1 := st m 0 0 1) (y := -1) (m2 := st (st m 0 0 1) 75 1 1) ?_ ?_ rfl (h.stat 1)
    · unfold FL_way
      rw [c0, w32_id (x := m 5 1) (by omega) (by omega)]
      by_cases y : a0 < 0
      · rw [if_pos y]; rfl
      · by_cases y2 : m 5 1 < a0
        · rw [if_neg y, if_pos y2]; rfl
        · rw [if_neg y, if_neg y2, if_neg (by omega)]; rfl
    · show Mo_way a0 (st m 0 0 1) = _
      rw [way_eq, c0, st_ne _ _ _ (by decide), r1, w32_id (x := m 5 1) (by omega) (by omega)]
      by_cases y : a0 < 0
      · rw [if_pos y]; rfl
      · by_cases y2 : m 5 1 < a0
        · rw [if_neg y, if_pos y2]; rfl
        · rw [if_neg y, if_neg y2, if_neg (by omega)]; rfl
  · replace g := Decidable.not_not.mp g
    obtain ⟨n, en⟩ : ∃ n : Nat, a0 = (n : Int) := ⟨a0.toNat, by omega⟩
    subst en
    have hn3 : n ≤ 300 := by omega
    have hfl : FL_way (n : Int) m = (bE (WayR_readText (n : Int) m) fun x4 m6 => (if ¬ (w32 x4) = 0 then some ((FL_answer ((Way_copyFrom 11 22 (st m6 5 1 0)) 11 1) (Way_copyFrom 11 22 (st m6 5 1 0))).1, (FL_answer ((Way_copyFrom 11 22 (st m6 5 1 0)) 11 1) (Way_copyFrom 11 22 (st m6 5 1 0))).2) else some ((FL_none 9 (st m6 5 1 0)).1, (FL_none 9 (st m6 5 1 0)).2))) := by
      unfold FL_way
      rw [c0, w32_id (x := m 5 1) (by omega) (by omega), if_neg (by omega), if_neg (show ¬ m 5 1 < (n : Int) by omega), if_pos (show (n : Int) ≤ 300 by omega)]
    rcases wy_run h (n := n) g.2.1 hn3 (m1 := m) rfl rfl with ⟨mC, mRa, x1, _, _, _, _, _, _, _, xC, _⟩ | ⟨f, s, mC, mRa, x1, _, _, _, _, _, _, _, xC, _⟩
    · obtain ⟨v1, v2, v3⟩ := copyW (c := 11) (c2 := 22) (by omega) (st mC 5 1 0)
      generalize hmw : Way_copyFrom 11 22 (st mC 5 1 0) = mw at v1 v2 v3
      have eF : FL_way (n : Int) m = some (mw 11 1, st mw 0 0 0) := by
        rw [hfl, x1, bE_some, if_pos (show ¬ w32 1 = 0 by decide), hmw]; rfl
      have f8 : ∀ c, c ≠ 5 → c < 11 ∨ 15 < c → c < 16 ∨ 27 < c → mw c = m c := fun c h1 h2 h3 => by
        rw [v3 c (by omega) (by omega) (by omega) (by omega) (by omega), st_ne _ _ _ h1, xC c h1 h3]
      have e80 : (st mw 0 0 0) 80 = m 80 := by rw [st_ne _ _ _ (by decide), f8 80 (by decide) (by omega) (by omega)]
      have e75 : (st mw 0 0 0) 75 = m 75 := by rw [st_ne _ _ _ (by decide), f8 75 (by decide) (by omega) (by omega)]
      have e76 : (st mw 0 0 0) 76 = m 76 := by rw [st_ne _ _ _ (by decide), f8 76 (by decide) (by omega) (by omega)]
      rcases wy_run h (n := n) g.2.1 hn3 (m1 := st mw 0 0 0) e80 (by rw [e75]) with ⟨mC2, mR, y1, y2, n1, n2, t1, t2, t3, t4, yC, yM⟩ | ⟨f, s, mC2, mR, y1, _⟩
      · rw [x1] at y1
        have eC : mC2 = mC := ((Prod.mk.inj (Option.some.inj y1)).2).symm
        subst eC
        obtain ⟨m9, k1, k2, k3⟩ := m_cp150 (m := st (st mR 75 15 (mR 75 17)) 76 14 ((st mR 75 15 (mR 75 17)) 76 2334)) FU 372 208 _ (by omega) (by omega) (by rw [FU_eq]; omega) (fun _ _ => rfl) (fun i => by rw [if_neg (by omega)])
        have eR : Mo_way (n : Int) (st mw 0 0 0) = some (m9 75 22, st m9 75 1 0) := by
          rw [y2]
          unfold Mo_way_J109
          rw [show (st mR 75 15 (mR 75 17)) 75 17 = mR 75 17 by rw [st_eq, if_neg (by decide)], t3, if_pos (show w32 0 ≤ 0 by decide)]
          rw [t3] at k1
          exact k1
        rw [t3] at k2 k3
        have w8' : ∀ c, c ≠ 75 → c ≠ 76 → c ≠ 81 → c ≠ 82 → (st m9 75 1 0) c = (st mw 0 0 0) c := fun c h1 h2 h3 h4 => by
          rw [st_ne _ _ _ h1, k2 c h2, st_ne _ _ _ h2, st_ne _ _ _ h1, yM.1 c h1 h2 h3 h4]
        have w75 : ∀ i, i ≠ 1 → i ≠ 15 → (st m9 75 1 0) 75 i = mR 75 i := fun i h1 h2 => by
          rw [st_eq, if_neg h1, k2 75 (by decide), st_ne _ _ _ (by decide), st_eq, if_neg h2]
        have w76 : (st m9 75 1 0) 76 = m9 76 := st_ne _ _ _ (by decide)
        refine Stq.mk (x := mw 11 1) (m1 := st mw 0 0 0) (y := m9 75 22) (m2 := st m9 75 1 0) eF eR ?_ ?_
        · rw [k2 75 (by decide), st_ne _ _ _ (by decide), st_eq, if_neg (by decide), n1.1.2.1, v1 1 (by omega), st_ne _ _ _ (by decide)]
        · refine h.upd [0, 1, 3, 5] ?_ (fun _ => ?_) (by simp) (fun _ => ?_) (by simp) (fun _ => ?_) (by simp) (by simp) (by simp) (by simp) (by simp)
          · refine Ag_read (by simp) (by simp) (by simp) (fun c h0 h5 h7 h16 h75 h76 h81 h82 => ?_) (fun i i0 => ?_) (fun c i hc1 hc2 q => ?_) (fun i hi => ?_) (fun i q => ?_)
            · rw [w8' c h75 h76 h81 h82, st_ne _ _ _ h0, f8 c h5 (by omega) h16]
            · rw [w8' 0 (by decide) (by decide) (by decide) (by decide), st_eq, if_neg i0, f8 0 (by decide) (by omega) (by omega)]
            · have hc11 : c < 11 := by
                by_cases z : c < 11
                · exact z
                · exfalso; apply q
                  have : c = 11 ∨ c = 12 ∨ c = 13 ∨ c = 14 ∨ c = 15 := by omega
                  rcases this with e | e | e | e | e <;> subst e
                  · show (if i = 0 then 5 else 0) ∈ _
                    split <;> decide
                  · show 5 ∈ _; decide
                  · show 5 ∈ _; decide
                  · show 5 ∈ _; decide
                  · show 5 ∈ _; decide
              rw [w8' c (by omega) (by omega) (by omega) (by omega), st_ne _ _ _ (by omega), f8 c (by omega) (by omega) (by omega)]
            · rw [w75 i (by omega) (by omega), yM.2.1 i (by omega), e75]
            · have := c76v (by simp) (by simp) q
              rw [w76, k3 i, if_neg (by omega), st_eq, if_neg this.1, st_ne _ _ _ (by decide), yM.2.2.1 i (by omega), e76]
          · refine Rst_set h.1 (k := 0) ?_ rfl ?_ ?_ ?_ ?_
            · rw [w8' 0 (by decide) (by decide) (by decide) (by decide)]; rfl
            · rw [w8' 0 (by decide) (by decide) (by decide) (by decide), st_eq, if_neg (by decide), f8 0 (by decide) (by omega) (by omega)]
            · rw [w8' 0 (by decide) (by decide) (by decide) (by decide), st_eq, if_neg (by decide), f8 0 (by decide) (by omega) (by omega)]
            · rw [w75 _ (by decide) (by decide), yM.2.1 _ (by omega), e75]
            · rw [w75 _ (by decide) (by decide), yM.2.1 _ (by omega), e75]
          · have e5 : ∀ i, (st m9 75 1 0) 5 i = (st mC2 5 1 0) 5 i := fun i => by rw [w8' 5 (by decide) (by decide) (by decide) (by decide), st_ne _ _ _ (by decide), v3 5 (by decide) (by decide) (by decide) (by decide) (by decide)]
            unfold Rtp
            rw [e5, e5, e5, w75 9 (by decide) (by decide), yM.2.2.2, w75 16 (by decide) (by decide), t4]
            refine ⟨rfl, Int.le_refl _, by show (0 : Int) ≤ 600; omega, fun i i0 i1 => ?_, ?_, ?_⟩
            · have : i < (0 : Int) := i1
              omega
            · rw [st_eq, if_neg (by decide), k2 75 (by decide), st_ne _ _ _ (by decide), st_eq, if_pos rfl, st_eq, if_neg (by decide), t1]
            · rw [st_eq, if_neg (by decide), t2]
          · have f7 : ∀ c, c ≠ 0 → c ≠ 75 → c ≠ 76 → c ≠ 81 → c ≠ 82 → (st m9 75 1 0) c = mw c := fun c h0 h1 h2 h3 h4 => by rw [w8' c h1 h2 h3 h4, st_ne _ _ _ h0]
            refine n1.wy n2 ?_ (fun k k0 k1' => ?_) ?_ (fun i i0 i1 => ?_)
            · rw [f7 11 (by decide) (by decide) (by decide) (by decide) (by decide), v1 0 (by omega), st_ne _ _ _ (by decide)]
            · rw [f7 12 (by decide) (by decide) (by decide) (by decide) (by decide), f7 13 (by decide) (by decide) (by decide) (by decide) (by decide), f7 14 (by decide) (by decide) (by decide) (by decide) (by decide), f7 15 (by decide) (by decide) (by decide) (by decide) (by decide)]
              have := v2 k k0 k1'
              exact this
            · rw [w76, k3, if_neg (by decide), st_eq, if_pos rfl, st_ne _ _ _ (by decide)]
            · rw [w76, k3, if_pos ⟨i0, i1⟩, st_eq, if_neg (by omega), st_ne _ _ _ (by decide)]
      · rw [x1] at y1
        have := (Prod.mk.inj (Option.some.inj y1)).1
        omega
    · have eF : FL_way (n : Int) m = some (-1, st (st mC 5 1 0) 0 0 9) := by
        rw [hfl, x1, bE_some, if_neg (show ¬ ¬ w32 0 = 0 by decide)]; rfl
      have f8 : ∀ c, c ≠ 0 → c ≠ 5 → c < 16 ∨ 27 < c → (st (st mC 5 1 0) 0 0 9) c = m c := fun c h0 h1 h3 => by
        rw [st_ne _ _ _ h0, st_ne _ _ _ h1, xC c h1 h3]
      have e80 := f8 80 (by decide) (by decide) (by omega)
      have e75 := f8 75 (by decide) (by decide) (by omega)
      have e76 := f8 76 (by decide) (by decide) (by omega)
      rcases wy_run h (n := n) g.2.1 hn3 (m1 := st (st mC 5 1 0) 0 0 9) e80 (by rw [e75]) with ⟨mC2, mR, y1, _⟩ | ⟨f2, s2, mC2, mR, y1, y2, q1, q2, t1, t2, t3, t4, yC, yM⟩
      · rw [x1] at y1
        have := (Prod.mk.inj (Option.some.inj y1)).1
        omega
      · rw [x1] at y1
        have eC : mC2 = mC := ((Prod.mk.inj (Option.some.inj y1)).2).symm
        subst eC
        have eR : Mo_way (n : Int) (st (st mC2 5 1 0) 0 0 9) = some (-1, st (st mR 75 15 f2) 75 1 9) := by
          rw [y2]
          unfold Mo_way_J109
          rw [show (st mR 75 15 (mR 75 17)) 75 17 = mR 75 17 by rw [st_eq, if_neg (by decide)], t3, w32_id (x := f2) (by omega) (by omega), if_neg (by omega)]; rfl
        have w8' : ∀ c, c ≠ 75 → c ≠ 76 → c ≠ 81 → c ≠ 82 → (st (st mR 75 15 f2) 75 1 9) c = (st (st mC2 5 1 0) 0 0 9) c := fun c h1 h2 h3 h4 => by
          rw [st_ne _ _ _ h1, st_ne _ _ _ h1, yM.1 c h1 h2 h3 h4]
        have w75 : ∀ i, i ≠ 1 → i ≠ 15 → (st (st mR 75 15 f2) 75 1 9) 75 i = mR 75 i := fun i h1 h2 => by
          rw [st_eq, if_neg h1, st_eq, if_neg h2]
        refine Stq.mk (x := -1) (m1 := st (st mC2 5 1 0) 0 0 9) (y := -1) (m2 := st (st mR 75 15 f2) 75 1 9) eF eR rfl ?_
        refine h.tp ?_ ?_ ?_
        · refine Ag_read (by simp) (by simp) (by simp) (fun c h0 h5 h7 h16 h75 h76 h81 h82 => ?_) (fun i i0 => ?_) (fun c i hc1 hc2 q => ?_) (fun i hi => ?_) (fun i q => ?_)
          · rw [w8' c h75 h76 h81 h82, f8 c h0 h5 h16]
          · rw [w8' 0 (by decide) (by decide) (by decide) (by decide), st_eq, if_neg i0, st_ne _ _ _ (by decide), xC 0 (by decide) (by omega)]
          · rw [w8' c (by omega) (by omega) (by omega) (by omega), f8 c (by omega) (by omega) (by omega)]
          · rw [w75 i (by omega) (by omega), yM.2.1 i (by omega), e75]
          · have hlt : i < 2320 := by
              by_cases z : i < 2320
              · exact z
              · exfalso; apply q
                show (if i = 14 then 5 else if 0 ≤ i ∧ i < 208 then 4 else if 208 ≤ i ∧ i < 580 then 5 else if 580 ≤ i ∧ i < 2320 then 6 else 0) ∈ _
                rw [if_neg (by omega), if_neg (by omega), if_neg (by omega), if_neg (by omega)]; simp
            rw [st_ne _ _ _ (by decide), st_ne _ _ _ (by decide), yM.2.2.1 i hlt, e76]
        · refine Rst_set h.1 (k := 9) ?_ rfl ?_ ?_ ?_ ?_
          · rw [w8' 0 (by decide) (by decide) (by decide) (by decide)]; rfl
          · rw [w8' 0 (by decide) (by decide) (by decide) (by decide), st_eq, if_neg (by decide), st_ne _ _ _ (by decide), xC 0 (by decide) (by omega)]
          · rw [w8' 0 (by decide) (by decide) (by decide) (by decide), st_eq, if_neg (by decide), st_ne _ _ _ (by decide), xC 0 (by decide) (by omega)]
          · rw [w75 _ (by decide) (by decide), yM.2.1 _ (by omega), e75]
          · rw [w75 _ (by decide) (by decide), yM.2.1 _ (by omega), e75]
        · have e5 : ∀ i, (st (st mR 75 15 f2) 75 1 9) 5 i = (st mC2 5 1 0) 5 i := fun i => by rw [w8' 5 (by decide) (by decide) (by decide) (by decide), st_ne _ _ _ (by decide)]
          unfold Rtp
          rw [e5, e5, e5, w75 9 (by decide) (by decide), yM.2.2.2, w75 16 (by decide) (by decide), t4]
          refine ⟨rfl, Int.le_refl _, by show (0 : Int) ≤ 600; omega, fun i i0 i1 => ?_, ?_, ?_⟩
          · have : i < (0 : Int) := i1
            omega
          · rw [st_eq, if_neg (by decide), st_eq, if_pos rfl, st_eq, if_neg (by decide), t1]
          · rw [st_eq, if_neg (by decide), t2]
