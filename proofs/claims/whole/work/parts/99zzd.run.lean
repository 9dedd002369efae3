/-! layer 2: run, the call -/
theorem run_both {m : Mem} (h : Rel m) {m1 : Mem} (e76 : m1 76 = m 76) : ∃ (D ov : Int) (mC' mR' : Mem), Runner_go m = some (D, mC') ∧ Mo_run m1 = some (D, st (st mR' 75 39 ov) 75 1 0) ∧ KC m mC' ∧ KR m1 mR' ∧ RX mC' mR' ∧ mC' 37 3 = mR' 75 38 ∧ mC' 37 1 = 1 ∧ mC' 37 2 = ov ∧ (ov = 0 ∨ ov = 1) := by
  have hw : WyR m 11 0 := h.2.2.2.2.1
  obtain ⟨w14, wz0, wz1, hf⟩ := wyF hw
  obtain ⟨⟨z0, z1, z2, z3, z4, z5, z6⟩, hs, hr, ho, hp⟩ := shF h
  generalize hC0 : st (st (st m 37 1 1) 37 2 0) 37 3 0 = mC0
  have kC : KC m mC0 := by
    rw [← hC0]
    exact ⟨fun c _ _ _ _ _ _ c37 _ => by rw [st_ne _ _ _ c37, st_ne _ _ _ c37, st_ne _ _ _ c37], fun _ _ => rfl, fun _ _ _ _ => rfl⟩
  have kR : KR m1 (st m1 75 38 0) := ⟨fun c c75 _ _ _ _ _ _ _ => st_ne _ _ _ c75, fun i _ _ i38 => by rw [st_eq, if_neg i38], fun _ _ => rfl⟩
  have f7 : mC0 7 = m 7 := by rw [← hC0]; rfl
  have f8 : mC0 8 = m 8 := by rw [← hC0]; rfl
  have f10 : mC0 10 = m 10 := by rw [← hC0]; rfl
  have hX : RX mC0 (st m1 75 38 0) := by
    unfold RX
    rw [f7, f8, f10, st_ne _ _ _ (show (76 : Nat) ≠ 75 by decide), e76]
    refine ⟨⟨z0, z1, z4, z5, z6⟩, hs, by omega, ho, fun p hp' => ?_⟩
    have := hp p hp'
    rw [isK_c f7]
    exact this.2
  have hI : RunI m m1 mC0 (st m1 75 38 0) 0 0 0 := by
    refine ⟨kC, kR, hX, by rw [← hC0]; rfl, by rw [← hC0]; rfl, by rw [← hC0]; rfl, fun o o0 o1 o2 => ?_, ⟨by omega, wz0⟩, ?_⟩
    · have := actB_t.mp o2
      omega
    · rw [pot_z]; omega
  have hx : (0 : Int) = m 11 0 ∨ ((0 : Int) < m 11 0 ∧ m 12 0 ≠ 0) := by
    by_cases y : (0 : Int) = m 11 0
    · exact Or.inl y
    · right
      refine ⟨by omega, fun z => ?_⟩
      have := (hf 0 (by omega) (by omega)).2.2.2.2.2.1 z
      omega
  obtain ⟨D, ov, mC', mR', r1, r2, r3⟩ := run_main hw (fun i _ => by rw [e76]) 100 FU FU 0 0 0 mC0 (st m1 75 38 0) (by omega) hI hx (by rw [FU_eq]; omega) (by rw [FU_eq]; omega)
  refine ⟨D, ov, mC', mR', ?_, ?_, r3⟩
  · unfold Runner_go
    rw [hC0]; exact r1
  · unfold Mo_run
    exact r2
theorem s_run {m : Mem} (h : Rel m) : Stq w32 (FL_run m) (fun m1 => Mo_run m1) := by
  obtain ⟨⟨z0, z1, z2, z3, z4, z5, z6⟩, hs, hr, ho, hp⟩ := shF h
  obtain ⟨D, _, mC, _, x1, _, xC, _⟩ := run_both h (m1 := m) rfl
  have eF : FL_run m = some (D, st mC 0 0 0) := by
    unfold FL_run
    rw [x1, bE_some]; rfl
  have e76 : (st mC 0 0 0) 76 = m 76 := by
    rw [st_ne _ _ _ (by decide), xC.1 76 (by decide) (by decide) (by decide) (by decide) (by decide) (by decide) (by decide) (by decide)]
  obtain ⟨D2, ov, mC2, mR, y1, y2, kC, kR, hX, i1, i2, i3, i4⟩ := run_both h (m1 := st mC 0 0 0) e76
  rw [x1] at y1
  have eD : D2 = D := ((Prod.mk.inj (Option.some.inj y1)).1).symm
  have eC : mC2 = mC := ((Prod.mk.inj (Option.some.inj y1)).2).symm
  subst eD eC
  have wc : ∀ c, c ≠ 75 → c ≠ 76 → c ≠ 83 → c ≠ 84 → c ≠ 85 → c ≠ 86 → c ≠ 87 → c ≠ 88 → (st (st mR 75 39 ov) 75 1 0) c = (st mC2 0 0 0) c := fun c c75 c76 c83 c84 c85 c86 c87 c88 => by
    rw [st_ne _ _ _ c75, st_ne _ _ _ c75, kR.1 c c75 c76 c83 c84 c85 c86 c87 c88]
  have g7 : (st (st mR 75 39 ov) 75 1 0) 7 = mC2 7 := by rw [wc 7 (by decide) (by decide) (by decide) (by decide) (by decide) (by decide) (by decide) (by decide), st_ne _ _ _ (by decide)]
  have g8 : (st (st mR 75 39 ov) 75 1 0) 8 = m 8 := by rw [wc 8 (by decide) (by decide) (by decide) (by decide) (by decide) (by decide) (by decide) (by decide), st_ne _ _ _ (by decide), kC.1 8 (by decide) (by decide) (by decide) (by decide) (by decide) (by decide) (by decide) (by decide)]
  have g9 : (st (st mR 75 39 ov) 75 1 0) 9 = m 9 := by rw [wc 9 (by decide) (by decide) (by decide) (by decide) (by decide) (by decide) (by decide) (by decide), st_ne _ _ _ (by decide), kC.1 9 (by decide) (by decide) (by decide) (by decide) (by decide) (by decide) (by decide) (by decide)]
  have g10 : (st (st mR 75 39 ov) 75 1 0) 10 = mC2 10 := by rw [wc 10 (by decide) (by decide) (by decide) (by decide) (by decide) (by decide) (by decide) (by decide), st_ne _ _ _ (by decide)]
  have g37 : (st (st mR 75 39 ov) 75 1 0) 37 = mC2 37 := by rw [wc 37 (by decide) (by decide) (by decide) (by decide) (by decide) (by decide) (by decide) (by decide), st_ne _ _ _ (by decide)]
  have g0 : (st (st mR 75 39 ov) 75 1 0) 0 = (st mC2 0 0 0) 0 := wc 0 (by decide) (by decide) (by decide) (by decide) (by decide) (by decide) (by decide) (by decide)
  have k0 : mC2 0 = m 0 := kC.1 0 (by decide) (by decide) (by decide) (by decide) (by decide) (by decide) (by decide) (by decide)
  have g76 : ∀ i, i < 80 ∨ 208 ≤ i → (st (st mR 75 39 ov) 75 1 0) 76 i = m 76 i := fun i hi => by
    rw [st_ne _ _ _ (by decide), st_ne _ _ _ (by decide), kR.2.2 i hi, e76]
  have g75 : ∀ i, i ≠ 1 → i < 23 ∨ 28 < i → i ≠ 33 → i ≠ 38 → i ≠ 39 → (st (st mR 75 39 ov) 75 1 0) 75 i = m 75 i := fun i j1 j2 j3 j4 j5 => by
    rw [st_eq, if_neg j1, st_eq, if_neg j5, kR.2.1 i j2 j3 j4, st_ne _ _ _ (by decide), kC.1 75 (by decide) (by decide) (by decide) (by decide) (by decide) (by decide) (by decide) (by decide)]
  refine Stq.mk (x := D2) (m1 := st mC2 0 0 0) (y := D2) (m2 := st (st mR 75 39 ov) 75 1 0) eF y2 rfl ?_
  refine h.upd [0, 1, 4, 9] ?_ (fun _ => ?_) (by simp) (by simp) (fun _ => ?_) (by simp) (by simp) (by simp) (by simp) (fun _ => ?_) (by simp)
  · intro c i q
    have n : ∀ k : Nat, (∀ j, comp k j ∈ [0, 1, 4, 9]) → c ≠ k := fun k hk z => q (by subst z; exact hk i)
    by_cases c75 : c = 75
    · subst c75
      have ne : ∀ k : Int, comp 75 k ∈ [0, 1, 4, 9] → i ≠ k := fun k hk z => q (by subst z; exact hk)
      have a := ne 23 (by decide); have b := ne 24 (by decide); have d := ne 25 (by decide); have e := ne 26 (by decide); have f := ne 27 (by decide); have g := ne 28 (by decide)
      exact g75 i (ne 1 (by decide)) (by omega) (ne 33 (by decide)) (ne 38 (by decide)) (ne 39 (by decide))
    · by_cases c76 : c = 76
      · subst c76
        refine g76 i ?_
        by_cases y : i < 80 ∨ 208 ≤ i
        · exact y
        · exfalso; apply q
          show (if i = 14 then 5 else if 0 ≤ i ∧ i < 208 then 4 else if 208 ≤ i ∧ i < 580 then 5 else if 580 ≤ i ∧ i < 2320 then 6 else 0) ∈ _
          rw [if_neg (by omega), if_pos (by omega)]; simp
      · have n83 := n 83 (fun j => by show 0 ∈ _; simp)
        have n84 := n 84 (fun j => by show 0 ∈ _; simp)
        have n85 := n 85 (fun j => by show 0 ∈ _; simp)
        have n86 := n 86 (fun j => by show 0 ∈ _; simp)
        have n87 := n 87 (fun j => by show 0 ∈ _; simp)
        have n88 := n 88 (fun j => by show 0 ∈ _; simp)
        have n29 := n 29 (fun j => by show 0 ∈ _; simp)
        have n30 := n 30 (fun j => by show 0 ∈ _; simp)
        have n31 := n 31 (fun j => by show 0 ∈ _; simp)
        have n38 := n 38 (fun j => by show 0 ∈ _; simp)
        have n10 := n 10 (fun j => by show 4 ∈ _; simp)
        have n37 := n 37 (fun j => by show (if j = 1 ∨ j = 2 ∨ j = 3 then 9 else 0) ∈ _; split <;> simp)
        rw [wc c c75 c76 n83 n84 n85 n86 n87 n88]
        by_cases c0 : c = 0
        · subst c0
          rw [st_eq, if_neg (fun z => q (by subst z; decide)), k0]
        · rw [st_ne _ _ _ c0]
          by_cases c7 : c = 7
          · subst c7
            exact kC.2.1 i (fun z => q (by subst z; decide))
          · by_cases c28 : c = 28
            · subst c28
              exact kC.2.2 i (fun z => q (by subst z; decide)) (fun z => q (by subst z; decide)) (fun z => q (by subst z; decide))
            · rw [kC.1 c c7 n10 c28 n29 n30 n31 n37 n38]
  · refine Rst_set h.1 (k := 0) ?_ rfl ?_ ?_ ?_ ?_
    · rw [g0]; rfl
    · rw [g0, st_eq, if_neg (by decide), k0]
    · rw [g0, st_eq, if_neg (by decide), k0]
    · exact g75 2 (by decide) (by omega) (by decide) (by decide) (by decide)
    · exact g75 3 (by decide) (by omega) (by decide) (by decide) (by decide)
  · refine ShR_pts h.2.2.2.1 (fun i i0 i1 => ?_) g8 (fun i i0 i1 => g76 i (by omega)) (fun p hp' => ?_)
    · rw [g7]; exact kC.2.1 i (by omega)
    · have p64 := pt64 hs hp'
      have hpC : Pt (mC2 7 0) (mC2 7 1) p := by rw [kC.2.1 0 (by decide), kC.2.1 1 (by decide)]; exact hp'
      have b := hX.2.2.2.2 p hpC
      have bp := hp p hp'
      have gR : (st (st mR 75 39 ov) 75 1 0) 76 = mR 76 := by rw [st_ne _ _ _ (by decide), st_ne _ _ _ (by decide)]
      refine ⟨?_, ?_, ?_⟩
      · show (st (st mR 75 39 ov) 75 1 0) 76 (0 + 16 + p) = (st (st mR 75 39 ov) 75 1 0) 9 p ∧ _
        rw [g9, g76 _ (by omega), show (0 : Int) + 16 + p = 16 + p by omega]; exact bp.1
      · show (st (st mR 75 39 ov) 75 1 0) 76 (0 + 80 + p) = (st (st mR 75 39 ov) 75 1 0) 10 p ∧ _
        rw [g10, gR, show (0 : Int) + 80 + p = 80 + p by omega]; exact b.1
      · rw [gR, isK_c g7, show (0 : Int) + 144 + p = 144 + p by omega]; exact b.2
  · right
    rw [g37]
    refine ⟨i2, ?_, by rw [i3]; exact i4, ?_⟩
    · rw [st_eq, if_neg (by decide), st_eq, if_pos rfl, i3]
    · rw [st_eq, if_neg (by decide), st_eq, if_neg (by decide), i1]
