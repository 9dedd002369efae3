/-! layer 2: way -/
noncomputable def wyK (m16 : Mem) : Option (Int × Mem) := (if ¬ (w32 (m16 75 17)) = 0 then (Mo_way_J109 m16) else (if (w32 (m16 75 21)) ≤ 0 then (Mo_way_J109 m16) else (Mo_way_J109 (Mo_fails 2 m16).2)))
theorem way_eq (a0 : Int) (m : Mem) : Mo_way a0 m = (if (w32 a0) < 0 then some ((Mo_refuse 1 m).1, (Mo_refuse 1 m).2) else (if (w32 (m 75 9)) < (w32 a0) then some ((Mo_refuse 1 m).1, (Mo_refuse 1 m).2) else (if (w32 a0) ≤ 300 then (bV (Mo_begins a0 m) fun m5 => (Mo_way_L62 wyK FU (if (w32 ((st (st (st m5 76 2334 0) 75 21 0) 75 22 0) 75 11)) = 0 then 0 else 1 : Int) (st (st (st m5 76 2334 0) 75 21 0) 75 22 0))) else some ((Mo_refuse 1 m).1, (Mo_refuse 1 m).2)))) := rfl
theorem wtext_loop {B : Nat → Int} {n : Nat} : ∀ (fC fR p step : Nat) (mC mR : Mem), p ≤ n → n - p + 1 < fC → n - p + 1 < fR → step ≤ p → WkR B n mC mR → mC 5 3 = (p : Int) → MT B n (tkS B n p) mR → (∃ (mC' mR' : Mem), WayR_readText_L22 (n : Int) fC (step : Int) mC = some (1, mC') ∧ Mo_way_L62 wyK fR (if tkK B n (tkS B n p) = 0 then 0 else 1) mR = Mo_way_J109 mR' ∧ WkR B n mC' mR' ∧ mC' 21 3 = 0 ∧ Cf mC mC' ∧ Mf mR mR') ∨ (∃ (f : Int) (s : Nat) (mC' mR' : Mem), WayR_readText_L22 (n : Int) fC (step : Int) mC = some (0, mC') ∧ Mo_way_L62 wyK fR (if tkK B n (tkS B n p) = 0 then 0 else 1) mR = Mo_way_J109 mR' ∧ 1 ≤ f ∧ f ≤ 6 ∧ FC f s mC mC' ∧ FM f s mR mR') := by
  intro fC
  induction fC with
  | zero => intro fR p step mC mR _ h; omega
  | succ fC ih =>
    intro fR p step mC mR hp hfC hfR hpt h e3 ht
    obtain ⟨h1, hM, h3, h4, hW⟩ := id h
    have hn := h1.2.1
    have eb := tkK_b B n (tkS B n p)
    have hs := tkS_b B hp
    obtain ⟨mC1, j1, j2, j3⟩ := c_adv h1 hp e3
    have e213 : mC1 21 3 = mC 21 3 := by rw [j2.1 _ (by decide)]
    have hd := hW.2.1
    have hd2 := hW.1.2.2
    match fR, hfR with
    | fR + 1, hfR =>
      rw [WayR_readText_L22, Mo_way_L62, w32_id (x := (n : Int)) (by omega) (by omega), w32_id (x := (step : Int)) (by omega) (by omega), if_neg (show ¬ (n : Int) < (step : Int) by omega), j1, bV_some, j3.2.2.1, w32_id (x := tkK B n (tkS B n p)) (by omega) (by omega)]
      by_cases q : tkK B n (tkS B n p) = 0
      · rw [if_neg (show ¬ ¬ tkK B n (tkS B n p) = 0 from fun z => z q), if_pos q, if_pos (show w32 0 = 0 by decide), e213, w32_id (x := mC 21 3) (by omega) (by omega)]
        unfold wyK
        rw [h3, if_neg (show ¬ ¬ w32 0 = 0 by decide), hd2, w32_id (x := mC 21 3) (by omega) (by omega)]
        by_cases y : mC 21 3 = 0
        · left
          exact ⟨mC1, mR, by rw [if_pos y], by rw [if_pos (show mC 21 3 ≤ 0 by omega)], h.tk j2 (Tk75.refl mR), by rw [e213]; exact y, j2.cf, Mf.refl mR⟩
        · right
          obtain ⟨mC', x1, x2⟩ := c_fail j3 2
          obtain ⟨mR', y1, y2⟩ := m_fail ht h3 (f := 2) (g := 2) (by rw [q]; rfl)
          refine ⟨2, tkS B n p, mC', mR', ?_, ?_, by omega, by omega, x2.cf j2.cf, y2⟩
          · rw [if_neg y, x1]; rfl
          · rw [if_neg (show ¬ mC 21 3 ≤ 0 by omega), y1]
      · rw [if_pos q, if_neg q, if_neg (show ¬ w32 1 = 0 by decide)]
        rcases step_pr (h.tk j2 (Tk75.refl mR)) hs.2 j3 ht with ⟨p', mC', mR', a1, a2, a3, a4, a5, a6, a7, a9, a10⟩ | ⟨f, s, mC', mR', a1, a2, a3, a4, a5, a6⟩
        · have em : (if w32 1 = 0 then 0 else (if w32 (mR' 75 11) = 0 then 0 else 1 : Int) : Int) = if tkK B n (tkS B n p') = 0 then 0 else 1 := by
            rw [if_neg (show ¬ w32 1 = 0 by decide)]
            by_cases y : tkK B n (tkS B n p') = 0
            · rw [if_pos y, if_pos ((m_isE a6).mpr y)]
            · rw [if_neg y, if_neg (fun z => y ((m_isE a6).mp z))]
          rw [a1, bE_some, a2, bE_some, if_pos (show ¬ w32 1 = 0 by decide), em, show (step : Int) + 1 = ((step + 1 : Nat) : Int) by omega]
          rcases ih fR p' (step + 1) mC' mR' a4 (by omega) (by omega) (by omega) a7 a5 a6 with ⟨mC2, mR2, b1, b2, b3, b4, b5, b6⟩ | ⟨f, s, mC2, mR2, b1, b2, b3, b4, b5, b6⟩
          · left; exact ⟨mC2, mR2, b1, b2, b3, b4, (j2.cf.trans a9).trans b5, a10.trans b6⟩
          · right; exact ⟨f, s, mC2, mR2, b1, b2, b3, b4, b5.cf (j2.cf.trans a9), b6.mf a10⟩
        · right
          refine ⟨f, s, mC', mR', ?_, ?_, a3, a4, a5.cf j2.cf, a6⟩
          · rw [a1, bE_some, if_neg (show ¬ ¬ w32 0 = 0 by decide)]
          · rw [a2, bE_some, if_pos (show w32 0 = 0 by decide)]
            match fR, hfR with
            | fR + 1, _ =>
              rw [Mo_way_L62, if_pos (show w32 0 = 0 by decide)]
              unfold wyK
              rw [a6.2.1, w32_id (x := f) (by omega) (by omega), if_pos (show ¬ f = 0 by omega)]
theorem wy_run {m : Mem} (h : Rel m) {n : Nat} (hn : (n : Int) ≤ m 5 1) (hn3 : n ≤ 300) {m1 : Mem} (e80 : m1 80 = m 80) (e9 : m1 75 9 = m 75 9) : (∃ mC' mR', WayR_readText (n : Int) m = some (1, mC') ∧ Mo_way (n : Int) m1 = Mo_way_J109 mR' ∧ WyB mC' mR' ∧ mC' 21 3 = 0 ∧ mC' 5 7 = 0 ∧ mC' 5 8 = -1 ∧ mR' 75 17 = 0 ∧ mR' 75 16 = -1 ∧ Cg m mC' ∧ Mg m1 mR') ∨ (∃ (f s : Int) (mC' mR' : Mem), WayR_readText (n : Int) m = some (0, mC') ∧ Mo_way (n : Int) m1 = Mo_way_J109 mR' ∧ 1 ≤ f ∧ f ≤ 6 ∧ mC' 5 7 = f ∧ mC' 5 8 = s ∧ mR' 75 17 = f ∧ mR' 75 16 = s ∧ Cg m mC' ∧ Mg m1 mR') := by
  obtain ⟨r1, r2, r3, r4, r5, r6⟩ := h.2.2.1
  have hn6 : n ≤ 600 := by omega
  have hB : ∀ i : Nat, i < n → bAnd (m1 80 (i : Int)) 255 = (fun i : Nat => m 6 (i : Int)) i ∧ 0 ≤ (fun i : Nat => m 6 (i : Int)) i ∧ (fun i : Nat => m 6 (i : Int)) i ≤ 255 := fun i hi => by
    have := r4 (i : Int) (by omega) (by omega)
    rw [e80]
    exact ⟨this.1.symm, this.2⟩
  generalize hBd : (fun i : Nat => m 6 (i : Int)) = B at hB
  have hB6 : ∀ i : Nat, m 6 (i : Int) = B i := fun i => by rw [← hBd]
  clear hBd
  obtain ⟨mB, b1, b2, b3, b4, b5, b6, b7, b8⟩ := m_begins (m := m1) (n := n) (B := B) hn6 hB
  generalize hR0 : st (st (st mB 76 2334 0) 75 21 0) 75 22 0 = mR0
  generalize hC0 : st (Way_empty 22 (Tape_begin (n : Int) m)) 21 3 0 = mC0
  have e5 : ∀ i, mC0 5 i = Tape_begin (n : Int) m 5 i := fun i => by
    rw [← hC0, st_ne _ _ _ (by decide)]
    unfold Way_empty
    rw [st_ne _ _ _ (by decide), st_ne _ _ _ (by decide)]
  have eC : ∀ c, c ≠ 5 → c ≠ 21 → c ≠ 22 → mC0 c = m c := fun c c5 c21 c22 => by
    rw [← hC0, st_ne _ _ _ c21]
    unfold Way_empty Tape_begin
    rw [st_ne _ _ _ c22, st_ne _ _ _ c22, st_ne _ _ _ c5, st_ne _ _ _ c5, st_ne _ _ _ c5, st_ne _ _ _ c5]
  have eR75 : ∀ i, i ≠ 21 → i ≠ 22 → mR0 75 i = mB 75 i := fun i i1 i2 => by rw [← hR0, st_eq, if_neg i2, st_eq, if_neg i1, st_ne _ _ _ (by decide)]
  have eRc : ∀ c, c ≠ 75 → c ≠ 76 → mR0 c = mB c := fun c c1 c2 => by rw [← hR0, st_ne _ _ _ c1, st_ne _ _ _ c1, st_ne _ _ _ c2]
  have hTC : TpC B n mC0 := by
    refine ⟨?_, hn6, fun i hi => ?_⟩
    · rw [e5]; exact tb2 hn6
    · have := hB i hi
      rw [eC 6 (by decide) (by decide) (by decide)]
      exact ⟨hB6 i, this.2⟩
  have hTM : TpM B n mR0 := by
    refine ⟨?_, hn6, fun i hi => ?_⟩
    · rw [eR75 _ (by decide) (by decide)]; exact b7.1
    · rw [eRc 81 (by decide) (by decide)]; exact b7.2.2 i hi
  have hMT : MT B n (tkS B n 0) mR0 := by
    obtain ⟨t1, t2, t3, t4⟩ := b8
    refine ⟨?_, ?_, fun z => ?_, fun z => ?_⟩
    · rw [eR75 _ (by decide) (by decide)]; exact t1
    · rw [eR75 _ (by decide) (by decide)]; exact t2
    · rw [eR75 _ (by decide) (by decide)]; exact t3 z
    · rw [eR75 _ (by decide) (by decide)]; exact t4 z
  have g1 : mC0 22 0 = 0 := by
    rw [← hC0, st_ne _ _ _ (by decide)]
    unfold Way_empty
    rw [st_eq, if_neg (by decide), st_eq, if_pos rfl]
  have g2 : mC0 22 1 = 0 := by
    rw [← hC0, st_ne _ _ _ (by decide)]
    unfold Way_empty
    rw [st_eq, if_pos rfl]
  have g3 : mC0 21 3 = 0 := by rw [← hC0, st_eq, if_pos rfl]
  have hWy : WyB mC0 mR0 := by
    unfold WyB
    rw [g1, g2, g3]
    refine ⟨⟨by rw [← hR0]; rfl, by rw [← hR0]; rfl, by rw [← hR0]; rfl⟩, by omega, fun j j0 j1 => by omega, fun i j i0 i1 j1 => by omega, fun k k0 k1 => by omega⟩
  have hBk : WkR B n mC0 mR0 := by
    refine ⟨hTC, hTM, ?_, ⟨?_, ?_, ?_⟩, hWy⟩
    · rw [eR75 _ (by decide) (by decide)]; exact b5
    · rw [e5]; rfl
    · rw [e5]; rfl
    · rw [eR75 _ (by decide) (by decide)]; exact b6
  have hCg : ∀ mC', Cf mC0 mC' → Cg m mC' := fun mC' hf c h1 h2 => by
    rw [hf.1 c h1 h2, eC c h1 (by omega) (by omega)]
  have hMg0 : Mg m1 mR0 := by
    refine ⟨fun c h75 h76 h81 h82 => ?_, fun i hi => ?_, fun i hi => ?_, ?_⟩
    · rw [eRc c h75 h76, b2 c h75 h81]
    · rw [eR75 i (by omega) (by omega), b3 i (by omega)]
    · rw [← hR0, st_ne _ _ _ (by decide), st_ne _ _ _ (by decide), st_eq, if_neg (by omega), b2 76 (by decide) (by decide)]
    · rw [eR75 _ (by decide) (by decide)]; exact b4
  have eRun : WayR_readText (n : Int) m = WayR_readText_L22 (n : Int) FU 0 mC0 := by
    unfold WayR_readText
    rw [hC0]
  have eM : Mo_way (n : Int) m1 = Mo_way_L62 wyK FU (if tkK B n (tkS B n 0) = 0 then 0 else 1) mR0 := by
    rw [way_eq, w32_id (x := (n : Int)) (by omega) (by omega), if_neg (by omega), e9, r1, w32_id (x := m 5 1) (by omega) (by omega), if_neg (show ¬ m 5 1 < (n : Int) by omega), if_pos (show (n : Int) ≤ 300 by omega), b1, bV_some, hR0]
    by_cases y : tkK B n (tkS B n 0) = 0
    · rw [if_pos y, if_pos ((m_isE hMT).mpr y)]
    · rw [if_neg y, if_neg (fun z => y ((m_isE hMT).mp z))]
  rw [eRun, eM]
  clear eRun eM
  rcases wtext_loop (B := B) (n := n) FU FU 0 0 mC0 mR0 (by omega) (by rw [FU_eq]; omega) (by rw [FU_eq]; omega) (by omega) hBk (by rw [e5]; rfl) hMT with ⟨mC', mR', x1, x2, x3, x4, x5, x6⟩ | ⟨f, s, mC', mR', x1, x2, x3, x4, x5, x6⟩
  · left
    exact ⟨mC', mR', x1, x2, x3.2.2.2.2, x4, x3.2.2.2.1.1, x3.2.2.2.1.2.1, x3.2.2.1, x3.2.2.2.1.2.2, hCg _ x5, hMg0.mf x6⟩
  · right
    exact ⟨f, (s : Int), mC', mR', x1, x2, x3, x4, x5.2.1, x5.2.2, x6.2.1, x6.2.2, hCg _ x5.1, hMg0.mf x6.1⟩
theorem m_cp150 {m : Mem} : ∀ (f r k : Nat) (mm : Mem), k + r = 580 → 208 ≤ k → r < f → (∀ c, c ≠ 76 → mm c = m c) → (∀ i, mm 76 i = if 208 ≤ i ∧ i < (k : Int) then m 76 (2320 + i) else m 76 i) → ∃ m', Mo_way_L150 f (k : Int) mm = some (m' 75 22, st m' 75 1 0) ∧ (∀ c, c ≠ 76 → m' c = m c) ∧ (∀ i, m' 76 i = if 208 ≤ i ∧ i < 580 then m 76 (2320 + i) else m 76 i) := by
  intro f
  induction f with
  | zero => intro r k mm _ _ h; omega
  | succ f ih =>
    intro r k mm hr hk hf e1 e2
    rw [Mo_way_L150, w32_id (x := (k : Int)) (by omega) (by omega)]
    cases r with
    | zero =>
      rw [if_pos (by omega)]
      refine ⟨mm, rfl, e1, fun i => ?_⟩
      rw [e2 i]
      have : (k : Int) = 580 := by omega
      rw [this]
    | succ r =>
      rw [if_neg (by omega), w32_id (x := 2320 + (k : Int)) (by omega) (by omega), if_pos (by omega), if_pos (by omega), show (k : Int) + 1 = ((k + 1 : Nat) : Int) by omega]
      refine ih r (k + 1) _ (by omega) (by omega) (by omega) (fun c hc => by rw [st_ne _ _ _ hc]; exact e1 c hc) (fun i => ?_)
      rw [st_eq]
      by_cases z : i = (k : Int)
      · rw [if_pos z, if_pos (by omega), e2, if_neg (by omega), z]
      · rw [if_neg z, e2]
        by_cases y : 208 ≤ i ∧ i < (k : Int)
        · rw [if_pos y, if_pos (by omega)]
        · rw [if_neg y, if_neg (by omega)]
