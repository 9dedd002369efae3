/-! layer 2: ribs, the class -/
def gS (C T : Int → Int) (s t : Nat) : Int := iab (C (s : Int) - T (t : Int))
theorem gS_0 (C T : Int → Int) (s t : Nat) : 0 ≤ gS C T s t := by unfold gS iab; split <;> omega
theorem gS_b {C T : Int → Int} {s t : Nat} (c0 : 0 ≤ C (s : Int)) (c1 : C (s : Int) ≤ 7992) (t0 : 0 ≤ T (t : Int)) (t1 : T (t : Int) ≤ 9999) : 0 ≤ gS C T s t ∧ gS C T s t ≤ 20000 := by
  unfold gS
  exact iab_b (by omega) (by omega)
theorem c_cost {m : Mem} {C : Int → Int} {u t many s : Nat} (hm : many ≤ 10) (hu : In2 u many) (ht : t < many) (hz : Fz u t) (c0 : 0 ≤ C (s : Int)) (c1 : C (s : Int) ≤ 7992) (t0 : 0 ≤ m 40 (t : Int)) (t1 : m 40 (t : Int) ≤ 9999) : Yard_costWith (u : Int) (t : Int) (C (s : Int)) m = gS C (m 40) s t + m 41 (up u t : Int) := by
  have hu' := in2_1024 hm hu
  have hi := in2_1024 hm (up_in hm hu ht hz)
  unfold Yard_costWith gS
  rw [up_or hu' (by omega) hz, w32_id (x := (t : Int)) (by omega) (by omega), w32_id (x := (up u t : Int)) (by omega) (by omega), if_neg (by omega), if_neg (by omega), if_neg (by omega), if_pos (by omega), jabs (by omega) (by omega)]
theorem c_cb32 {m : Mem} {C : Int → Int} {u many s : Nat} (hm : many ≤ 10) (hu : In2 u many) (c0 : 0 ≤ C (s : Int)) (c1 : C (s : Int) ≤ 7992) (hT : ∀ t : Nat, t < many → 0 ≤ m 40 (t : Int) ∧ m 40 (t : Int) ≤ 9999) {v : Nat → Int} (hv : ∀ t, t < many → Fz u t → m 41 (up u t : Int) = v t ∧ 0 ≤ v t ∧ v t ≤ 1000000) : ∀ (n k t : Nat) (x : Int), t + k = many → k < n → 0 ≤ x → x ≤ 1073741824 → Yard_cheapestBehind_L32 (u : Int) (many : Int) (C (s : Int)) m n x (t : Int) = some (mnS u (fun t => gS C (m 40) s t + v t) k t x) := by
  intro n
  induction n with
  | zero => intro k t x _ q; omega
  | succ n ih =>
    intro k t x hk hn x0 x1
    have hu' := in2_1024 hm hu
    rw [Yard_cheapestBehind_L32, w32_id (x := (many : Int)) (by omega) (by omega), w32_id (x := (t : Int)) (by omega) (by omega)]
    by_cases q : many ≤ t
    · rw [if_pos (by omega), show k = 0 by omega]; rfl
    · obtain ⟨k', ek⟩ : ∃ k', k = k' + 1 := ⟨k - 1, by omega⟩
      subst ek
      rw [if_neg (by omega), mnS_s, show (t : Int) + 1 = ((t + 1 : Nat) : Int) by omega]
      by_cases z : Fz u t
      · have a := hT t (by omega)
        have b := hv t (by omega) z
        have g := gS_b (C := C) (T := m 40) (s := s) (t := t) c0 c1 a.1 a.2
        rw [bitZ hu' (by omega) z, if_neg (by omega), c_cost hm hu (by omega) z c0 c1 a.1 a.2, b.1, if_pos (fzB_t.mpr z)]
        have ej : J_min x (gS C (m 40) s t + v t) = if gS C (m 40) s t + v t < x then gS C (m 40) s t + v t else x := by
          unfold J_min; rw [w32_id (by omega) (by omega), w32_id (by omega) (by omega)]
        rw [ej]
        exact ih k' (t + 1) _ (by omega) (by omega) (by clear ej; split <;> omega) (by clear ej; split <;> omega)
      · rw [bitO hu' (by omega) z, if_pos (by decide), if_neg (fun y => z (fzB_t.mp y))]
        exact ih k' (t + 1) x (by omega) (by omega) x0 x1
theorem c_cb {m : Mem} {C : Int → Int} {u many n : Nat} (hm : many ≤ 10) (hnm : n ≤ many) (hn8 : n ≤ 8) (hu : In2 u many) (hs : gSW (m 7 0) (m 7 1)) (hfl : ∀ q, Pt (m 7 0) (m 7 1) q → 0 ≤ m 10 q ∧ m 10 q ≤ 999) (en : m 7 0 = (n : Int)) (eC : C = fun s => ckS (m 10) (m 7 1) s) (hT : ∀ t : Nat, t < many → 0 ≤ m 40 (t : Int) ∧ m 40 (t : Int) ≤ 9999) (hv : ∀ w, u < w → In2 w many → m 41 (w : Int) = rcS 1073741824 (gS C (m 40)) many (n - pcN 10 w) (pcN 10 w) w) : Yard_cheapestBehind (u : Int) (many : Int) m = some (rcS 1073741824 (gS C (m 40)) many (n - pcN 10 u) (pcN 10 u) u) := by
  have hu' := in2_1024 hm hu
  have eb : J_bitCount (u : Int) = (pcN 10 u : Int) := rbC ⟨u, hu'⟩
  have hC : ∀ s : Nat, s < n → 0 ≤ C (s : Int) ∧ C (s : Int) ≤ 7992 := fun s h => by rw [eC]; exact ckS_b hs hfl (by omega) (by omega)
  have hg : ∀ s t, s < n → t < many → 0 ≤ gS C (m 40) s t ∧ gS C (m 40) s t ≤ 20000 := fun s t h1 h2 => gS_b (hC s h1).1 (hC s h1).2 (hT t h2).1 (hT t h2).2
  have p10 : pcN 10 u ≤ 10 := by
    unfold pcN pcN pcN pcN pcN pcN pcN pcN pcN pcN pcN; omega
  unfold Yard_cheapestBehind
  rw [eb, en, w32_id (x := (pcN 10 u : Int)) (by omega) (by omega), w32_id (x := (n : Int)) (by omega) (by omega)]
  by_cases q : pcN 10 u < n
  · rw [if_pos (by omega), c_crook hs hfl (by omega) (by omega), bP_some, show n - pcN 10 u = (n - pcN 10 u - 1) + 1 by omega, rcS_s]
    have eC' : ckS (m 10) (m 7 1) (pcN 10 u : Int) = C (pcN 10 u : Int) := by rw [eC]
    rw [eC']
    refine c_cb32 hm hu (hC _ q).1 (hC _ q).2 hT (v := fun t => rcS 1073741824 (gS C (m 40)) many (n - pcN 10 u - 1) (pcN 10 u + 1) (up u t)) (fun t t1 t2 => ?_) FU many 0 1073741824 (by omega) (by rw [FU_eq]; omega) (by omega) (by omega)
    have e := hv (up u t) (up_gt u t) (up_in hm hu t1 t2)
    rw [up_pc hu' (by omega) t2, show n - (pcN 10 u + 1) = n - pcN 10 u - 1 by omega] at e
    have r := rcS_e (x0 := 1073741824) (x1 := 1073741824) hm hnm hn8 hg (by omega) (by omega) (n - pcN 10 u - 1) (pcN 10 u + 1) (up u t) (by omega) (up_pc hu' (by omega) t2) (up_in hm hu t1 t2)
    exact ⟨e, r.2.1, by omega⟩
  · rw [if_neg (by omega), show n - pcN 10 u = 0 by omega]; rfl
theorem c_mr17 {m : Mem} {C : Int → Int} {many n : Nat} (hm : many ≤ 10) (hnm : n ≤ many) (hn8 : n ≤ 8) (hs : gSW (m 7 0) (m 7 1)) (hfl : ∀ q, Pt (m 7 0) (m 7 1) q → 0 ≤ m 10 q ∧ m 10 q ≤ 999) (en : m 7 0 = (n : Int)) (eC : C = fun s => ckS (m 10) (m 7 1) s) (hT : ∀ t : Nat, t < many → 0 ≤ m 40 (t : Int) ∧ m 40 (t : Int) ≤ 9999) {K : Mem → Option (Int × Mem)} : ∀ (f k : Nat) (mm : Mem), k ≤ 1024 → (∀ w, w < k → In2 w many) → k < f → (∀ c, c ≠ 41 → mm c = m c) → (∀ w, k ≤ w → In2 w many → mm 41 (w : Int) = rcS 1073741824 (gS C (m 40)) many (n - pcN 10 w) (pcN 10 w) w) → ∃ m', Yard_matchRibs_L17 (many : Int) K f ((k : Int) - 1) mm = K m' ∧ (∀ c, c ≠ 41 → m' c = m c) ∧ (∀ w, In2 w many → m' 41 (w : Int) = rcS 1073741824 (gS C (m 40)) many (n - pcN 10 w) (pcN 10 w) w) := by
  intro f
  induction f with
  | zero => intro k mm _ _ q; omega
  | succ f ih =>
    intro k mm k1 hk hf hc hv
    cases k with
    | zero =>
      refine ⟨mm, ?_, hc, fun w hw => hv w (by omega) hw⟩
      rw [Yard_matchRibs_L17, w32_id (by omega) (by omega), if_pos (by omega)]
    | succ k =>
      have e7 : mm 7 = m 7 := hc 7 (by decide)
      have e10 : mm 10 = m 10 := hc 10 (by decide)
      have e40 : mm 40 = m 40 := hc 40 (by decide)
      have hu := hk k (by omega)
      have cb := c_cb (m := mm) (C := C) (u := k) (many := many) (n := n) hm hnm hn8 hu (by rw [e7]; exact hs) (by rw [e7, e10]; exact hfl) (by rw [e7]; exact en) (by rw [e7, e10]; exact eC) (by rw [e40]; exact hT) (fun w w1 w2 => by rw [e40]; exact hv w (by omega) w2)
      rw [e40] at cb
      obtain ⟨m', j1, j2, j3⟩ := ih k (st mm 41 (k : Int) (rcS 1073741824 (gS C (m 40)) many (n - pcN 10 k) (pcN 10 k) k)) (by omega) (fun w hw => hk w (by omega)) (by omega) (fun c c1 => by rw [st_ne _ _ _ c1]; exact hc c c1) (fun w w1 w2 => by
        rw [st_eq]
        by_cases z : w = k
        · subst z; rw [if_pos rfl]
        · rw [if_neg (by omega)]; exact hv w (by omega) w2)
      refine ⟨m', ?_, j2, j3⟩
      rw [Yard_matchRibs_L17, show ((k + 1 : Nat) : Int) - 1 = (k : Int) by omega, w32_id (by omega) (by omega), if_neg (by omega), cb, bP_some, if_pos (by omega), show (k : Int) + -1 = (k : Int) - 1 by omega]
      exact j1
theorem c_fc {m : Mem} {C : Int → Int} {u many s : Nat} (hm : many ≤ 10) (hu : In2 u many) (c0 : 0 ≤ C (s : Int)) (c1 : C (s : Int) ≤ 7992) (hT : ∀ t : Nat, t < many → 0 ≤ m 40 (t : Int) ∧ m 40 (t : Int) ≤ 9999) {v : Nat → Int} {x : Int} (x0 : 0 ≤ x) (x1 : x ≤ 1073741824) (hv : ∀ t, t < many → Fz u t → m 41 (up u t : Int) = v t ∧ 0 ≤ v t ∧ v t ≤ 1000000) : ∀ (n k t : Nat), t + k = many → k < n → Yard_firstCheapest_L35 (u : Int) (many : Int) (C (s : Int)) x m n (t : Int) = some ((fcS u (fun t => gS C (m 40) s t + v t) x k t : Nat) : Int) := by
  intro n
  induction n with
  | zero => intro k t _ q; omega
  | succ n ih =>
    intro k t hk hn
    have hu' := in2_1024 hm hu
    rw [Yard_firstCheapest_L35, w32_id (x := (many : Int)) (by omega) (by omega), w32_id (x := (t : Int)) (by omega) (by omega), w32_id (x := x) (by omega) (by omega)]
    by_cases q : many ≤ t
    · rw [if_pos (by omega), show k = 0 by omega]; rfl
    · obtain ⟨k', ek⟩ : ∃ k', k = k' + 1 := ⟨k - 1, by omega⟩
      subst ek
      rw [if_neg (by omega), fcS_s, show (t : Int) + 1 = ((t + 1 : Nat) : Int) by omega, ih k' (t + 1) (by omega) (by omega)]
      by_cases z : Fz u t
      · have a := hT t (by omega)
        have b := hv t (by omega) z
        have g := gS_b (C := C) (T := m 40) (s := s) (t := t) c0 c1 a.1 a.2
        rw [bitZ hu' (by omega) z, if_neg (by omega), c_cost hm hu (by omega) z c0 c1 a.1 a.2, b.1, fzB_t.mpr z, w32_id (x := gS C (m 40) s t + v t) (by omega) (by omega)]
        by_cases y : gS C (m 40) s t + v t = x
        · rw [if_neg (by omega), decide_eq_true y]; rfl
        · rw [if_pos y, decide_eq_false y]; rfl
      · have z' : fzB u t = false := by
          cases e : fzB u t with
          | true => exact absurd (fzB_t.mp e) z
          | false => rfl
        rw [bitO hu' (by omega) z, if_pos (by decide), z']; rfl
theorem c_mr57 {m : Mem} {C : Int → Int} {many n : Nat} (hm : many ≤ 10) (hnm : n ≤ many) (hn8 : n ≤ 8) (hs : gSW (m 7 0) (m 7 1)) (hfl : ∀ q, Pt (m 7 0) (m 7 1) q → 0 ≤ m 10 q ∧ m 10 q ≤ 999) (en : m 7 0 = (n : Int)) (eC : C = fun s => ckS (m 10) (m 7 1) s) (hT : ∀ t : Nat, t < many → 0 ≤ m 40 (t : Int) ∧ m 40 (t : Int) ≤ 9999) (hv : ∀ w, In2 w many → m 41 (w : Int) = rcS 1073741824 (gS C (m 40)) many (n - pcN 10 w) (pcN 10 w) w) : ∀ (f d s u : Nat) (mm : Mem), s + d = n → pcN 10 u = s → In2 u many → d < f → (∀ c, c ≠ 42 → mm c = m c) → ∃ m', Yard_matchRibs_L57 (many : Int) f (u : Int) (s : Int) mm = some (m 41 0, m') ∧ (∀ c, c ≠ 42 → m' c = m c) ∧ m' 42 = chS (gS C (m 40)) many d s u (mm 42) := by
  have hC : ∀ s : Nat, s < n → 0 ≤ C (s : Int) ∧ C (s : Int) ≤ 7992 := fun s h => by rw [eC]; exact ckS_b hs hfl (by omega) (by omega)
  have hg : ∀ s t, s < n → t < many → 0 ≤ gS C (m 40) s t ∧ gS C (m 40) s t ≤ 20000 := fun s t h1 h2 => gS_b (hC s h1).1 (hC s h1).2 (hT t h2).1 (hT t h2).2
  intro f
  induction f with
  | zero => intro d s u mm _ _ _ q; omega
  | succ f ih =>
    intro d s u mm hd hp hu hf hc
    have e7 : mm 7 = m 7 := hc 7 (by decide)
    have e10 : mm 10 = m 10 := hc 10 (by decide)
    have e40 : mm 40 = m 40 := hc 40 (by decide)
    have e41 : mm 41 = m 41 := hc 41 (by decide)
    have hu' := in2_1024 hm hu
    cases d with
    | zero =>
      refine ⟨mm, ?_, hc, rfl⟩
      rw [Yard_matchRibs_L57, e7, en, w32_id (x := (n : Int)) (by omega) (by omega), w32_id (x := (s : Int)) (by omega) (by omega), if_pos (by omega), e41]
    | succ d =>
      have sn : s < n := by omega
      have xv := hv u hu
      rw [hp, show n - s = d + 1 by omega] at xv
      have rr := rcS_e (x0 := 1073741824) (x1 := 1073741824) hm hnm hn8 hg (by omega) (by omega) (d + 1) s u hd hp hu
      have eC' : ckS (m 10) (m 7 1) (s : Int) = C (s : Int) := by rw [eC]
      have fc := c_fc (m := mm) (C := C) (u := u) (many := many) (s := s) hm hu (hC s sn).1 (hC s sn).2 (by rw [e40]; exact hT) (v := fun t => rcS 1073741824 (gS C (m 40)) many d (s + 1) (up u t)) (x := rcS 1073741824 (gS C (m 40)) many (d + 1) s u) (by omega) (by omega) (fun t t1 t2 => by
        have e := hv (up u t) (up_in hm hu t1 t2)
        rw [up_pc hu' (by omega) t2, hp, show n - (s + 1) = d by omega] at e
        have r := rcS_e (x0 := 1073741824) (x1 := 1073741824) hm hnm hn8 hg (by omega) (by omega) d (s + 1) (up u t) (by omega) (by rw [up_pc hu' (by omega) t2, hp]) (up_in hm hu t1 t2)
        exact ⟨by rw [e41]; exact e, r.2.1, by omega⟩) FU many 0 (by omega) (by rw [FU_eq]; omega)
      rw [e40] at fc
      obtain ⟨y1, y2, y3, y4⟩ := fcS_is (u := u) (f := fun t => gS C (m 40) s t + rcS 1073741824 (gS C (m 40)) many d (s + 1) (up u t)) (x := rcS 1073741824 (gS C (m 40)) many (d + 1) s u) many 0 (fc_ok hm hnm hn8 hg hd hp hu)
      obtain ⟨y, ey⟩ : ∃ y, fcS u (fun t => gS C (m 40) s t + rcS 1073741824 (gS C (m 40)) many d (s + 1) (up u t)) (rcS 1073741824 (gS C (m 40)) many (d + 1) s u) many 0 = y := ⟨_, rfl⟩
      rw [ey] at y1 y2 y3 y4 fc
      obtain ⟨m', j1, j2, j3⟩ := ih d (s + 1) (up u y) (st mm 42 (s : Int) (y : Int)) (by omega) (by rw [up_pc hu' (by omega) y3, hp]) (up_in hm hu (by omega) y3) (by omega) (fun c c1 => by rw [st_ne _ _ _ c1]; exact hc c c1)
      refine ⟨m', ?_, j2, ?_⟩
      · rw [Yard_matchRibs_L57, e7, en, w32_id (x := (n : Int)) (by omega) (by omega), w32_id (x := (s : Int)) (by omega) (by omega), if_neg (by omega), if_neg (by omega)]
        unfold Yard_firstCheapest
        rw [c_crook (m := mm) (by rw [e7]; exact hs) (by rw [e7, e10]; exact hfl) (show 0 ≤ (s : Int) by omega) (by rw [e7, en]; omega), bP_some, e7, e10, eC', e41, w32_id (x := (u : Int)) (by omega) (by omega), if_neg (by omega), if_neg (by omega), xv]
        rw [show (0 : Int) = ((0 : Nat) : Int) from rfl, fc, bP_some, if_pos (by omega), up_or hu' (by omega) y3, show (s : Int) + 1 = ((s + 1 : Nat) : Int) by omega]
        exact j1
      · rw [j3, chS_s, ey]
        rfl
theorem c_ct {m : Mem} {t : Int} {many : Nat} (t0 : 0 ≤ t) (t1 : t < 4) (hm : many ≤ 10) (hc : ∀ p : Int, 0 ≤ p → p < many → w64 (m 2 (60 * t + p)) = m 2 (60 * t + p)) : ∀ (f k v : Nat) (mm : Mem), v + k = many → k < f → (∀ c, c ≠ 40 → mm c = m c) → (∀ w : Nat, w < v → mm 40 (w : Int) = m 2 (60 * t + w)) → ∃ m', (∀ c, c ≠ 40 → m' c = m c) ∧ ((∀ w : Nat, v ≤ w → w < many → 0 ≤ m 2 (60 * t + w) ∧ m 2 (60 * t + w) ≤ 9999) → Yard_chooseTrees_L3 t (many : Int) f (v : Int) mm = some (1, m') ∧ ∀ w : Nat, w < many → m' 40 (w : Int) = m 2 (60 * t + w)) ∧ (¬ (∀ w : Nat, v ≤ w → w < many → 0 ≤ m 2 (60 * t + w) ∧ m 2 (60 * t + w) ≤ 9999) → Yard_chooseTrees_L3 t (many : Int) f (v : Int) mm = some (0, m')) := by
  intro f
  induction f with
  | zero => intro k v mm _ q; omega
  | succ f ih =>
    intro k v mm hk hf hcc hv
    have e2 : mm 2 = m 2 := hcc 2 (by decide)
    rw [Yard_chooseTrees_L3, w32_id (x := (many : Int)) (by omega) (by omega), w32_id (x := (v : Int)) (by omega) (by omega)]
    by_cases q : many ≤ v
    · refine ⟨mm, hcc, fun _ => ⟨by rw [if_pos (by omega)], fun w hw => hv w (by omega)⟩, fun z => absurd (fun w w1 w2 => by omega) z⟩
    · rw [if_neg (by omega), if_neg (by omega), trA t0 t1 (by omega) (by omega), e2, iw (hc v (by omega) (by omega)) (by omega) (by omega) (by omega) (by omega), if_pos (show 0 ≤ (v : Int) ∧ (v : Int) < 10 by omega)]
      by_cases g : 0 ≤ m 2 (60 * t + (v : Int)) ∧ m 2 (60 * t + (v : Int)) ≤ 9999
      · obtain ⟨m', j1, j2, j3⟩ := ih (k - 1) (v + 1) (st mm 40 (v : Int) (m 2 (60 * t + (v : Int)))) (by omega) (by omega) (fun c c1 => by rw [st_ne _ _ _ c1]; exact hcc c c1) (fun w hw => by
          rw [st_eq]
          by_cases z : w = v
          · subst z; rw [if_pos rfl]
          · rw [if_neg (by omega)]; exact hv w (by omega))
        rw [if_pos g, if_pos (by decide), show (v : Int) + 1 = ((v + 1 : Nat) : Int) by omega]
        refine ⟨m', j1, fun z => j2 (fun w w1 w2 => z w (by omega) w2), fun z => j3 (fun y => z (fun w w1 w2 => ?_))⟩
        by_cases x : w = v
        · subst x; exact g
        · exact y w (by omega) w2
      · rw [if_neg g, if_neg (by decide)]
        exact ⟨mm, hcc, fun z => absurd (z v (by omega) (by omega)) g, fun _ => rfl⟩
