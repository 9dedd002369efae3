/-! layer 2: ribs, the reference -/
def Rb (m m' : Mem) : Prop := (∀ c, c ≠ 75 → c ≠ 96 → c ≠ 97 → m' c = m c) ∧ ∀ i, i < 23 ∨ 25 < i → m' 75 i = m 75 i
theorem Rb.refl (m : Mem) : Rb m m := ⟨fun _ _ _ _ => rfl, fun _ _ => rfl⟩
theorem Rb.tk {m m' : Mem} (h : Rb m m') (f a p : Int) : Rb m (tk m' f a p) := by
  refine ⟨fun c c1 c2 c3 => ?_, fun i hi => ?_⟩
  · unfold _root_.Jvm.Pilot.CFairLinesLaw_law_r6635_d18a2e.tk
    rw [st_ne _ _ _ c1, st_ne _ _ _ c1, st_ne _ _ _ c1]; exact h.1 c c1 c2 c3
  · unfold _root_.Jvm.Pilot.CFairLinesLaw_law_r6635_d18a2e.tk
    rw [st_eq, if_neg (by omega), st_eq, if_neg (by omega), st_eq, if_neg (by omega)]; exact h.2 i hi
theorem Rb.s96 {m m' : Mem} (h : Rb m m') (i v : Int) : Rb m (st m' 96 i v) := ⟨fun c c1 c2 c3 => by rw [st_ne _ _ _ c2]; exact h.1 c c1 c2 c3, fun j hj => by rw [st_ne _ _ _ (by decide)]; exact h.2 j hj⟩
theorem Rb.s97 {m m' : Mem} (h : Rb m m') (i v : Int) : Rb m (st m' 97 i v) := ⟨fun c c1 c2 c3 => by rw [st_ne _ _ _ c3]; exact h.1 c c1 c2 c3, fun j hj => by rw [st_ne _ _ _ (by decide)]; exact h.2 j hj⟩
theorem tk_96 (m : Mem) (f a p : Int) {c : Nat} (hc : c ≠ 75) : tk m f a p c = m c := by
  unfold tk; rw [st_ne _ _ _ hc, st_ne _ _ _ hc, st_ne _ _ _ hc]
/-- what offBy answers -/
def Of (m1 : Mem) (tr : Int) (n many : Nat) (W : Int) (g : Nat → Nat → Int) : Prop := ∀ (mm : Mem) (s t : Nat), Rb m1 mm → s < n → t < many → Mo_offBy tr (s : Int) (t : Int) mm = some (g s t, tk mm (8 * (s : Int)) 1 W)
theorem m_off {m1 : Mem} {S W tr : Int} {n many : Nat} {C T : Int → Int} (hs : gSW S W) (z0 : m1 76 0 = S) (z1 : m1 76 1 = W) (hfl : ∀ q, Pt S W q → 0 ≤ m1 76 (80 + q) ∧ m1 76 (80 + q) ≤ 999) (t0 : 0 ≤ tr) (t1 : tr < 4) (en : S = (n : Int)) (hm : many ≤ 10) (hC : ∀ s : Nat, s < n → ckS (fun q => m1 76 (80 + q)) W s = C s) (hT : ∀ t : Nat, t < many → m1 79 (60 * tr + t) = T t ∧ 0 ≤ T t ∧ T t ≤ 9999) : Of m1 tr n many W (gS C T) := by
  intro mm s t hr hsn htm
  have e76 : mm 76 = m1 76 := hr.1 76 (by decide) (by decide) (by decide)
  have e79 : mm 79 = m1 79 := hr.1 79 (by decide) (by decide) (by decide)
  have a := hT t htm
  have c := ckS_b (F := fun q => m1 76 (80 + q)) (s := (s : Int)) hs hfl (by omega) (by omega)
  rw [hC s hsn] at c
  unfold Mo_offBy
  rw [m_crook (m := mm) (S := S) (W := W) hs (by rw [e76]; exact z0) (by rw [e76]; exact z1) (by rw [e76]; exact hfl) (show 0 ≤ (s : Int) by omega) (by omega), bE_some, w32_id (x := 60 * tr + (t : Int)) (by omega) (by omega), if_pos (by omega), tk_96 _ _ _ _ (by decide), e79, e76, a.1, hC s hsn, jabs (by omega) (by omega)]
  rfl
theorem m_rb179 {m1 : Mem} {tr W : Int} {n many s u : Nat} {g : Nat → Nat → Int} (ho : Of m1 tr n many W g) (hm : many ≤ 10) (hn8 : n ≤ 8) (hs : s < n) (hu : In2 u many) (hg : ∀ s t, s < n → t < many → 0 ≤ g s t ∧ g s t ≤ 20000) {v3 : Int} {v : Nat → Int} {K : Int → Int → Mem → Option (Int × Mem)} : ∀ (f k t : Nat) (x : Int) (mm : Mem), t + k = many → k < f → 0 ≤ x → x ≤ 1000000 → Rb m1 mm → (∀ t, t < many → Fz u t → mm 96 (1024 * ((s : Int) + 1) + (up u t : Int)) = v t ∧ 0 ≤ v t ∧ v t ≤ 1000000) → ∃ m', Rb m1 m' ∧ m' 96 = mm 96 ∧ m' 97 = mm 97 ∧ Mo_ribs_L179 tr (many : Int) v3 (s : Int) K f (u : Int) x (t : Int) mm = K (s : Int) ((u : Int) + 1) (st m' 96 (1024 * (s : Int) + (u : Int)) (mnS u (fun t => g s t + v t) k t x)) := by
  intro f
  induction f with
  | zero => intro k t x mm _ q; omega
  | succ f ih =>
    intro k t x mm hk hf x0 x1 hr hv
    have hu' := in2_1024 hm hu
    rw [Mo_ribs_L179, w32_id (x := (many : Int)) (by omega) (by omega), w32_id (x := (t : Int)) (by omega) (by omega)]
    by_cases q : many ≤ t
    · refine ⟨mm, hr, rfl, rfl, ?_⟩
      rw [if_pos (by omega), w32_id (x := 1024 * (s : Int) + (u : Int)) (by omega) (by omega), if_pos (by omega), show k = 0 by omega]
      rfl
    · obtain ⟨k', ek⟩ : ∃ k', k = k' + 1 := ⟨k - 1, by omega⟩
      subst ek
      rw [if_neg (by omega), mnS_s, show (t : Int) + 1 = ((t + 1 : Nat) : Int) by omega]
      by_cases z : Fz u t
      · have b := hv t (by omega) z
        have gg := hg s t hs (by omega)
        have hi := in2_1024 hm (up_in hm hu (show t < many by omega) z)
        have ej : J_min x (g s t + v t) = if g s t + v t < x then g s t + v t else x := by
          unfold J_min; rw [w32_id (by omega) (by omega), w32_id (by omega) (by omega)]
        obtain ⟨m', j0, j1, j1', j2⟩ := ih k' (t + 1) (if g s t + v t < x then g s t + v t else x) (tk mm (8 * (s : Int)) 1 W) (by omega) (by omega) (by clear ej; split <;> omega) (by clear ej; split <;> omega) (hr.tk _ _ _) (by rw [tk_96 _ _ _ _ (by decide)]; exact hv)
        refine ⟨m', j0, by rw [j1, tk_96 _ _ _ _ (by decide)], by rw [j1', tk_96 _ _ _ _ (by decide)], ?_⟩
        rw [bitZ hu' (by omega) z, if_neg (by omega), ho mm s t hr hs (by omega), bE_some, up_or hu' (by omega) z, w32_id (x := 1024 * ((s : Int) + 1) + (up u t : Int)) (by omega) (by omega), if_pos (by omega), tk_96 _ _ _ _ (by decide), b.1, ej, if_pos (fzB_t.mpr z)]
        exact j2
      · obtain ⟨m', j0, j1, j1', j2⟩ := ih k' (t + 1) x mm (by omega) (by omega) x0 x1 hr hv
        refine ⟨m', j0, j1, j1', ?_⟩
        rw [bitO hu' (by omega) z, if_pos (by decide), if_neg (fun y => z (fzB_t.mp y))]
        exact j2
theorem shlN {k : Nat} (h : k ≤ 10) : bShl 1 (k : Int) = ((2 ^ k : Nat) : Int) := by
  rw [bShl1 (by omega) (by omega)]; congr 1
theorem m_rb163 {m1 : Mem} {tr W : Int} {n many s : Nat} {g : Nat → Nat → Int} (ho : Of m1 tr n many W g) (hm : many ≤ 10) (hn8 : n ≤ 8) (hs : s < n) (hg : ∀ s t, s < n → t < many → 0 ≤ g s t ∧ g s t ≤ 20000) {v3 : Int} {v : Nat → Int} (hvb : ∀ u, 0 ≤ v u ∧ v u ≤ 1000000) {M : Nat} (eM : M = 2 ^ many) {K : Int → Mem → Option (Int × Mem)} : ∀ (f k u : Nat) (mm : Mem), u + k = M → k < f → Rb m1 mm → (∀ w, In2 w many → mm 96 (1024 * ((s : Int) + 1) + (w : Int)) = v w) → ∃ m', Rb m1 m' ∧ m' 97 = mm 97 ∧ Mo_ribs_L163 tr (many : Int) v3 K f (s : Int) (u : Int) mm = K ((s : Int) + -1) m' ∧ (∀ w, u ≤ w → In2 w many → m' 96 (1024 * (s : Int) + (w : Int)) = mnS w (fun t => g s t + v (up w t)) many 0 1000000) ∧ (∀ i, (i < 1024 * (s : Int) + (u : Int) ∨ 1024 * (s : Int) + 1024 ≤ i) → m' 96 i = mm 96 i) := by
  have hM : M ≤ 1024 := by
    have : 2 ^ many ≤ 2 ^ 10 := Nat.pow_le_pow_right (by decide) hm
    have e : 2 ^ 10 = 1024 := by decide
    omega
  have inM : ∀ w, In2 w many ↔ w < M := fun w => by unfold In2; rw [eM]
  have eSh : bShl 1 (many : Int) = (M : Int) := by rw [shlN hm, eM]
  clear eM
  intro f
  induction f with
  | zero => intro k u mm _ q; omega
  | succ f ih =>
    intro k u mm hk hf hr hv
    rw [Mo_ribs_L163, eSh, w32_id (x := (M : Int)) (by omega) (by omega), w32_id (x := (u : Int)) (by omega) (by omega)]
    by_cases q : M ≤ u
    · refine ⟨mm, hr, rfl, by rw [if_pos (by omega)], fun w w1 w2 => ?_, fun _ _ => rfl⟩
      have := (inM w).mp w2
      omega
    · have hu : In2 u many := (inM u).mpr (by omega)
      obtain ⟨ma, a0, a1, a1', a2⟩ := m_rb179 (m1 := m1) (tr := tr) (W := W) (n := n) (many := many) (s := s) (u := u) (g := g) ho hm hn8 hs hu hg (v3 := v3) (v := fun t => v (up u t)) (K := Mo_ribs_L163 tr (many : Int) v3 K f) FU many 0 1000000 mm (by omega) (by rw [FU_eq]; omega) (by omega) (by omega) hr (fun t t1 t2 => ⟨hv _ (up_in hm hu t1 t2), hvb _⟩)
      have hu' := in2_1024 hm hu
      obtain ⟨m', j0, j0', j1, j2, j3⟩ := ih (k - 1) (u + 1) (st ma 96 (1024 * (s : Int) + (u : Int)) (mnS u (fun t => g s t + v (up u t)) many 0 1000000)) (by omega) (by omega) (a0.s96 _ _) (fun w hw => by
        rw [st_eq, if_neg (by omega), a1]; exact hv w hw)
      refine ⟨m', j0, by rw [j0', st_ne _ _ _ (by decide), a1'], ?_, fun w w1 w2 => ?_, fun i hi => ?_⟩
      · rw [if_neg (by omega)]
        rw [show (u : Int) + 1 = ((u + 1 : Nat) : Int) by omega] at a2
        exact a2.trans j1
      · by_cases z : w = u
        · subst z
          rw [j3 _ (by omega), st_eq, if_pos rfl]
        · exact j2 w (by omega) w2
      · rw [j3 i (by omega), st_eq, if_neg (by omega), a1]
theorem m_rb155 {m1 : Mem} {tr W : Int} {n many : Nat} {g : Nat → Nat → Int} (ho : Of m1 tr n many W g) (hm : many ≤ 10) (hn8 : n ≤ 8) (hg0 : ∀ s t, 0 ≤ g s t) (hg : ∀ s t, s < n → t < many → 0 ≤ g s t ∧ g s t ≤ 20000) {v3 : Int} {K : Mem → Option (Int × Mem)} : ∀ (f s : Nat) (mm : Mem), s ≤ n → s < f → Rb m1 mm → (∀ r w, s ≤ r → r ≤ n → In2 w many → mm 96 (1024 * (r : Int) + (w : Int)) = rcS 1000000 g many (n - r) r w) → ∃ m', Rb m1 m' ∧ m' 97 = mm 97 ∧ Mo_ribs_L155 tr (many : Int) v3 K f ((s : Int) - 1) mm = K m' ∧ (∀ r w, r ≤ n → In2 w many → m' 96 (1024 * (r : Int) + (w : Int)) = rcS 1000000 g many (n - r) r w) := by
  intro f
  induction f with
  | zero => intro s mm _ q; omega
  | succ f ih =>
    intro s mm hs hf hr hv
    cases s with
    | zero =>
      refine ⟨mm, hr, rfl, ?_, fun r w r1 w1 => hv r w (by omega) r1 w1⟩
      rw [Mo_ribs_L155, w32_id (by omega) (by omega), if_pos (by omega)]
    | succ s =>
      obtain ⟨ma, a0, a0', a1, a2, a3⟩ := m_rb163 (m1 := m1) (tr := tr) (W := W) (n := n) (many := many) (s := s) (g := g) ho hm hn8 (by omega) hg (v3 := v3) (v := fun w => rcS 1000000 g many (n - (s + 1)) (s + 1) w) (fun u => rcS_b hg0 (by omega) _ _ _) (M := 2 ^ many) rfl (K := Mo_ribs_L155 tr (many : Int) v3 K f) FU (2 ^ many) 0 mm (by omega) (by
        have : 2 ^ many ≤ 2 ^ 10 := Nat.pow_le_pow_right (by decide) hm
        have e : 2 ^ 10 = 1024 := by decide
        rw [FU_eq]; omega) hr (fun w hw => by rw [show (s : Int) + 1 = ((s + 1 : Nat) : Int) by omega]; exact hv (s + 1) w (by omega) (by omega) hw)
      obtain ⟨m', j0, j0', j1, j2⟩ := ih s ma (by omega) (by omega) a0 (fun r w r1 r2 hw => by
        have hw' := in2_1024 hm hw
        by_cases z : r = s
        · subst z
          rw [a2 w (by omega) hw, show n - r = (n - (r + 1)) + 1 by omega, rcS_s]
        · rw [a3 _ (by omega)]; exact hv r w (by omega) r2 hw)
      refine ⟨m', j0, by rw [j0', a0'], ?_, j2⟩
      rw [Mo_ribs_L155, show ((s + 1 : Nat) : Int) - 1 = (s : Int) by omega, w32_id (by omega) (by omega), if_neg (by omega)]
      rw [show (s : Int) + -1 = (s : Int) - 1 by omega] at a1
      exact a1.trans j1
theorem m_rb122 {m1 : Mem} {n many : Nat} (hm : many ≤ 10) (hn8 : n ≤ 8) {tr : Int} {M : Nat} (eM : M = 2 ^ many) {K : Mem → Option (Int × Mem)} : ∀ (f k u : Nat) (mm : Mem), u + k = M → k < f → Rb m1 mm → (∀ w, w < u → mm 96 (1024 * (n : Int) + (w : Int)) = 0) → ∃ m', Rb m1 m' ∧ m' 97 = mm 97 ∧ Mo_ribs_L122 tr (many : Int) (n : Int) K f (u : Int) mm = K m' ∧ (∀ w, In2 w many → m' 96 (1024 * (n : Int) + (w : Int)) = 0) := by
  have hM : M ≤ 1024 := by
    have : 2 ^ many ≤ 2 ^ 10 := Nat.pow_le_pow_right (by decide) hm
    have e : 2 ^ 10 = 1024 := by decide
    omega
  have inM : ∀ w, In2 w many ↔ w < M := fun w => by unfold In2; rw [eM]
  have eSh : bShl 1 (many : Int) = (M : Int) := by rw [shlN hm, eM]
  clear eM
  intro f
  induction f with
  | zero => intro k u mm _ q; omega
  | succ f ih =>
    intro k u mm hk hf hr hv
    rw [Mo_ribs_L122, eSh, w32_id (x := (M : Int)) (by omega) (by omega), w32_id (x := (u : Int)) (by omega) (by omega)]
    by_cases q : M ≤ u
    · refine ⟨mm, hr, rfl, by rw [if_pos (by omega)], fun w w2 => hv w ?_⟩
      have := (inM w).mp w2
      omega
    · obtain ⟨m', j0, j0', j1, j2⟩ := ih (k - 1) (u + 1) (st mm 96 (1024 * (n : Int) + (u : Int)) 0) (by omega) (by omega) (hr.s96 _ _) (fun w hw => by
        rw [st_eq]
        by_cases z : w = u
        · subst z; rw [if_pos rfl]
        · rw [if_neg (by omega)]; exact hv w (by omega))
      refine ⟨m', j0, by rw [j0', st_ne _ _ _ (by decide)], ?_, j2⟩
      rw [if_neg (by omega), w32_id (x := 1024 * (n : Int) + (u : Int)) (by omega) (by omega), if_pos (by omega), show (u : Int) + 1 = ((u + 1 : Nat) : Int) by omega]
      exact j1
theorem m_rb282 {m1 : Mem} {tr W : Int} {n many s u : Nat} {g : Nat → Nat → Int} (ho : Of m1 tr n many W g) (hm : many ≤ 10) (hn8 : n ≤ 8) (hs : s < n) (hu : In2 u many) (hg : ∀ s t, s < n → t < many → 0 ≤ g s t ∧ g s t ≤ 20000) {v3 x : Int} (x0 : 0 ≤ x) (x1 : x ≤ 1000000) {v : Nat → Int} {K : Int → Int → Mem → Option (Int × Mem)} : ∀ (f k t : Nat) (mm : Mem), t + k = many → k < f → Rb m1 mm → (∃ y, t ≤ y ∧ y < t + k ∧ Fz u y ∧ (fun t => g s t + v t) y = x) → mm 96 (1024 * (s : Int) + (u : Int)) = x → (∀ t, t < many → Fz u t → mm 96 (1024 * ((s : Int) + 1) + (up u t : Int)) = v t ∧ 0 ≤ v t ∧ v t ≤ 1000000) → ∃ m', Rb m1 m' ∧ m' 96 = mm 96 ∧ m' 97 = mm 97 ∧ Mo_ribs_L282 tr v3 K f (u : Int) (s : Int) (t : Int) mm = K (up u (fcS u (fun t => g s t + v t) x k t) : Int) ((s : Int) + 1) (st m' 97 (s : Int) (fcS u (fun t => g s t + v t) x k t : Int)) := by
  intro f
  induction f with
  | zero => intro k t mm _ q; omega
  | succ f ih =>
    intro k t mm hk hf hr hy hx hv
    have hu' := in2_1024 hm hu
    cases k with
    | zero => obtain ⟨y, a, b, _⟩ := hy; omega
    | succ k =>
      rw [Mo_ribs_L282, fcS_s]
      by_cases z : Fz u t
      · have b := hv t (by omega) z
        have gg := hg s t hs (by omega)
        have hi := in2_1024 hm (up_in hm hu (show t < many by omega) z)
        rw [bitZ hu' (by omega) z, if_neg (by decide), ho mm s t hr hs (by omega), bE_some, up_or hu' (by omega) z, w32_id (x := 1024 * ((s : Int) + 1) + (up u t : Int)) (by omega) (by omega), if_pos (by omega), w32_id (x := 1024 * (s : Int) + (u : Int)) (by omega) (by omega), if_pos (by omega), tk_96 _ _ _ _ (by decide), b.1, hx, w32_id (x := g s t + v t) (by omega) (by omega), w32_id (x := x) (by omega) (by omega), fzB_t.mpr z]
        by_cases y : g s t + v t = x
        · refine ⟨tk mm (8 * (s : Int)) 1 W, hr.tk _ _ _, tk_96 _ _ _ _ (by decide), tk_96 _ _ _ _ (by decide), ?_⟩
          rw [if_pos y, w32_id (x := (s : Int)) (by omega) (by omega), if_pos (by omega), decide_eq_true y]
          rfl
        · obtain ⟨m', j0, j1, j1', j2⟩ := ih k (t + 1) (tk mm (8 * (s : Int)) 1 W) (by omega) (by omega) (hr.tk _ _ _) (by
            obtain ⟨y', a, b, c, d⟩ := hy
            refine ⟨y', ?_, by omega, c, d⟩
            by_cases e : y' = t
            · subst e; exact absurd d y
            · omega) (by rw [tk_96 _ _ _ _ (by decide)]; exact hx) (by rw [tk_96 _ _ _ _ (by decide)]; exact hv)
          refine ⟨m', j0, by rw [j1, tk_96 _ _ _ _ (by decide)], by rw [j1', tk_96 _ _ _ _ (by decide)], ?_⟩
          rw [if_neg y, decide_eq_false y, show (t : Int) + 1 = ((t + 1 : Nat) : Int) by omega]
          exact j2
      · have z' : fzB u t = false := by
          cases e : fzB u t with
          | true => exact absurd (fzB_t.mp e) z
          | false => rfl
        obtain ⟨m', j0, j1, j1', j2⟩ := ih k (t + 1) mm (by omega) (by omega) hr (by
          obtain ⟨y', a, b, c, d⟩ := hy
          refine ⟨y', ?_, by omega, c, d⟩
          by_cases e : y' = t
          · subst e; exact absurd c z
          · omega) hx hv
        refine ⟨m', j0, j1, j1', ?_⟩
        rw [bitO hu' (by omega) z, if_pos rfl, z', show (t : Int) + 1 = ((t + 1 : Nat) : Int) by omega]
        exact j2
theorem m_rb273 {m1 m2 : Mem} {tr W : Int} {n many : Nat} {g : Nat → Nat → Int} (ho : Of m1 tr n many W g) (hm : many ≤ 10) (hnm : n ≤ many) (hn8 : n ≤ 8) (hg0 : ∀ s t, 0 ≤ g s t) (hg : ∀ s t, s < n → t < many → 0 ≤ g s t ∧ g s t ≤ 20000) (hv : ∀ r w, r ≤ n → In2 w many → m2 96 (1024 * (r : Int) + (w : Int)) = rcS 1000000 g many (n - r) r w) : ∀ (f d s u : Nat) (mm : Mem), s + d = n → pcN 10 u = s → In2 u many → d < f → Rb m1 mm → mm 96 = m2 96 → ∃ m', Rb m1 m' ∧ m' 96 = m2 96 ∧ Mo_ribs_L273 tr (n : Int) f (u : Int) (s : Int) mm = some (m2 96 0, st (st m' 75 56 (n : Int)) 75 1 0) ∧ m' 97 = chS g many d s u (mm 97) := by
  intro f
  induction f with
  | zero => intro d s u mm _ _ _ q; omega
  | succ f ih =>
    intro d s u mm hd hp hu hf hr h96
    have hu' := in2_1024 hm hu
    cases d with
    | zero =>
      refine ⟨mm, hr, h96, ?_, rfl⟩
      rw [Mo_ribs_L273, w32_id (x := (n : Int)) (by omega) (by omega), w32_id (x := (s : Int)) (by omega) (by omega), if_pos (by omega), st_ne _ _ _ (by decide), h96]
      rfl
    | succ d =>
      have re := rcS_e (x0 := 1000000) (x1 := 1073741824) hm hnm hn8 hg (by omega) (by omega)
      have r0 := re (d + 1) s u hd hp hu
      have hval : ∀ t, t < many → Fz u t → mm 96 (1024 * ((s : Int) + 1) + (up u t : Int)) = rcS 1073741824 g many d (s + 1) (up u t) ∧ 0 ≤ rcS 1073741824 g many d (s + 1) (up u t) ∧ rcS 1073741824 g many d (s + 1) (up u t) ≤ 1000000 := fun t t1 t2 => by
        have r := re d (s + 1) (up u t) (by omega) (by rw [up_pc hu' (by omega) t2, hp]) (up_in hm hu t1 t2)
        have e := hv (s + 1) (up u t) (by omega) (up_in hm hu t1 t2)
        rw [show n - (s + 1) = d by omega, r.1] at e
        rw [h96, show (s : Int) + 1 = ((s + 1 : Nat) : Int) by omega, e]
        exact ⟨rfl, by omega, by omega⟩
      have hx : mm 96 (1024 * (s : Int) + (u : Int)) = rcS 1073741824 g many (d + 1) s u := by
        rw [h96, hv s u (by omega) hu, show n - s = d + 1 by omega, r0.1]
      have ex := fc_ok hm hnm hn8 hg hd hp hu
      obtain ⟨ma, a0, a1, a1', a2⟩ := m_rb282 (m1 := m1) (tr := tr) (W := W) (n := n) (many := many) (s := s) (u := u) (g := g) ho hm hn8 (by omega) hu hg (v3 := (n : Int)) (x := rcS 1073741824 g many (d + 1) s u) (by omega) (by omega) (v := fun t => rcS 1073741824 g many d (s + 1) (up u t)) (K := Mo_ribs_L273 tr (n : Int) f) FU many 0 mm (by omega) (by rw [FU_eq]; omega) hr ex hx hval
      obtain ⟨y1, y2, y3, y4⟩ := fcS_is (u := u) (f := fun t => g s t + rcS 1073741824 g many d (s + 1) (up u t)) (x := rcS 1073741824 g many (d + 1) s u) many 0 ex
      obtain ⟨y, ey⟩ : ∃ y, fcS u (fun t => g s t + rcS 1073741824 g many d (s + 1) (up u t)) (rcS 1073741824 g many (d + 1) s u) many 0 = y := ⟨_, rfl⟩
      rw [ey] at y1 y2 y3 y4 a2
      obtain ⟨m', j0, j1, j2, j3⟩ := ih d (s + 1) (up u y) (st ma 97 (s : Int) (y : Int)) (by omega) (by rw [up_pc hu' (by omega) y3, hp]) (up_in hm hu (by omega) y3) (by omega) (a0.s97 _ _) (by rw [st_ne _ _ _ (by decide), a1, h96])
      refine ⟨m', j0, j1, ?_, ?_⟩
      · rw [Mo_ribs_L273, w32_id (x := (n : Int)) (by omega) (by omega), w32_id (x := (s : Int)) (by omega) (by omega), if_neg (by omega)]
        rw [show (s : Int) + 1 = ((s + 1 : Nat) : Int) by omega] at a2
        exact a2.trans j2
      · rw [j3, chS_s, ey, ← a1']
        rfl
theorem m_rb58 {m : Mem} {t : Int} {many : Nat} (t0 : 0 ≤ t) (t1 : t < 4) (hm : many ≤ 10) (hc : ∀ p : Int, 0 ≤ p → p < many → w64 (m 79 (60 * t + p)) = m 79 (60 * t + p)) {K : Mem → Option (Int × Mem)} : ∀ (f k v : Nat), v + k = many → k < f → ((∀ w : Nat, v ≤ w → w < many → 0 ≤ m 79 (60 * t + w) ∧ m 79 (60 * t + w) ≤ 9999) → Mo_ribs_L58 t (many : Int) K f (v : Int) m = K m) ∧ (¬ (∀ w : Nat, v ≤ w → w < many → 0 ≤ m 79 (60 * t + w) ∧ m 79 (60 * t + w) ≤ 9999) → Mo_ribs_L58 t (many : Int) K f (v : Int) m = some (-1, st m 75 1 5)) := by
  intro f
  induction f with
  | zero => intro k v _ q; omega
  | succ f ih =>
    intro k v hk hf
    rw [Mo_ribs_L58, w32_id (x := (many : Int)) (by omega) (by omega), w32_id (x := (v : Int)) (by omega) (by omega)]
    by_cases q : many ≤ v
    · exact ⟨fun _ => by rw [if_pos (by omega)], fun z => absurd (fun w w1 w2 => by omega) z⟩
    · have j := ih (k - 1) (v + 1) (by omega) (by omega)
      rw [if_neg (by omega), w32_id (x := 60 * t + (v : Int)) (by omega) (by omega), if_pos (by omega), iwM, iw (hc v (by omega) (by omega)) (by omega) (by omega) (by omega) (by omega)]
      by_cases g : 0 ≤ m 79 (60 * t + (v : Int)) ∧ m 79 (60 * t + (v : Int)) ≤ 9999
      · rw [if_pos g, if_pos (by decide), show (v : Int) + 1 = ((v + 1 : Nat) : Int) by omega]
        refine ⟨fun z => j.1 (fun w w1 w2 => z w (by omega) w2), fun z => j.2 (fun y => z (fun w w1 w2 => ?_))⟩
        by_cases x : w = v
        · subst x; exact g
        · exact y w (by omega) w2
      · rw [if_neg g, if_neg (by decide)]
        exact ⟨fun z => absurd (z v (by omega) (by omega)) g, fun _ => rfl⟩
