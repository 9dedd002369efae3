/-! layer 2: slips, point by point -/
noncomputable def cpS (F : Int → Int) (eye S W : Int) (kp : Int → Bool) (pt : Int) : Int := if ptB S W pt && !kp pt then suS (gI F eye S W pt) 1000 0 else 0
theorem cpS_b (F : Int → Int) (eye S W : Int) (kp : Int → Bool) (pt : Int) : 0 ≤ cpS F eye S W kp pt ∧ cpS F eye S W kp pt ≤ 1000 := by
  unfold cpS
  split
  · have := suS_b (g := gI F eye S W pt) (B := 1) 1000 0 (fun x _ _ => gI01 _ _ _ _ _ _)
    omega
  · omega
theorem c_csAt {m mm : Mem} {pt k : Int} (s : gSW (m 7 0) (m 7 1)) (hF : Fb (m 7 0) (m 7 1) (m 10)) (e0 : 0 ≤ m 7 4) (e1 : m 7 4 ≤ 999) (hq : Pt (m 7 0) (m 7 1) pt) (hc : Cs m mm) (h0 : alC (m 10) (m 7 4) (Sheet_bit pt) (m 7 0) (m 7 1) = 0) (k0 : -2147483648 ≤ k) (k1 : k < 2147483648) : ∃ m', Mender_countSlipsAt pt k mm = some (suS (gI (m 10) (m 7 4) (m 7 0) (m 7 1) pt) 1000 0, m') ∧ Cs m m' ∧ (0 ≤ k → k < suS (gI (m 10) (m 7 4) (m 7 0) (m 7 1) pt) 1000 0 → m' 32 9 = pt ∧ m' 32 10 = ktS (gI (m 10) (m 7 4) (m 7 0) (m 7 1) pt) 1000 0 k) := by
  have x0 := hc.2.1 0 (by decide) (by decide)
  have x1 := hc.2.1 1 (by decide) (by decide)
  have x4 := hc.2.1 4 (by decide) (by decide)
  have x10 : mm 10 = m 10 := hc.1 10 (by decide) (by decide)
  have p64 := pt64 s hq
  have f := hF pt hq
  obtain ⟨ma, n1, n2, n3, n4, n5, n6, n7⟩ := c_narrow (m := mm) (pt := pt) (K := 0) (by rw [x0, x1]; exact s) (by rw [x0, x1]; exact hq) (by rw [x0, x1, x10]; exact hF) (by rw [x4]; exact e0) (by rw [x4]; exact e1)
  rw [x10, x4, x0, x1] at n7
  obtain ⟨r1, r2⟩ := sl_rng s hq h0 n7
  have hlh : ma 7 14 ≤ ma 7 15 → 0 ≤ ma 7 14 ∧ ma 7 15 ≤ 999 := fun z => by
    have a := ((n7 (ma 7 14)).mp ⟨Int.le_refl _, z⟩).1
    have b := ((n7 (ma 7 15)).mp ⟨z, Int.le_refl _⟩).1
    omega
  obtain ⟨m', j1, j2, j3, -⟩ := c_cs22 (m := m) (pt := pt) (k := k) (old := m 10 pt) (hi := ma 7 15) f.1 f.2 n6 n5 k0 k1 FU 0 (ma 7 14) ma (hc.nw n2) rfl (by omega) (by omega) n3 (by omega) hlh (by rw [FU_eq]; omega)
  refine ⟨m', ?_, j2, fun y1 y2 => ?_⟩
  · unfold Mender_countSlipsAt
    rw [n1, bV_some, c_at p64.1 p64.2, x10, j1, r1, Int.zero_add]
  · have y3 := y2
    rw [r1] at y2
    have := j3 y1 (by omega)
    rw [Int.sub_zero] at this
    rw [r2 k y1 y3]; exact this
theorem c_cs5 {m : Mem} {kp : Int → Bool} {k : Int} (s : gSW (m 7 0) (m 7 1)) (hF : Fb (m 7 0) (m 7 1) (m 10)) (e0 : 0 ≤ m 7 4) (e1 : m 7 4 ≤ 999) (hk : ∀ q, Pt (m 7 0) (m 7 1) q → Sheet_isKept 7 q m = bI (kp q)) (k0 : -1 ≤ k) (k1 : k < 2147483648) : ∀ (n : Nat) (c p : Int) (mm : Mem), Cs m mm → 0 ≤ c → c ≤ 1000 * p → 0 ≤ p → p ≤ 64 → (k = -1 ∨ c ≤ k) → (64 - p).toNat < n → ∃ m', Cs m m' ∧ (k = -1 → Mender_countSlips_L5 k n c p mm = some (c + suS (cpS (m 10) (m 7 4) (m 7 0) (m 7 1) kp) (64 - p).toNat p, m')) ∧ (k ≠ -1 → ∀ R, fdS (cpS (m 10) (m 7 4) (m 7 0) (m 7 1) kp) k (64 - p).toNat p c = R → (R.1 = -1 → Mender_countSlips_L5 k n c p mm = some (R.2, m')) ∧ (R.1 ≠ -1 → Mender_countSlips_L5 k n c p mm = some (R.2 + cpS (m 10) (m 7 4) (m 7 0) (m 7 1) kp R.1, m') ∧ m' 32 9 = R.1 ∧ m' 32 10 = ktS (gI (m 10) (m 7 4) (m 7 0) (m 7 1) R.1) 1000 0 (k - R.2))) := by
  intro n
  induction n with
  | zero => intro c p mm _ _ _ _ _ _ q; omega
  | succ n ih =>
    intro c p mm hc c0 c1 p0 p1 hck hn
    have x0 := hc.2.1 0 (by decide) (by decide)
    have x1 := hc.2.1 1 (by decide) (by decide)
    have x4 := hc.2.1 4 (by decide) (by decide)
    have x10 : mm 10 = m 10 := hc.1 10 (by decide) (by decide)
    rw [Mender_countSlips_L5, w32_id (x := p) (by omega) (by omega)]
    by_cases q : 64 ≤ p
    · rw [if_pos q, show (64 - p).toNat = 0 by omega]
      refine ⟨mm, hc, fun _ => by simp [suS], fun _ R hR => ?_⟩
      subst hR
      exact ⟨fun _ => rfl, fun z => absurd rfl z⟩
    · rw [if_neg q, show (64 - p).toNat = (64 - (p + 1)).toNat + 1 by omega, suS_succ]
      have cb := cpS_b (m 10) (m 7 4) (m 7 0) (m 7 1) kp p
      -- a point without slips
      have skip : cpS (m 10) (m 7 4) (m 7 0) (m 7 1) kp p = 0 → ∃ m', Cs m m' ∧ (k = -1 → (if (w32 k) = (-1) then (Mender_countSlips_L5 k n c (p + 1) mm) else (if (w32 c) ≤ (w32 k) then (Mender_countSlips_L5 k n c (p + 1) mm) else some (c, mm))) = some (c + (cpS (m 10) (m 7 4) (m 7 0) (m 7 1) kp p + suS (cpS (m 10) (m 7 4) (m 7 0) (m 7 1) kp) (64 - (p + 1)).toNat (p + 1)), m')) ∧ (k ≠ -1 → ∀ R, fdS (cpS (m 10) (m 7 4) (m 7 0) (m 7 1) kp) k ((64 - (p + 1)).toNat + 1) p c = R → (R.1 = -1 → (if (w32 k) = (-1) then (Mender_countSlips_L5 k n c (p + 1) mm) else (if (w32 c) ≤ (w32 k) then (Mender_countSlips_L5 k n c (p + 1) mm) else some (c, mm))) = some (R.2, m')) ∧ (R.1 ≠ -1 → (if (w32 k) = (-1) then (Mender_countSlips_L5 k n c (p + 1) mm) else (if (w32 c) ≤ (w32 k) then (Mender_countSlips_L5 k n c (p + 1) mm) else some (c, mm))) = some (R.2 + cpS (m 10) (m 7 4) (m 7 0) (m 7 1) kp R.1, m') ∧ m' 32 9 = R.1 ∧ m' 32 10 = ktS (gI (m 10) (m 7 4) (m 7 0) (m 7 1) R.1) 1000 0 (k - R.2))) := by
        intro hz
        obtain ⟨m', j1, j2, j3⟩ := ih c (p + 1) mm hc c0 (by omega) (by omega) (by omega) hck (by omega)
        rw [w32_id (x := k) (by omega) (by omega), w32_id (x := c) (by omega) (by omega)]
        refine ⟨m', j1, fun y => ?_, fun y R hR => ?_⟩
        · rw [if_pos y, j2 y, hz, Int.zero_add]
        · have hle : c ≤ k := by omega
          rw [fdS_s, hz, Int.add_zero, if_neg (by omega)] at hR
          rw [if_neg y, if_pos hle]
          exact j3 y R hR
      by_cases g1 : Pt (m 7 0) (m 7 1) p
      · have g1' : Pt (mm 7 0) (mm 7 1) p := by rw [x0, x1]; exact g1
        rw [hpT (m := mm) (by rw [x0, x1]; exact s) g1', if_neg (by decide)]
        have ek : Sheet_isKept 7 p mm = bI (kp p) := by
          have e : Sheet_isKept 7 p mm = Sheet_isKept 7 p m := by unfold Sheet_isKept; rw [hc.2.1 10 (by decide) (by decide)]
          rw [e, hk p g1]
        rw [ek]
        cases hkp : kp p with
        | true =>
          rw [if_pos (show ¬ bI true = 0 by decide)]
          exact skip (by unfold cpS; rw [hkp, Bool.not_true, Bool.and_false]; rfl)
        | false =>
          rw [if_neg (show ¬ ¬ bI false = 0 by decide), c_unfB (m := mm) (Sheet_bit p) (by rw [x0, x1]; exact s) (by rw [x0, x1, x10]; exact hF) (by rw [x4]; exact ⟨e0, e1⟩), bP_some, x10, x4, x0, x1]
          have ab : 0 ≤ alC (m 10) (m 7 4) (Sheet_bit p) (m 7 0) (m 7 1) ∧ alC (m 10) (m 7 4) (Sheet_bit p) (m 7 0) (m 7 1) ≤ 400 := by
            have b0 := vwC_b (m 10) (m 7 4) (Sheet_bit p) s (v := 0) (by omega) (by omega)
            have b1 := vwC_b (m 10) (m 7 4) (Sheet_bit p) s (v := 1) (by omega) (by omega)
            have b2 := vwC_b (m 10) (m 7 4) (Sheet_bit p) s (v := 2) (by omega) (by omega)
            unfold alC; omega
          have ecp : cpS (m 10) (m 7 4) (m 7 0) (m 7 1) kp p = suS (gI (m 10) (m 7 4) (m 7 0) (m 7 1) p) 1000 0 := by
            unfold cpS; rw [hkp, ptB_t.mpr g1]; rfl
          rw [w32_id (x := alC (m 10) (m 7 4) (Sheet_bit p) (m 7 0) (m 7 1)) (by omega) (by omega)]
          by_cases h0 : alC (m 10) (m 7 4) (Sheet_bit p) (m 7 0) (m 7 1) = 0
          · rw [if_neg (not_not_intro h0)]
            obtain ⟨ma, a1, a2, a3⟩ := c_csAt (m := m) (mm := mm) (pt := p) (k := if ¬ (w32 k) = (-1) then (k - c) else (-1)) s hF e0 e1 g1 hc h0 (by split <;> omega) (by split <;> omega)
            rw [← ecp] at a1 a3
            rw [a1, bE_some, w32_id (x := k) (by omega) (by omega), w32_id (x := c + cpS (m 10) (m 7 4) (m 7 0) (m 7 1) kp p) (by omega) (by omega)]
            rw [w32_id (x := k) (by omega) (by omega)] at a3
            by_cases y : k = -1
            · obtain ⟨m', j1, j2, j3⟩ := ih (c + cpS (m 10) (m 7 4) (m 7 0) (m 7 1) kp p) (p + 1) ma a2 (by omega) (by omega) (by omega) (by omega) (Or.inl y) (by omega)
              refine ⟨m', j1, fun _ => ?_, fun w => absurd y w⟩
              rw [if_pos y, j2 y, Int.add_assoc]
            · rw [if_pos y] at a3
              by_cases w : c + cpS (m 10) (m 7 4) (m 7 0) (m 7 1) kp p ≤ k
              · obtain ⟨m', j1, j2, j3⟩ := ih (c + cpS (m 10) (m 7 4) (m 7 0) (m 7 1) kp p) (p + 1) ma a2 (by omega) (by omega) (by omega) (by omega) (Or.inr w) (by omega)
                refine ⟨m', j1, fun z => absurd z y, fun _ R hR => ?_⟩
                rw [fdS_s, if_neg (by omega)] at hR
                rw [if_neg y, if_pos w]
                exact j3 y R hR
              · refine ⟨ma, a2, fun z => absurd z y, fun _ R hR => ?_⟩
                rw [fdS_s, if_pos (by omega)] at hR
                subst hR
                refine ⟨fun z => absurd (show p = -1 from z) (by omega), fun _ => ⟨?_, ?_⟩⟩
                · rw [if_neg y, if_neg w]
                · exact a3 (by omega) (by omega)
          · rw [if_pos h0]
            exact skip (by rw [ecp, sl_non s g1 h0])
      · have e1' : Sheet_hasPoint 7 p mm = 0 := hpF (m := mm) (by rw [x0, x1]; exact s) (w64_id (by omega) (by omega)) (by rw [x0, x1]; exact g1)
        rw [e1', if_pos rfl]
        exact skip (by unfold cpS; rw [ptB_f.mpr g1]; rfl)
def Ms (m mm : Mem) : Prop := (∀ c, c ≠ 75 → mm c = m c) ∧ ∀ i, i < 23 ∨ 28 < i → i ≠ 45 → i ≠ 46 → mm 75 i = m 75 i
theorem m_sl57 {m : Mem} {S W pt k old : Int} (s : gSW S W) (z0 : m 76 0 = S) (z1 : m 76 1 = W) (hF : ∀ q, Pt S W q → 0 ≤ m 76 (80 + q) ∧ m 76 (80 + q) ≤ 999) (he : 0 ≤ m 76 4 ∧ m 76 4 ≤ 999) (hq : Pt S W pt) (eo : m 76 (80 + pt) = old) (k0 : -1 ≤ k) (k1 : k < 2147483648) {K : Int → Int → Mem → Option (Int × Mem)} : ∀ (n : Nat) (c v : Int) (mm : Mem), Ms m mm → 0 ≤ c → c ≤ 100000 + v → 0 ≤ v → v ≤ 1000 → (k = -1 ∨ c ≤ k) → (1000 - v).toNat < n → ∃ m', Ms m m' ∧ ((k = -1 ∨ c + suS (gI (fun q => m 76 (80 + q)) (m 76 4) S W pt) (1000 - v).toNat v ≤ k) → Mo_slipsTo_L57 k old K n c pt v mm = K (c + suS (gI (fun q => m 76 (80 + q)) (m 76 4) S W pt) (1000 - v).toNat v) (pt + 1) m') ∧ (¬ (k = -1 ∨ c + suS (gI (fun q => m 76 (80 + q)) (m 76 4) S W pt) (1000 - v).toNat v ≤ k) → Mo_slipsTo_L57 k old K n c pt v mm = some (k + 1, m') ∧ m' 75 45 = pt ∧ m' 75 46 = ktS (gI (fun q => m 76 (80 + q)) (m 76 4) S W pt) (1000 - v).toNat v (k - c)) := by
  have p64 := pt64 s hq
  have ob : 0 ≤ old ∧ old ≤ 999 := by rw [← eo]; exact hF pt hq
  intro n
  induction n with
  | zero => intro c v mm _ _ _ _ _ _ q; omega
  | succ n ih =>
    intro c v mm hm c0 c1 v0 v1 hck hn
    have x76 : mm 76 = m 76 := hm.1 76 (by decide)
    rw [Mo_slipsTo_L57, w32_id (x := v) (by omega) (by omega)]
    by_cases q : 999 < v
    · rw [if_pos q, show (1000 - v).toNat = 0 by omega]
      refine ⟨mm, hm, fun _ => by simp [suS], fun z => ?_⟩
      simp [suS] at z; omega
    · rw [if_neg q, m_slip ob.1 ob.2 v0 (by omega), bP_some, show (1000 - v).toNat = (1000 - (v + 1)).toNat + 1 by omega, suS_succ, ktS_s]
      have g01 := gI01 (fun q => m 76 (80 + q)) (m 76 4) S W pt v
      have eg : gI (fun q => m 76 (80 + q)) (m 76 4) S W pt v = bI (slB old v && decide (alU (upF (fun q => m 76 (80 + q)) pt v) (m 76 4) S W = 0)) := by
        unfold gI gB; rw [show (fun q => m 76 (80 + q)) pt = old from eo]
      have su01 := suS_b (g := gI (fun q => m 76 (80 + q)) (m 76 4) S W pt) (B := 1) (1000 - (v + 1)).toNat (v + 1) (fun x _ _ => gI01 _ _ _ _ _ _)
      cases hsl : slB old v with
      | false =>
        have e : gI (fun q => m 76 (80 + q)) (m 76 4) S W pt v = 0 := by rw [eg, hsl]; rfl
        obtain ⟨m', j1, j2, j3⟩ := ih c (v + 1) mm hm c0 (by omega) (by omega) (by omega) hck (by omega)
        rw [show w32 (bI false) = 0 from by decide, if_neg (by decide), e, Int.zero_add, if_pos rfl]
        exact ⟨m', j1, j2, j3⟩
      | true =>
        rw [show w32 (bI true) = 1 from by decide, if_pos (by decide), w32_id (x := 80 + pt) (by omega) (by omega), if_pos (by omega)]
        have ef : (fun q => st mm 76 (80 + pt) v 76 (80 + q)) = upF (fun q => m 76 (80 + q)) pt v := by
          funext q
          rw [st_eq, x76]
          unfold upF
          by_cases z : q = pt
          · rw [if_pos (by omega), if_pos z]
          · rw [if_neg (by omega), if_neg z]
        have e4 : st mm 76 (80 + pt) v 76 4 = m 76 4 := by rw [st_eq, if_neg (by omega), x76]
        obtain ⟨mb, x, b1, b2, b3, b4, b5⟩ := m_uf0 (m := st mm 76 (80 + pt) v) (S := S) (W := W) s (by rw [st_eq, if_neg (by omega), x76]; exact z0) (by rw [st_eq, if_neg (by omega), x76]; exact z1) (fun q hq' => by
          have := congrFun ef q
          have h1 : st mm 76 (80 + pt) v 76 (80 + q) = upF (fun q => m 76 (80 + q)) pt v q := this
          rw [h1]; exact (Fb.up hF pt v0 (by omega)) q hq') (by rw [e4]; exact he)
        rw [ef, e4, ← alU_0 _ _ s] at b5
        rw [b2, bE_some, if_pos (by omega), w32_id (x := x) (by omega) (by omega)]
        have hback : ∀ (y1 y2 : Int), Ms m (st (st (st mb 76 (80 + pt) old) 75 45 y1) 75 46 y2) := fun y1 y2 => by
          refine ⟨fun c hc => ?_, fun i hi i1 i2 => ?_⟩
          · rw [st_ne _ _ _ hc, st_ne _ _ _ hc]
            by_cases h76 : c = 76
            · subst h76
              funext i
              rw [st_eq, b1.1 76 (by decide), st_eq, x76]
              by_cases w : i = 80 + pt
              · rw [if_pos w, w, eo]
              · rw [if_neg w, if_neg w]
            · rw [st_ne _ _ _ h76, b1.1 c hc, st_ne _ _ _ h76, hm.1 c hc]
          · rw [st_eq, if_neg i2, st_eq, if_neg i1, st_ne _ _ _ (by decide), b1.2 i hi, st_ne _ _ _ (by decide), hm.2 i hi i1 i2]
        have hback0 : Ms m (st mb 76 (80 + pt) old) := by
          refine ⟨fun c hc => ?_, fun i hi i1 i2 => ?_⟩
          · have := (hback 0 0).1 c hc
            rw [st_ne _ _ _ hc, st_ne _ _ _ hc] at this; exact this
          · rw [st_ne _ _ _ (by decide), b1.2 i hi, st_ne _ _ _ (by decide), hm.2 i hi i1 i2]
        by_cases hx : x = 0
        · have e : gI (fun q => m 76 (80 + q)) (m 76 4) S W pt v = 1 := by rw [eg, hsl, decide_eq_true (b5.mp hx)]; rfl
          rw [if_neg (not_not_intro hx), if_pos (by decide), w32_id (x := k) (by omega) (by omega), w32_id (x := c + 1) (by omega) (by omega), e, if_neg (show ¬ (1 : Int) = 0 by decide)]
          have ea : ∀ y : Int, c + (1 + y) = c + 1 + y := fun y => by omega
          rw [ea]
          by_cases y : k < c + 1
          · rw [if_pos y]
            by_cases w : k < 0
            · obtain ⟨m', j1, j2, j3⟩ := ih (c + 1) (v + 1) _ (hback pt v) (by omega) (by omega) (by omega) (by omega) (Or.inl (by omega)) (by omega)
              rw [if_pos w]
              exact ⟨m', j1, fun _ => j2 (Or.inl (by omega)), fun z => absurd (Or.inl (by omega)) z⟩
            · rw [if_neg w]
              refine ⟨_, hback pt v, fun z => by omega, fun _ => ⟨?_, rfl, ?_⟩⟩
              · rw [show c + 1 = k + 1 by omega]
              · rw [if_pos (by omega)]; rfl
          · obtain ⟨m', j1, j2, j3⟩ := ih (c + 1) (v + 1) _ hback0 (by omega) (by omega) (by omega) (by omega) (Or.inr (by omega)) (by omega)
            rw [if_neg y, if_neg (show ¬ k - c = 0 by omega), show k - c - 1 = k - (c + 1) by omega]
            exact ⟨m', j1, j2, j3⟩
        · have e : gI (fun q => m 76 (80 + q)) (m 76 4) S W pt v = 0 := by rw [eg, hsl, decide_eq_false (fun z => hx (b5.mpr z))]; rfl
          obtain ⟨m', j1, j2, j3⟩ := ih c (v + 1) _ hback0 c0 (by omega) (by omega) (by omega) hck (by omega)
          rw [if_pos hx, if_neg (by decide), e, Int.zero_add, if_pos rfl]
          exact ⟨m', j1, j2, j3⟩
