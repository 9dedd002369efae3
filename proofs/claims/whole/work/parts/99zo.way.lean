/-! layer 2: the way, what both readers have -/
def EnP (t f d : Int) (mR : Mem) (r : Int) : Prop :=
  (0 ≤ t ∧ t ≤ 7 ∧ mR 76 r = (if t = 0 then 10 else t + 2))
  ∧ ((t = 1 ∨ t = 6) → f = mR 76 (r + 1) ∧ 1 ≤ f ∧ f ≤ 60 ∧ (t = 6 → f ≤ 9))
  ∧ ((t = 2 ∨ t = 3 ∨ t = 4) → f = 8 * mR 76 (r + 1) + mR 76 (r + 2) ∧ 0 ≤ mR 76 (r + 1) ∧ mR 76 (r + 1) ≤ 7 ∧ 0 ≤ mR 76 (r + 2) ∧ mR 76 (r + 2) ≤ 5)
  ∧ (t = 2 → d = mR 76 (r + 3) ∧ 0 ≤ d ∧ d ≤ 999)
  ∧ (t = 5 → f = 16 * mR 76 (r + 1) + mR 76 (r + 2) ∧ 0 ≤ mR 76 (r + 1) ∧ mR 76 (r + 1) ≤ 2 ∧ 0 ≤ mR 76 (r + 2) ∧ mR 76 (r + 2) ≤ 12 ∧ d = mR 76 (r + 4) ∧ 0 ≤ d ∧ d < 256 ∧ 2 ≤ J_bitCount d)
theorem EnP.of {t f d : Int} {mR mR' : Mem} {r : Int} (h : EnP t f d mR r) (e : ∀ i, r ≤ i → i ≤ r + 4 → mR' 76 i = mR 76 i) : EnP t f d mR' r := by
  unfold EnP
  rw [e r (by omega) (by omega), e (r + 1) (by omega) (by omega), e (r + 2) (by omega) (by omega), e (r + 3) (by omega) (by omega), e (r + 4) (by omega) (by omega)]
  exact h
def EnE (mC mR : Mem) (k : Int) : Prop := mC 23 k = 0 → mC 26 k = mR 76 (2528 + 6 * k + 5) ∧ 0 ≤ mC 26 k ∧ mC 26 k < k ∧ (mC 23 (mC 26 k) = 6 ∨ mC 23 (mC 26 k) = 7) ∧ mC 26 (mC 26 k) = k ∧ ∀ j, 0 ≤ j → j < mC 21 3 → mC 27 j ≠ mC 26 k
def EnO (mC mR : Mem) (k : Int) : Prop := (mC 23 k = 6 ∨ mC 23 k = 7) → (∃ j, 0 ≤ j ∧ j < mC 21 3 ∧ mC 27 j = k) ∨ (mC 26 k = mR 76 (2528 + 6 * k + 5) ∧ k < mC 26 k ∧ mC 26 k < mC 22 0 ∧ mC 23 (mC 26 k) = 0 ∧ mC 26 (mC 26 k) = k ∧ (∀ j, k < j → j < mC 26 k → (mC 23 j = 6 ∨ mC 23 j = 7) → mC 26 j < mC 26 k) ∧ ∀ j, 0 ≤ j → j < mC 21 3 → ¬ (k < mC 27 j ∧ mC 27 j < mC 26 k))
def WyB (mC mR : Mem) : Prop :=
  (mR 76 2334 = mC 22 0 ∧ mR 75 22 = mC 22 1 ∧ mR 75 21 = mC 21 3)
  ∧ (0 ≤ mC 22 0 ∧ 0 ≤ mC 22 1 ∧ mC 22 1 ≤ 30 ∧ 0 ≤ mC 21 3 ∧ mC 21 3 ≤ 3 ∧ mC 22 0 + mC 21 3 ≤ 2 * mC 22 1)
  ∧ (∀ j, 0 ≤ j → j < mC 21 3 → mR 82 j = mC 27 j ∧ 0 ≤ mC 27 j ∧ mC 27 j < mC 22 0 ∧ (mC 23 (mC 27 j) = 6 ∨ mC 23 (mC 27 j) = 7))
  ∧ (∀ i j, 0 ≤ i → i < j → j < mC 21 3 → mC 27 i < mC 27 j)
  ∧ (∀ k, 0 ≤ k → k < mC 22 0 → EnP (mC 23 k) (mC 24 k) (mC 25 k) mR (2528 + 6 * k) ∧ EnE mC mR k ∧ EnO mC mR k)
theorem WyB.of {mC mR mC' mR' : Mem} (h : WyB mC mR) (e21 : mC' 21 3 = mC 21 3) (e22 : ∀ i, i = 0 ∨ i = 1 → mC' 22 i = mC 22 i) (e23 : mC' 23 = mC 23) (e24 : mC' 24 = mC 24) (e25 : mC' 25 = mC 25) (e26 : mC' 26 = mC 26) (e27 : mC' 27 = mC 27) (e76 : ∀ i, 2334 ≤ i → mR' 76 i = mR 76 i) (e82 : mR' 82 = mR 82) (e75 : ∀ i, i = 21 ∨ i = 22 → mR' 75 i = mR 75 i) : WyB mC' mR' := by
  obtain ⟨⟨a1, a2, a3⟩, b, c, d, e⟩ := h
  unfold WyB EnE EnO
  rw [e21, e22 0 (by omega), e22 1 (by omega), e23, e24, e25, e26, e27, e82, e75 21 (by omega), e75 22 (by omega), e76 2334 (by omega)]
  refine ⟨⟨a1, a2, a3⟩, b, c, d, fun k k0 k1 => ?_⟩
  obtain ⟨f1, f2, f3⟩ := e k k0 k1
  rw [e76 (2528 + 6 * k + 5) (by omega)]
  exact ⟨f1.of (fun i i0 i1 => e76 i (by omega)), f2, f3⟩
/-- a step that is no until, when, end -/
theorem WyB.add {mC mR mC' mR' : Mem} {t f g z : Int} (h : WyB mC mR) (ez : mC 22 0 = z) (ht : 1 ≤ t ∧ t ≤ 5) (hs : mC 22 1 < 30) (e21 : mC' 21 3 = mC 21 3) (e220 : mC' 22 0 = z + 1) (e221 : mC' 22 1 = mC 22 1 + 1) (e23 : ∀ i, mC' 23 i = if i = z then t else mC 23 i) (e24 : ∀ i, mC' 24 i = if i = z then f else mC 24 i) (e25 : ∀ i, mC' 25 i = if i = z then g else mC 25 i) (e26 : mC' 26 = mC 26) (e27 : mC' 27 = mC 27) (r0 : mR' 76 2334 = z + 1) (r76 : ∀ i, 2528 ≤ i → i < 2528 + 6 * z → mR' 76 i = mR 76 i) (r82 : mR' 82 = mR 82) (r21 : mR' 75 21 = mR 75 21) (r22 : mR' 75 22 = mR 75 22 + 1) (hn : EnP t f g mR' (2528 + 6 * z)) : WyB mC' mR' := by
  obtain ⟨⟨a1, a2, a3⟩, b, c, d, e⟩ := h
  rw [ez] at b c e
  have hk : ∀ i, i < z → mC' 23 i = mC 23 i := fun i hi => by rw [e23, if_neg (by omega)]
  refine ⟨⟨by rw [r0, e220], by rw [r22, e221, a2], by rw [r21, e21, a3]⟩, by rw [e220, e221, e21]; omega, fun j j0 j1 => ?_, fun i j i0 i1 j1 => ?_, fun k k0 k1 => ?_⟩
  · rw [e21] at j1
    have := c j j0 j1
    rw [r82, e27, e220, hk _ this.2.2.1]
    exact ⟨this.1, this.2.1, by omega, this.2.2.2⟩
  · rw [e21] at j1
    rw [e27]; exact d i j i0 i1 j1
  · rw [e220] at k1
    by_cases q : k = z
    · subst q
      refine ⟨?_, fun x => ?_, fun x => ?_⟩
      · rw [e23, if_pos rfl, e24, if_pos rfl, e25, if_pos rfl]; exact hn
      · rw [e23, if_pos rfl] at x; omega
      · rw [e23, if_pos rfl] at x; omega
    · have hkz : k < z := by omega
      obtain ⟨f1, f2, f3⟩ := e k k0 hkz
      refine ⟨?_, fun x => ?_, fun x => ?_⟩
      · rw [hk k hkz, e24, if_neg q, e25, if_neg q]; exact f1.of (fun i i0 i1 => r76 i (by omega) (by omega))
      · rw [hk k hkz] at x
        have y := f2 x
        rw [e26, r76 _ (by omega) (by omega), e21, e27, hk _ (by omega)]
        exact y
      · rw [hk k hkz] at x
        rcases f3 x with y | y
        · left; rw [e21, e27]; exact y
        · right
          rw [ez] at y
          rw [e26, r76 _ (by omega) (by omega), e220, hk _ y.2.2.1, e21, e27]
          refine ⟨y.1, y.2.1, by omega, y.2.2.2.1, y.2.2.2.2.1, fun j j1 j2 j3 => ?_, y.2.2.2.2.2.2⟩
          rw [hk j (by omega)] at j3
          exact y.2.2.2.2.2.1 j j1 j2 j3
/-- an until, a when -/
theorem WyB.opn {mC mR mC' mR' : Mem} {t f g z d0 : Int} (h : WyB mC mR) (ez : mC 22 0 = z) (ed : mC 21 3 = d0) (hd : d0 < 3) (ht : t = 6 ∨ t = 7) (hs : mC 22 1 < 30) (e21 : mC' 21 3 = d0 + 1) (e220 : mC' 22 0 = z + 1) (e221 : mC' 22 1 = mC 22 1 + 1) (e23 : ∀ i, mC' 23 i = if i = z then t else mC 23 i) (e24 : ∀ i, mC' 24 i = if i = z then f else mC 24 i) (e25 : ∀ i, mC' 25 i = if i = z then g else mC 25 i) (e26 : mC' 26 = mC 26) (e27 : ∀ i, mC' 27 i = if i = d0 then z else mC 27 i) (r0 : mR' 76 2334 = z + 1) (r76 : ∀ i, 2528 ≤ i → i < 2528 + 6 * z → mR' 76 i = mR 76 i) (r82 : ∀ i, mR' 82 i = if i = d0 then z else mR 82 i) (r21 : mR' 75 21 = d0 + 1) (r22 : mR' 75 22 = mR 75 22 + 1) (hn : EnP t f g mR' (2528 + 6 * z)) : WyB mC' mR' := by
  obtain ⟨⟨a1, a2, a3⟩, b, c, d, e⟩ := h
  rw [ez, ed] at b
  rw [ez, ed] at c
  rw [ed] at d
  rw [ez] at e
  have hk : ∀ i, i < z → mC' 23 i = mC 23 i := fun i hi => by rw [e23, if_neg (by omega)]
  refine ⟨⟨by rw [r0, e220], by rw [r22, e221, a2], by rw [r21, e21]⟩, by rw [e220, e221, e21]; omega, fun j j0 j1 => ?_, fun i j i0 i1 j1 => ?_, fun k k0 k1 => ?_⟩
  · rw [e21] at j1
    by_cases q : j = d0
    · rw [r82, e27, if_pos q, e220, e23, if_pos q, if_pos rfl]
      exact ⟨rfl, by omega, by omega, ht⟩
    · have := c j j0 (by omega)
      rw [r82, e27, if_neg q, if_neg q, e220, hk _ this.2.2.1]
      exact ⟨this.1, this.2.1, by omega, this.2.2.2⟩
  · rw [e21] at j1
    rw [e27, e27, if_neg (by omega)]
    by_cases q : j = d0
    · rw [if_pos q]; exact (c i i0 (by omega)).2.2.1
    · rw [if_neg q]; exact d i j i0 i1 (by omega)
  · rw [e220] at k1
    by_cases q : k = z
    · subst q
      refine ⟨?_, fun x => ?_, fun x => ?_⟩
      · rw [e23, if_pos rfl, e24, if_pos rfl, e25, if_pos rfl]; exact hn
      · rw [e23, if_pos rfl] at x; omega
      · left
        exact ⟨d0, by omega, by rw [e21]; omega, by rw [e27, if_pos rfl]⟩
    · have hkz : k < z := by omega
      obtain ⟨f1, f2, f3⟩ := e k k0 hkz
      refine ⟨?_, fun x => ?_, fun x => ?_⟩
      · rw [hk k hkz, e24, if_neg q, e25, if_neg q]; exact f1.of (fun i i0 i1 => r76 i (by omega) (by omega))
      · rw [hk k hkz] at x
        have y := f2 x
        rw [e26, r76 _ (by omega) (by omega), hk _ (by omega)]
        refine ⟨y.1, y.2.1, y.2.2.1, y.2.2.2.1, y.2.2.2.2.1, fun j j0 j1 => ?_⟩
        rw [e21] at j1
        rw [e27]
        by_cases w : j = d0
        · rw [if_pos w]; omega
        · rw [if_neg w]; exact y.2.2.2.2.2 j j0 (by rw [ed]; omega)
      · rw [hk k hkz] at x
        rcases f3 x with ⟨j, y1, y2, y3⟩ | y
        · left; rw [ed] at y2; exact ⟨j, y1, by rw [e21]; omega, by rw [e27, if_neg (by omega)]; exact y3⟩
        · right
          rw [ez] at y
          rw [e26, r76 _ (by omega) (by omega), e220, hk _ y.2.2.1]
          refine ⟨y.1, y.2.1, by omega, y.2.2.2.1, y.2.2.2.2.1, fun j j1 j2 j3 => ?_, fun j j0 j1 => ?_⟩
          · rw [hk j (by omega)] at j3
            exact y.2.2.2.2.2.1 j j1 j2 j3
          · rw [e21] at j1
            rw [e27]
            by_cases w : j = d0
            · rw [if_pos w]; omega
            · rw [if_neg w]; exact y.2.2.2.2.2.2 j j0 (by rw [ed]; omega)
/-- an end -/
theorem WyB.cls {mC mR mC' mR' : Mem} {z d0 b0 : Int} (h : WyB mC mR) (ez : mC 22 0 = z) (ed : mC 21 3 = d0) (hd : 0 < d0) (eb : mC 27 (d0 - 1) = b0) (e21 : mC' 21 3 = d0 - 1) (e220 : mC' 22 0 = z + 1) (e221 : mC' 22 1 = mC 22 1) (e23 : ∀ i, mC' 23 i = if i = z then 0 else mC 23 i) (e24 : ∀ i, i ≠ z → mC' 24 i = mC 24 i) (e25 : ∀ i, i ≠ z → mC' 25 i = mC 25 i) (e26 : ∀ i, mC' 26 i = if i = z then b0 else if i = b0 then z else mC 26 i) (e27 : mC' 27 = mC 27) (r0 : mR' 76 2334 = z + 1) (rz : mR' 76 (2528 + 6 * z) = 10) (rz5 : mR' 76 (2528 + 6 * z + 5) = b0) (rb5 : mR' 76 (2528 + 6 * b0 + 5) = z) (r76 : ∀ i, 2528 ≤ i → i < 2528 + 6 * z → i ≠ 2528 + 6 * b0 + 5 → mR' 76 i = mR 76 i) (r82 : mR' 82 = mR 82) (r21 : mR' 75 21 = d0 - 1) (r22 : mR' 75 22 = mR 75 22) : WyB mC' mR' := by
  obtain ⟨⟨a1, a2, a3⟩, b, c, d, e⟩ := h
  rw [ez, ed] at b
  rw [ez, ed] at c
  rw [ed] at d
  rw [ez] at e
  have cb := c (d0 - 1) (by omega) (by omega)
  rw [eb] at cb
  have hk : ∀ i, i < z → mC' 23 i = mC 23 i := fun i hi => by rw [e23, if_neg (by omega)]
  refine ⟨⟨by rw [r0, e220], by rw [r22, e221, a2], by rw [r21, e21]⟩, by rw [e220, e221, e21]; omega, fun j j0 j1 => ?_, fun i j i0 i1 j1 => ?_, fun k k0 k1 => ?_⟩
  · rw [e21] at j1
    have := c j j0 (by omega)
    rw [r82, e27, e220, hk _ this.2.2.1]
    exact ⟨this.1, this.2.1, by omega, this.2.2.2⟩
  · rw [e21] at j1
    rw [e27]; exact d i j i0 i1 (by omega)
  · rw [e220] at k1
    by_cases q : k = z
    · subst q
      have ez0 : mC' 23 k = 0 := by rw [e23, if_pos rfl]
      refine ⟨?_, fun x => ?_, fun x => ?_⟩
      · unfold EnP
        rw [ez0, rz]
        refine ⟨⟨by omega, by omega, by rw [if_pos rfl]⟩, fun w => by omega, fun w => by omega, fun w => by omega, fun w => by omega⟩
      · have e1 : mC' 26 k = b0 := by rw [e26, if_pos rfl]
        rw [e1, rz5]
        refine ⟨rfl, cb.2.1, cb.2.2.1, ?_, ?_, fun j j0 j1 => ?_⟩
        · rw [hk _ cb.2.2.1]; exact cb.2.2.2
        · rw [e26, if_neg (by omega), if_pos rfl]
        · rw [e21] at j1
          rw [e27]
          have := d j (d0 - 1) j0 j1 (by omega)
          rw [eb] at this
          omega
      · rw [ez0] at x; omega
    · have hkz : k < z := by omega
      obtain ⟨f1, f2, f3⟩ := e k k0 hkz
      refine ⟨?_, fun x => ?_, fun x => ?_⟩
      · rw [hk k hkz, e24 k q, e25 k q]; exact f1.of (fun i i0 i1 => r76 i (by omega) (by omega) (by omega))
      · rw [hk k hkz] at x
        have y := f2 x
        have kb : k ≠ b0 := fun w => by rw [w] at x; omega
        have pb : mC 26 k ≠ b0 := by
          have := y.2.2.2.2.2 (d0 - 1) (by omega) (by rw [ed]; omega)
          rw [eb] at this
          exact fun w => this w.symm
        have e1 : mC' 26 k = mC 26 k := by rw [e26, if_neg q, if_neg kb]
        rw [e1, r76 _ (by omega) (by omega) (by omega), hk _ (by omega), e26 (mC 26 k), if_neg (by omega), if_neg pb]
        refine ⟨y.1, y.2.1, y.2.2.1, y.2.2.2.1, y.2.2.2.2.1, fun j j0 j1 => ?_⟩
        rw [e21] at j1
        rw [e27]; exact y.2.2.2.2.2 j j0 (by rw [ed]; omega)
      · rw [hk k hkz] at x
        by_cases kb : k = b0
        · right
          subst kb
          have e1 : mC' 26 k = z := by rw [e26, if_neg q, if_pos rfl]
          rw [e1, rb5, e220]
          refine ⟨rfl, hkz, by omega, ?_, ?_, fun j j1 j2 j3 => ?_, fun j j0 j1 => ?_⟩
          · rw [e23, if_pos rfl]
          · rw [e26, if_pos rfl]
          · rw [hk j j2] at j3
            rw [e26, if_neg (by omega), if_neg (by omega)]
            rcases (e j (by omega) j2).2.2 j3 with ⟨i, i0, i1, i2⟩ | w
            · rw [ed] at i1
              exfalso
              by_cases v : i = d0 - 1
              · rw [v, eb] at i2; omega
              · have := d i (d0 - 1) i0 (by omega) (by omega)
                rw [eb] at this
                omega
            · have := w.2.2.1
              rw [ez] at this
              exact this
          · rw [e21] at j1
            rw [e27]
            have := d j (d0 - 1) j0 j1 (by omega)
            rw [eb] at this
            omega
        · rcases f3 x with ⟨j, y1, y2, y3⟩ | y
          · left
            rw [ed] at y2
            have : j ≠ d0 - 1 := fun w => kb (by rw [← y3, w, eb])
            exact ⟨j, y1, by rw [e21]; omega, by rw [e27]; exact y3⟩
          · right
            rw [ez] at y
            have e1 : mC' 26 k = mC 26 k := by rw [e26, if_neg q, if_neg kb]
            have pb : mC 26 k ≠ b0 := fun w => by
              have := y.2.2.2.1
              rw [w] at this
              omega
            have kk := y.2.2.2.2.2.2 (d0 - 1) (by omega) (by rw [ed]; omega)
            rw [eb] at kk
            rw [e1, r76 _ (by omega) (by omega) (by omega), e220, hk _ y.2.2.1, e26 (mC 26 k), if_neg (by omega), if_neg pb]
            refine ⟨y.1, y.2.1, by omega, y.2.2.2.1, y.2.2.2.2.1, fun j j1 j2 j3 => ?_, fun j j0 j1 => ?_⟩
            · rw [hk j (by omega)] at j3
              rw [e26, if_neg (by omega), if_neg (by omega)]
              exact y.2.2.2.2.2.1 j j1 j2 j3
            · rw [e21] at j1
              rw [e27]
              exact y.2.2.2.2.2.2 j j0 (by rw [ed]; omega)
