/-! layer 2: planks, all sets of ends -/
def Pk (m m' : Mem) : Prop := (∀ c, c ≠ 39 → m' c = m c) ∧ ∀ i, i ≠ 7 → i ≠ 8 → m' 39 i = m 39 i
theorem Pk.refl (m : Mem) : Pk m m := ⟨fun _ _ => rfl, fun _ _ _ => rfl⟩
theorem Pk.st7 {m m' : Mem} (h : Pk m m') (v : Int) : Pk m (st m' 39 7 v) := ⟨fun c hc => by rw [st_ne _ _ _ hc]; exact h.1 c hc, fun i h7 h8 => by rw [st_eq, if_neg h7]; exact h.2 i h7 h8⟩
theorem Pk.st8 {m m' : Mem} (h : Pk m m') (v : Int) : Pk m (st m' 39 8 v) := ⟨fun c hc => by rw [st_ne _ _ _ hc]; exact h.1 c hc, fun i h7 h8 => by rw [st_eq, if_neg h8]; exact h.2 i h7 h8⟩
noncomputable def okS (F : Int → Int) (R S tr a b : Int) : Bool := decide (mtS F R S a b ≤ tr)
def enS (t k : Int) : Bool := decide (¬ bAnd (bShr t k) 1 = 0)
theorem c_tps {m : Mem} {tr tops strips : Int} (hs : gSW (m 7 0) (m 7 1)) (hfl : ∀ q, Pt (m 7 0) (m 7 1) q → 0 ≤ m 10 q ∧ m 10 q ≤ 999) (hr : 0 ≤ m 7 3 ∧ m 7 3 ≤ 999) (t0 : 1 ≤ tr) (t1 : tr ≤ 9999) (es : strips = m 7 1 - 1) (h2 : 2 ≤ strips) : ∀ (n : Nat) (a k : Int) (mm : Mem), Pk m mm → 0 ≤ a → a ≤ k → k ≤ strips → (strips - k).toNat < n → ∀ R, tpS (enS tops) (okS (m 10) (m 7 3) (m 7 0) tr) (waS (m 10) (m 7 3) (m 7 0)) (strips - k).toNat a k (mm 39 7) (mm 39 8) = R → ∃ m', Pk m m' ∧ (R = none → Yard_tryPlanks_L16 tr tops strips n a k mm = some (0, m')) ∧ (∀ c x, R = some (c, x) → Yard_tryPlanks_L16 tr tops strips n a k mm = some (1, m') ∧ m' 39 7 = c ∧ m' 39 8 = x) := by
  intro n
  induction n with
  | zero => intro a k mm _ _ _ _ q; omega
  | succ n ih =>
    intro a k mm hp a0 ak k1 hn R hR
    have e7 : mm 7 = m 7 := hp.1 7 (by decide)
    have e10 : mm 10 = m 10 := hp.1 10 (by decide)
    by_cases q : strips ≤ k
    · rw [show (strips - k).toNat = 0 by omega] at hR
      refine ⟨mm, hp, fun z => ?_, fun c x z => ?_⟩
      · subst hR; exact absurd z (by simp [tpS])
      · subst hR
        have z' : some (mm 39 7, mm 39 8) = some (c, x) := z
        injection z' with z'
        injection z' with z1 z2
        refine ⟨?_, z1, z2⟩
        rw [Yard_tryPlanks_L16, w32_id (x := strips) (by omega) (by omega), w32_id (x := k) (by omega) (by omega), if_pos q]
    · rw [show (strips - k).toNat = (strips - (k + 1)).toNat + 1 by omega, tpS_s] at hR
      have e0 : Yard_tryPlanks_L16 tr tops strips (n + 1) a k mm = (if bAnd (bShr tops k) 1 = 0 then Yard_tryPlanks_L16 tr tops strips n a (k + 1) mm else (bE (Yard_tryPlank tr a k mm) fun x3 m5 => (if ¬ (w32 x3) = 0 then (Yard_tryPlanks_L16 tr tops strips n (k + 1) (k + 1) m5) else some (0, m5)))) := by
        rw [Yard_tryPlanks_L16, w32_id (x := strips) (by omega) (by omega), w32_id (x := k) (by omega) (by omega), if_neg q, (bit01 tops k).1]
      rw [e0]
      by_cases z : bAnd (bShr tops k) 1 = 0
      · have d : enS tops k = false := by unfold enS; simp [z]
        rw [d, if_neg (by decide)] at hR
        rw [if_pos z]
        exact ih a (k + 1) mm hp a0 (by omega) (by omega) (by omega) R hR
      · have d : enS tops k = true := by unfold enS; simp [z]
        rw [d, if_pos rfl] at hR
        rw [if_neg z, c_tp (by rw [e7]; exact hs) (by rw [e7, e10]; exact hfl) (by rw [e7]; exact hr) t0 t1 a0 (by omega) (by omega) (by rw [e7]; omega), bE_some, e7, e10]
        have hp' : Pk m (st (st mm 39 7 (mm 39 7 + 1)) 39 8 (mm 39 8 + waS (m 10) (m 7 3) (m 7 0) a k)) := (hp.st7 _).st8 _
        by_cases y : mtS (m 10) (m 7 3) (m 7 0) a k ≤ tr
        · have d2 : okS (m 10) (m 7 3) (m 7 0) tr a k = true := decide_eq_true y
          rw [d2, if_pos rfl] at hR
          rw [if_pos y, if_pos (by decide)]
          exact ih (k + 1) (k + 1) _ hp' (by omega) (by omega) (by omega) (by omega) R hR
        · have d2 : okS (m 10) (m 7 3) (m 7 0) tr a k = false := decide_eq_false y
          rw [d2, if_neg (by decide)] at hR
          rw [if_neg y, if_neg (by decide)]
          exact ⟨_, hp', fun _ => rfl, fun c x z => absurd (hR.trans z) (by simp)⟩
def erS (t strips k : Int) : Bool := decide (k = strips - 1) || decide (bAnd (bShr t k) 1 = 1)
theorem m_tps {m : Mem} {S W tr strips v3 v4 v5 set : Int} (hs : gSW S W) (z0 : m 76 0 = S) (hfl : ∀ q, Pt S W q → 0 ≤ m 76 (80 + q) ∧ m 76 (80 + q) ≤ 999) (hr : 0 ≤ m 76 3 ∧ m 76 3 ≤ 999) (t0 : 1 ≤ tr) (t1 : tr ≤ 9999) (es : strips = W - 1) (h2 : 2 ≤ strips) {K : Int → Int → Int → Option (Int × Mem)} {X : Option (Int × Mem)} (hX : ∀ u v, K u v 0 = X) : ∀ (n : Nat) (a k c x : Int), 0 ≤ a → a ≤ k → k < strips → (strips - k).toNat < n → ∀ R, tpS (erS set strips) (okS (fun q => m 76 (80 + q)) (m 76 3) S tr) (waS (fun q => m 76 (80 + q)) (m 76 3) S) (strips - k).toNat a k c x = R → (R = none → Mo_planks_L75 tr strips v3 v4 v5 set K m n (c + 1) x a 1 k = X) ∧ (∀ c' x', R = some (c', x') → Mo_planks_L75 tr strips v3 v4 v5 set K m n (c + 1) x a 1 k = K c' x' 1) := by
  intro n
  induction n with
  | zero => intro a k c x _ _ _ q; omega
  | succ n ih =>
    intro a k c x a0 ak k1 hn R hR
    rw [show (strips - k).toNat = (strips - (k + 1)).toNat + 1 by omega, tpS_s] at hR
    have ee : (if (w32 k) = (w32 (strips - 1)) then 1 else (if ¬ (w32 (bAnd (bShr set k) 1)) = 1 then 0 else 1 : Int) : Int) = if erS set strips k then 1 else 0 := by
      rw [w32_id (x := k) (by omega) (by omega), w32_id (x := strips - 1) (by omega) (by omega), (bit01 set k).1]
      unfold erS
      by_cases z : k = strips - 1
      · rw [if_pos z, decide_eq_true z]; rfl
      · rw [if_neg z, decide_eq_false z]
        by_cases y : bAnd (bShr set k) 1 = 1
        · rw [if_neg (not_not_intro y), decide_eq_true y]; rfl
        · rw [if_pos y, decide_eq_false y]; rfl
    have e0 : Mo_planks_L75 tr strips v3 v4 v5 set K m (n + 1) (c + 1) x a 1 k = (if ¬ (if erS set strips k then 1 else 0 : Int) = 0 then (bP (Mo_wasteOf a k tr m) fun x21 => (Mo_planks_L75 tr strips v3 v4 v5 set K m n (c + 1 + (if strips - 1 ≤ k then 0 else 1 : Int)) (x + x21) (k + 1) (if (w32 x21) = (-1) then 0 else 1 : Int) (k + 1))) else (Mo_planks_L75 tr strips v3 v4 v5 set K m n (c + 1) x a 1 (k + 1))) := by
      rw [Mo_planks_L75, ee, w32_id (x := strips) (by omega) (by omega), w32_id (x := k) (by omega) (by omega), w32_id (x := strips - 1) (by omega) (by omega), w32_id (x := 1) (by omega) (by omega), if_neg (by omega), if_neg (by decide)]
    have bw := waS_b (F := fun q => m 76 (80 + q)) (R := m 76 3) (a := a) (b := k) hs hfl hr.1 hr.2 a0 (by omega)
    rw [e0]
    by_cases z : erS set strips k = true
    · rw [if_pos z] at hR
      rw [if_pos z, if_pos (by decide), m_ws hs z0 hfl hr t0 t1 a0 (by omega) (by omega) (by omega), bP_some]
      by_cases y : mtS (fun q => m 76 (80 + q)) (m 76 3) S a k ≤ tr
      · have d2 : okS (fun q => m 76 (80 + q)) (m 76 3) S tr a k = true := decide_eq_true y
        rw [d2, if_pos rfl] at hR
        rw [if_pos y, w32_id (x := waS (fun q => m 76 (80 + q)) (m 76 3) S a k) (by omega) (by omega), if_neg (show ¬ waS (fun q => m 76 (80 + q)) (m 76 3) S a k = -1 by omega)]
        by_cases w : strips - 1 ≤ k
        · rw [show (strips - (k + 1)).toNat = 0 by omega] at hR
          have hR' : R = some (c + 1, x + waS (fun q => m 76 (80 + q)) (m 76 3) S a k) := hR.symm
          subst hR'
          refine ⟨fun v => absurd v (by simp), fun c' x' v => ?_⟩
          injection v with v
          injection v with v1 v2
          subst v1 v2
          obtain ⟨n', hn'⟩ : ∃ n', n = n' + 1 := ⟨n - 1, by omega⟩
          subst hn'
          rw [if_pos w, Mo_planks_L75, w32_id (x := strips) (by omega) (by omega), w32_id (x := k + 1) (by omega) (by omega), if_pos (by omega), Int.add_zero]
        · rw [if_neg w]
          exact ih (k + 1) (k + 1) (c + 1) _ (by omega) (by omega) (by omega) (by omega) R hR
      · have d2 : okS (fun q => m 76 (80 + q)) (m 76 3) S tr a k = false := decide_eq_false y
        rw [d2, if_neg (by decide)] at hR
        rw [if_neg y, w32_id (x := -1) (by omega) (by omega), if_pos rfl]
        refine ⟨fun _ => ?_, fun c' x' v => absurd (hR.trans v) (by simp)⟩
        obtain ⟨n', hn'⟩ : ∃ n', n = n' + 1 := ⟨n - 1, by omega⟩
        subst hn'
        rw [Mo_planks_L75, w32_id (x := 0) (by omega) (by omega), if_pos rfl, hX]
        split <;> rfl
    · rw [if_neg z] at hR
      rw [if_neg z, if_neg (by decide)]
      have w : k < strips - 1 := by
        by_cases w : k = strips - 1
        · exact absurd (show erS set strips k = true by unfold erS; rw [decide_eq_true w]; rfl) z
        · omega
      exact ih a (k + 1) c x a0 (by omega) (by omega) (by omega) R hR
/-- the best of all -/
def jpS (tp : Int → Option (Int × Int)) (ah : Int → Int → Bool) : Nat → Int → Int × Int × Int → Int × Int × Int
  | 0, _, b => b
  | n + 1, s, b => jpS tp ah n (s + 1) (match tp s with
    | none => b
    | some r => if b.1 = -1 ∨ r.1 < b.2.1 ∨ (r.1 = b.2.1 ∧ (r.2 < b.2.2 ∨ (r.2 = b.2.2 ∧ ah s b.1 = true))) then (s, r.1, r.2) else b)
theorem jpS_s (tp : Int → Option (Int × Int)) (ah : Int → Int → Bool) (n : Nat) (s : Int) (b : Int × Int × Int) : jpS tp ah (n + 1) s b = jpS tp ah n (s + 1) (match tp s with
    | none => b
    | some r => if b.1 = -1 ∨ r.1 < b.2.1 ∨ (r.1 = b.2.1 ∧ (r.2 < b.2.2 ∨ (r.2 = b.2.2 ∧ ah s b.1 = true))) then (s, r.1, r.2) else b) := rfl
