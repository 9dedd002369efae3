/-! layer 2: rounds, the reference -/
def Dm (m mm : Mem) (F : Int → Int) : Prop := (∀ c, c ≠ 75 → c ≠ 76 → c ≠ 88 → mm c = m c) ∧ (∀ i, i < 23 ∨ 25 < i → i ≠ 35 → i ≠ 36 → i ≠ 37 → mm 75 i = m 75 i) ∧ ∀ i, mm 76 i = F (i - 80)
theorem m_st26 {v1 : Int} {t : Int} (t0 : 0 ≤ t) (t1 : t ≤ 60) {K : Mem → Option (Int × Mem)} : ∀ (n : Nat) (v : Int) (mm : Mem), 0 ≤ v → v ≤ 64 → (64 - v).toNat < n → ∃ m', Mo_doesRounds_L26 v1 t K n v mm = K m' ∧ (∀ c, c ≠ 88 → m' c = mm c) ∧ (∀ k, v ≤ k → k < 64 → m' 88 (64 * t + k) = mm 76 (80 + k)) ∧ (∀ i, i < 64 * t + v → m' 88 i = mm 88 i) := by
  intro n
  induction n with
  | zero => intro v mm _ _ q; omega
  | succ n ih =>
    intro v mm v0 v1 hn
    rw [Mo_doesRounds_L26, w32_id (x := v) (by omega) (by omega), w32_id (x := 80 + v) (by omega) (by omega), w32_id (x := 64 * t + v) (by omega) (by omega)]
    by_cases q : 64 ≤ v
    · rw [if_pos q]
      exact ⟨mm, rfl, fun _ _ => rfl, fun k k0 k1 => by omega, fun _ _ => rfl⟩
    · obtain ⟨m', j1, j2, j3, j4⟩ := ih (v + 1) (st mm 88 (64 * t + v) (mm 76 (80 + v))) (by omega) (by omega) (by omega)
      rw [if_neg q, if_pos (by omega), if_pos (by omega)]
      refine ⟨m', j1, fun c hc => by rw [j2 c hc, st_ne _ _ _ hc], fun k k0 k1 => ?_, fun i hi => by rw [j4 i (by omega), st_eq, if_neg (by omega)]⟩
      by_cases z : k = v
      · subst z; rw [j4 _ (by omega), st_eq, if_pos rfl]
      · rw [j3 k (by omega) k1, st_ne _ _ _ (by decide)]
theorem m_ca12 {m : Mem} {v1 : Int} {r : Int} (r0 : 0 ≤ r) (r1 : r ≤ 60) {K : Int → Option Int} : ∀ (n : Nat) (v : Int) (b : Bool), 0 ≤ v → v ≤ 64 → (64 - v).toNat < n → Mo_cameAt_L12 v1 K m n r (bI b) v = if b && alS (fun k => decide (w32 (m 88 (64 * r + k)) = w32 (m 76 (80 + k)))) (64 - v).toNat v then some r else K (r + 1) := by
  intro n
  induction n with
  | zero => intro v b _ _ q; omega
  | succ n ih =>
    intro v b v0 v1 hn
    rw [Mo_cameAt_L12, w32_id (x := v) (by omega) (by omega), w32_id (x := 80 + v) (by omega) (by omega), w32_id (x := 64 * r + v) (by omega) (by omega)]
    cases b with
    | false =>
      rw [show w32 (bI false) = 0 from by decide, if_pos rfl, if_pos rfl, Bool.false_and, if_neg (show ¬ false = true by decide)]
      split <;> rfl
    | true =>
      rw [show w32 (bI true) = 1 from by decide, Bool.true_and]
      by_cases q : 64 ≤ v
      · rw [if_pos q, if_neg (by decide), show (64 - v).toNat = 0 by omega]; rfl
      · rw [if_neg q, if_neg (by decide), if_pos (by omega), if_pos (by omega), show (64 - v).toNat = (64 - (v + 1)).toNat + 1 by omega, alS_s]
        have e : (if ¬ w32 (m 88 (64 * r + v)) = w32 (m 76 (80 + v)) then 0 else 1 : Int) = bI (decide (w32 (m 88 (64 * r + v)) = w32 (m 76 (80 + v)))) := by
          by_cases z : w32 (m 88 (64 * r + v)) = w32 (m 76 (80 + v))
          · rw [if_neg (not_not_intro z), decide_eq_true z]; rfl
          · rw [if_pos z, decide_eq_false z]; rfl
        rw [e]
        exact ih (v + 1) _ (by omega) (by omega) (by omega)
theorem m_came {m : Mem} {S W : Int} {H : Nat → Int → Int} {G : Int → Int} {d : Nat} (s : gSW S W) (hH : ∀ r, Kp S W (H 0) (H r)) (hG : Kp S W (H 0) G) (d1 : d ≤ 60) (h8 : ∀ r : Nat, r < d → ∀ k, 0 ≤ k → k < 64 → m 88 (64 * (r : Int) + k) = H r k) (h6 : ∀ k, 0 ≤ k → k < 64 → m 76 (80 + k) = G k) : Mo_cameAt (d : Int) m = some (faS (fun r => eqB S W (H r) G) d 0) := by
  have ea : ∀ r : Nat, r < d → alS (fun k => decide (w32 (m 88 (64 * (r : Int) + k)) = w32 (m 76 (80 + k)))) (64 - (0 : Int)).toNat 0 = eqB S W (H r) G := by
    intro r hr
    have e : alS (fun k => decide (w32 (m 88 (64 * (r : Int) + k)) = w32 (m 76 (80 + k)))) (64 - (0 : Int)).toNat 0 = true ↔ eqB S W (H r) G = true := by
      rw [eqB_t s, alS_t]
      constructor
      · intro h q hq
        have p := pt64 s hq
        have a := h q (by omega) (by omega)
        have b1 := (hH r).1 q hq
        have b2 := hG.1 q hq
        rw [decide_eq_true_eq, h8 r hr q (by omega) (by omega), h6 q (by omega) (by omega), w32_id (x := H r q) (by omega) (by omega), w32_id (x := G q) (by omega) (by omega)] at a
        exact a
      · intro h k k0 k1
        show decide _ = true
        rw [decide_eq_true_eq, h8 r hr k k0 (by omega), h6 k k0 (by omega)]
        by_cases z : Pt S W k
        · rw [h k z]
        · rw [(hH r).2 k z, hG.2 k z]
    exact Bool.eq_iff_iff.mpr e
  have key : ∀ (n k r : Nat), r + k = d → k < n → Mo_cameAt_L2 (d : Int) m n (r : Int) = some (faS (fun r => eqB S W (H r) G) k r) := by
    intro n
    induction n with
    | zero => intro k r _ q; omega
    | succ n ih =>
      intro k r hk hn
      rw [Mo_cameAt_L2, w32_id (x := (d : Int)) (by omega) (by omega), w32_id (x := (r : Int)) (by omega) (by omega)]
      cases k with
      | zero => rw [if_pos (by omega)]; rfl
      | succ k =>
        have e := m_ca12 (m := m) (v1 := (d : Int)) (r := (r : Int)) (by omega) (by omega) (K := Mo_cameAt_L2 (d : Int) m n) FU 0 true (by omega) (by omega) (by rw [FU_eq]; omega)
        rw [ea r (by omega), Bool.true_and] at e
        rw [if_neg (by omega), faS_s]
        refine Eq.trans e ?_
        by_cases z : eqB S W (H r) G = true
        · rw [if_pos z, if_pos z]
        · rw [if_neg z, if_neg z, show (r : Int) + 1 = ((r + 1 : Nat) : Int) by omega]
          exact ih k (r + 1) (by omega) (by omega)
  exact key FU d 0 (by omega) (by rw [FU_eq]; omega)
/-- what the reference's sheet must be -/
def Sm (F0 : Int → Int) (S W V stp : Int) (o : Int → Int) (kp : Int → Bool) : Prop := gSW S W ∧ 1 ≤ stp ∧ stp ≤ 99 ∧ F0 (0 - 80) = S ∧ F0 (1 - 80) = W ∧ F0 (5 - 80) = stp ∧ F0 (6 - 80) = V ∧ 1 ≤ V ∧ V ≤ 6 ∧ (∀ k, 0 ≤ k → k < V → F0 (7 + k - 80) = o k ∧ 0 ≤ o k ∧ o k ≤ 2) ∧ (∀ q, Pt S W q → F0 (144 + q - 80) = bI (kp q)) ∧ Fb S W F0
theorem m_go12 {m : Mem} {F0 : Int → Int} {S W V stp : Int} {o : Int → Int} {kp : Int → Bool} {H : Nat → Int → Int} (w : Sm F0 S W V stp o kp) (eH : H = itS (rdX kp stp S W V o) F0) {most : Nat} (hm : most ≤ 60) : ∀ (n k t : Nat) (mm : Mem), t + k = most → k < n → Dm m mm (H t) → mm 75 35 = 0 → mm 75 36 = -1 → (∀ r : Nat, r < t → ∀ k, 0 ≤ k → k < 64 → mm 88 (64 * (r : Int) + k) = H r k) → ∀ R, rdE (fun t => (rdX kp stp S W V o (H t)).2) (fun d => faS (fun r => eqB S W (H r) (H d)) d 0) k t = R → ∃ m', Mo_doesRounds_L12 (most : Int) n (t : Int) mm = some ((R.1 : Int), m') ∧ Dm m m' (H R.1) ∧ m' 75 35 = R.2.1 ∧ m' 75 36 = R.2.2 ∧ (R.2.1 = 2 → m' 75 37 = (R.1 : Int) - R.2.2) := by
  obtain ⟨s, s0, s1, z0, z1, e5, e6, v0, v1, ho, hk, hF⟩ := w
  have hH : ∀ r, Kp S W (H 0) (H r) := fun r => by
    have : H 0 = F0 := by rw [eH]; rfl
    rw [this, eH]; exact itS_kp s (fun k k0 k1 => (ho k k0 k1).2) hF r
  have h0 : H 0 = F0 := by rw [eH]; rfl
  have hHs : ∀ t, H (t + 1) = (rdX kp stp S W V o (H t)).1 := fun t => by rw [eH]; rfl
  intro n
  induction n with
  | zero => intro k t mm _ q; omega
  | succ n ih =>
    intro k t mm hkt hn hg e35 e36 hh R hR
    rw [Mo_doesRounds_L12, w32_id (x := (most : Int)) (by omega) (by omega), w32_id (x := (t : Int)) (by omega) (by omega)]
    cases k with
    | zero =>
      have hR' : R = (t, 0, -1) := hR.symm
      subst hR'
      rw [if_pos (by omega)]
      exact ⟨mm, rfl, hg, e35, e36, fun z => absurd (show (0 : Int) = 2 from z) (by decide)⟩
    | succ k =>
      rw [rdE_s] at hR
      obtain ⟨ma, a1, a2, a3, a4⟩ := m_st26 (v1 := (most : Int)) (t := (t : Int)) (by omega) (by omega) (K := fun m11 => (bE (Mo_round m11) fun x12 m14 => (if ¬ (w32 x12) = 0 then (bP (Mo_cameAt ((t : Int) + 1) m14) fun x16 => (if ¬ (w32 ((st m14 75 36 x16) 75 36)) = (-1) then (Mo_doesRounds_L12 (most : Int) n ((t : Int) + 1) (st (st (st m14 75 36 x16) 75 35 2) 75 37 (((t : Int) + 1) - ((st (st m14 75 36 x16) 75 35 2) 75 36)))) else (Mo_doesRounds_L12 (most : Int) n ((t : Int) + 1) (st m14 75 36 x16)))) else (Mo_doesRounds_L12 (most : Int) n ((t : Int) + 1) (st m14 75 35 1))))) FU 0 mm (by omega) (by omega) (by rw [FU_eq]; omega)
      have x76 : ∀ i, ma 76 i = H t (i - 80) := fun i => by rw [a2 76 (by decide)]; exact hg.2.2 i
      obtain ⟨mb, b1, b2⟩ := m_r4 (m := ma) (S := S) (W := W) (stp := stp) (V := V) (kp := kp) (F0 := F0) (o := o) s s0 s1 z0 z1 e5 e6 v0 v1 ho hk FU 0 false (H t) ma ⟨fun _ _ _ => rfl, fun _ _ => rfl, x76⟩ (by rw [← h0]; exact hH t) (by omega) (by omega) (by rw [FU_eq]; omega)
      have b1' : Fm ma mb (H (t + 1)) := by rw [hHs]; exact b1
      have b2' : Mo_round ma = some (bI (rdX kp stp S W V o (H t)).2, mb) := b2
      have y75 : ∀ i, i < 23 ∨ 25 < i → mb 75 i = mm 75 i := fun i hi => by rw [b1'.2.1 i hi, a2 75 (by decide)]
      have y88 : ∀ r : Nat, r < t + 1 → ∀ k, 0 ≤ k → k < 64 → mb 88 (64 * (r : Int) + k) = H r k := by
        intro r hr k k0 k1
        rw [b1'.1 88 (by decide) (by decide)]
        by_cases z : r = t
        · subst z
          rw [a3 k k0 k1, hg.2.2, show 80 + k - 80 = k by omega]
        · rw [a4 _ (by omega)]; exact hh r (by omega) k k0 k1
      have yg : ∀ c, c ≠ 75 → c ≠ 76 → c ≠ 88 → mb c = m c := fun c c1 c2 c3 => by rw [b1'.1 c c1 c2, a2 c c3, hg.1 c c1 c2 c3]
      have y75' : ∀ i, i < 23 ∨ 25 < i → i ≠ 35 → i ≠ 36 → i ≠ 37 → mb 75 i = m 75 i := fun i hi i1 i2 i3 => by rw [y75 i hi, hg.2.1 i hi i1 i2 i3]
      have cm := m_came (m := mb) (H := H) (G := H (t + 1)) (d := t + 1) s hH (hH (t + 1)) (by omega) y88 (fun k k0 k1 => by rw [b1'.2.2, show 80 + k - 80 = k by omega])
      have dd : ∀ m5 : Mem, (∀ c, c ≠ 75 → m5 c = mb c) → (∀ i, i ≠ 35 → i ≠ 36 → i ≠ 37 → m5 75 i = mb 75 i) → Dm m m5 (H (t + 1)) := fun m5 h1 h2 => ⟨fun c c1 c2 c3 => by rw [h1 c c1, yg c c1 c2 c3], fun i hi i1 i2 i3 => by rw [h2 i i1 i2 i3, y75' i hi i1 i2 i3], fun i => by rw [h1 76 (by decide), b1'.2.2]⟩
      obtain ⟨n', hn'⟩ : ∃ n', n = n' + 1 := ⟨n - 1, by omega⟩
      have stop : ∀ (m5 : Mem), m5 75 35 = 1 ∨ m5 75 35 = 2 → Mo_doesRounds_L12 (most : Int) n ((t : Int) + 1) m5 = some (((t + 1 : Nat) : Int), m5) := by
        intro m5 h1
        rw [hn', Mo_doesRounds_L12, w32_id (x := m5 75 35) (by omega) (by omega), if_pos (show ¬ m5 75 35 = 0 by omega), show (t : Int) + 1 = ((t + 1 : Nat) : Int) by omega]
        split <;> rfl
      rw [if_neg (by omega), e35, if_neg (by decide)]
      have fin : ∀ X, (fun m11 => (bE (Mo_round m11) fun x12 m14 => (if ¬ (w32 x12) = 0 then (bP (Mo_cameAt ((t : Int) + 1) m14) fun x16 => (if ¬ (w32 ((st m14 75 36 x16) 75 36)) = (-1) then (Mo_doesRounds_L12 (most : Int) n ((t : Int) + 1) (st (st (st m14 75 36 x16) 75 35 2) 75 37 (((t : Int) + 1) - ((st (st m14 75 36 x16) 75 35 2) 75 36)))) else (Mo_doesRounds_L12 (most : Int) n ((t : Int) + 1) (st m14 75 36 x16)))) else (Mo_doesRounds_L12 (most : Int) n ((t : Int) + 1) (st m14 75 35 1))))) ma = X → Mo_doesRounds_L26 (most : Int) (t : Int) (fun m11 => (bE (Mo_round m11) fun x12 m14 => (if ¬ (w32 x12) = 0 then (bP (Mo_cameAt ((t : Int) + 1) m14) fun x16 => (if ¬ (w32 ((st m14 75 36 x16) 75 36)) = (-1) then (Mo_doesRounds_L12 (most : Int) n ((t : Int) + 1) (st (st (st m14 75 36 x16) 75 35 2) 75 37 (((t : Int) + 1) - ((st (st m14 75 36 x16) 75 35 2) 75 36)))) else (Mo_doesRounds_L12 (most : Int) n ((t : Int) + 1) (st m14 75 36 x16)))) else (Mo_doesRounds_L12 (most : Int) n ((t : Int) + 1) (st m14 75 35 1))))) FU 0 mm = X := fun X hX => a1.trans hX
      cases hmv : (rdX kp stp S W V o (H t)).2 with
      | false =>
        simp only [hmv] at hR
        rw [if_neg (by decide)] at hR
        subst hR
        refine ⟨st mb 75 35 1, fin _ ?_, dd _ (fun c c1 => st_ne _ _ _ c1) (fun i i1 i2 i3 => by rw [st_eq, if_neg i1]), by rw [st_eq, if_pos rfl], ?_, fun z => absurd (show (1 : Int) = 2 from z) (by decide)⟩
        · show bE (Mo_round ma) _ = _
          rw [b2', hmv, bE_some, show w32 (bI false) = 0 from by decide, if_neg (by decide)]
          exact stop _ (Or.inl (by rw [st_eq, if_pos rfl]))
        · rw [st_eq, if_neg (by decide), y75 36 (by decide), e36]
      | true =>
        simp only [hmv] at hR
        rw [if_pos trivial] at hR
        have fb := faS_b (fun r => eqB S W (H r) (H (t + 1))) (t + 1) 0
        generalize hfa : faS (fun r => eqB S W (H r) (H (t + 1))) (t + 1) 0 = fa at fb hR cm
        have ef : st mb 75 36 fa 75 36 = fa := by rw [st_eq, if_pos rfl]
        by_cases z : fa = -1
        · rw [if_pos z] at hR
          obtain ⟨m', j1, j2⟩ := ih k (t + 1) (st mb 75 36 fa) (by omega) (by omega) (dd _ (fun c c1 => st_ne _ _ _ c1) (fun i i1 i2 i3 => by rw [st_eq, if_neg i2])) (by rw [st_eq, if_neg (by decide), y75 35 (by decide), e35]) (by rw [ef]; exact z) (by rw [st_ne _ _ _ (by decide)]; exact y88) R hR
          refine ⟨m', fin _ ?_, j2⟩
          show bE (Mo_round ma) _ = _
          rw [b2', hmv, bE_some, show w32 (bI true) = 1 from by decide, if_pos (by decide), show (t : Int) + 1 = ((t + 1 : Nat) : Int) by omega, cm, bP_some, ef, w32_id (x := fa) (by omega) (by omega), if_neg (not_not_intro z)]
          exact j1
        · rw [if_neg z] at hR
          subst hR
          refine ⟨_, fin _ ?_, dd (st (st (st mb 75 36 fa) 75 35 2) 75 37 (((t + 1 : Nat) : Int) - fa)) (fun c c1 => by rw [st_ne _ _ _ c1, st_ne _ _ _ c1, st_ne _ _ _ c1]) (fun i i1 i2 i3 => by rw [st_eq, if_neg i3, st_eq, if_neg i1, st_eq, if_neg i2]), rfl, rfl, fun _ => rfl⟩
          show bE (Mo_round ma) _ = _
          rw [b2', hmv, bE_some, show w32 (bI true) = 1 from by decide, if_pos (by decide), show (t : Int) + 1 = ((t + 1 : Nat) : Int) by omega, cm, bP_some, ef, w32_id (x := fa) (by omega) (by omega), if_pos z]
          rw [show (t : Int) + 1 = ((t + 1 : Nat) : Int) by omega] at stop
          exact stop _ (Or.inr rfl)
theorem m_go {m : Mem} {F0 : Int → Int} {S W V stp : Int} {o : Int → Int} {kp : Int → Bool} {H : Nat → Int → Int} (w : Sm F0 S W V stp o kp) (eH : H = itS (rdX kp stp S W V o) F0) (e76 : ∀ i, m 76 i = F0 (i - 80)) {most : Nat} (hm : most ≤ 60) : ∀ R, rdE (fun t => (rdX kp stp S W V o (H t)).2) (fun d => faS (fun r => eqB S W (H r) (H d)) d 0) most 0 = R → ∃ m', Mo_doesRounds (most : Int) m = some ((R.1 : Int), m') ∧ Dm m m' (H R.1) ∧ m' 75 35 = R.2.1 ∧ m' 75 36 = R.2.2 ∧ (R.2.1 = 2 → m' 75 37 = (R.1 : Int) - R.2.2) := by
  intro R hR
  have h0 : H 0 = F0 := by rw [eH]; rfl
  unfold Mo_doesRounds
  refine m_go12 w eH hm FU most 0 (st (st m 75 35 0) 75 36 (-1)) (by omega) (by rw [FU_eq]; omega) ⟨fun c c1 c2 c3 => by rw [st_ne _ _ _ c1, st_ne _ _ _ c1], fun i hi i1 i2 i3 => by rw [st_eq, if_neg i2, st_eq, if_neg i1], fun i => by rw [st_ne _ _ _ (by decide), st_ne _ _ _ (by decide), h0]; exact e76 i⟩ rfl rfl (fun r hr => by omega) R hR
/-- both sides' floors go alike -/
theorem go_eq {S W V stp : Int} {o o' : Int → Int} {kp kq : Int → Bool} {F G : Int → Int} (s : gSW S W) (hk : ∀ q, Pt S W q → kp q = kq q) (ho : ∀ k, 0 ≤ k → k < V → o k = o' k ∧ 0 ≤ o k ∧ o k ≤ 2) (hFG : ∀ q, Pt S W q → F q = G q) : (∀ n, Lk S W (rdX kp stp S W V o (itS (rdX kp stp S W V o) F n)) (rdX kq stp S W V o' (itS (rdX kq stp S W V o') G n)) ∧ ∀ q, Pt S W q → itS (rdX kp stp S W V o) F n q = itS (rdX kq stp S W V o') G n q) := by
  have st1 : ∀ A B : Int → Int, (∀ q, Pt S W q → A q = B q) → Lk S W (rdX kp stp S W V o A) (rdX kq stp S W V o' B) := fun A B h => by
    unfold rdX
    exact rwS_lk s hk _ _ _ _ (fun x x0 x1 => ho x x0 (by omega)) ⟨h, rfl⟩
  intro n
  induction n with
  | zero => exact ⟨st1 F G hFG, hFG⟩
  | succ n ih =>
    have e : ∀ q, Pt S W q → itS (rdX kp stp S W V o) F (n + 1) q = itS (rdX kq stp S W V o') G (n + 1) q := ih.1.1
    exact ⟨st1 _ _ e, e⟩
theorem Sw_of {m : Mem} (h : Rel m) : Sw m (fun q => decide (Sheet_isKept 7 q m = 1)) (m 7 5) := by
  obtain ⟨-, hs, hv, ho, -⟩ := shF h
  exact ⟨hs, rfl, by omega, by omega, fun q _ => kp_is, by omega, by omega, fun k k0 k1 => (ho k k0 k1).2⟩
theorem Sm_of {m m1 : Mem} (h : Rel m) (k76 : m1 76 = m 76) : Sm (fun q => m1 76 (80 + q)) (m 7 0) (m 7 1) (m 7 6) (m 7 5) (m 8) (fun q => decide (Sheet_isKept 7 q m = 1)) := by
  obtain ⟨⟨z0, z1, z2, z3, z4, z5, z6⟩, hs, hv, ho, hp⟩ := shF h
  rw [k76]
  have e : ∀ i : Int, 80 + (i - 80) = i := fun i => by omega
  refine ⟨hs, by omega, by omega, ?_, ?_, ?_, ?_, by omega, by omega, fun k k0 k1 => ?_, fun q hq => ?_, flMb h⟩
  · show m 76 (80 + (0 - 80)) = _; rw [e]; exact z0
  · show m 76 (80 + (1 - 80)) = _; rw [e]; exact z1
  · show m 76 (80 + (5 - 80)) = _; rw [e]; exact z5
  · show m 76 (80 + (6 - 80)) = _; rw [e]; exact z6
  · show m 76 (80 + (7 + k - 80)) = _ ∧ _; rw [e]; exact ho k k0 k1
  · show m 76 (80 + (144 + q - 80)) = _
    rw [e, (hp q hq).2.2]; exact kp_is
/-- behind the same rounds of both sides: the sheet -/
theorem Rsh_go {m m1 m2 : Mem} (h : Rel m) {H H' : Nat → Int → Int} {r : Nat} (e7 : m2 7 = m 7) (e8 : m2 8 = m 8) (e9 : m2 9 = m 9) (e10 : m2 10 = H r) (e76 : ∀ i, m2 76 i = H' r (i - 80)) (hH : ∀ q, Pt (m 7 0) (m 7 1) q → H r q = H' r q ∧ 0 ≤ H r q ∧ H r q ≤ 999) (hn : ∀ q, ¬ Pt (m 7 0) (m 7 1) q → H' r q = m 76 (80 + q)) : Rsh m2 := by
  have hr := h.2.2.2.1
  obtain ⟨-, hs, -, -, hp⟩ := shF h
  have np : ∀ x : Int, ¬ (0 ≤ x ∧ x < 64) → ¬ Pt (m 7 0) (m 7 1) x := fun x hx hp => hx (pt64 hs hp)
  have o : ∀ i, ¬ (80 ≤ i ∧ i < 144) → m2 76 i = m 76 i := fun i hi => by
    rw [e76, hn _ (np _ (by omega)), show 80 + (i - 80) = i by omega]
  refine ShR_pts hr (fun i _ _ => by rw [e7]) e8 (fun i i0 i1 => o i (by omega)) (fun p hp' => ?_)
  have p64 := pt64 hs hp'
  have b := hp p hp'
  have c := hH p hp'
  refine ⟨?_, ?_, ?_⟩
  · rw [e9, o _ (by omega), show (0 : Int) + 16 + p = 16 + p by omega]; exact b.1
  · show m2 76 (0 + 80 + p) = m2 10 p ∧ 0 ≤ m2 10 p ∧ m2 10 p ≤ 999
    rw [e10, e76, show (0 : Int) + 80 + p - 80 = p by omega]
    exact ⟨c.1.symm, c.2⟩
  · rw [o _ (by omega), isK_c e7, show (0 : Int) + 144 + p = 144 + p by omega]; exact b.2.2
theorem s_rounds {m : Mem} (h : Rel m) {a0 : Int} (c0 : w32 a0 = a0) : Stq w32 (FL_rounds a0 m) (fun m1 => Mo_rounds a0 m1) := by
  have b0 := cn c0
  by_cases k0 : ¬ (1 ≤ a0 ∧ a0 ≤ 60)
  · have q : a0 < 1 ∨ 60 < a0 := by omega
    refine Stq.mk (x := -1) (m1 := st m 0 0 1) (y := -1) (m2 := st (st m 0 0 1) 75 1 1) ?_ ?_ rfl (h.stat 1)
    · rcases q with q | q <;> simp (disch := omega) only [bP, bE, bV, ltM, ltI, st_eq, st_ne, w32_id, w64_id, ↓reduceIte, ilt_t, ilt_f, ile_t, ile_f, ieq_t, ieq_f, not_true_eq_false, not_false_eq_true, and_true, true_and, and_self, and_false, false_and, Int.reduceMod, FL_rounds, FL_isWithin, FL_no, FL_yes, FL_none, FL_answer]
    · rcases q with q | q <;> simp (disch := omega) only [bP, bE, bV, ltM, ltI, st_eq, st_ne, w32_id, w64_id, ↓reduceIte, ilt_t, ilt_f, ile_t, ile_f, ieq_t, ieq_f, not_true_eq_false, not_false_eq_true, and_true, true_and, and_self, and_false, false_and, Int.reduceMod, Mo_rounds, Mo_is, Mo_refuse, Mo_gives, Mo_isFrom]
  replace k0 := Decidable.not_not.mp k0
  obtain ⟨t0, t1⟩ := k0
  obtain ⟨M, eM⟩ : ∃ M : Nat, a0 = (M : Int) := ⟨a0.toNat, by omega⟩
  have hM : M ≤ 60 := by omega
  obtain ⟨-, hs, hv, ho, -⟩ := shF h
  obtain ⟨H, eH⟩ : ∃ H : Nat → Int → Int, H = itS (rdX (fun q => decide (Sheet_isKept 7 q m = 1)) (m 7 5) (m 7 0) (m 7 1) (m 7 6) (m 8)) (m 10) := ⟨_, rfl⟩
  obtain ⟨R, hR⟩ : ∃ R, rdE (fun t => (rdX (fun q => decide (Sheet_isKept 7 q m = 1)) (m 7 5) (m 7 0) (m 7 1) (m 7 6) (m 8) (H t)).2) (fun d => faS (fun r => eqB (m 7 0) (m 7 1) (H r) (H d)) d 0) M 0 = R := ⟨_, rfl⟩
  obtain ⟨ma, a1, a2, a3, a4, a5⟩ := c_go (Sw_of h) (flC h) eH hM R hR
  obtain ⟨m1, em1⟩ : ∃ m1, m1 = st (Rounds_remember ma) 0 0 0 := ⟨_, rfl⟩
  have m1c : ∀ c, c ≠ 10 → c ≠ 28 → c ≠ 29 → c ≠ 0 → m1 c = m c := fun c d1 d2 d3 d4 => by
    rw [em1]; unfold Rounds_remember
    rw [st_ne _ _ _ d4, st_ne _ _ _ d2, st_ne _ _ _ d2, st_ne _ _ _ d2, a2.1 c d1 d2 d3]
  have k76 : m1 76 = m 76 := m1c 76 (by decide) (by decide) (by decide) (by decide)
  obtain ⟨H', eH'⟩ : ∃ H' : Nat → Int → Int, H' = itS (rdX (fun q => decide (Sheet_isKept 7 q m = 1)) (m 7 5) (m 7 0) (m 7 1) (m 7 6) (m 8)) (fun q => m1 76 (80 + q)) := ⟨_, rfl⟩
  have ge := go_eq (S := m 7 0) (W := m 7 1) (V := m 7 6) (stp := m 7 5) (o := m 8) (o' := m 8) (kp := fun q => decide (Sheet_isKept 7 q m = 1)) (kq := fun q => decide (Sheet_isKept 7 q m = 1)) (F := m 10) (G := fun q => m1 76 (80 + q)) hs (fun _ _ => rfl) (fun k k0 k1 => ⟨rfl, (ho k k0 k1).2⟩) (fun q hq => by rw [k76]; exact (flM h q hq).symm)
  rw [← eH, ← eH'] at ge
  have hR' : rdE (fun t => (rdX (fun q => decide (Sheet_isKept 7 q m = 1)) (m 7 5) (m 7 0) (m 7 1) (m 7 6) (m 8) (H' t)).2) (fun d => faS (fun r => eqB (m 7 0) (m 7 1) (H' r) (H' d)) d 0) M 0 = R := by
    rw [← hR]
    refine congrFun (congrFun (rdE_c (fun t => ((ge t).1.2).symm) (fun d => ?_)) M) 0
    have e : (fun r => eqB (m 7 0) (m 7 1) (H' r) (H' d)) = fun r => eqB (m 7 0) (m 7 1) (H r) (H d) := funext (fun r => eqB_c hs (fun q hq => ((ge r).2 q hq).symm) (fun q hq => ((ge d).2 q hq).symm))
    rw [e]
  obtain ⟨mb, d1, d2, d3, d4, d5⟩ := m_go (m := m1) (Sm_of h k76) eH' (fun i => by show m1 76 i = m1 76 (80 + (i - 80)); rw [show 80 + (i - 80) = i by omega]) hM R hR'
  have rb := rdE_b (fun t => (rdX (fun q => decide (Sheet_isKept 7 q m = 1)) (m 7 5) (m 7 0) (m 7 1) (m 7 6) (m 8) (H t)).2) (fun d => faS (fun r => eqB (m 7 0) (m 7 1) (H r) (H d)) d 0) M 0
  rw [hR] at rb
  refine Stq.mk (x := (R.1 : Int)) (m1 := m1) (y := (R.1 : Int)) (m2 := st mb 75 1 0) ?_ ?_ rfl ?_
  · unfold FL_rounds
    rw [iw (c64 (by rw [c0]; exact c0)) (by omega) (by omega) (by omega) (by omega), c0, if_pos (show 1 ≤ a0 ∧ a0 ≤ 60 by omega), if_pos (by decide), eM, a1, bE_some, em1]
    rfl
  · show Mo_rounds a0 m1 = _
    unfold Mo_rounds
    rw [c0, if_neg (by omega), if_pos (by omega), eM, d1, bE_some]
    rfl
  · have c28 : ∀ i, mb 28 i = m1 28 i := fun i => by rw [d2.1 28 (by decide) (by decide) (by decide)]
    have r28 : m1 28 4 = R.2.1 ∧ m1 28 5 = R.2.2 ∧ m1 28 6 = (R.1 : Int) - R.2.2 := by
      rw [em1]
      refine ⟨a3, a4, ?_⟩
      show ma 28 3 - ma 28 2 = _
      rw [a4, a5]
    have hb : ∀ c, c ≠ 75 → c ≠ 76 → c ≠ 88 → c ≠ 10 → c ≠ 28 → c ≠ 29 → c ≠ 0 → mb c = m c := fun c e1 e2 e3 e4 e5 e6 e7 => by rw [d2.1 c e1 e2 e3, m1c c e4 e5 e6 e7]
    have kpr := itS_kp (kp := fun q => decide (Sheet_isKept 7 q m = 1)) (stp := m 7 5) (V := m 7 6) (o := m 8) hs (fun k k0 k1 => (ho k k0 k1).2) (flC h) R.1
    have kpr' := itS_kp (kp := fun q => decide (Sheet_isKept 7 q m = 1)) (stp := m 7 5) (V := m 7 6) (o := m 8) (F := fun q => m1 76 (80 + q)) hs (fun k k0 k1 => (ho k k0 k1).2) (fun q hq => by rw [k76]; exact flMb h q hq) R.1
    rw [← eH] at kpr
    rw [← eH'] at kpr'
    have np : ∀ x : Int, ¬ (0 ≤ x ∧ x < 64) → ¬ Pt (m 7 0) (m 7 1) x := fun x hx hp => hx (pt64 hs hp)
    have o76 : ∀ i, ¬ (80 ≤ i ∧ i < 144) → mb 76 i = m 76 i := fun i hi => by
      rw [d2.2.2, kpr'.2 _ (np _ (by omega))]
      show m1 76 (80 + (i - 80)) = _
      rw [k76, show 80 + (i - 80) = i by omega]
    have z0 : ∀ i, i ≠ 0 → mb 0 i = m 0 i := fun i hi => by
      rw [d2.1 0 (by decide) (by decide) (by decide), em1, st_eq, if_neg hi]
      unfold Rounds_remember
      rw [st_ne _ _ _ (by decide), st_ne _ _ _ (by decide), st_ne _ _ _ (by decide), a2.1 0 (by decide) (by decide) (by decide)]
    have z75 : ∀ i, i < 23 ∨ 25 < i → i ≠ 35 → i ≠ 36 → i ≠ 37 → mb 75 i = m 75 i := fun i hi i1 i2 i3 => by rw [d2.2.1 i hi i1 i2 i3, m1c 75 (by decide) (by decide) (by decide) (by decide)]
    have ag : Ag [0, 1, 4, 7] m mb := by
      intro c i q
      by_cases e75 : c = 75
      · subst e75
        by_cases hi : (i < 23 ∨ 25 < i) ∧ i ≠ 35 ∧ i ≠ 36 ∧ i ≠ 37
        · exact z75 i hi.1 hi.2.1 hi.2.2.1 hi.2.2.2
        · have : i = 23 ∨ i = 24 ∨ i = 25 ∨ i = 35 ∨ i = 36 ∨ i = 37 := by omega
          rcases this with z | z | z | z | z | z <;> subst z <;> exact absurd (by decide) q
      by_cases e76 : c = 76
      · subst e76
        by_cases hi : 80 ≤ i ∧ i < 144
        · exact absurd (by rw [c76 (by omega) (by omega) (by omega)]; decide) q
        · exact o76 i hi
      by_cases e88 : c = 88
      · subst e88; exact absurd (by simp [comp]) q
      by_cases e10 : c = 10
      · subst e10; exact absurd (by simp [comp]) q
      by_cases e29 : c = 29
      · subst e29; exact absurd (by simp [comp]) q
      by_cases e28 : c = 28
      · subst e28
        have : ¬ (i = 4 ∨ i = 5 ∨ i = 6) := fun z => q (by unfold comp; simp [z])
        have : i ≠ 1 ∧ i ≠ 2 ∧ i ≠ 3 ∨ i = 1 ∨ i = 2 ∨ i = 3 := by omega
        rcases this with w | w | w | w
        · rw [c28, em1]
          show Rounds_remember ma 28 i = _
          unfold Rounds_remember
          rw [st_eq, if_neg (by omega), st_eq, if_neg (by omega), st_eq, if_neg (by omega), a2.2.2 i w.1 w.2.1 w.2.2]
        · subst w; exact absurd (by decide) q
        · subst w; exact absurd (by decide) q
        · subst w; exact absurd (by decide) q
      by_cases e0 : c = 0
      · subst e0
        exact z0 i (fun z => q (by subst z; decide))
      rw [hb c e75 e76 e88 e10 e28 e29 e0]
    refine h.upd [0, 1, 4, 7] (ag.st (by decide)) (fun _ => ?_) (by simp) (by simp) (fun _ => ?_) (by simp) (by simp) (fun _ => ?_) (by simp) (by simp) (by simp)
    · refine Rst_set h.1 (k := 0) ?_ rfl ?_ ?_ ?_ ?_
      · show mb 0 0 = 0; rw [d2.1 0 (by decide) (by decide) (by decide), em1]; rfl
      · show mb 0 1 = m 0 1; exact z0 1 (by decide)
      · show mb 0 2 = m 0 2; exact z0 2 (by decide)
      · show mb 75 2 = m 75 2; exact z75 2 (by decide) (by decide) (by decide) (by decide)
      · show mb 75 3 = m 75 3; exact z75 3 (by decide) (by decide) (by decide) (by decide)
    · refine Rsh_go (m1 := m1) (H := H) (H' := H') (r := R.1) h ?_ ?_ ?_ ?_ (fun i => ?_) (fun q hq => ⟨(ge R.1).2 q hq, kpr.1 q hq⟩) (fun q hq => ?_)
      · show mb 7 = m 7; exact hb 7 (by decide) (by decide) (by decide) (by decide) (by decide) (by decide) (by decide)
      · show mb 8 = m 8; exact hb 8 (by decide) (by decide) (by decide) (by decide) (by decide) (by decide) (by decide)
      · show mb 9 = m 9; exact hb 9 (by decide) (by decide) (by decide) (by decide) (by decide) (by decide) (by decide)
      · show mb 10 = _
        rw [d2.1 10 (by decide) (by decide) (by decide), em1]
        exact a2.2.1
      · show mb 76 i = _; exact d2.2.2 i
      · rw [kpr'.2 q hq]; show m1 76 (80 + q) = _; rw [k76]
    · show mb 75 35 = mb 28 4 ∧ -1 ≤ mb 28 4 ∧ mb 28 4 ≤ 2 ∧ (mb 28 4 = 2 → mb 75 36 = mb 28 5 ∧ mb 75 37 = mb 28 6)
      rw [c28, c28, c28, r28.1, r28.2.1, r28.2.2, d3, d4]
      exact ⟨rfl, by omega, by omega, fun z => ⟨rfl, d5 z⟩⟩
