/-! layer 2: slips of a figure -/
def slP (a1 a2 a3 b1 b2 b3 : Int) : Bool := (decide (¬ a1 = b1 ∧ a2 = b2 ∧ a3 = b3) || decide (a1 = b1 ∧ ¬ a2 = b2 ∧ a3 = b3) || decide (a1 = b1 ∧ a2 = b2 ∧ ¬ a3 = b3)) || (decide (¬ a1 = a2 ∧ b1 = a2 ∧ b2 = a1 ∧ b3 = a3) || decide (¬ a2 = a3 ∧ b1 = a1 ∧ b2 = a3 ∧ b3 = a2))
def slB (a b : Int) : Bool := slP (a / 100) (a / 10 % 10) (a % 10) (b / 100) (b / 10 % 10) (b % 10)
theorem w0 : w32 0 = 0 := by decide
theorem w1 : w32 1 = 1 := by decide
theorem w2_ : w32 2 = 2 := by decide
theorem w3_ : w32 3 = 3 := by decide
theorem dg {a : Int} (a0 : 0 ≤ a) (a1 : a ≤ 999) : w32 a = a ∧ Int.tdiv a 100 = a / 100 ∧ w32 (a / 100) = a / 100 ∧ Int.tdiv a 10 = a / 10 ∧ w32 (a / 10) = a / 10 ∧ Int.tmod (a / 10) 10 = a / 10 % 10 ∧ w32 (a / 10 % 10) = a / 10 % 10 ∧ Int.tmod a 10 = a % 10 ∧ w32 (a % 10) = a % 10 ∧ a = 100 * (a / 100) + 10 * (a / 10 % 10) + a % 10 := by
  refine ⟨w32_id (by omega) (by omega), Int.tdiv_eq_ediv_of_nonneg a0, w32_id (by omega) (by omega), Int.tdiv_eq_ediv_of_nonneg a0, w32_id (by omega) (by omega), Int.tmod_eq_emod_of_nonneg (by omega), w32_id (by omega) (by omega), Int.tmod_eq_emod_of_nonneg a0, w32_id (by omega) (by omega), by omega⟩
theorem c_slip {a b : Int} {m : Mem} (a0 : 0 ≤ a) (a1 : a ≤ 999) (b0 : 0 ≤ b) (b1 : b ≤ 999) : Mender_isSlip a b m = some (bI (slB a b)) := by
  obtain ⟨u1, u2, u3, u4, u5, u6, u7, u8, u9, -⟩ := dg a0 a1
  obtain ⟨v1, v2, v3, v4, v5, v6, v7, v8, v9, -⟩ := dg b0 b1
  unfold Mender_isSlip Mender_isSlip_J106 Mender_isSlip_J107 slB
  rw [u1, u2, u3, u4, u5, u6, u7, u8, u9, v1, v2, v3, v4, v5, v6, v7, v8, v9]
  clear u1 u2 u3 u4 u5 u6 u7 u8 u9 v1 v2 v3 v4 v5 v6 v7 v8 v9
  generalize a / 100 = x1
  generalize a / 10 % 10 = x2
  generalize a % 10 = x3
  generalize b / 100 = y1
  generalize b / 10 % 10 = y2
  generalize b % 10 = y3
  simp only [ltI]
  unfold slP bI
  by_cases h1 : x1 = y1 <;> by_cases h2 : x2 = y2 <;> by_cases h3 : x3 = y3
  all_goals simp only [h1, h2, h3, not_true_eq_false, not_false_eq_true, ↓reduceIte, true_and, and_true, false_and, and_false, decide_true, decide_false, Bool.or_true, Bool.true_or, Bool.or_false, Bool.false_or, Int.add_zero, Int.zero_add, Int.reduceAdd, w0, w1, w2_, w3_, Int.reduceEq]
  all_goals (repeat' split)
  all_goals first | rfl | (exfalso; simp_all [w0, w1, w2_, w3_]; done) | (exfalso; simp_all [w0, w1, w2_, w3_]; omega)
theorem m_slip {a b : Int} {m : Mem} (a0 : 0 ≤ a) (a1 : a ≤ 999) (b0 : 0 ≤ b) (b1 : b ≤ 999) : Mo_isSlip a b m = some (bI (slB a b)) := by
  obtain ⟨u1, u2, u3, u4, u5, u6, u7, u8, u9, ua⟩ := dg a0 a1
  obtain ⟨v1, v2, v3, v4, v5, v6, v7, v8, v9, va⟩ := dg b0 b1
  have eab : (a = b) = (a / 100 = b / 100 ∧ a / 10 % 10 = b / 10 % 10 ∧ a % 10 = b % 10) := by
    apply propext
    constructor
    · intro h; subst h; exact ⟨rfl, rfl, rfl⟩
    · intro h; omega
  unfold Mo_isSlip Mo_isSlip_J50 slB
  rw [u1, u2, u3, u4, u5, u6, u7, u8, u9, v1, v2, v3, v4, v5, v6, v7, v8, v9]
  simp only [ltI, eab]
  clear u1 u2 u3 u4 u5 u6 u7 u8 u9 v1 v2 v3 v4 v5 v6 v7 v8 v9 ua va eab
  generalize a / 100 = x1
  generalize a / 10 % 10 = x2
  generalize a % 10 = x3
  generalize b / 100 = y1
  generalize b / 10 % 10 = y2
  generalize b % 10 = y3
  unfold slP bI
  by_cases h1 : x1 = y1 <;> by_cases h2 : x2 = y2 <;> by_cases h3 : x3 = y3
  all_goals simp only [h1, h2, h3, not_true_eq_false, not_false_eq_true, ↓reduceIte, true_and, and_true, false_and, and_false, and_self, decide_true, decide_false, Bool.or_true, Bool.true_or, Bool.or_false, Bool.false_or, Int.add_zero, Int.zero_add, Int.reduceAdd, w0, w1, w2_, w3_, Int.reduceEq]
  all_goals (repeat' split)
  all_goals first | rfl | (exfalso; simp_all [w0, w1, w2_, w3_]; done) | (exfalso; simp_all [w0, w1, w2_, w3_]; omega)
theorem tc_kb {S W v l p pt : Int} (s : gSW S W) (hp : isPl S W v l p) (hq : Pt S W pt) : w64 (lAnd (Sheet_bit pt) (Sheet_hold (fsS S v l + srS v * p) (srS v))) = 0 ↔ ¬ Tc (fsS S v l) (srS v) p pt := by
  obtain ⟨q0, q1, q2, q3⟩ := pl4 s hp
  have sb := srS_b v
  have i1 : fsS S v l + srS v * (p - 1) = fsS S v l + srS v * p - srS v := by rw [Int.mul_sub, Int.mul_one]; omega
  have i2 : fsS S v l + srS v * (p - 2) = fsS S v l + srS v * p - 2 * srS v := by rw [Int.mul_sub]; omega
  have i3 : fsS S v l + srS v * (p + 1) = fsS S v l + srS v * p + srS v := by rw [Int.mul_add, Int.mul_one]; omega
  have r0 := pt64 s q0
  have r1 := pt64 s q1
  have r2 := pt64 s q2
  have r3 := pt64 s q3
  have rq := pt64 s hq
  unfold Tc
  rw [i1, i2, i3]
  rw [i1] at r1; rw [i2] at r2; rw [i3] at r3
  rw [hold_kb sb.1 r2.1 r3.2, kb_bit rq.1 rq.2 r2.1 r2.2, kb_bit rq.1 rq.2 r1.1 r1.2, kb_bit rq.1 rq.2 r0.1 r0.2, kb_bit rq.1 rq.2 r3.1 r3.2]
  simp only [decide_eq_false_iff_not]
  omega
theorem af_up {F : Int → Int} {eye S W pt b : Int} (s : gSW S W) (hq : Pt S W pt) : AF (upF F pt b) eye S W ↔ (alC F eye (Sheet_bit pt) S W = 0 ∧ Nq F eye S W pt 0 b) := by
  rw [alC_0 _ _ _ s]
  constructor
  · intro h
    refine ⟨fun v l p hp hd => ?_, fun v l p hp _ _ => h v l p hp⟩
    rw [← uf_nt (b := b) ((tc_kb s hp hq).mp hd)]; exact h v l p hp
  · rintro ⟨h1, h2⟩ v l p hp
    by_cases z : Tc (fsS S v l) (srS v) p pt
    · exact h2 v l p hp z (hold0 _)
    · rw [uf_nt z]; exact h1 v l p hp ((tc_kb s hp hq).mpr z)
/-- is v a slip at the point -/
noncomputable def gB (F : Int → Int) (eye S W pt v : Int) : Bool := slB (F pt) v && decide (alU (upF F pt v) eye S W = 0)
noncomputable def gI (F : Int → Int) (eye S W pt v : Int) : Int := bI (gB F eye S W pt v)
theorem gI01 (F : Int → Int) (eye S W pt v : Int) : 0 ≤ gI F eye S W pt v ∧ gI F eye S W pt v ≤ 1 := by
  unfold gI; rcases bI01 (gB F eye S W pt v) with z | z <;> rw [z] <;> omega
theorem suS_add (g : Int → Int) : ∀ (a b : Nat) (x : Int), suS g (a + b) x = suS g a x + suS g b (x + a)
  | 0, b, x => by rw [Nat.zero_add]; simp [suS]
  | a + 1, b, x => by
    rw [show a + 1 + b = (a + b) + 1 by omega, suS_succ, suS_succ, suS_add g a b (x + 1), show x + 1 + (a : Int) = x + ((a + 1 : Nat) : Int) by omega]
    omega
theorem suS_z {g : Int → Int} : ∀ (n : Nat) (x : Int), (∀ y, x ≤ y → y < x + n → g y = 0) → suS g n x = 0
  | 0, _, _ => rfl
  | n + 1, x, h => by rw [suS_succ, h x (by omega) (by omega), suS_z n (x + 1) (fun y a b => h y (by omega) (by omega))]; rfl
theorem ktS_z {g : Int → Int} : ∀ (n m : Nat) (x k : Int), (∀ y, x ≤ y → y < x + n → g y = 0) → ktS g (n + m) x k = ktS g m (x + n) k
  | 0, m, x, k, _ => by rw [Nat.zero_add]; simp
  | n + 1, m, x, k, h => by
    rw [show n + 1 + m = (n + m) + 1 by omega, ktS_s, if_pos (h x (by omega) (by omega)), ktS_z n m (x + 1) k (fun y a b => h y (by omega) (by omega)), show x + 1 + (n : Int) = x + ((n + 1 : Nat) : Int) by omega]
/-- what stands behind the last one that counts says nothing -/
theorem ktS_p {g : Int → Int} : ∀ (n m : Nat) (x k : Int), (∀ y, x ≤ y → y < x + n → 0 ≤ g y ∧ g y ≤ 1) → 0 ≤ k → k < suS g n x → ktS g (n + m) x k = ktS g n x k
  | 0, m, x, k, _, k0, k1 => by exfalso; simp [suS] at k1; omega
  | n + 1, m, x, k, h, k0, k1 => by
    have b := h x (by omega) (by omega)
    rw [show n + 1 + m = (n + m) + 1 by omega, ktS_s, ktS_s]
    rw [suS_succ] at k1
    by_cases z : g x = 0
    · rw [if_pos z, if_pos z]
      exact ktS_p n m (x + 1) k (fun y a b => h y (by omega) (by omega)) k0 (by omega)
    · rw [if_neg z, if_neg z]
      by_cases y : k = 0
      · rw [if_pos y, if_pos y]
      · rw [if_neg y, if_neg y]
        exact ktS_p n m (x + 1) (k - 1) (fun y a b => h y (by omega) (by omega)) (by omega) (by omega)
def Cs (m mm : Mem) : Prop := (∀ c, c ≠ 7 → c ≠ 32 → mm c = m c) ∧ (∀ i, i ≠ 14 → i ≠ 15 → mm 7 i = m 7 i) ∧ ∀ i, i ≠ 9 → i ≠ 10 → mm 32 i = m 32 i
theorem Cs.refl (m : Mem) : Cs m m := ⟨fun _ _ _ => rfl, fun _ _ _ => rfl, fun _ _ _ => rfl⟩
theorem Cs.nw {a b c : Mem} (h : Cs a b) (h' : Nw b c) : Cs a c := ⟨fun x h1 h2 => (h'.1 x h1).trans (h.1 x h1 h2), fun i h1 h2 => (h'.2 i h1 h2).trans (h.2.1 i h1 h2), fun i h1 h2 => by rw [h'.1 32 (by decide)]; exact h.2.2 i h1 h2⟩
theorem Cs.st2 {a b : Mem} (h : Cs a b) (x y : Int) : Cs a (st (st b 32 9 x) 32 10 y) := ⟨fun c h1 h2 => by rw [st_ne _ _ _ h2, st_ne _ _ _ h2]; exact h.1 c h1 h2, fun i h1 h2 => by rw [st_ne _ _ _ (by decide), st_ne _ _ _ (by decide)]; exact h.2.1 i h1 h2, fun i h1 h2 => by rw [st_eq, if_neg h2, st_eq, if_neg h1]; exact h.2.2 i h1 h2⟩
theorem c_cs22 {m : Mem} {pt k old hi : Int} (o0 : 0 ≤ old) (o1 : old ≤ 999) (h9 : hi ≤ 20000) (h8 : -20000 ≤ hi) (k0 : -2147483648 ≤ k) (k1 : k < 2147483648) : ∀ (n : Nat) (c b : Int) (mm : Mem), Cs m mm → mm 7 15 = hi → 0 ≤ c → c ≤ 1000 + b + 20000 → -20000 ≤ b → b ≤ 20001 → (b ≤ hi → 0 ≤ b ∧ hi ≤ 999) → (hi + 1 - b).toNat < n → ∃ m', Mender_countSlipsAt_L22 pt k old n c b mm = some (c + suS (fun v => bI (slB old v)) (hi + 1 - b).toNat b, m') ∧ Cs m m' ∧ (c ≤ k → k < c + suS (fun v => bI (slB old v)) (hi + 1 - b).toNat b → m' 32 9 = pt ∧ m' 32 10 = ktS (fun v => bI (slB old v)) (hi + 1 - b).toNat b (k - c)) ∧ ((k < c ∨ c + suS (fun v => bI (slB old v)) (hi + 1 - b).toNat b ≤ k) → m' 32 9 = mm 32 9 ∧ m' 32 10 = mm 32 10) := by
  intro n
  induction n with
  | zero => intro c b mm _ _ _ _ _ _ _ q; omega
  | succ n ih =>
    intro c b mm hc e15 c0 c1 b0 b1 hb hn
    rw [Mender_countSlipsAt_L22, e15, w32_id (x := hi) (by omega) (by omega), w32_id (x := b) (by omega) (by omega)]
    by_cases q : hi < b
    · rw [if_pos q, show (hi + 1 - b).toNat = 0 by omega]
      refine ⟨mm, by simp [suS], hc, fun y1 y2 => ?_, fun _ => ⟨rfl, rfl⟩⟩
      simp [suS] at y2; omega
    · have hb' := hb (by omega)
      rw [if_neg q, c_slip o0 o1 (by omega) (by omega), bP_some, show (hi + 1 - b).toNat = (hi + 1 - (b + 1)).toNat + 1 by omega, suS_succ, ktS_s]
      cases z : slB old b with
      | false =>
        obtain ⟨m', j1, j2, j3, j4⟩ := ih c (b + 1) mm hc e15 c0 (by omega) (by omega) (by omega) (by omega) (by omega)
        rw [show w32 (bI false) = 0 from by decide, if_pos rfl, j1, show bI false = 0 from rfl, if_pos rfl, Int.zero_add]
        exact ⟨m', rfl, j2, j3, j4⟩
      | true =>
        rw [show w32 (bI true) = 1 from by decide, if_neg (by decide), show bI true = 1 from rfl, if_neg (show ¬ (1 : Int) = 0 by decide), w32_id (x := c) (by omega) (by omega), w32_id (x := k) (by omega) (by omega)]
        have ea : ∀ y : Int, c + (1 + y) = c + 1 + y := fun y => by omega
        rw [ea]
        by_cases y : c = k
        · obtain ⟨m', j1, j2, j3, j4⟩ := ih (c + 1) (b + 1) (st (st mm 32 9 pt) 32 10 b) (hc.st2 _ _) (by rw [st_ne _ _ _ (by decide), st_ne _ _ _ (by decide)]; exact e15) (by omega) (by omega) (by omega) (by omega) (by omega) (by omega)
          rw [if_neg (not_not_intro y), j1]
          have jj := j4 (Or.inl (by omega))
          refine ⟨m', rfl, j2, fun _ _ => ?_, fun w => ?_⟩
          · rw [if_pos (by omega)]; exact jj
          · have := (su0 (g := fun v => bI (slB old v)) (hi + 1 - (b + 1)).toNat (b + 1) (fun x _ _ => by show 0 ≤ bI (slB old x); rcases bI01 (slB old x) with z | z <;> omega))
            have sb := suS_b (g := fun v => bI (slB old v)) (B := 1) (hi + 1 - (b + 1)).toNat (b + 1) (fun x _ _ => by show 0 ≤ bI (slB old x) ∧ bI (slB old x) ≤ 1; rcases bI01 (slB old x) with z | z <;> omega)
            omega
        · obtain ⟨m', j1, j2, j3, j4⟩ := ih (c + 1) (b + 1) mm hc e15 (by omega) (by omega) (by omega) (by omega) (by omega) (by omega)
          rw [if_pos y, j1]
          refine ⟨m', rfl, j2, fun y1 y2 => ?_, fun w => j4 (by omega)⟩
          rw [if_neg (by omega), show k - c - 1 = k - (c + 1) by omega]
          exact j3 (by omega) (by omega)
/-- slips at a point: in the class, from low to high -/
theorem sl_rng {F : Int → Int} {eye S W pt lo hi : Int} (s : gSW S W) (hq : Pt S W pt) (h0 : alC F eye (Sheet_bit pt) S W = 0) (hN : ∀ b, (lo ≤ b ∧ b ≤ hi) ↔ ((0 ≤ b ∧ b ≤ 999) ∧ Nq F eye S W pt 0 b)) : (suS (gI F eye S W pt) 1000 0 = suS (fun v => bI (slB (F pt) v)) (hi + 1 - lo).toNat lo) ∧ ∀ k, 0 ≤ k → k < suS (gI F eye S W pt) 1000 0 → ktS (gI F eye S W pt) 1000 0 k = ktS (fun v => bI (slB (F pt) v)) (hi + 1 - lo).toNat lo k := by
  have hg : ∀ v, 0 ≤ v → v ≤ 999 → (lo ≤ v ∧ v ≤ hi) → gI F eye S W pt v = bI (slB (F pt) v) := by
    intro v v0 v1 h
    have af := (af_up (F := F) (eye := eye) (b := v) s hq).mpr ⟨h0, ((hN v).mp h).2⟩
    unfold gI gB
    rw [decide_eq_true ((alU_0 _ _ s).mpr af), Bool.and_true]
  have hz : ∀ v, 0 ≤ v → v ≤ 999 → ¬ (lo ≤ v ∧ v ≤ hi) → gI F eye S W pt v = 0 := by
    intro v v0 v1 h
    have af : ¬ AF (upF F pt v) eye S W := fun z => h ((hN v).mpr ⟨⟨v0, v1⟩, ((af_up s hq).mp z).2⟩)
    unfold gI gB
    rw [decide_eq_false (fun z => af ((alU_0 _ _ s).mp z)), Bool.and_false]; rfl
  by_cases q : lo ≤ hi
  · have b1 := ((hN lo).mp ⟨Int.le_refl _, q⟩).1
    have b2 := ((hN hi).mp ⟨q, Int.le_refl _⟩).1
    obtain ⟨A, eA⟩ : ∃ A : Nat, lo = (A : Int) := ⟨lo.toNat, by omega⟩
    obtain ⟨B, eB⟩ : ∃ B : Nat, hi + 1 - lo = (B : Int) := ⟨(hi + 1 - lo).toNat, by omega⟩
    obtain ⟨D, eD⟩ : ∃ D : Nat, 1000 = A + (B + D) := ⟨1000 - A - B, by omega⟩
    have eN : (hi + 1 - lo).toNat = B := by omega
    have s1 : suS (gI F eye S W pt) 1000 0 = suS (fun v => bI (slB (F pt) v)) (hi + 1 - lo).toNat lo := by
      rw [eD, suS_add, suS_add, suS_z A 0 (fun y y0 y1 => hz y y0 (by omega) (by omega)), suS_z D _ (fun y y0 y1 => hz y (by omega) (by omega) (by omega)), suS_congr B _ (fun y y0 y1 => hg y (by omega) (by omega) (by omega)), eN, eA]
      simp
    refine ⟨s1, fun k k0 k1 => ?_⟩
    rw [s1] at k1
    have c1 : ktS (gI F eye S W pt) 1000 0 k = ktS (gI F eye S W pt) (B + D) lo k := by
      rw [eD, ktS_z A (B + D) 0 k (fun y y0 y1 => hz y y0 (by omega) (by omega)), eA, Int.zero_add]
    have c2 : suS (gI F eye S W pt) B lo = suS (fun v => bI (slB (F pt) v)) (hi + 1 - lo).toNat lo := by
      rw [eN]; exact suS_congr B _ (fun y y0 y1 => hg y (by omega) (by omega) (by omega))
    rw [c1, ktS_p B D lo k (fun y _ _ => gI01 _ _ _ _ _ _) k0 (by rw [c2]; exact k1), eN]
    exact ktS_c B lo k (fun y y0 y1 => hg y (by omega) (by omega) (by omega))
  · have s1 : suS (gI F eye S W pt) 1000 0 = 0 := suS_z 1000 0 (fun y y0 y1 => hz y y0 (by omega) (by omega))
    refine ⟨by rw [s1, show (hi + 1 - lo).toNat = 0 by omega]; rfl, fun k k0 k1 => ?_⟩
    rw [s1] at k1; omega
theorem sl_non {F : Int → Int} {eye S W pt : Int} (s : gSW S W) (hq : Pt S W pt) (h0 : ¬ alC F eye (Sheet_bit pt) S W = 0) : suS (gI F eye S W pt) 1000 0 = 0 := by
  refine suS_z 1000 0 (fun v _ _ => ?_)
  have af : ¬ AF (upF F pt v) eye S W := fun z => h0 ((af_up s hq).mp z).1
  unfold gI gB
  rw [decide_eq_false (fun z => af ((alU_0 _ _ s).mp z)), Bool.and_false]; rfl
