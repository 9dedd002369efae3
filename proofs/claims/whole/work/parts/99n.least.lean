/-! layer 2: the least moves, the class's side -/
theorem c_chosen {m : Mem} {n : Int} (en : m 32 3 = n) (n0 : 0 ≤ n) (n5 : n ≤ 5) (hP : ∀ k, 0 ≤ k → k < n → 0 ≤ m 33 k ∧ m 33 k < 64) {d : Int} (d0 : 0 ≤ d) (d1 : d ≤ 5) : ∃ K, Mender_chosenFrom d m = some K ∧ ∀ q, 0 ≤ q → q < 64 → (kb K q = true ↔ ∃ k, d ≤ k ∧ k < n ∧ m 33 k = q) := by
  have key : ∀ (f : Nat) (v k : Int), 0 ≤ k → k ≤ 5 → (5 - k).toNat < f → ∃ K, Mender_chosenFrom_L9 m f v k = some K ∧ ∀ q, 0 ≤ q → q < 64 → (kb K q = true ↔ (kb v q = true ∨ ∃ i, k ≤ i ∧ i < n ∧ m 33 i = q)) := by
    intro f
    induction f with
    | zero => intro v k _ _ q; omega
    | succ f ih =>
      intro v k k0 k5 hf
      rw [Mender_chosenFrom_L9, en, w32_id (x := n) (by omega) (by omega), w32_id (x := k) (by omega) (by omega)]
      by_cases q : n ≤ k
      · rw [if_pos q]
        refine ⟨v, rfl, fun x _ _ => ⟨Or.inl, fun z => ?_⟩⟩
        rcases z with z | ⟨i, i1, i2, _⟩
        · exact z
        · omega
      · rw [if_neg q, if_neg (by omega), if_pos (by omega)]
        obtain ⟨K, e, hK⟩ := ih (lOr v (Sheet_bit (m 33 k))) (k + 1) (by omega) (by omega) (by omega)
        refine ⟨K, e, fun x x0 x1 => ?_⟩
        have hb := hP k k0 (by omega)
        rw [hK x x0 x1, kb_set hb.1 hb.2 x0 x1, Bool.or_eq_true, decide_eq_true_iff]
        constructor
        · rintro ((z | z) | ⟨i, i1, i2, i3⟩)
          · exact Or.inl z
          · exact Or.inr ⟨k, by omega, by omega, z.symm⟩
          · exact Or.inr ⟨i, by omega, i2, i3⟩
        · rintro (z | ⟨i, i1, i2, i3⟩)
          · exact Or.inl (Or.inl z)
          · by_cases y : i = k
            · subst y; exact Or.inl (Or.inr i3.symm)
            · exact Or.inr ⟨i, by omega, i2, i3⟩
  obtain ⟨K, e, hK⟩ := key FU 0 d d0 d1 (by rw [FU_eq]; omega)
  refine ⟨K, ?_, fun q q0 q1 => ?_⟩
  · unfold Mender_chosenFrom
    rw [jmx2 (by omega) (by omega) (by omega) (by omega), show (if (0 : Int) < d then d else 0) = d by split <;> omega]
    exact e
  · rw [hK q q0 q1, kb_0]; simp
theorem hold_tc {S W v l p K : Int} {P : Int → Int} {d n : Int} (s : gSW S W) (hp : isPl S W v l p) (hK : ∀ q, 0 ≤ q → q < 64 → (kb K q = true ↔ ∃ k, d ≤ k ∧ k < n ∧ P k = q)) : w64 (lAnd K (Sheet_hold (fsS S v l + srS v * p) (srS v))) = 0 ↔ ∀ k, d ≤ k → k < n → ¬ Tc (fsS S v l) (srS v) p (P k) := by
  obtain ⟨q0, q1, q2, q3⟩ := pl4 s hp
  have sb := srS_b v
  have i1 : fsS S v l + srS v * (p - 1) = fsS S v l + srS v * p - srS v := by rw [Int.mul_sub, Int.mul_one]; omega
  have i2 : fsS S v l + srS v * (p - 2) = fsS S v l + srS v * p - 2 * srS v := by rw [Int.mul_sub]; omega
  have i3 : fsS S v l + srS v * (p + 1) = fsS S v l + srS v * p + srS v := by rw [Int.mul_add, Int.mul_one]; omega
  have r0 := pt64 s q0
  have r1 := pt64 s q1
  have r2 := pt64 s q2
  have r3 := pt64 s q3
  unfold Tc
  rw [i1, i2, i3]
  rw [i1] at r1; rw [i2] at r2; rw [i3] at r3
  have kf : ∀ q, 0 ≤ q → q < 64 → (kb K q = false ↔ ∀ k, d ≤ k → k < n → ¬ P k = q) := by
    intro q a b
    rw [← Bool.not_eq_true, hK q a b]
    exact ⟨fun z k k1 k2 k3 => z ⟨k, k1, k2, k3⟩, fun z ⟨k, k1, k2, k3⟩ => z k k1 k2 k3⟩
  rw [hold_kb sb.1 r2.1 r3.2, kf _ r2.1 r2.2, kf _ r1.1 r1.2, kf _ r0.1 r0.2, kf _ r3.1 r3.2]
  constructor
  · rintro ⟨z1, z2, z3, z4⟩ k k1 k2 (y | y | y | y)
    · exact z3 k k1 k2 y
    · exact z2 k k1 k2 y
    · exact z1 k k1 k2 y
    · exact z4 k k1 k2 y
  · intro z
    exact ⟨fun k k1 k2 y => z k k1 k2 (Or.inr (Or.inr (Or.inl y))), fun k k1 k2 y => z k k1 k2 (Or.inr (Or.inl y)), fun k k1 k2 y => z k k1 k2 (Or.inl y), fun k k1 k2 y => z k k1 k2 (Or.inr (Or.inr (Or.inr y)))⟩
/-- the class's memory amid its search -/
def Le (m mm : Mem) (F : Int → Int) (b : Bs) (n : Int) : Prop := ((∀ c, c ≠ 7 → c ≠ 10 → c ≠ 32 → c ≠ 34 → c ≠ 35 → mm c = m c) ∧ (∀ i, i ≠ 14 → i ≠ 15 → mm 7 i = m 7 i) ∧ (∀ i, i ≠ 5 → i ≠ 6 → mm 32 i = m 32 i)) ∧ mm 10 = F ∧ (mm 32 6 = b.1 ∧ mm 32 5 = b.2.1) ∧ (0 ≤ b.1 ∧ b.1 ≤ 1073741824 ∧ 0 ≤ b.2.1 ∧ b.2.1 ≤ 1073741824) ∧ (b.1 = 1073741824 ∨ ∀ k, 0 ≤ k → k < n → mm 35 k = b.2.2 k)
theorem Le.nw {m mm m' : Mem} {F : Int → Int} {b : Bs} {n : Int} (h : Le m mm F b n) (h' : Nw mm m') : Le m m' F b n := by
  obtain ⟨⟨h1, h2, h3⟩, h4, h5, h6, h7⟩ := h
  refine ⟨⟨fun c a1 a2 a3 a4 a5 => (h'.1 c a1).trans (h1 c a1 a2 a3 a4 a5), fun i a1 a2 => (h'.2 i a1 a2).trans (h2 i a1 a2), fun i a1 a2 => ?_⟩, ?_, ?_, h6, ?_⟩
  · rw [h'.1 32 (by decide)]; exact h3 i a1 a2
  · rw [h'.1 10 (by decide)]; exact h4
  · rw [h'.1 32 (by decide)]; exact h5
  · rw [h'.1 35 (by decide)]; exact h7
theorem Le.put {m mm : Mem} {F : Int → Int} {b : Bs} {n : Int} (h : Le m mm F b n) (i v : Int) : Le m (st mm 10 i v) (upF F i v) b n := by
  obtain ⟨⟨h1, h2, h3⟩, h4, h5, h6, h7⟩ := h
  refine ⟨⟨fun c a1 a2 a3 a4 a5 => ?_, h2, h3⟩, ?_, h5, h6, h7⟩
  · rw [st_ne _ _ _ a2]; exact h1 c a1 a2 a3 a4 a5
  · funext x; rw [st_eq, h4]; rfl
theorem Le.m34 {m mm : Mem} {F : Int → Int} {b : Bs} {n : Int} (h : Le m mm F b n) (i v : Int) : Le m (st mm 34 i v) F b n := by
  obtain ⟨⟨h1, h2, h3⟩, h4, h5, h6, h7⟩ := h
  refine ⟨⟨fun c a1 a2 a3 a4 a5 => ?_, h2, h3⟩, h4, h5, h6, h7⟩
  rw [st_ne _ _ _ a4]; exact h1 c a1 a2 a3 a4 a5
/-- what the class's search is about -/
def Lq (m : Mem) (n : Nat) (r : Int) : Prop := (gSW (m 7 0) (m 7 1)) ∧ (m 32 3 = n) ∧ (m 32 4 = r) ∧ (n ≤ 5) ∧ (1 ≤ r) ∧ (r ≤ 3) ∧ (0 ≤ m 7 4 ∧ m 7 4 ≤ 999) ∧ (∀ k : Int, 0 ≤ k → k < n → Pt (m 7 0) (m 7 1) (m 33 k)) ∧ (∀ i k : Int, 0 ≤ i → i < k → k < n → m 33 i ≠ m 33 k) ∧ (Fb (m 7 0) (m 7 1) (m 10))
theorem Lq.s {m : Mem} {n : Nat} {r : Int} (q : Lq m n r) : gSW (m 7 0) (m 7 1) := q.1
theorem Lq.e3 {m : Mem} {n : Nat} {r : Int} (q : Lq m n r) : m 32 3 = n := q.2.1
theorem Lq.e4 {m : Mem} {n : Nat} {r : Int} (q : Lq m n r) : m 32 4 = r := q.2.2.1
theorem Lq.n5 {m : Mem} {n : Nat} {r : Int} (q : Lq m n r) : n ≤ 5 := q.2.2.2.1
theorem Lq.r1 {m : Mem} {n : Nat} {r : Int} (q : Lq m n r) : 1 ≤ r := q.2.2.2.2.1
theorem Lq.r3 {m : Mem} {n : Nat} {r : Int} (q : Lq m n r) : r ≤ 3 := q.2.2.2.2.2.1
theorem Lq.ey {m : Mem} {n : Nat} {r : Int} (q : Lq m n r) : 0 ≤ m 7 4 ∧ m 7 4 ≤ 999 := q.2.2.2.2.2.2.1
theorem Lq.pt {m : Mem} {n : Nat} {r : Int} (q : Lq m n r) : ∀ k : Int, 0 ≤ k → k < n → Pt (m 7 0) (m 7 1) (m 33 k) := q.2.2.2.2.2.2.2.1
theorem Lq.inj {m : Mem} {n : Nat} {r : Int} (q : Lq m n r) : ∀ i k : Int, 0 ≤ i → i < k → k < n → m 33 i ≠ m 33 k := q.2.2.2.2.2.2.2.2.1
theorem Lq.fb {m : Mem} {n : Nat} {r : Int} (q : Lq m n r) : Fb (m 7 0) (m 7 1) (m 10) := q.2.2.2.2.2.2.2.2.2
/-- the places that no chosen point from d on bears on are fair -/
def Lvv (m : Mem) (n : Nat) (o : Int → Int) (d : Nat) : Prop := ∀ v l p, isPl (m 7 0) (m 7 1) v l p → (∀ k : Int, d ≤ k → k < n → ¬ Tc (fsS (m 7 0) v l) (srS v) p (m 33 k)) → ufS (ovr (m 10) (m 33) o d) (m 7 4) (fsS (m 7 0) v l) (srS v) p = 0
theorem upF_2 (F : Int → Int) (q a b : Int) : upF (upF F q a) q b = upF F q b := by
  funext x; unfold upF; by_cases h : x = q
  · rw [if_pos h, if_pos h]
  · rw [if_neg h, if_neg h, if_neg h]
theorem upF_s (F : Int → Int) (q : Int) : upF F q (F q) = F := by
  funext x; unfold upF; by_cases h : x = q
  · rw [if_pos h, h]
  · rw [if_neg h]
theorem put7 {m : Mem} {p v : Int} (h0 : 0 ≤ p) (h1 : p < 64) : Sheet_put 7 p v m = st m 10 p v := by
  unfold Sheet_put
  rw [w32_id (by omega) (by omega), if_neg (by omega), if_neg (by omega)]
/-- the breadths of one level -/
theorem c_t134 {m : Mem} {n : Nat} {r : Int} (q : Lq m n r) {REC : Int → Int → Int → Mem → Option Mem} {T : Bs → (Int → Int) → Bs} {d : Nat} {o : Int → Int} {hi : Int} (hd : d < n) (hi0 : -30000 ≤ hi) (ho : ∀ k : Int, 0 ≤ k → k < d → -3 ≤ o k ∧ o k ≤ 3) (hl : m 10 (m 33 d) + r ≥ hi) {lo : Int} (hl2 : lo ≥ m 10 (m 33 d) - r)
    (hR : ∀ (v : Int) (b : Bs) (mm : Mem), lo ≤ v → v ≤ hi → Le m mm (upF (ovr (m 10) (m 33) o d) (m 33 d) v) b n → (∀ k : Int, 0 ≤ k → k < (d : Int) + 1 → mm 34 k = upF o d (v - m 10 (m 33 d)) k) → ∃ mm', REC ((d : Int) + 1) (smS (upF o d (v - m 10 (m 33 d))) (d + 1)) (mvS (upF o d (v - m 10 (m 33 d))) (d + 1)) mm = some mm' ∧ Le m mm' (upF (ovr (m 10) (m 33) o d) (m 33 d) v) (T b (upF o d (v - m 10 (m 33 d)))) n ∧ ∀ k : Int, 0 ≤ k → k < (d : Int) + 1 → mm' 34 k = upF o d (v - m 10 (m 33 d)) k) :
    ∀ (f : Nat) (v : Int) (b : Bs) (mm : Mem) (y : Int), lo ≤ v → v ≤ 30000 → (hi + 1 - v).toNat < f → Le m mm (upF (ovr (m 10) (m 33) o d) (m 33 d) y) b n → (∀ k : Int, 0 ≤ k → k < (d : Int) → mm 34 k = o k) → ∃ mm', Mender_tryFrom_L134 REC d (smS o d) (mvS o d) (m 33 d) (m 10 (m 33 d)) hi f v mm = some mm' ∧ Le m mm' (ovr (m 10) (m 33) o d) (foS (fun x b => T b (upF o d (x - r))) (hi + 1 - v).toNat (v - m 10 (m 33 d) + r) b) n ∧ ∀ k : Int, 0 ≤ k → k < (d : Int) → mm' 34 k = o k := by
  have hpt := q.pt d (by omega) (by omega)
  have p64 := pt64 q.s hpt
  have r1 := q.r1
  have r3 := q.r3
  have n5 := q.n5
  have fb := q.fb _ hpt
  have sb := smS_b d ho
  have mb := mvS_b o d
  intro f
  induction f with
  | zero => intro v b mm y _ _ z; omega
  | succ f ih =>
    intro v b mm y v0 v1 hf hm h34
    rw [Mender_tryFrom_L134, w32_id (x := hi) (by omega) (by omega), w32_id (x := v) (by omega) (by omega), w32_id (x := (d : Int)) (by omega) (by omega)]
    by_cases g : hi < v
    · rw [if_pos g, put7 p64.1 p64.2, show (hi + 1 - v).toNat = 0 by omega, foS]
      refine ⟨_, rfl, ?_, h34⟩
      have := hm.put (m 33 d) (m 10 (m 33 d))
      rw [upF_2] at this
      have e : ovr (m 10) (m 33) o d (m 33 d) = m 10 (m 33 d) := ovr_ne d (fun k a b => q.inj k d a b (by omega))
      rw [show upF (ovr (m 10) (m 33) o d) (m 33 d) (m 10 (m 33 d)) = ovr (m 10) (m 33) o d from by
        rw [← e]; rw [e]; conv => lhs; rw [← e]
        exact upF_s _ _] at this
      exact this
    · rw [if_neg g, if_pos (by omega), put7 p64.1 p64.2]
      have ag : ∀ i : Int, 0 ≤ i → i < d → upF o d (v - m 10 (m 33 d)) i = o i := fun i a b => by unfold upF; rw [if_neg (by omega)]
      have ed : upF o d (v - m 10 (m 33 d)) d = v - m 10 (m 33 d) := by unfold upF; rw [if_pos rfl]
      have e1 : smS o d + J_abs (v - m 10 (m 33 d)) = smS (upF o d (v - m 10 (m 33 d))) (d + 1) := by
        rw [smS, smS_c d ag, ed, jabs (by omega) (by omega)]
      have e2 : (if ¬ (w32 (J_abs (v - m 10 (m 33 d)))) = 0 then (mvS o d + 1) else mvS o d : Int) = mvS (upF o d (v - m 10 (m 33 d))) (d + 1) := by
        rw [mvS, mvS_c d ag, ed, jabs (by omega) (by omega), w32_id (x := iab (v - m 10 (m 33 d))) (by unfold iab; omega) (by unfold iab; omega)]
        by_cases z : v - m 10 (m 33 d) = 0
        · rw [if_neg (by rw [z]; decide), if_pos z, Int.add_zero]
        · rw [if_pos (by unfold iab; omega), if_neg z]
      rw [e1, e2]
      have hm2 := (hm.m34 d (v - m 10 (m 33 d))).put (m 33 d) v
      rw [upF_2] at hm2
      obtain ⟨m', a1, a2, a3⟩ := hR v b (st (st mm 34 d (v - m 10 (m 33 d))) 10 (m 33 d) v) v0 (by omega) hm2 (fun k k0 k1 => by
        rw [st_ne _ _ _ (by decide), st_eq]
        by_cases z : k = d
        · rw [if_pos z, z, ed]
        · rw [if_neg z, h34 k k0 (by omega), ag k k0 (by omega)])
      rw [a1, bV_some]
      obtain ⟨m2, b1, b2, b3⟩ := ih (v + 1) _ m' v (by omega) (by omega) (by omega) a2 (fun k k0 k1 => by rw [a3 k k0 (by omega), ag k k0 k1])
      refine ⟨m2, b1, ?_, b3⟩
      rw [show (hi + 1 - v).toNat = (hi + 1 - (v + 1)).toNat + 1 by omega, foS, show v - m 10 (m 33 d) + r + 1 = v + 1 - m 10 (m 33 d) + r by omega, show v - m 10 (m 33 d) + r - r = v - m 10 (m 33 d) by omega]
      exact b2
theorem c_tryH {m mm : Mem} {n : Nat} {F : Int → Int} {b : Bs} {d dep : Nat} {o : Int → Int} (hm : Le m mm F b n) (sb : 0 ≤ smS o d ∧ smS o d ≤ 100) (mb : 0 ≤ mvS o d ∧ mvS o d ≤ 100) : ((b.1 < smS o d ∨ (smS o d = b.1 ∧ b.2.1 ≤ mvS o d)) → Mender_tryFromR (dep + 1) d (smS o d) (mvS o d) mm = some mm) ∧ (¬ (b.1 < smS o d ∨ (smS o d = b.1 ∧ b.2.1 ≤ mvS o d)) → Mender_tryFromR (dep + 1) d (smS o d) (mvS o d) mm = Mender_tryFrom_J26 (Mender_tryFromR dep) d (smS o d) (mvS o d) mm) := by
  obtain ⟨-, -, ⟨h5, h6⟩, h7, -⟩ := hm
  rw [Mender_tryFromR, h5, h6, w32_id (x := b.1) (by omega) (by omega), w32_id (x := b.2.1) (by omega) (by omega), w32_id (x := smS o d) (by omega) (by omega), w32_id (x := mvS o d) (by omega) (by omega)]
  refine ⟨fun z => ?_, fun z => ?_⟩
  · by_cases g : b.1 < smS o d
    · rw [if_pos g]
    · rw [if_neg g, if_neg (by omega), if_neg (by omega)]
  · rw [if_neg (by omega)]
    by_cases g : smS o d = b.1
    · rw [if_neg (by omega), if_pos (by omega)]
    · rw [if_pos g]
theorem c_try {m : Mem} {n : Nat} {r : Int} (q : Lq m n r) : ∀ (j dep d : Nat) (o : Int → Int) (b : Bs) (mm : Mem), d + j = n → j < dep → Le m mm (ovr (m 10) (m 33) o d) b n → (∀ k : Int, 0 ≤ k → k < d → mm 34 k = o k) → (∀ k : Int, 0 ≤ k → k < d → (-3 ≤ o k ∧ o k ≤ 3) ∧ 0 ≤ m 10 (m 33 k) + o k ∧ m 10 (m 33 k) + o k ≤ 999) → Lvv m n o d → ∃ mm', Mender_tryFromR dep d (smS o d) (mvS o d) mm = some mm' ∧ Le m mm' (ovr (m 10) (m 33) o d) (lfS (lfT (m 10) (m 33) (m 7 4) (m 7 0) (m 7 1) n) r j d o b) n ∧ ∀ k : Int, 0 ≤ k → k < d → mm' 34 k = o k := by
  have n5 := q.n5
  have r1 := q.r1
  have r3 := q.r3
  intro j
  induction j with
  | zero =>
    intro dep d o b mm hd hdep hm h34 hv hl
    obtain ⟨dep, rfl⟩ : ∃ x, dep = x + 1 := ⟨dep - 1, by omega⟩
    have sb := smS_b d (fun k a b => (hv k a b).1)
    have mb := mvS_b o d
    obtain ⟨t1, t2⟩ := c_tryH (d := d) (dep := dep) (o := o) hm (by omega) (by omega)
    by_cases g : b.1 < smS o d ∨ (smS o d = b.1 ∧ b.2.1 ≤ mvS o d)
    · rw [t1 g, lfS_id 0 d o (fun o' ho => lfT_no (by omega) ho g)]
      exact ⟨mm, rfl, hm, h34⟩
    · have dn : d = n := by omega
      subst dn
      rw [t2 g]
      unfold Mender_tryFrom_J26
      rw [hm.1.2.2 3 (by decide) (by decide), q.e3, w32_id (x := (d : Int)) (by omega) (by omega), if_neg (by omega), if_pos (by omega)]
      have af : alU (ovr (m 10) (m 33) o d) (m 7 4) (m 7 0) (m 7 1) = 0 := (alU_0 _ _ q.s).mpr (fun v l p hp => hl v l p hp (fun k a b => by omega))
      have eT : lfS (lfT (m 10) (m 33) (m 7 4) (m 7 0) (m 7 1) d) r 0 d o b = (smS o d, mvS o d, fun k : Int => if 0 ≤ k ∧ k < d then o k else 0) := by
        rw [lfS]; unfold lfT
        rw [if_pos ⟨fun k hk => (hv k (by omega) (by omega)).2, af, by omega⟩]
      refine ⟨_, rfl, ?_, fun k a b => ?_⟩
      · rw [eT]
        obtain ⟨⟨h1, h2, h3⟩, h4, h5, h6, h7⟩ := hm
        have cp : ∀ c, c ≠ 35 → cpy (st (st mm 32 6 (smS o d)) 32 5 (mvS o d)) 34 0 35 0 5 c = (st (st mm 32 6 (smS o d)) 32 5 (mvS o d)) c := fun c hc => by funext i; unfold cpy; rw [if_neg hc]
        refine ⟨⟨fun c a1 a2 a3 a4 a5 => ?_, fun i a1 a2 => ?_, fun i a1 a2 => ?_⟩, ?_, ⟨?_, ?_⟩, ⟨sb.1, by show smS o d ≤ _; omega, mb.1, by show mvS o d ≤ _; omega⟩, Or.inr (fun k a b => ?_)⟩
        · rw [cp c a5, st_ne _ _ _ a3, st_ne _ _ _ a3]; exact h1 c a1 a2 a3 a4 a5
        · rw [cp 7 (by decide), st_ne _ _ _ (by decide), st_ne _ _ _ (by decide)]; exact h2 i a1 a2
        · rw [cp 32 (by decide), st_eq, if_neg a1, st_eq, if_neg a2]; exact h3 i a1 a2
        · rw [cp 10 (by decide), st_ne _ _ _ (by decide), st_ne _ _ _ (by decide)]; exact h4
        · rw [cp 32 (by decide), st_eq, if_neg (by decide), st_eq, if_pos rfl]
        · rw [cp 32 (by decide), st_eq, if_pos rfl]
        · unfold cpy
          rw [if_pos rfl, if_pos (by omega), st_ne _ _ _ (by decide), st_ne _ _ _ (by decide), show (0 : Int) + (k - 0) = k by omega, h34 k a b]
          show o k = if 0 ≤ k ∧ k < d then o k else 0
          rw [if_pos ⟨a, b⟩]
      · unfold cpy
        rw [if_neg (by decide), st_ne _ _ _ (by decide), st_ne _ _ _ (by decide)]; exact h34 k a b
  | succ j ih =>
    intro dep d o b mm hd hdep hm h34 hv hl
    obtain ⟨dep, rfl⟩ : ∃ x, dep = x + 1 := ⟨dep - 1, by omega⟩
    have sb := smS_b d (fun k a b => (hv k a b).1)
    have mb := mvS_b o d
    obtain ⟨t1, t2⟩ := c_tryH (d := d) (dep := dep) (o := o) hm (by omega) (by omega)
    by_cases g : b.1 < smS o d ∨ (smS o d = b.1 ∧ b.2.1 ≤ mvS o d)
    · rw [t1 g, lfS_id (j + 1) d o (fun o' ho => lfT_no (by omega) ho g)]
      exact ⟨mm, rfl, hm, h34⟩
    rw [t2 g]
    have hpt := q.pt d (by omega) (by omega)
    have p64 := pt64 q.s hpt
    have fb := q.fb _ hpt
    have e33 : mm 33 = m 33 := hm.1.1 33 (by decide) (by decide) (by decide) (by decide) (by decide)
    have e10 : mm 10 = ovr (m 10) (m 33) o d := hm.2.1
    have e7 : ∀ i, i ≠ 14 → i ≠ 15 → mm 7 i = m 7 i := hm.1.2.1
    have enow : ovr (m 10) (m 33) o d (m 33 d) = m 10 (m 33 d) := ovr_ne d (fun k a b => q.inj k d a b (by omega))
    unfold Mender_tryFrom_J26
    rw [hm.1.2.2 3 (by decide) (by decide), q.e3, w32_id (x := (d : Int)) (by omega) (by omega), w32_id (x := (n : Int)) (by omega) (by omega), if_neg (by omega), if_neg (by omega), if_pos (by omega)]
    obtain ⟨K, c1, c2⟩ := c_chosen (m := mm) (n := n) (by rw [hm.1.2.2 3 (by decide) (by decide)]; exact q.e3) (by omega) (by omega) (fun k a b => by rw [e33]; exact pt64 q.s (q.pt k a b)) (d := (d : Int) + 1) (by omega) (by omega)
    rw [e33] at c2
    rw [c1, bP_some, e33]
    obtain ⟨m9, n1, n2, n3, n4, n5', n6, n7⟩ := c_narrow (m := mm) (pt := m 33 d) (K := K) (by rw [e7 0 (by decide) (by decide), e7 1 (by decide) (by decide)]; exact q.s) (by rw [e7 0 (by decide) (by decide), e7 1 (by decide) (by decide)]; exact hpt) (by rw [e7 0 (by decide) (by decide), e7 1 (by decide) (by decide), e10]; exact ovr_b q.fb d (fun k a b => (hv k a b).2)) (by rw [e7 4 (by decide) (by decide)]; exact q.ey.1) (by rw [e7 4 (by decide) (by decide)]; exact q.ey.2)
    rw [e7 0 (by decide) (by decide), e7 1 (by decide) (by decide), e7 4 (by decide) (by decide), e10] at n7
    rw [n1, bV_some, c_at p64.1 p64.2, e10, enow, n2.1 32 (by decide), hm.1.2.2 4 (by decide) (by decide), q.e4, jmn2 (by omega) (by omega) (by omega) (by omega), jmx2 (by omega) (by omega) (by omega) (by omega)]
    obtain ⟨HI, eHI⟩ : ∃ x, (if m 10 (m 33 d) + r < m9 7 15 then m 10 (m 33 d) + r else m9 7 15) = x := ⟨_, rfl⟩
    obtain ⟨LO, eLO⟩ : ∃ x, (if m9 7 14 < m 10 (m 33 d) - r then m 10 (m 33 d) - r else m9 7 14) = x := ⟨_, rfl⟩
    rw [eHI, eLO]
    have bHI : HI ≤ m 10 (m 33 d) + r ∧ HI ≤ m9 7 15 ∧ (HI = m 10 (m 33 d) + r ∨ HI = m9 7 15) := by
      by_cases z : m 10 (m 33 d) + r < m9 7 15
      · rw [if_pos z] at eHI; omega
      · rw [if_neg z] at eHI; omega
    have bLO : m 10 (m 33 d) - r ≤ LO ∧ m9 7 14 ≤ LO ∧ (LO = m 10 (m 33 d) - r ∨ LO = m9 7 14) := by
      by_cases z : m9 7 14 < m 10 (m 33 d) - r
      · rw [if_pos z] at eLO; omega
      · rw [if_neg z] at eLO; omega
    clear eHI eLO
    have eov : ∀ v : Int, ovr (m 10) (m 33) (upF o d (v - m 10 (m 33 d))) (d + 1) = upF (ovr (m 10) (m 33) o d) (m 33 d) v := by
      intro v
      rw [ovr, ovr_c (o := o) d (fun i a b => by unfold upF; rw [if_neg (by omega)])]
      have e : m 10 (m 33 d) + upF o d (v - m 10 (m 33 d)) d = v := by unfold upF; rw [if_pos rfl]; omega
      rw [e]
    have skip : ∀ (x : Int) (b : Bs), ¬ (m9 7 14 ≤ m 10 (m 33 d) + x - r ∧ m 10 (m 33 d) + x - r ≤ m9 7 15) → lfS (lfT (m 10) (m 33) (m 7 4) (m 7 0) (m 7 1) n) r j ((d : Int) + 1) (upF o d (x - r)) b = b := by
      intro x b hx
      refine lfS_id j ((d : Int) + 1) _ (fun o' ho => ?_)
      unfold lfT
      rw [if_neg]
      rintro ⟨vl, al, -⟩
      apply hx
      have af := (alU_0 _ _ q.s).mp al
      have od : o' d = x - r := by rw [ho d (by omega)]; unfold upF; rw [if_pos rfl]
      refine (n7 _).mpr ⟨?_, ?_⟩
      · have := vl d (by omega); rw [od] at this; omega
      · intro v l p hp ht hw
        have hw' := (hold_tc q.s hp c2).mp hw
        have a1 := af v l p hp
        obtain ⟨i, hi⟩ : ∃ i, n = (d + 1) + i := ⟨n - (d + 1), by omega⟩
        rw [hi, uf_ov (d + 1) i (fun k a b => hw' k (by omega) (by omega))] at a1
        rw [ovr_c (o := upF o d (x - r)) (d + 1) (fun i a b => ho i (by omega))] at a1
        have := eov (m 10 (m 33 d) + x - r)
        rw [show m 10 (m 33 d) + x - r - m 10 (m 33 d) = x - r by omega] at this
        rw [this] at a1
        exact a1
    have loop := c_t134 q (REC := Mender_tryFromR dep) (T := fun b o' => lfS (lfT (m 10) (m 33) (m 7 4) (m 7 0) (m 7 1) n) r j ((d : Int) + 1) o' b) (d := d) (o := o) (hi := HI) (by omega) (by omega) (fun k a b => (hv k a b).1) (by omega) (lo := LO) (by omega) (by
      intro v b mm' v0 v1 hm' h34'
      have nv := (n7 v).mp ⟨by omega, by omega⟩
      have := ih dep (d + 1) (upF o d (v - m 10 (m 33 d))) b mm' (by omega) (by omega) (by rw [eov]; exact hm') (fun k a b => h34' k a (by omega)) (by
        intro k a b
        by_cases z : k = d
        · subst z; unfold upF; rw [if_pos rfl]; omega
        · unfold upF; rw [if_neg z]; exact hv k a (by omega)) (by
        intro v' l p hp hk
        rw [eov]
        by_cases ht : Tc (fsS (m 7 0) v' l) (srS v') p (m 33 d)
        · exact nv.2 v' l p hp ht ((hold_tc q.s hp c2).mpr (fun k a b => hk k (by omega) b))
        · rw [uf_nt ht]
          refine hl v' l p hp (fun k a b => ?_)
          by_cases z : k = d
          · rw [z]; exact ht
          · exact hk k (by omega) b)
      rw [eov] at this
      obtain ⟨mm2, x1, x2, x3⟩ := this
      exact ⟨mm2, x1, x2, fun k a b => x3 k a (by omega)⟩)
    obtain ⟨mm2, y1, y2, y3⟩ := loop FU LO b m9 (m 10 (m 33 d)) (by omega) (by omega) (by rw [FU_eq]; omega) (by
      have e : upF (ovr (m 10) (m 33) o d) (m 33 d) (m 10 (m 33 d)) = ovr (m 10) (m 33) o d := by
        have := upF_s (ovr (m 10) (m 33) o d) (m 33 d)
        rw [enow] at this; exact this
      rw [e]; exact hm.nw n2) (fun k a b => by rw [n2.1 34 (by decide)]; exact h34 k a b)
    refine ⟨mm2, y1, ?_, y3⟩
    have efo : lfS (lfT (m 10) (m 33) (m 7 4) (m 7 0) (m 7 1) n) r (j + 1) d o b = foS (fun x b => lfS (lfT (m 10) (m 33) (m 7 4) (m 7 0) (m 7 1) n) r j ((d : Int) + 1) (upF o d (x - r)) b) (HI + 1 - LO).toNat (LO - m 10 (m 33 d) + r) b := by
      rw [lfS]
      by_cases z : LO ≤ HI
      · rw [show (2 * r + 1).toNat = (LO - m 10 (m 33 d) + r).toNat + ((HI + 1 - LO).toNat + (m 10 (m 33 d) + r - HI).toNat) by omega, foS_add, foS_add, foS_id (LO - m 10 (m 33 d) + r).toNat 0 (fun y y0 y1 => skip y b (by omega)), show (0 : Int) + ((LO - m 10 (m 33 d) + r).toNat : Int) = LO - m 10 (m 33 d) + r by omega]
        exact foS_id _ _ (fun y y0 y1 => skip y _ (by omega))
      · rw [show (HI + 1 - LO).toNat = 0 by omega]
        exact foS_id _ _ (fun y y0 y1 => skip y b (by omega))
    rw [efo]
    exact y2
