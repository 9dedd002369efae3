/-! layer 2: planks, tried one by one -/
noncomputable def wkS (F : Int → Int) (R s k : Int) : Int := rtS (hyS R (F (8 * s + k)) (F (8 * s + (k + 1))))
noncomputable def wdS (F : Int → Int) (R a b s : Int) : Int := suS (wkS F R s) (b + 1 - a).toNat a
theorem wkS_b {F : Int → Int} {S W R s k : Int} (hs : gSW S W) (hF : ∀ q, Pt S W q → 0 ≤ F q ∧ F q ≤ 999) (r0 : 0 ≤ R) (r1 : R ≤ 999) (s0 : 0 ≤ s) (s1 : s < S) (k0 : 0 ≤ k) (k1 : k < W - 1) : 0 ≤ wkS F R s k ∧ wkS F R s k ≤ 2000 := by
  have h1 := hF _ (pt8 hs s0 s1 k0 (show k < W by omega))
  have h2 := hF _ (pt8 hs s0 s1 (show 0 ≤ k + 1 by omega) (show k + 1 < W by omega))
  have h3 := hyS_b r0 r1 h1.1 h1.2 h2.1 h2.2
  unfold wkS
  exact rtS_b h3.1 h3.2
theorem wdS_b {F : Int → Int} {S W R s a b : Int} (hs : gSW S W) (hF : ∀ q, Pt S W q → 0 ≤ F q ∧ F q ≤ 999) (r0 : 0 ≤ R) (r1 : R ≤ 999) (s0 : 0 ≤ s) (s1 : s < S) (a0 : 0 ≤ a) (b1 : b < W - 1) : 0 ≤ wdS F R a b s ∧ wdS F R a b s ≤ 10000 := by
  have u := suS_b (g := wkS F R s) (B := 2000) (b + 1 - a).toNat a (fun x x0 x1 => wkS_b hs hF r0 r1 s0 s1 (by omega) (by omega))
  unfold wdS
  omega
theorem wdS_c {F G : Int → Int} {S W R s a b : Int} (hs : gSW S W) (e : ∀ q, Pt S W q → F q = G q) (s0 : 0 ≤ s) (s1 : s < S) (a0 : 0 ≤ a) (b1 : b < W - 1) : wdS F R a b s = wdS G R a b s := by
  unfold wdS
  refine suS_congr _ _ (fun x x0 x1 => ?_)
  unfold wkS
  rw [e _ (pt8 hs s0 s1 (show 0 ≤ x by omega) (show x < W by omega)), e _ (pt8 hs s0 s1 (show 0 ≤ x + 1 by omega) (show x + 1 < W by omega))]
theorem mxS_s (g : Int → Int) (k : Nat) (a x : Int) : mxS g (k + 1) a x = mxS g k (a + 1) (if x < g a then g a else x) := rfl
theorem mxS_ge (g : Int → Int) : ∀ (k : Nat) (a x : Int), x ≤ mxS g k a x
  | 0, _, _ => Int.le_refl _
  | k + 1, a, x => by
    rw [mxS_s]
    have := mxS_ge g k (a + 1) (if x < g a then g a else x)
    split at this <;> split <;> omega
theorem mxS_bb {g : Int → Int} {B : Int} : ∀ (k : Nat) (a x : Int), (∀ y, a ≤ y → y < a + k → 0 ≤ g y ∧ g y ≤ B) → 0 ≤ x → x ≤ B → 0 ≤ mxS g k a x ∧ mxS g k a x ≤ B
  | 0, _, _, _, h0, h1 => ⟨h0, h1⟩
  | k + 1, a, x, h, h0, h1 => by
    rw [mxS_s]
    have := h a (by omega) (by omega)
    exact mxS_bb k (a + 1) _ (fun y ya yb => h y (by omega) (by omega)) (by split <;> omega) (by split <;> omega)
theorem mxS_cc {g g' : Int → Int} : ∀ (k : Nat) (a x : Int), (∀ y, a ≤ y → y < a + k → g y = g' y) → mxS g k a x = mxS g' k a x
  | 0, _, _, _ => rfl
  | k + 1, a, x, h => by
    rw [mxS_s, mxS_s, h a (by omega) (by omega)]
    exact mxS_cc k (a + 1) _ (fun y ya yb => h y (by omega) (by omega))
theorem su_mx (g : Int → Int) : ∀ (k : Nat) (a x : Int), suS g k a ≤ (k : Int) * mxS g k a x
  | 0, _, _ => by show (0 : Int) ≤ _; omega
  | k + 1, a, x => by
    rw [mxS_s, suS_succ]
    have h1 := su_mx g k (a + 1) (if x < g a then g a else x)
    have h2 := mxS_ge g k (a + 1) (if x < g a then g a else x)
    have h3 : g a ≤ (if x < g a then g a else x) := by split <;> omega
    have h4 : ((k + 1 : Nat) : Int) * mxS g k (a + 1) (if x < g a then g a else x) = (k : Int) * mxS g k (a + 1) (if x < g a then g a else x) + mxS g k (a + 1) (if x < g a then g a else x) := by
      rw [show ((k + 1 : Nat) : Int) = (k : Int) + 1 by omega, Int.add_mul, Int.one_mul]
    omega
noncomputable def mtS (F : Int → Int) (R S a b : Int) : Int := mxS (wdS F R a b) (S - 0).toNat 0 0
noncomputable def waS (F : Int → Int) (R S a b : Int) : Int := mtS F R S a b * S - suS (wdS F R a b) (S - 0).toNat 0
theorem mtS_b {F : Int → Int} {S W R a b : Int} (hs : gSW S W) (hF : ∀ q, Pt S W q → 0 ≤ F q ∧ F q ≤ 999) (r0 : 0 ≤ R) (r1 : R ≤ 999) (a0 : 0 ≤ a) (b1 : b < W - 1) : 0 ≤ mtS F R S a b ∧ mtS F R S a b ≤ 10000 := by
  unfold mtS
  exact mxS_bb _ _ _ (fun y ya yb => wdS_b hs hF r0 r1 ya (by omega) a0 b1) (by omega) (by omega)
theorem waS_b {F : Int → Int} {S W R a b : Int} (hs : gSW S W) (hF : ∀ q, Pt S W q → 0 ≤ F q ∧ F q ≤ 999) (r0 : 0 ≤ R) (r1 : R ≤ 999) (a0 : 0 ≤ a) (b1 : b < W - 1) : 0 ≤ waS F R S a b ∧ waS F R S a b ≤ 80000 := by
  have h1 := mtS_b hs hF r0 r1 a0 b1
  have h2 := su_mx (wdS F R a b) (S - 0).toNat 0 0
  have h3 := suS_b (g := wdS F R a b) (B := 10000) (S - 0).toNat 0 (fun y ya yb => wdS_b hs hF r0 r1 ya (by omega) a0 b1)
  have h4 : ((S - 0).toNat : Int) = S := by omega
  have h5 := mulb h1.1 h1.2 (show 0 ≤ S by omega) (show S ≤ 8 by omega)
  rw [h4, Int.mul_comm] at h2
  have h6 : mxS (wdS F R a b) (S - 0).toNat 0 0 = mtS F R S a b := rfl
  rw [h6] at h2
  unfold waS
  omega
theorem mtS_c {F G : Int → Int} {S W R a b : Int} (hs : gSW S W) (e : ∀ q, Pt S W q → F q = G q) (a0 : 0 ≤ a) (b1 : b < W - 1) : mtS F R S a b = mtS G R S a b := by
  unfold mtS
  exact mxS_cc _ _ _ (fun y ya yb => wdS_c hs e ya (by omega) a0 b1)
theorem waS_c {F G : Int → Int} {S W R a b : Int} (hs : gSW S W) (e : ∀ q, Pt S W q → F q = G q) (a0 : 0 ≤ a) (b1 : b < W - 1) : waS F R S a b = waS G R S a b := by
  unfold waS
  rw [mtS_c hs e a0 b1, suS_congr _ _ (fun y ya yb => wdS_c hs e ya (show y < S by omega) a0 b1)]
theorem c_tp24 {m : Mem} {tr a b s : Int} (hs : gSW (m 7 0) (m 7 1)) (hfl : ∀ q, Pt (m 7 0) (m 7 1) q → 0 ≤ m 10 q ∧ m 10 q ≤ 999) (hr : 0 ≤ m 7 3 ∧ m 7 3 ≤ 999) (s0 : 0 ≤ s) (s1 : s < m 7 0) (b1 : b < m 7 1 - 1) {K : Int → Int → Int → Option (Int × Mem)} : ∀ (n : Nat) (mo su w k : Int), 0 ≤ k → k ≤ 10 → (b + 1 - k).toNat < n → -10 ≤ b → Yard_tryPlank_L24 tr a b K m n mo su s w k = K (J_max mo (w + suS (wkS (m 10) (m 7 3) s) (b + 1 - k).toNat k)) (su + (w + suS (wkS (m 10) (m 7 3) s) (b + 1 - k).toNat k)) (s + 1) := by
  intro n
  induction n with
  | zero => intro mo su w k _ _ q; omega
  | succ n ih =>
    intro mo su w k k0 k1 hn b0
    rw [Yard_tryPlank_L24, w32_id (x := b) (by omega) (by omega), w32_id (x := k) (by omega) (by omega)]
    by_cases q : b < k
    · rw [if_pos q, show (b + 1 - k).toNat = 0 by omega]; simp [suS]
    · rw [if_neg q, c_width hs hfl hr k0 (by omega) s0 s1, bP_some, ih mo su _ (k + 1) (by omega) (by omega) (by omega) b0, show (b + 1 - k).toNat = (b + 1 - (k + 1)).toNat + 1 by omega, suS_succ, Int.add_assoc]
      rfl
theorem c_tp9 {m : Mem} {tr a b : Int} (hs : gSW (m 7 0) (m 7 1)) (hfl : ∀ q, Pt (m 7 0) (m 7 1) q → 0 ≤ m 10 q ∧ m 10 q ≤ 999) (hr : 0 ≤ m 7 3 ∧ m 7 3 ≤ 999) (a0 : 0 ≤ a) (a1 : a ≤ 10) (b0 : -10 ≤ b) (b1 : b < m 7 1 - 1) {K : Int → Int → Option (Int × Mem)} : ∀ (n : Nat) (mo su s : Int), 0 ≤ mo → mo ≤ 10000 → 0 ≤ s → s ≤ 8 → (m 7 0 - s).toNat < n → Yard_tryPlank_L9 tr a b K m n mo su s = K (mxS (wdS (m 10) (m 7 3) a b) (m 7 0 - s).toNat s mo) (su + suS (wdS (m 10) (m 7 3) a b) (m 7 0 - s).toNat s) := by
  intro n
  induction n with
  | zero => intro mo su s _ _ _ _ q; omega
  | succ n ih =>
    intro mo su s m0 m1 s0 s1 hn
    rw [Yard_tryPlank_L9, w32_id (x := m 7 0) (by omega) (by omega), w32_id (x := s) (by omega) (by omega)]
    by_cases q : m 7 0 ≤ s
    · rw [if_pos q, show (m 7 0 - s).toNat = 0 by omega]; simp [suS, mxS]
    · have u := wdS_b hs hfl hr.1 hr.2 s0 (show s < m 7 0 by omega) a0 b1
      have e : (0 : Int) + suS (wkS (m 10) (m 7 3) s) (b + 1 - a).toNat a = wdS (m 10) (m 7 3) a b s := by unfold wdS; omega
      have ej : J_max mo (wdS (m 10) (m 7 3) a b s) = if mo < wdS (m 10) (m 7 3) a b s then wdS (m 10) (m 7 3) a b s else mo := by
        unfold J_max; rw [w32_id (by omega) (by omega), w32_id (by omega) (by omega)]
      rw [if_neg q, c_tp24 hs hfl hr s0 (by omega) b1 FU mo su 0 a a0 a1 (by rw [FU_eq]; omega) b0, e, ej, ih _ _ (s + 1) (by split <;> omega) (by split <;> omega) (by omega) (by omega) (by omega), show (m 7 0 - s).toNat = (m 7 0 - (s + 1)).toNat + 1 by omega, suS_succ, mxS_s, Int.add_assoc]
theorem c_tp {m : Mem} {tr a b : Int} (hs : gSW (m 7 0) (m 7 1)) (hfl : ∀ q, Pt (m 7 0) (m 7 1) q → 0 ≤ m 10 q ∧ m 10 q ≤ 999) (hr : 0 ≤ m 7 3 ∧ m 7 3 ≤ 999) (t0 : 1 ≤ tr) (t1 : tr ≤ 9999) (a0 : 0 ≤ a) (a1 : a ≤ 10) (b0 : -10 ≤ b) (b1 : b < m 7 1 - 1) : Yard_tryPlank tr a b m = some (if mtS (m 10) (m 7 3) (m 7 0) a b ≤ tr then 1 else 0, st (st m 39 7 (m 39 7 + 1)) 39 8 (m 39 8 + waS (m 10) (m 7 3) (m 7 0) a b)) := by
  have u := mtS_b hs hfl hr.1 hr.2 a0 b1
  unfold Yard_tryPlank
  rw [c_tp9 hs hfl hr a0 a1 b0 b1 FU 0 0 0 (by omega) (by omega) (by omega) (by omega) (by rw [FU_eq]; omega)]
  have e : mxS (wdS (m 10) (m 7 3) a b) (m 7 0 - 0).toNat 0 0 = mtS (m 10) (m 7 3) (m 7 0) a b := rfl
  rw [e, w32_id (x := tr) (by omega) (by omega), w32_id (x := mtS (m 10) (m 7 3) (m 7 0) a b) (by omega) (by omega), st_ne m _ _ (show 7 ≠ 39 by decide), st_eq, if_neg (by decide)]
  unfold ltM
  have e2 : mtS (m 10) (m 7 3) (m 7 0) a b * m 7 0 - (0 + suS (wdS (m 10) (m 7 3) a b) (m 7 0 - 0).toNat 0) = waS (m 10) (m 7 3) (m 7 0) a b := by unfold waS; omega
  rw [e2]
  by_cases q : mtS (m 10) (m 7 3) (m 7 0) a b ≤ tr
  · rw [if_neg (by omega), if_pos q]
  · rw [if_pos (by omega), if_neg q]
theorem m_ws26 {m : Mem} {S W tr a b s : Int} (hs : gSW S W) (hfl : ∀ q, Pt S W q → 0 ≤ m 76 (80 + q) ∧ m 76 (80 + q) ≤ 999) (hr : 0 ≤ m 76 3 ∧ m 76 3 ≤ 999) (s0 : 0 ≤ s) (s1 : s < S) (b1 : b < W - 1) {K : Int → Int → Int → Option Int} : ∀ (n : Nat) (mo su w k : Int), 0 ≤ k → k ≤ 10 → (b + 1 - k).toNat < n → -10 ≤ b → Mo_wasteOf_L26 a b tr K m n mo su s w k = K (J_max mo (w + suS (wkS (fun q => m 76 (80 + q)) (m 76 3) s) (b + 1 - k).toNat k)) (su + (w + suS (wkS (fun q => m 76 (80 + q)) (m 76 3) s) (b + 1 - k).toNat k)) (s + 1) := by
  intro n
  induction n with
  | zero => intro mo su w k _ _ q; omega
  | succ n ih =>
    intro mo su w k k0 k1 hn b0
    rw [Mo_wasteOf_L26, w32_id (x := b) (by omega) (by omega), w32_id (x := k) (by omega) (by omega)]
    by_cases q : b < k
    · rw [if_pos q, show (b + 1 - k).toNat = 0 by omega]; simp [suS]
    · rw [if_neg q, m_width hs hfl hr k0 (by omega) s0 s1, bP_some, ih mo su _ (k + 1) (by omega) (by omega) (by omega) b0, show (b + 1 - k).toNat = (b + 1 - (k + 1)).toNat + 1 by omega, suS_succ, Int.add_assoc]
      rfl
theorem m_ws {m : Mem} {S W tr a b : Int} (hs : gSW S W) (z0 : m 76 0 = S) (hfl : ∀ q, Pt S W q → 0 ≤ m 76 (80 + q) ∧ m 76 (80 + q) ≤ 999) (hr : 0 ≤ m 76 3 ∧ m 76 3 ≤ 999) (t0 : 1 ≤ tr) (t1 : tr ≤ 9999) (a0 : 0 ≤ a) (a1 : a ≤ 10) (b0 : -10 ≤ b) (b1 : b < W - 1) : Mo_wasteOf a b tr m = some (if mtS (fun q => m 76 (80 + q)) (m 76 3) S a b ≤ tr then waS (fun q => m 76 (80 + q)) (m 76 3) S a b else -1) := by
  have key : ∀ (n : Nat) (mo su s : Int), 0 ≤ mo → mo ≤ 10000 → 0 ≤ s → s ≤ 8 → (S - s).toNat < n → Mo_wasteOf_L9 a b tr m n mo su s = some (if mxS (wdS (fun q => m 76 (80 + q)) (m 76 3) a b) (S - s).toNat s mo ≤ tr then mxS (wdS (fun q => m 76 (80 + q)) (m 76 3) a b) (S - s).toNat s mo * S - (su + suS (wdS (fun q => m 76 (80 + q)) (m 76 3) a b) (S - s).toNat s) else -1) := by
    intro n
    induction n with
    | zero => intro mo su s _ _ _ _ q; omega
    | succ n ih =>
      intro mo su s m0 m1 s0 s1 hn
      rw [Mo_wasteOf_L9, z0, w32_id (x := S) (by omega) (by omega), w32_id (x := s) (by omega) (by omega), w32_id (x := mo) (by omega) (by omega), w32_id (x := tr) (by omega) (by omega)]
      by_cases q : S ≤ s
      · rw [if_pos q, show (S - s).toNat = 0 by omega]; simp [suS, mxS]
      · have u := wdS_b hs hfl hr.1 hr.2 s0 (show s < S by omega) a0 b1
        have e : (0 : Int) + suS (wkS (fun q => m 76 (80 + q)) (m 76 3) s) (b + 1 - a).toNat a = wdS (fun q => m 76 (80 + q)) (m 76 3) a b s := by unfold wdS; omega
        have ej : J_max mo (wdS (fun q => m 76 (80 + q)) (m 76 3) a b s) = if mo < wdS (fun q => m 76 (80 + q)) (m 76 3) a b s then wdS (fun q => m 76 (80 + q)) (m 76 3) a b s else mo := by
          unfold J_max; rw [w32_id (by omega) (by omega), w32_id (by omega) (by omega)]
        rw [if_neg q, m_ws26 hs hfl hr s0 (by omega) b1 FU mo su 0 a a0 a1 (by rw [FU_eq]; omega) b0, e, ej, ih _ _ (s + 1) (by split <;> omega) (by split <;> omega) (by omega) (by omega) (by omega), show (S - s).toNat = (S - (s + 1)).toNat + 1 by omega, suS_succ, mxS_s, Int.add_assoc]
  unfold Mo_wasteOf
  rw [key FU 0 0 0 (by omega) (by omega) (by omega) (by omega) (by rw [FU_eq]; omega)]
  unfold waS mtS
  simp only [Int.zero_add]
/-- planks by their ends -/
def tpS (e : Int → Bool) (ok : Int → Int → Bool) (ws : Int → Int → Int) : Nat → Int → Int → Int → Int → Option (Int × Int)
  | 0, _, _, c, x => some (c, x)
  | n + 1, a, k, c, x => if e k then (if ok a k then tpS e ok ws n (k + 1) (k + 1) (c + 1) (x + ws a k) else none) else tpS e ok ws n a (k + 1) c x
theorem tpS_s (e : Int → Bool) (ok : Int → Int → Bool) (ws : Int → Int → Int) (n : Nat) (a k c x : Int) : tpS e ok ws (n + 1) a k c x = if e k then (if ok a k then tpS e ok ws n (k + 1) (k + 1) (c + 1) (x + ws a k) else none) else tpS e ok ws n a (k + 1) c x := rfl
theorem tpS_c {e e' : Int → Bool} {ok ok' : Int → Int → Bool} {ws ws' : Int → Int → Int} {N : Int} (he : ∀ k, 0 ≤ k → k < N → e k = e' k) (ho : ∀ a k, 0 ≤ a → k < N → ok a k = ok' a k) (hw : ∀ a k, 0 ≤ a → k < N → ws a k = ws' a k) : ∀ (n : Nat) (a k c x : Int), 0 ≤ a → 0 ≤ k → k + n ≤ N → tpS e ok ws n a k c x = tpS e' ok' ws' n a k c x
  | 0, _, _, _, _, _, _, _ => rfl
  | n + 1, a, k, c, x, a0, k0, hn => by
    rw [tpS_s, tpS_s, he k k0 (by omega), ho a k a0 (by omega), hw a k a0 (by omega), tpS_c he ho hw n (k + 1) (k + 1) (c + 1) (x + ws' a k) (by omega) (by omega) (by omega), tpS_c he ho hw n a (k + 1) c x a0 (by omega) (by omega)]
def cnS (e : Int → Bool) : Nat → Int → Int
  | 0, _ => 0
  | n + 1, k => (if e k then 1 else 0) + cnS e n (k + 1)
theorem tpS_n {e : Int → Bool} {ok : Int → Int → Bool} {ws : Int → Int → Int} {N : Int} (hw : ∀ a k, 0 ≤ a → k < N → 0 ≤ ws a k ∧ ws a k ≤ 80000) : ∀ (n : Nat) (a k c x c' x' : Int), 0 ≤ a → 0 ≤ k → k + n ≤ N → tpS e ok ws n a k c x = some (c', x') → c' = c + cnS e n k ∧ x ≤ x' ∧ x' ≤ x + n * 80000
  | 0, a, k, c, x, c', x', _, _, _, h => by
    have h' : some (c, x) = some (c', x') := h
    injection h' with h'
    injection h' with h1 h2
    subst h1 h2
    simp [cnS]
  | n + 1, a, k, c, x, c', x', a0, k0, hn, h => by
    rw [tpS_s] at h
    rw [cnS]
    by_cases q : e k = true
    · rw [if_pos q] at h ⊢
      by_cases z : ok a k = true
      · rw [if_pos z] at h
        have u := tpS_n hw n (k + 1) (k + 1) (c + 1) (x + ws a k) c' x' (by omega) (by omega) (by omega) h
        have v := hw a k a0 (by omega)
        omega
      · rw [if_neg z] at h; exact absurd h (by simp)
    · rw [if_neg q] at h ⊢
      have u := tpS_n hw n a (k + 1) c x c' x' a0 (by omega) (by omega) h
      omega
