/-! layer 2: rounds, floors that were there -/
theorem lpk {x v : Int} (x0 : 0 ≤ x) (x1 : x < 1125899906842624) (v0 : 0 ≤ v) (v1 : v < 1024) : lOr (lShl x 10) v = 1024 * x + v := by
  unfold lOr lShl
  have h := amt64 ⟨10, by decide⟩
  rw [ofInt_toInt64]
  show ((Int64.ofInt x).toBitVec <<< (((Int32.ofInt 10).toInt64 &&& 63).toBitVec.smod 64) ||| (Int64.ofInt v).toBitVec).toInt = _
  have h' : ((Int32.ofInt 10).toInt64 &&& 63).toBitVec.smod 64 = BitVec.ofNat 64 10 := h
  rw [h', BitVec.shiftLeft_eq', BitVec.toNat_ofNat, Int64.toBitVec_ofInt, Int64.toBitVec_ofInt]
  have n1 : (BitVec.ofInt 64 x).toNat = x.toNat := by rw [BitVec.toNat_ofInt]; omega
  have n2 : (BitVec.ofInt 64 v).toNat = v.toNat := by rw [BitVec.toNat_ofInt]; omega
  have n3 : (BitVec.ofInt 64 x <<< (10 % 2 ^ 64) ||| BitVec.ofInt 64 v).toNat = 1024 * x.toNat + v.toNat := by
    rw [BitVec.toNat_or, BitVec.toNat_shiftLeft, n1, n2, show 10 % 2 ^ 64 = 10 from by decide]
    have e1 : x.toNat <<< 10 % 2 ^ 64 = x.toNat <<< 10 := by
      rw [Nat.shiftLeft_eq]; apply Nat.mod_eq_of_lt; omega
    rw [e1, ← Nat.shiftLeft_add_eq_or_of_lt (show v.toNat < 2 ^ 10 by omega), Nat.shiftLeft_eq]
    omega
  rw [BitVec.toInt_eq_toNat_of_lt (by rw [n3]; omega), n3]
  omega
def pkL (F : Int → Int) (s : Int) : Nat → Int → Int → Int
  | 0, _, x => x
  | n + 1, w, x => pkL F s n (w + 1) (1024 * x + F (8 * s + w))
theorem pkL_s (F : Int → Int) (s : Int) (n : Nat) (w x : Int) : pkL F s (n + 1) w x = pkL F s n (w + 1) (1024 * x + F (8 * s + w)) := rfl
theorem pkL_i {F G : Int → Int} {s : Int} : ∀ (n : Nat) (w x y : Int), (∀ u, w ≤ u → u < w + n → 0 ≤ F (8 * s + u) ∧ F (8 * s + u) ≤ 999 ∧ 0 ≤ G (8 * s + u) ∧ G (8 * s + u) ≤ 999) → pkL F s n w x = pkL G s n w y → x = y ∧ ∀ u, w ≤ u → u < w + n → F (8 * s + u) = G (8 * s + u)
  | 0, w, x, y, _, h => ⟨h, fun u a b => by omega⟩
  | n + 1, w, x, y, hb, h => by
    rw [pkL_s, pkL_s] at h
    obtain ⟨e1, e2⟩ := pkL_i n (w + 1) _ _ (fun u a b => hb u (by omega) (by omega)) h
    have b := hb w (by omega) (by omega)
    refine ⟨by omega, fun u a c => ?_⟩
    by_cases z : u = w
    · subst z; omega
    · exact e2 u (by omega) (by omega)
theorem pkL_c {F G : Int → Int} {s : Int} : ∀ (n : Nat) (w x : Int), (∀ u, w ≤ u → u < w + n → F (8 * s + u) = G (8 * s + u)) → pkL F s n w x = pkL G s n w x
  | 0, w, x, _ => rfl
  | n + 1, w, x, h => by
    rw [pkL_s, pkL_s, h w (by omega) (by omega)]
    exact pkL_c n (w + 1) _ (fun u a b => h u (by omega) (by omega))
theorem pkL_b {F : Int → Int} {s : Int} : ∀ (n : Nat) (w x B : Int), (∀ u, w ≤ u → u < w + n → 0 ≤ F (8 * s + u) ∧ F (8 * s + u) ≤ 999) → 0 ≤ x → x < B → 0 ≤ pkL F s n w x ∧ pkL F s n w x < B * ((1024 ^ n : Nat) : Int)
  | 0, w, x, B, _, x0, x1 => by show 0 ≤ x ∧ x < B * ((1024 ^ 0 : Nat) : Int); simp; exact ⟨x0, x1⟩
  | n + 1, w, x, B, h, x0, x1 => by
    rw [pkL_s]
    have b := h w (by omega) (by omega)
    have r := pkL_b n (w + 1) (1024 * x + F (8 * s + w)) (1024 * B) (fun u a c => h u (by omega) (by omega)) (by omega) (by omega)
    have e : (1024 * B) * ((1024 ^ n : Nat) : Int) = B * ((1024 ^ (n + 1) : Nat) : Int) := by
      rw [Nat.pow_succ, Int.natCast_mul, Int.mul_comm 1024 B, Int.mul_assoc]
      exact congrArg (B * ·) (Int.mul_comm _ _)
    rw [e] at r
    exact r
theorem c_pack {m : Mem} {F : Int → Int} {st : Int} (e10 : m 10 = F) (s : gSW (m 7 0) (m 7 1)) (hF : Fb (m 7 0) (m 7 1) F) (s0 : 0 ≤ st) (s1 : st < m 7 0) : Sheet_packedStation 7 st m = some (pkL F st (m 7 1 - 0).toNat 0 0) ∧ 0 ≤ pkL F st (m 7 1 - 0).toNat 0 0 ∧ pkL F st (m 7 1 - 0).toNat 0 0 < 1152921504606846976 := by
  have hb : ∀ u, 0 ≤ u → u < m 7 1 → 0 ≤ F (8 * st + u) ∧ F (8 * st + u) ≤ 999 := fun u a b => hF _ (pt8 s s0 s1 a b)
  have key : ∀ (n : Nat) (w x B : Int), 0 ≤ w → w ≤ m 7 1 → (m 7 1 - w).toNat < n → 0 ≤ x → x < ((1024 ^ w.toNat : Nat) : Int) → Sheet_packedStation_L5 7 st m n x w = some (pkL F st (m 7 1 - w).toNat w x) := by
    intro n
    induction n with
    | zero => intro w x B _ _ q; omega
    | succ n ih =>
      intro w x B w0 w1 hn x0 x1
      rw [Sheet_packedStation_L5, w32_id (x := m 7 1) (by omega) (by omega), w32_id (x := w) (by omega) (by omega)]
      by_cases q : m 7 1 ≤ w
      · rw [if_pos q, show (m 7 1 - w).toNat = 0 by omega]; rfl
      · have b := hb w w0 (by omega)
        have xb : x < 1125899906842624 := by
          have h1 : (1024 : Nat) ^ w.toNat ≤ 1024 ^ 5 := Nat.pow_le_pow_right (by decide) (by omega)
          have h2 : (1024 : Nat) ^ 5 = 1125899906842624 := by decide
          omega
        rw [if_neg q, c_at (by omega) (by omega), e10, w32_id (x := F (8 * st + w)) (by omega) (by omega), lpk x0 xb b.1 (by omega), show (m 7 1 - w).toNat = (m 7 1 - (w + 1)).toNat + 1 by omega, pkL_s]
        refine ih (w + 1) _ B (by omega) (by omega) (by omega) (by omega) ?_
        have e : (w + 1).toNat = w.toNat + 1 := by omega
        rw [e, Nat.pow_succ]
        omega
  refine ⟨key FU 0 0 0 (by omega) (by omega) (by rw [FU_eq]; omega) (by omega) (by decide), ?_⟩
  have r := pkL_b (F := F) (s := st) (m 7 1 - 0).toNat 0 0 1 (fun u a b => hb u a (by omega)) (by omega) (by omega)
  refine ⟨r.1, ?_⟩
  have h1 : (1024 : Nat) ^ (m 7 1 - 0).toNat ≤ 1024 ^ 6 := Nat.pow_le_pow_right (by decide) (by omega)
  have h2 : (1024 : Nat) ^ 6 = 1152921504606846976 := by decide
  omega
def alS (g : Int → Bool) : Nat → Int → Bool
  | 0, _ => true
  | n + 1, q => g q && alS g n (q + 1)
theorem alS_s (g : Int → Bool) (n : Nat) (q : Int) : alS g (n + 1) q = (g q && alS g n (q + 1)) := rfl
theorem alS_t {g : Int → Bool} : ∀ (n : Nat) (q : Int), alS g n q = true ↔ ∀ x, q ≤ x → x < q + n → g x = true
  | 0, q => ⟨fun _ x a b => by omega, fun _ => rfl⟩
  | n + 1, q => by
    rw [alS_s, Bool.and_eq_true, alS_t n (q + 1)]
    constructor
    · intro h x a b
      by_cases z : x = q
      · subst z; exact h.1
      · exact h.2 x (by omega) (by omega)
    · intro h
      exact ⟨h q (by omega) (by omega), fun x a b => h x (by omega) (by omega)⟩
/-- two floors are alike -/
def eqB (S W : Int) (F G : Int → Int) : Bool := alS (fun q => !ptB S W q || decide (F q = G q)) 64 0
theorem eqB_t {S W : Int} (s : gSW S W) {F G : Int → Int} : eqB S W F G = true ↔ ∀ q, Pt S W q → F q = G q := by
  unfold eqB
  rw [alS_t]
  constructor
  · intro h q hq
    have p := pt64 s hq
    have := h q (by omega) (by omega)
    rw [ptB_t.mpr hq] at this
    simpa using this
  · intro h q _ _
    by_cases z : ptB S W q = true
    · rw [z]; simp [h q (ptB_t.mp z)]
    · simp [z]
theorem eqB_c {S W : Int} (s : gSW S W) {F G F' G' : Int → Int} (h1 : ∀ q, Pt S W q → F q = F' q) (h2 : ∀ q, Pt S W q → G q = G' q) : eqB S W F G = eqB S W F' G' := by
  have e : eqB S W F G = true ↔ eqB S W F' G' = true := by
    rw [eqB_t s, eqB_t s]
    constructor
    · intro h q hq; rw [← h1 q hq, ← h2 q hq]; exact h q hq
    · intro h q hq; rw [h1 q hq, h2 q hq]; exact h q hq
  cases a : eqB S W F G <;> cases b : eqB S W F' G' <;> simp [a, b] at e ⊢
/-- a floor's row in the class's history -/
def hyR (F : Int → Int) (S W st : Int) : Int := if st < S then pkL F st (W - 0).toNat 0 0 else 0
theorem hyR_e {S W : Int} (s : gSW S W) {F G : Int → Int} (hF : Fb S W F) (hG : Fb S W G) : (∀ x, 0 ≤ x → x < 8 → hyR F S W x = hyR G S W x) ↔ ∀ q, Pt S W q → F q = G q := by
  constructor
  · intro h q hq
    have hq' := hq
    unfold Pt at hq'
    have e := h (q / 8) (by omega) (by omega)
    unfold hyR at e
    rw [if_pos (by omega), if_pos (by omega)] at e
    have r := (pkL_i (F := F) (G := G) (s := q / 8) (W - 0).toNat 0 0 0 (fun u a b => by
      have h1 := hF _ (pt8 s (show 0 ≤ q / 8 by omega) (by omega) a (show u < W by omega))
      have h2 := hG _ (pt8 s (show 0 ≤ q / 8 by omega) (by omega) a (show u < W by omega))
      exact ⟨h1.1, h1.2, h2.1, h2.2⟩) e).2 (q % 8) (by omega) (by omega)
    rw [show 8 * (q / 8) + q % 8 = q by omega] at r
    exact r
  · intro h x x0 x1
    unfold hyR
    by_cases z : x < S
    · rw [if_pos z, if_pos z]
      exact pkL_c _ _ _ (fun u a b => h _ (pt8 s x0 z a (by omega)))
    · rw [if_neg z, if_neg z]
theorem c_note {m mm : Mem} {F : Int → Int} {d : Int} (s : gSW (m 7 0) (m 7 1)) (hF : Fb (m 7 0) (m 7 1) F) (e7 : mm 7 = m 7) (e10 : mm 10 = F) (e3 : mm 28 3 = d) (d0 : 0 ≤ d) (d1 : d ≤ 60) : ∃ m', Rounds_note mm = some m' ∧ (∀ c, c ≠ 29 → m' c = mm c) ∧ (∀ x, 0 ≤ x → x < 8 → m' 29 (8 * d + x) = hyR F (m 7 0) (m 7 1) x) ∧ (∀ i, i < 8 * d → m' 29 i = mm 29 i) := by
  have key : ∀ (n : Nat) (v : Int) (mm : Mem), mm 7 = m 7 → mm 10 = F → mm 28 3 = d → 0 ≤ v → v ≤ 8 → (8 - v).toNat < n → (∀ x, 0 ≤ x → x < v → mm 29 (8 * d + x) = hyR F (m 7 0) (m 7 1) x) → ∃ m', Rounds_note_L2 n v mm = some m' ∧ (∀ c, c ≠ 29 → m' c = mm c) ∧ (∀ x, 0 ≤ x → x < 8 → m' 29 (8 * d + x) = hyR F (m 7 0) (m 7 1) x) ∧ (∀ i, i < 8 * d → m' 29 i = mm 29 i) := by
    intro n
    induction n with
    | zero => intro v mm _ _ _ _ _ q; omega
    | succ n ih =>
      intro v mm e7 e10 e3 v0 v1 hn hv
      rw [Rounds_note_L2, w32_id (x := v) (by omega) (by omega), e3, w32_id (x := d * 8 + v) (by omega) (by omega)]
      by_cases q : 8 ≤ v
      · rw [if_pos q]
        exact ⟨mm, rfl, fun _ _ => rfl, fun x x0 x1 => hv x x0 (by omega), fun _ _ => rfl⟩
      · have nx : ∀ y : Int, y = hyR F (m 7 0) (m 7 1) v → ∃ m', Rounds_note_L2 n (v + 1) (st mm 29 (d * 8 + v) y) = some m' ∧ (∀ c, c ≠ 29 → m' c = mm c) ∧ (∀ x, 0 ≤ x → x < 8 → m' 29 (8 * d + x) = hyR F (m 7 0) (m 7 1) x) ∧ (∀ i, i < 8 * d → m' 29 i = mm 29 i) := by
          intro y hy
          obtain ⟨m', j1, j2, j3, j4⟩ := ih (v + 1) (st mm 29 (d * 8 + v) y) (by rw [st_ne _ _ _ (by decide)]; exact e7) (by rw [st_ne _ _ _ (by decide)]; exact e10) (by rw [st_ne _ _ _ (by decide)]; exact e3) (by omega) (by omega) (by omega) (fun x x0 x1 => by
            rw [st_eq]
            by_cases z : x = v
            · subst z; rw [if_pos (by omega), hy]
            · rw [if_neg (by omega)]; exact hv x x0 (by omega))
          refine ⟨m', j1, fun c hc => by rw [j2 c hc, st_ne _ _ _ hc], j3, fun i hi => by rw [j4 i hi, st_eq, if_neg (by omega)]⟩
        rw [if_neg q, if_neg (by omega), if_neg (by omega)]
        unfold Sheet_hasStation
        rw [e7, w32_id (x := v) (by omega) (by omega), w32_id (x := m 7 0) (by omega) (by omega), if_neg (show ¬ v < 0 by omega)]
        by_cases z : v < m 7 0
        · have cp := c_pack (m := mm) (F := F) (st := v) e10 (by rw [e7]; exact s) (by rw [e7]; exact hF) v0 (by rw [e7]; exact z)
          rw [e7] at cp
          have hh : hyR F (m 7 0) (m 7 1) v = pkL F v (m 7 1 - 0).toNat 0 0 := by unfold hyR; rw [if_pos z]
          simp (disch := omega) only [ilt_t, ilt_f, ile_t, ile_f, ↓reduceIte, ieq_f, ieq_t]
          rw [cp.1, bP_some]
          exact nx _ hh.symm
        · have hh : hyR F (m 7 0) (m 7 1) v = 0 := by unfold hyR; rw [if_neg z]
          simp (disch := omega) only [ilt_t, ilt_f, ile_t, ile_f, ↓reduceIte, ieq_f, ieq_t]
          exact nx _ hh.symm
  exact key FU 0 mm e7 e10 e3 (by omega) (by omega) (by rw [FU_eq]; omega) (fun x x0 x1 => by omega)
/-- the first of them that g holds of -/
def faS (g : Nat → Bool) : Nat → Nat → Int
  | 0, _ => -1
  | k + 1, r => if g r then (r : Int) else faS g k (r + 1)
theorem faS_s (g : Nat → Bool) (k r : Nat) : faS g (k + 1) r = if g r then (r : Int) else faS g k (r + 1) := rfl
theorem faS_b (g : Nat → Bool) : ∀ (k r : Nat), faS g k r = -1 ∨ ((r : Int) ≤ faS g k r ∧ faS g k r < (r : Int) + k)
  | 0, _ => Or.inl rfl
  | k + 1, r => by
    rw [faS_s]
    split
    · right; omega
    · rcases faS_b g k (r + 1) with h | h
      · exact Or.inl h
      · right; omega
theorem c_same {m : Mem} {S W : Int} {F G : Int → Int} {r d : Int} (s : gSW S W) (hF : Fb S W F) (hG : Fb S W G) (e3 : m 28 3 = d) (d0 : 0 ≤ d) (d1 : d ≤ 60) (r0 : 0 ≤ r) (r1 : r ≤ 60) (h1 : ∀ x, 0 ≤ x → x < 8 → m 29 (8 * r + x) = hyR F S W x) (h2 : ∀ x, 0 ≤ x → x < 8 → m 29 (8 * d + x) = hyR G S W x) : Rounds_isSame r m = some (bI (eqB S W F G)) := by
  have hb : ∀ (F : Int → Int), Fb S W F → ∀ x, 0 ≤ x → x < 8 → 0 ≤ hyR F S W x ∧ hyR F S W x < 1152921504606846976 := by
    intro F hF x x0 x1
    unfold hyR
    by_cases z : x < S
    · rw [if_pos z]
      have r := pkL_b (F := F) (s := x) (W - 0).toNat 0 0 1 (fun u a b => hF _ (pt8 s x0 z a (by omega))) (by omega) (by omega)
      refine ⟨r.1, ?_⟩
      have h1 : (1024 : Nat) ^ (W - 0).toNat ≤ 1024 ^ 6 := Nat.pow_le_pow_right (by decide) (by omega)
      have h2 : (1024 : Nat) ^ 6 = 1152921504606846976 := by decide
      omega
    · rw [if_neg z]; omega
  have key : ∀ (n : Nat) (v : Int), 0 ≤ v → v ≤ 8 → (8 - v).toNat < n → ((∀ x, v ≤ x → x < 8 → hyR F S W x = hyR G S W x) → Rounds_isSame_L16 m n (8 * r + v) (8 * d + v) v = some 1) ∧ (¬ (∀ x, v ≤ x → x < 8 → hyR F S W x = hyR G S W x) → Rounds_isSame_L16 m n (8 * r + v) (8 * d + v) v = some 0) := by
    intro n
    induction n with
    | zero => intro v _ _ q; omega
    | succ n ih =>
      intro v v0 v1 hn
      rw [Rounds_isSame_L16, w32_id (x := v) (by omega) (by omega), w32_id (x := 8 * r + v) (by omega) (by omega), w32_id (x := 8 * d + v) (by omega) (by omega)]
      by_cases q : 8 ≤ v
      · rw [if_pos q]
        exact ⟨fun _ => rfl, fun z => absurd (fun x a b => by omega) z⟩
      · have b1 := hb F hF v v0 (by omega)
        have b2 := hb G hG v v0 (by omega)
        rw [if_neg q, if_neg (by omega), if_neg (by omega), if_neg (by omega), if_neg (by omega), h1 v v0 (by omega), h2 v v0 (by omega), w64_id (x := hyR F S W v) (by omega) (by omega), w64_id (x := hyR G S W v) (by omega) (by omega)]
        have j := ih (v + 1) (by omega) (by omega) (by omega)
        rw [show 8 * r + (v + 1) = 8 * r + v + 1 by omega, show 8 * d + (v + 1) = 8 * d + v + 1 by omega] at j
        by_cases z : hyR F S W v = hyR G S W v
        · rw [if_pos z]
          refine ⟨fun y => j.1 (fun x a b => y x (by omega) b), fun y => j.2 (fun w => y (fun x a b => ?_))⟩
          by_cases e : x = v
          · subst e; exact z
          · exact w x (by omega) b
        · rw [if_neg z]
          exact ⟨fun y => absurd (y v (by omega) (by omega)) z, fun _ => rfl⟩
  have k := key FU 0 (by omega) (by omega) (by rw [FU_eq]; omega)
  unfold Rounds_isSame
  rw [e3, show r * 8 = 8 * r + 0 by omega, show d * 8 = 8 * d + 0 by omega]
  have he := hyR_e s hF hG
  by_cases z : ∀ x, (0 : Int) ≤ x → x < 8 → hyR F S W x = hyR G S W x
  · rw [k.1 z, (eqB_t s).mpr (he.mp z)]; rfl
  · rw [k.2 z]
    have : eqB S W F G = false := by
      cases e : eqB S W F G with
      | false => rfl
      | true => exact absurd (he.mpr ((eqB_t s).mp e)) z
    rw [this]; rfl
theorem c_find_same {m : Mem} {S W : Int} {H : Nat → Int → Int} {d : Nat} (s : gSW S W) (hH : ∀ r, Fb S W (H r)) (e3 : m 28 3 = (d : Int)) (d1 : d ≤ 60) (hh : ∀ r : Nat, r ≤ d → ∀ x, 0 ≤ x → x < 8 → m 29 (8 * (r : Int) + x) = hyR (H r) S W x) : Rounds_findSame m = some (faS (fun r => eqB S W (H r) (H d)) d 0) := by
  have key : ∀ (n k r : Nat), r + k = d → k < n → Rounds_findSame_L2 m n (r : Int) = some (faS (fun r => eqB S W (H r) (H d)) k r) := by
    intro n
    induction n with
    | zero => intro k r _ q; omega
    | succ n ih =>
      intro k r hk hn
      rw [Rounds_findSame_L2, e3, w32_id (x := (d : Int)) (by omega) (by omega), w32_id (x := (r : Int)) (by omega) (by omega)]
      cases k with
      | zero => rw [if_pos (by omega)]; rfl
      | succ k =>
        rw [if_neg (by omega), c_same s (hH r) (hH d) e3 (by omega) (by omega) (by omega) (by omega) (hh r (by omega)) (hh d (by omega)), bP_some, faS_s]
        by_cases z : eqB S W (H r) (H d) = true
        · rw [z, if_neg (by decide), if_pos rfl]
        · have z' : eqB S W (H r) (H d) = false := by simpa using z
          rw [z', if_pos (by decide), if_neg (by decide), show (r : Int) + 1 = ((r + 1 : Nat) : Int) by omega]
          exact ih k (r + 1) (by omega) (by omega)
  exact key FU d 0 (by omega) (by rw [FU_eq]; omega)
