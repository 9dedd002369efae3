/-! layer 2: laths, the class -/
theorem c_set {r c : Nat} {v : Int} {m : Mem} (hr : r < 8) (hc : c ≤ 8) : Lath_setCell (r : Int) (c : Int) v m = st m 31 (9 * (r : Int) + c) v := by
  unfold Lath_setCell
  rw [show (r : Int) * 9 + c = 9 * (r : Int) + c by omega, w32_id (by omega) (by omega), if_neg (by omega), if_neg (by omega)]
theorem c_cell {r c : Nat} {m : Mem} (hr : r < 8) (hc : c ≤ 8) : Lath_cellAt (r : Int) (c : Int) m = m 31 (9 * (r : Int) + c) := by
  unfold Lath_cellAt
  rw [show (r : Int) * 9 + c = 9 * (r : Int) + c by omega, w32_id (by omega) (by omega), if_neg (by omega), if_neg (by omega)]
theorem c_clr {P r k : Nat} {pv bf f : Int} {N : Nat → Int} (hP : P ≤ 8) (hr : r < P) (hk : k < P) (hne : r ≠ k) (hb : 0 < bf) (hb1 : bf ≤ 1000) : ∀ (n c : Nat) (m : Mem), c ≤ P + 1 → P + 1 - c < n → m 30 1 = (P : Int) → (∀ j : Nat, c ≤ j → j ≤ P → bf * N j = pv * m 31 (9 * (r : Int) + j) - f * m 31 (9 * (k : Int) + j) ∧ -1000000000000 ≤ bf * N j ∧ bf * N j ≤ 1000000000000) → ∃ m', Lath_clear_L19 (r : Int) (k : Int) pv bf f n (c : Int) m = some m' ∧ (∀ q, q ≠ 31 → m' q = m q) ∧ (∀ j : Nat, c ≤ j → j ≤ P → m' 31 (9 * (r : Int) + j) = N j) ∧ (∀ i, i < 9 * (r : Int) + c ∨ 9 * (r : Int) + P < i → m' 31 i = m 31 i) := by
  intro n
  induction n with
  | zero => intro c m _ h; omega
  | succ n ih =>
    intro c m hc hn e1 hN
    rw [Lath_clear_L19, e1, w32_id (x := (P : Int)) (by omega) (by omega), w32_id (x := (c : Int)) (by omega) (by omega)]
    by_cases q : P < c
    · rw [if_pos (by omega)]
      exact ⟨m, rfl, fun _ _ => rfl, fun j h1 h2 => by omega, fun _ _ => rfl⟩
    · have hh := hN c (by omega) (by omega)
      have ev : Int.tdiv (w64 (pv * Lath_cellAt (r : Int) (c : Int) m - f * Lath_cellAt (k : Int) (c : Int) m)) (w64 bf) = N c := by
        rw [c_cell (by omega) (by omega), c_cell (by omega) (by omega), ← hh.1, w64_id (by omega) (by omega), w64_id (by omega) (by omega), Int.mul_tdiv_cancel_left _ (by omega)]
      rw [if_neg (by omega), if_neg (by rw [w64_id (by omega) (by omega)]; omega), ev, c_set (by omega) (by omega)]
      unfold ltM
      obtain ⟨m', j1, j2, j3, j4⟩ := ih (c + 1) (st m 31 (9 * (r : Int) + c) (N c)) (by omega) (by omega) (by rw [st_ne _ _ _ (by decide)]; exact e1) (fun j h1 h2 => by
        rw [st_eq, if_neg (by omega), st_eq, if_neg (by omega)]; exact hN j (by omega) h2)
      refine ⟨m', ?_, fun q hq => by rw [j2 q hq, st_ne _ _ _ hq], fun j h1 h2 => ?_, fun i hi => ?_⟩
      · rw [show (c : Int) + 1 = ((c + 1 : Nat) : Int) by omega]; exact j1
      · by_cases z : j = c
        · subst z; rw [j4 _ (by omega), st_eq, if_pos rfl]
        · exact j3 j (by omega) h2
      · rw [j4 i (by omega), st_eq, if_neg (by omega)]
theorem c_s31 {P k : Nat} {pv bf : Int} {N : Nat → Nat → Int} (hP : P ≤ 8) (hk : k < P) (hb : 0 < bf) (hb1 : bf ≤ 1000) {K : Int → Int → Mem → Option Mem} : ∀ (n i : Nat) (m : Mem), i ≤ P → P - i < n → m 30 1 = (P : Int) → (∀ r j : Nat, i ≤ r → r < P → r ≠ k → j ≤ P → bf * N r j = pv * m 31 (9 * (r : Int) + j) - m 31 (9 * (r : Int) + k) * m 31 (9 * (k : Int) + j) ∧ -1000000000000 ≤ bf * N r j ∧ bf * N r j ≤ 1000000000000) → ∃ m', Lath_solve_L31 pv K n bf (k : Int) (i : Int) m = K pv ((k : Int) + 1) m' ∧ (∀ q, q ≠ 31 → m' q = m q) ∧ (∀ r j : Nat, i ≤ r → r < P → r ≠ k → j ≤ P → m' 31 (9 * (r : Int) + j) = N r j) ∧ (∀ r j : Nat, r < i ∨ r = k → r < P → j ≤ P → m' 31 (9 * (r : Int) + j) = m 31 (9 * (r : Int) + j)) := by
  intro n
  induction n with
  | zero => intro i m _ h; omega
  | succ n ih =>
    intro i m hi hn e1 hN
    rw [Lath_solve_L31, e1, w32_id (x := (P : Int)) (by omega) (by omega), w32_id (x := (i : Int)) (by omega) (by omega), w32_id (x := (k : Int)) (by omega) (by omega)]
    by_cases q : P ≤ i
    · rw [if_pos (by omega)]
      exact ⟨m, rfl, fun _ _ => rfl, fun r j h1 h2 => by omega, fun _ _ _ _ _ => rfl⟩
    · rw [if_neg (by omega)]
      by_cases z : i = k
      · rw [if_pos (by omega)]
        obtain ⟨m', j1, j2, j3, j4⟩ := ih (i + 1) m (by omega) (by omega) e1 (fun r j h1 => hN r j (by omega))
        refine ⟨m', ?_, j2, fun r j h1 h2 h3 h4 => j3 r j (by omega) h2 h3 h4, fun r j h1 h2 h3 => j4 r j (by omega) h2 h3⟩
        rw [show (i : Int) + 1 = ((i + 1 : Nat) : Int) by omega]; exact j1
      · rw [if_neg (by omega)]
        obtain ⟨ma, a1, a2, a3, a4⟩ := c_clr (P := P) (r := i) (k := k) (pv := pv) (bf := bf) (f := m 31 (9 * (i : Int) + k)) (N := N i) hP (by omega) hk z hb hb1 FU 0 m (by omega) (by rw [FU_eq]; omega) e1 (fun j h1 h2 => hN i j (by omega) (by omega) z h2)
        have ec : Lath_clear (i : Int) (k : Int) pv bf m = some ma := by
          unfold Lath_clear
          rw [if_pos (by rw [w64_id (by omega) (by omega)]; omega), c_cell (by omega) (by omega)]; exact a1
        rw [ec, bV_some]
        obtain ⟨m', j1, j2, j3, j4⟩ := ih (i + 1) ma (by omega) (by omega) (by rw [a2 _ (by decide)]; exact e1) (fun r j h1 h2 h3 h4 => by
          rw [a4 _ (by omega), a4 _ (by omega), a4 _ (by omega)]; exact hN r j (by omega) h2 h3 h4)
        refine ⟨m', ?_, fun q hq => by rw [j2 q hq, a2 q hq], fun r j h1 h2 h3 h4 => ?_, fun r j h1 h2 h3 => ?_⟩
        · rw [show (i : Int) + 1 = ((i + 1 : Nat) : Int) by omega]; exact j1
        · by_cases y : r = i
          · subst y; rw [j4 r j (by omega) h2 h4]; exact a3 j (by omega) h4
          · exact j3 r j (by omega) h2 h3 h4
        · rw [j4 r j (by omega) h2 h3, a4 _ (by omega)]
theorem c_s4 {P : Nat} {b : Nat → Int} (hP : P ≤ 8) (hbb : ∀ d, d < P → 0 ≤ b d ∧ b d ≤ 999) {bE : Int} {LE : List (List Int)} : ∀ (d n k : Nat) (bf : Int) (L : List (List Int)) (m : Mem), k + d = P → d < n → soN d k bf L = some (bE, LE) → Mt P L → Mb P L → 0 < bf → bf ≤ 1000 → m 30 1 = (P : Int) → (∀ r c : Nat, r < P → c ≤ P → m 31 (9 * (r : Int) + c) = vlN P b L r c) → ∃ m', Lath_solve_L4 n bf (k : Int) m = some (st m' 30 2 bE) ∧ (∀ q, q ≠ 31 → m' q = m q) ∧ Mb P LE ∧ (∀ r c : Nat, r < P → c ≤ P → m' 31 (9 * (r : Int) + c) = vlN P b LE r c) := by
  intro d
  induction d with
  | zero =>
    intro n k bf L m hk hn hs ht hb h0 h1 e1 hv
    rw [soN] at hs
    cases hs
    match n, hn with
    | n + 1, _ =>
      rw [Lath_solve_L4, e1, w32_id (x := (P : Int)) (by omega) (by omega), w32_id (x := (k : Int)) (by omega) (by omega), if_pos (by omega)]
      exact ⟨m, rfl, fun _ _ => rfl, hb, hv⟩
  | succ d ih =>
    intro n k bf L m hk hn hs ht hb h0 h1 e1 hv
    rw [soN] at hs
    by_cases q : 0 < gt2 L k k
    · rw [if_pos q] at hs
      match he : elN k (gt2 L k k) bf (L.getD k []) 0 L, hs with
      | some L', hs =>
        obtain ⟨t1, t2, t3⟩ := el_step (P := P) (by omega) ht hb he
        have hkk := hb k k (by omega) (by omega)
        match n, hn with
        | n + 1, hn =>
          have ekk : vlN P b L k k = gt2 L k k := by unfold vlN; rw [if_pos (by omega)]
          have ep : Lath_cellAt (k : Int) (k : Int) m = gt2 L k k := by rw [c_cell (by omega) (by omega), hv k k (by omega) (by omega), ekk]
          rw [Lath_solve_L4, e1, w32_id (x := (P : Int)) (by omega) (by omega), w32_id (x := (k : Int)) (by omega) (by omega), if_neg (by omega), ep, if_pos (by rw [w64_id (by omega) (by omega)]; omega)]
          obtain ⟨m', j1, j2, j3, j4⟩ := c_s31 (P := P) (k := k) (pv := gt2 L k k) (bf := bf) (N := fun r j => vlN P b L' r j) hP (by omega) h0 h1 (K := Lath_solve_L4 n) FU 0 m (by omega) (by rw [FU_eq]; omega) e1 (fun r j r0 r1 r2 r3 => by
            have v := (vl_step (P := P) (k := k) (b := b) (pv := gt2 L k k) (bf := bf) (by omega) t3 r1 r3).2 r2
            rw [hv r j r1 r3, hv r k r1 (by omega), hv k j (by omega) r3]
            refine ⟨v, ?_⟩
            have b1 := vl_b hP t2 hbb r1 r3
            have b2 := mulB (a := bf) (b := vlN P b L' r j) (A := 1000) (B := 8000000) (by omega) (by omega) (by omega) (by omega)
            omega)
          obtain ⟨mz, z1, z2, z3, z4⟩ := ih n (k + 1) (gt2 L k k) L' m' (by omega) (by omega) hs t1 t2 q hkk.2 (by rw [j2 _ (by decide)]; exact e1) (fun r c r1 r2 => by
            by_cases y : r = k
            · rw [j4 r c (Or.inr y) r1 r2, hv r c r1 r2]
              exact ((vl_step (P := P) (k := k) (b := b) (pv := gt2 L k k) (bf := bf) (by omega) t3 r1 r2).1 y).symm
            · exact j3 r c (by omega) r1 y r2)
          refine ⟨mz, ?_, fun q hq => by rw [z2 q hq, j2 q hq], z3, z4⟩
          rw [show (k : Int) + 1 = ((k + 1 : Nat) : Int) by omega] at j1
          exact j1.trans z1
    · rw [if_neg q] at hs; cases hs
theorem c_wgt {p b : Nat} (hp : p < 100) (hb : b < 100) : Lath_weight (p : Int) (b : Int) = ctN p b := by
  unfold Lath_weight ctN
  rw [w32_id (x := (p : Int)) (by omega) (by omega), w32_id (x := (b : Int)) (by omega) (by omega), jabs (by omega) (by omega)]
  have e : w32 (iab ((p : Int) - b)) = iab ((p : Int) - b) := by
    have := iab_b (x := (p : Int) - b) (B := 200) (by omega) (by omega)
    exact w32_id (by omega) (by omega)
  rw [e]
  unfold iab
  by_cases q1 : b = p
  · rw [if_neg (by omega), if_pos q1]
  · rw [if_pos (by omega), if_neg q1]
    by_cases q2 : b + 1 = p
    · rw [if_pos q2, if_pos (show 0 ≤ (p : Int) - b by omega), if_neg (by omega)]
    · rw [if_neg q2]
      by_cases q3 : b = p + 1
      · rw [if_pos q3, if_neg (show ¬ 0 ≤ (p : Int) - b by omega), if_neg (by omega)]
      · rw [if_neg q3]
        by_cases q4 : 0 ≤ (p : Int) - b
        · rw [if_pos q4, if_pos (by omega)]
        · rw [if_neg q4, if_pos (by omega)]
theorem c_lf15 {P x y : Nat} (hP : P ≤ 8) (hx : x < P) (hy : y < P) {K : Int → Mem → Option Mem} {m : Mem} (e1 : m 30 1 = (P : Int)) : ∀ (n i : Nat), i ≤ P → P - i < n → i ≤ P - 2 → Lath_layFree_L15 (x : Int) K n (y : Int) (gmN x y i) ((i : Int) + 1) m = K ((y : Int) + 1) (st m 31 (9 * (x : Int) + y) (GN P x y)) := by
  intro n
  induction n with
  | zero => intro i _ h; omega
  | succ n ih =>
    intro i hi hn h2
    rw [Lath_layFree_L15, e1, w32_id (x := (P : Int) - 1) (by omega) (by omega), w32_id (x := (i : Int) + 1) (by omega) (by omega)]
    by_cases q : P - 2 ≤ i
    · rw [if_pos (by omega), c_set (by omega) (by omega), show i = P - 2 by omega, GN_gm hP hx hy]
    · rw [if_neg (by omega), show (i : Int) + 1 = ((i + 1 : Nat) : Int) by omega, c_wgt (by omega) (by omega), c_wgt (by omega) (by omega)]
      exact ih (i + 1) (by omega) (by omega) (by omega)
theorem c_lf2 {P x : Nat} (hP : P ≤ 8) (hx : x < P) {Q : Nat → Int} (hQ : ∀ c, c < P → Q c = GN P x c) (hQP : Q P = 0) : ∀ (n c : Nat) (m : Mem), c ≤ P → P - c < n → m 30 1 = (P : Int) → ∃ m', Lath_layFree_L2 (x : Int) n (c : Int) m = some m' ∧ (∀ q, q ≠ 31 → m' q = m q) ∧ (∀ j : Nat, c ≤ j → j ≤ P → m' 31 (9 * (x : Int) + j) = Q j) ∧ (∀ i, i < 9 * (x : Int) + c ∨ 9 * (x : Int) + P < i → m' 31 i = m 31 i) := by
  intro n
  induction n with
  | zero => intro c m _ h; omega
  | succ n ih =>
    intro c m hc hn e1
    rw [Lath_layFree_L2, e1, w32_id (x := (P : Int)) (by omega) (by omega), w32_id (x := (c : Int)) (by omega) (by omega)]
    by_cases q : P ≤ c
    · rw [if_pos (by omega), c_set (by omega) (by omega)]
      refine ⟨_, rfl, fun q hq => st_ne _ _ _ hq, fun j h1 h2 => ?_, fun i hi => by rw [st_eq, if_neg (by omega)]⟩
      rw [st_eq, if_pos (by omega), show j = P by omega, hQP]
    · rw [if_neg (by omega)]
      have e := c_lf15 (P := P) (x := x) (y := c) hP hx (by omega) (K := Lath_layFree_L2 (x : Int) n) e1 FU 0 (by omega) (by rw [FU_eq]; omega) (by omega)
      rw [show ((0 : Nat) : Int) + 1 = 1 by omega, show gmN x c 0 = 0 from rfl] at e
      rw [e, show (c : Int) + 1 = ((c + 1 : Nat) : Int) by omega]
      obtain ⟨m', j1, j2, j3, j4⟩ := ih (c + 1) (st m 31 (9 * (x : Int) + c) (GN P x c)) (by omega) (by omega) (by rw [st_ne _ _ _ (by decide)]; exact e1)
      refine ⟨m', j1, fun q hq => by rw [j2 q hq, st_ne _ _ _ hq], fun j h1 h2 => ?_, fun i hi => by rw [j4 i (by omega), st_eq, if_neg (by omega)]⟩
      by_cases z : j = c
      · subst z; rw [j4 _ (by omega), st_eq, if_pos rfl, hQ j (by omega)]
      · exact j3 j (by omega) h2
theorem c_ld2 {P x : Nat} {v : Int} (hP : P ≤ 8) (hx : x < P) (hv : 0 ≤ v ∧ v ≤ 999) {Q : Nat → Int} (hQ : ∀ c, c < P → Q c = if c = x then 1 else 0) (hQP : Q P = v) : ∀ (n c : Nat) (m : Mem), c ≤ P → P - c < n → m 30 1 = (P : Int) → ∃ m', Lath_layDuck_L2 (x : Int) v n (c : Int) m = some m' ∧ (∀ q, q ≠ 31 → m' q = m q) ∧ (∀ j : Nat, c ≤ j → j ≤ P → m' 31 (9 * (x : Int) + j) = Q j) ∧ (∀ i, i < 9 * (x : Int) + c ∨ 9 * (x : Int) + P < i → m' 31 i = m 31 i) := by
  intro n
  induction n with
  | zero => intro c m _ h; omega
  | succ n ih =>
    intro c m hc hn e1
    rw [Lath_layDuck_L2, e1, w32_id (x := (P : Int)) (by omega) (by omega), w32_id (x := (c : Int)) (by omega) (by omega)]
    by_cases q : P ≤ c
    · rw [if_pos (by omega), c_set (by omega) (by omega), w32_id (x := v) (by omega) (by omega)]
      refine ⟨_, rfl, fun q hq => st_ne _ _ _ hq, fun j h1 h2 => ?_, fun i hi => by rw [st_eq, if_neg (by omega)]⟩
      rw [st_eq, if_pos (by omega), show j = P by omega, hQP]
    · rw [if_neg (by omega), c_set (by omega) (by omega), w32_id (x := (x : Int)) (by omega) (by omega), show (c : Int) + 1 = ((c + 1 : Nat) : Int) by omega]
      obtain ⟨m', j1, j2, j3, j4⟩ := ih (c + 1) (st m 31 (9 * (x : Int) + c) (if ¬ (c : Int) = (x : Int) then 0 else 1)) (by omega) (by omega) (by rw [st_ne _ _ _ (by decide)]; exact e1)
      refine ⟨m', j1, fun q hq => by rw [j2 q hq, st_ne _ _ _ hq], fun j h1 h2 => ?_, fun i hi => by rw [j4 i (by omega), st_eq, if_neg (by omega)]⟩
      by_cases z : j = c
      · subst z
        rw [j4 _ (by omega), st_eq, if_pos rfl, hQ j (by omega)]
        by_cases y : j = x
        · rw [if_neg (by omega), if_pos y]
        · rw [if_pos (by omega), if_neg y]
      · exact j3 j (by omega) h2
theorem vl_fr {P D : Nat} {b : Nat → Int} {r : Nat} (hr : r < P) (h : Fz D r) : (∀ c, c < P → vlN P b (L0N P D) r c = GN P r c) ∧ vlN P b (L0N P D) r P = 0 := by
  constructor
  · intro c hc
    unfold vlN
    rw [if_pos hc, gt2_L0 hr (by omega)]
    unfold a0N
    rw [if_pos (fzB_t.mpr h), if_pos hc]
  · unfold vlN
    rw [if_neg (by omega)]
    refine sdN_z P (fun d hd => ?_)
    show b d * _ = 0
    rw [gt2_L0 hr (by omega)]
    unfold a0N
    rw [if_pos (fzB_t.mpr h), if_neg (by omega), Int.mul_zero]
theorem vl_dk {P D : Nat} {b : Nat → Int} {r : Nat} (hr : r < P) (h : ¬ Fz D r) : (∀ c, c < P → vlN P b (L0N P D) r c = if c = r then 1 else 0) ∧ vlN P b (L0N P D) r P = b r := by
  have h' : ¬ fzB D r = true := fun z => h (fzB_t.mp z)
  constructor
  · intro c hc
    unfold vlN
    rw [if_pos hc, gt2_L0 hr (by omega)]
    unfold a0N
    rw [if_neg h']
    by_cases q : c = r
    · rw [if_pos q, if_pos q]
    · rw [if_neg q, if_neg (by omega), if_neg q]
  · unfold vlN
    rw [if_neg (by omega), sdN_one (r := r) P hr]
    · rw [gt2_L0 hr (by omega)]
      unfold a0N
      rw [if_neg h', if_neg (by omega), if_pos rfl, Int.mul_one]
    · intro d hd hn
      show b d * _ = 0
      rw [gt2_L0 hr (by omega)]
      unfold a0N
      rw [if_neg h', if_neg (by omega), if_neg (by omega), Int.mul_zero]
/-- a row laid, then the rest, then the solving -/
theorem c_lay18 {P D : Nat} {v l : Int} {b : Nat → Int} {bE : Int} {LE : List (List Int)} {S W : Int} (hP : P ≤ 8) (hD : D < 256) (hs : gSW S W) (hl : isLn S W v l) (eP : plS S W v l = (P : Int)) (hbb : ∀ d, d < P → 0 ≤ b d ∧ b d ≤ 999) (hso : soN P 0 1 (L0N P D) = some (bE, LE)) : ∀ (n i : Nat) (m : Mem), i ≤ P → P - i < n → m 30 1 = (P : Int) → m 7 0 = S → m 7 1 = W → (∀ d : Nat, d < P → m 10 (fsS S v l + srS v * (d : Int)) = b d) → (∀ r c : Nat, r < i → c ≤ P → m 31 (9 * (r : Int) + c) = vlN P b (L0N P D) r c) → ∃ m', Lath_lay_L18 v l (D : Int) n (i : Int) m = some (st m' 30 2 bE) ∧ (∀ q, q ≠ 31 → m' q = m q) ∧ Mb P LE ∧ (∀ r c : Nat, r < P → c ≤ P → m' 31 (9 * (r : Int) + c) = vlN P b LE r c) := by
  intro n
  induction n with
  | zero => intro i m _ h; omega
  | succ n ih =>
    intro i m hi hn e1 es ew hb10 hv
    rw [Lath_lay_L18, e1, w32_id (x := (P : Int)) (by omega) (by omega), w32_id (x := (i : Int)) (by omega) (by omega)]
    by_cases q : P ≤ i
    · rw [if_pos (by omega)]
      obtain ⟨m', j1, j2, j3, j4⟩ := c_s4 (P := P) (b := b) hP hbb P FU 0 1 (L0N P D) m (by omega) (by rw [FU_eq]; omega) hso (Mt_L0 P D) (Mb_L0 hP) (by omega) (by omega) e1 (fun r c hr hc => hv r c (by omega) hc)
      refine ⟨m', ?_, j2, j3, j4⟩
      unfold Lath_solve
      rw [show ((0 : Nat) : Int) = 0 from rfl] at j1
      rw [j1, bV_some]
    · have hi' : i < P := by omega
      rw [if_neg (by omega), show (i : Int) + 1 = ((i + 1 : Nat) : Int) by omega]
      by_cases z : Fz D i
      · rw [if_pos (bitZ (by omega) (by omega) z)]
        obtain ⟨v1, v2⟩ := vl_fr (b := b) hi' z
        obtain ⟨ma, a1, a2, a3, a4⟩ := c_lf2 (P := P) (x := i) hP hi' (Q := fun c => vlN P b (L0N P D) i c) v1 v2 FU 0 m (by omega) (by rw [FU_eq]; omega) e1
        unfold Lath_layFree
        rw [show ((0 : Nat) : Int) = 0 from rfl] at a1
        rw [a1, bV_some]
        obtain ⟨m', j1, j2, j3, j4⟩ := ih (i + 1) ma (by omega) (by omega) (by rw [a2 _ (by decide)]; exact e1) (by rw [a2 _ (by decide)]; exact es) (by rw [a2 _ (by decide)]; exact ew) (by rw [a2 _ (by decide)]; exact hb10) (fun r c hr hc => by
          by_cases y : r = i
          · subst y; exact a3 c (by omega) hc
          · rw [a4 _ (by omega)]; exact hv r c (by omega) hc)
        exact ⟨m', j1, fun q hq => by rw [j2 q hq, a2 q hq], j3, j4⟩
      · rw [if_neg (by rw [bitO (by omega) (by omega) z]; omega)]
        obtain ⟨v1, v2⟩ := vl_dk (b := b) hi' z
        have ea : Sheet_at 7 (Sheet_pointAt 7 v l (i : Int) m) m = b i := by
          have hpt := pt64 hs (pt_in hs hl (p := (i : Int)) (by omega) (by omega))
          unfold Sheet_pointAt
          rw [c_first (by rw [es, ew]; exact hs) (by rw [es, ew]; exact hl), c_stride hl.1.1 hl.1.2, es, Int.mul_comm (i : Int), c_at hpt.1 hpt.2, hb10 i hi']
        rw [ea]
        obtain ⟨ma, a1, a2, a3, a4⟩ := c_ld2 (P := P) (x := i) (v := b i) hP hi' (hbb i hi') (Q := fun c => vlN P b (L0N P D) i c) v1 v2 FU 0 m (by omega) (by rw [FU_eq]; omega) e1
        unfold Lath_layDuck
        rw [show ((0 : Nat) : Int) = 0 from rfl] at a1
        rw [a1, bV_some]
        obtain ⟨m', j1, j2, j3, j4⟩ := ih (i + 1) ma (by omega) (by omega) (by rw [a2 _ (by decide)]; exact e1) (by rw [a2 _ (by decide)]; exact es) (by rw [a2 _ (by decide)]; exact ew) (by rw [a2 _ (by decide)]; exact hb10) (fun r c hr hc => by
          by_cases y : r = i
          · subst y; exact a3 c (by omega) hc
          · rw [a4 _ (by omega)]; exact hv r c (by omega) hc)
        exact ⟨m', j1, fun q hq => by rw [j2 q hq, a2 q hq], j3, j4⟩
/-- what the class's lath is: all cells but 30, 31 stay -/
theorem c_lay {P D : Nat} {v l : Int} {b : Nat → Int} {bE : Int} {LE : List (List Int)} {m : Mem} (hP : P ≤ 8) (hD : D < 256) (hs : gSW (m 7 0) (m 7 1)) (hl : isLn (m 7 0) (m 7 1) v l) (eP : plS (m 7 0) (m 7 1) v l = (P : Int)) (hbb : ∀ d, d < P → 0 ≤ b d ∧ b d ≤ 999) (hb10 : ∀ d : Nat, d < P → m 10 (fsS (m 7 0) v l + srS v * (d : Int)) = b d) (hso : soN P 0 1 (L0N P D) = some (bE, LE)) : ∃ m', Lath_lay v l (D : Int) m = some m' ∧ (∀ q, q ≠ 30 → q ≠ 31 → m' q = m q) ∧ m' 30 1 = (P : Int) ∧ m' 30 2 = bE ∧ Mb P LE ∧ (∀ p : Nat, p < P → m' 31 (9 * (p : Int) + P) = sdN (fun d => b d * gt2 LE p (P + d)) P) := by
  have ej : J_min 8 (Sheet_placesOf 7 v l m) = (P : Int) := by
    rw [c_places hs hl, eP]
    unfold J_min
    rw [w32_id (by omega) (by omega), w32_id (by omega) (by omega)]
    split <;> omega
  obtain ⟨m', j1, j2, j3, j4⟩ := c_lay18 (P := P) (D := D) (v := v) (l := l) (b := b) hP hD hs hl eP hbb hso FU 0 (st m 30 1 (P : Int)) (by omega) (by rw [FU_eq]; omega) rfl rfl rfl (by rw [st_ne _ _ _ (by decide)]; exact hb10) (fun r c hr => by omega)
  refine ⟨st m' 30 2 bE, ?_, fun q h1 h2 => by rw [st_ne _ _ _ h1, j2 q h2, st_ne _ _ _ h1], ?_, ?_, j3, fun p hp => ?_⟩
  · unfold Lath_lay
    rw [ej]
    rw [show ((0 : Nat) : Int) = 0 from rfl] at j1
    exact j1
  · rw [st_eq, if_neg (by decide), j2 30 (by decide)]; rfl
  · rw [st_eq, if_pos rfl]
  · rw [st_ne _ _ _ (by decide), j4 p P hp (by omega)]
    unfold vlN
    rw [if_neg (by omega)]
