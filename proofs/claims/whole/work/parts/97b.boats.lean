/-! layer 2: boats -/
def clS (x : Int) : Int := if 0 < (if x < 999 then x else 999) then (if x < 999 then x else 999) else 0
theorem clS_b (x : Int) : 0 ≤ clS x ∧ clS x ≤ 999 := by unfold clS; split <;> split <;> omega
theorem clJ {x : Int} (h1 : -2147483648 ≤ x) (h2 : x < 2147483648) : J_max 0 (J_min 999 x) = clS x := by
  unfold J_max J_min clS
  rw [w32_id (x := x) h1 h2, w32_id (x := 999) (by omega) (by omega), w32_id (x := 0) (by omega) (by omega)]
  have e : w32 (if x < 999 then x else 999) = if x < 999 then x else 999 := w32_id (by split <;> omega) (by split <;> omega)
  rw [e]
def nxS (s : Int) : Int := (s * 3989 + 7919) % 65536
def vbS (F : Int → Int) (hand s p : Int) : Int := clS (F p + (nxS s / 8) % (2 * hand + 1) - hand)
def btS (F : Int → Int) (S W hand : Int) : Nat → Int → Int → (Int → Int) → (Int → Int)
  | 0, _, _, B => B
  | n + 1, p, s, B => if ptB S W p then btS F S W hand n (p + 1) (nxS s) (fun i => if i = p then vbS F hand s p else B i) else btS F S W hand n (p + 1) s B
theorem btS_s (F : Int → Int) (S W hand : Int) (n : Nat) (p s : Int) (B : Int → Int) : btS F S W hand (n + 1) p s B = if ptB S W p then btS F S W hand n (p + 1) (nxS s) (fun i => if i = p then vbS F hand s p else B i) else btS F S W hand n (p + 1) s B := rfl
theorem nxS_b (s : Int) : 0 ≤ nxS s ∧ nxS s < 65536 := by unfold nxS; omega
theorem c_boat_loop {hand : Int} (h0 : 0 ≤ hand) (h1 : hand ≤ 20) : ∀ (n : Nat) (s p : Int) (m : Mem), gSW (m 7 0) (m 7 1) → (∀ q, Pt (m 7 0) (m 7 1) q → 0 ≤ m 10 q ∧ m 10 q ≤ 999) → 0 ≤ s → s < 70000 → 0 ≤ p → p ≤ 64 → (64 - p).toNat < n → ∃ m', Yard_buildBoat_L25 hand (2 * hand + 1) n s p m = some m' ∧ (∀ c, c ≠ 43 → m' c = m c) ∧ m' 43 = btS (m 10) (m 7 0) (m 7 1) hand (64 - p).toNat p s (m 43) := by
  intro n
  induction n with
  | zero => intro s p m _ _ _ _ _ _ q; omega
  | succ n ih =>
    intro s p m hs hfl s0 s1 p0 p1 hn
    rw [Yard_buildBoat_L25, w32_id (x := p) (by omega) (by omega)]
    by_cases q : 64 ≤ p
    · exact ⟨m, by rw [if_pos q], fun _ _ => rfl, by rw [show (64 - p).toNat = 0 by omega]; rfl⟩
    · rw [if_neg q, show (64 - p).toNat = (64 - (p + 1)).toNat + 1 by omega, btS]
      by_cases g : Pt (m 7 0) (m 7 1) p
      · have f := hfl p g
        have nb := nxS_b s
        have e1 : bAnd (s * 3989 + 7919) 65535 = nxS s := bAnd_65535 _
        have e2 : w32 (Int.tdiv (w32 (nxS s)) 8) = nxS s / 8 := by
          rw [w32_id (x := nxS s) (by omega) (by omega), Int.tdiv_eq_ediv_of_nonneg (by omega), w32_id (by omega) (by omega)]
        have e3 : Int.tmod (nxS s / 8) (2 * hand + 1) = (nxS s / 8) % (2 * hand + 1) := Int.tmod_eq_emod_of_nonneg (by omega)
        have m0 := Int.emod_nonneg (nxS s / 8) (show 2 * hand + 1 ≠ 0 by omega)
        have m1 := Int.emod_lt_of_pos (nxS s / 8) (show 0 < 2 * hand + 1 by omega)
        rw [hpT hs g, if_neg (by decide), w32_id (x := 2 * hand + 1) (by omega) (by omega), if_neg (by omega), if_pos (by omega), e1, e2, e3, c_at p0 (by omega), clJ (by omega) (by omega), if_pos (ptB_t.mpr g)]
        unfold ltM
        obtain ⟨m', k1, k2, k3⟩ := ih (nxS s) (p + 1) (st m 43 p (vbS (m 10) hand s p)) hs hfl nb.1 (by omega) (by omega) (by omega) (by omega)
        refine ⟨m', k1, fun c hc => by rw [k2 c hc, st_ne _ _ _ hc], ?_⟩
        rw [k3]
        congr 1 <;> (funext i; rw [st_eq])
      · rw [hpF hs (w64_id (by omega) (by omega)) g, if_pos rfl, ptB_f.mpr g]
        obtain ⟨m', k1, k2, k3⟩ := ih s (p + 1) m hs hfl s0 s1 (by omega) (by omega) (by omega)
        exact ⟨m', k1, k2, k3⟩
theorem m_boat_loop {hand S W : Int} (hs : gSW S W) (h0 : 0 ≤ hand) (h1 : hand ≤ 20) : ∀ (n : Nat) (s p : Int) (m : Mem), m 76 0 = S → m 76 1 = W → (∀ q, Pt S W q → 0 ≤ m 76 (80 + q) ∧ m 76 (80 + q) ≤ 999) → 0 ≤ s → s < 70000 → 0 ≤ p → p ≤ 64 → (8 * S - p).toNat < n → ∃ m', Mo_builds_L11 hand n s p m = some m' ∧ (∀ c, c ≠ 93 → m' c = m c) ∧ m' 93 = btS (fun q => m 76 (80 + q)) S W hand (8 * S - p).toNat p s (m 93) := by
  intro n
  induction n with
  | zero => intro s p m _ _ _ _ _ _ _ q; omega
  | succ n ih =>
    intro s p m z0 z1 hfl s0 s1 p0 p1 hn
    rw [Mo_builds_L11, z0, z1, w32_id (x := p) (by omega) (by omega), w32_id (x := 8 * S) (by omega) (by omega)]
    by_cases q : 8 * S ≤ p
    · exact ⟨m, by rw [if_pos q], fun _ _ => rfl, by rw [show (8 * S - p).toNat = 0 by omega]; rfl⟩
    · rw [if_neg q, show (8 * S - p).toNat = (8 * S - (p + 1)).toNat + 1 by omega, btS, tmod8 p0, w32_id (x := p % 8) (by omega) (by omega), w32_id (x := W) (by omega) (by omega)]
      by_cases g : Pt S W p
      · have f := hfl p g
        have g' := g
        unfold Pt at g'
        have nb := nxS_b s
        have e1 : Int.tmod (w32 (s * 3989 + 7919)) 65536 = nxS s := by
          rw [w32_id (by omega) (by omega), Int.tmod_eq_emod_of_nonneg (by omega)]; rfl
        have e2 : w32 (Int.tdiv (w32 (nxS s)) 8) = nxS s / 8 := by
          rw [w32_id (x := nxS s) (by omega) (by omega), Int.tdiv_eq_ediv_of_nonneg (by omega), w32_id (by omega) (by omega)]
        have e3 : Int.tmod (nxS s / 8) (2 * hand + 1) = (nxS s / 8) % (2 * hand + 1) := Int.tmod_eq_emod_of_nonneg (by omega)
        have m0 := Int.emod_nonneg (nxS s / 8) (show 2 * hand + 1 ≠ 0 by omega)
        have m1 := Int.emod_lt_of_pos (nxS s / 8) (show 0 < 2 * hand + 1 by omega)
        rw [if_pos g'.2.2, w32_id (x := 80 + p) (by omega) (by omega), if_pos (by omega), w32_id (x := 2 * hand + 1) (by omega) (by omega), if_neg (by omega), e1, e2, e3, clJ (by omega) (by omega), if_pos (ptB_t.mpr g)]
        unfold ltI
        dsimp only
        rw [if_pos (by omega)]
        obtain ⟨m', k1, k2, k3⟩ := ih (nxS s) (p + 1) (st m 93 p (vbS (fun q => m 76 (80 + q)) hand s p)) z0 z1 hfl nb.1 (by omega) (by omega) (by omega) (by omega)
        refine ⟨m', k1, fun c hc => by rw [k2 c hc, st_ne _ _ _ hc], ?_⟩
        rw [k3]
        congr 1 <;> (funext i; rw [st_eq])
      · have g' : ¬ p % 8 < W := fun z => g ⟨p0, by omega, z⟩
        rw [if_neg g', ptB_f.mpr g]
        obtain ⟨m', k1, k2, k3⟩ := ih s (p + 1) m z0 z1 hfl s0 s1 (by omega) (by omega) (by omega)
        exact ⟨m', k1, k2, k3⟩
/-- what a boat is at the points, whatever stood there before -/
theorem btS_eq {F G : Int → Int} {S W hand : Int} (e : ∀ q, Pt S W q → F q = G q) : ∀ (n n' : Nat) (p s : Int) (B B' : Int → Int), (∀ q, Pt S W q → q < p → B q = B' q) → (∀ q, Pt S W q → q < p + n ∧ q < p + n') → ∀ q, Pt S W q → btS F S W hand n p s B q = btS G S W hand n' p s B' q := by
  intro n
  induction n with
  | zero =>
    intro n'
    induction n' with
    | zero => intro p s B B' hB hc q hq; exact hB q hq (by have := hc q hq; omega)
    | succ n' ih' =>
      intro p s B B' hB hc q hq
      have hf : ptB S W p = false := ptB_f.mpr (fun z => by have := hc p z; omega)
      show B q = btS G S W hand (n' + 1) p s B' q
      rw [btS_s, hf]
      have := ih' (p + 1) s B B' (fun x hx h1 => hB x hx (by have := hc x hx; omega)) (fun x hx => by have := hc x hx; omega) q hq
      exact this
  | succ n ih =>
    intro n' p s B B' hB hc q hq
    match n' with
    | 0 =>
      have hf : ptB S W p = false := ptB_f.mpr (fun z => by have := hc p z; omega)
      rw [btS_s, hf]
      exact ih 0 (p + 1) s B B' (fun x hx h1 => hB x hx (by have := hc x hx; omega)) (fun x hx => by have := hc x hx; omega) q hq
    | n' + 1 =>
      rw [btS_s, btS_s]
      by_cases g : Pt S W p
      · rw [if_pos (ptB_t.mpr g), if_pos (ptB_t.mpr g)]
        refine ih n' (p + 1) (nxS s) _ _ (fun x hx h1 => ?_) (fun x hx => by have := hc x hx; omega) q hq
        by_cases z : x = p
        · subst z
          rw [if_pos rfl, if_pos rfl]
          unfold vbS; rw [e x hx]
        · rw [if_neg z, if_neg z]; exact hB x hx (by omega)
      · rw [ptB_f.mpr g]
        refine ih n' (p + 1) s B B' (fun x hx h1 => hB x hx ?_) (fun x hx => by have := hc x hx; omega) q hq
        rcases (by omega : x < p ∨ x = p) with z | z
        · exact z
        · subst z; exact absurd hx g
theorem btS_b {F : Int → Int} {S W hand : Int} : ∀ (n : Nat) (p s : Int) (B : Int → Int), (∀ q, Pt S W q → q < p → 0 ≤ B q ∧ B q ≤ 999) → ∀ q, Pt S W q → q < p + n → 0 ≤ btS F S W hand n p s B q ∧ btS F S W hand n p s B q ≤ 999 := by
  intro n
  induction n with
  | zero => intro p s B hB q hq h; exact hB q hq (by omega)
  | succ n ih =>
    intro p s B hB q hq h
    rw [btS_s]
    by_cases g : Pt S W p
    · rw [if_pos (ptB_t.mpr g)]
      refine ih (p + 1) (nxS s) _ (fun x hx h1 => ?_) q hq (by omega)
      by_cases z : x = p
      · rw [if_pos z]; exact clS_b _
      · rw [if_neg z]; exact hB x hx (by omega)
    · rw [ptB_f.mpr g]
      refine ih (p + 1) s B (fun x hx h1 => hB x hx ?_) q hq (by omega)
      rcases (by omega : x < p ∨ x = p) with z | z
      · exact z
      · subst z; exact absurd hx g
/-- the boat of class and reference -/
def bSp (m : Mem) (seed hand k q : Int) : Int := btS (m 10) (m 7 0) (m 7 1) hand 64 0 (seed + 101 * k) (fun _ => 0) q
theorem c_boat {m : Mem} (hs : gSW (m 7 0) (m 7 1)) (hfl : ∀ q, Pt (m 7 0) (m 7 1) q → 0 ≤ m 10 q ∧ m 10 q ≤ 999) {seed hand k : Int} (s0 : 0 ≤ seed) (s1 : seed ≤ 9999) (h0 : 0 ≤ hand) (h1 : hand ≤ 20) (k0 : 0 ≤ k) (k1 : k < 41) : ∃ m', Yard_buildBoat seed hand k m = some m' ∧ (∀ c, c ≠ 43 → m' c = m c) ∧ ∀ q, Pt (m 7 0) (m 7 1) q → m' 43 q = bSp m seed hand k q := by
  obtain ⟨m', e1, e2, e3⟩ := c_boat_loop h0 h1 FU (seed + 101 * k) 0 m hs hfl (by omega) (by omega) (by omega) (by omega) (by rw [FU_eq]; omega)
  refine ⟨m', ?_, e2, fun q hq => ?_⟩
  · unfold Yard_buildBoat
    rw [w32_id (x := 2 * hand + 1) (by omega) (by omega), if_pos (by omega)]
    exact e1
  · rw [e3]
    exact btS_eq (fun _ _ => rfl) _ _ _ _ _ _ (fun x hx h => by unfold Pt at hx; omega) (fun x hx => by have := pt64 hs hx; omega) q hq
theorem m_boat {m : Mem} (h : Rel m) {seed hand k : Int} (s0 : 0 ≤ seed) (s1 : seed ≤ 9999) (h0 : 0 ≤ hand) (h1 : hand ≤ 20) (k0 : 0 ≤ k) (k1 : k < 41) (m1 : Mem) (k76 : m1 76 = m 76) : ∃ m', Mo_builds seed hand k m1 = some m' ∧ (∀ c, c ≠ 93 → m' c = m1 c) ∧ ∀ q, Pt (m 7 0) (m 7 1) q → m' 93 q = bSp m seed hand k q := by
  obtain ⟨⟨z0, z1, z2, z3, z4, z5, z6⟩, hs, hr, hv, hp⟩ := shF h
  obtain ⟨m', e1, e2, e3⟩ := m_boat_loop hs h0 h1 FU (seed + 101 * k) 0 m1 (by rw [k76]; exact z0) (by rw [k76]; exact z1) (by rw [k76]; exact flMb h) (by omega) (by omega) (by omega) (by omega) (by rw [FU_eq]; omega)
  refine ⟨m', e1, e2, fun q hq => ?_⟩
  rw [e3, k76]
  exact btS_eq (flM h) _ _ _ _ _ _ (fun x hx h => by unfold Pt at hx; omega) (fun x hx => by have := pt64 hs hx; unfold Pt at hx; omega) q hq
theorem bSp_b {m : Mem} (hs : gSW (m 7 0) (m 7 1)) {seed hand k q : Int} (hq : Pt (m 7 0) (m 7 1) q) : 0 ≤ bSp m seed hand k q ∧ bSp m seed hand k q ≤ 999 :=
  btS_b _ _ _ _ (fun x hx h => by unfold Pt at hx; omega) q hq (by have := pt64 hs hq; omega)
theorem s_boat {m : Mem} (h : Rel m) {a0 a1 a2 a3 : Int} (c0 : w32 a0 = a0) (c1 : w32 a1 = a1) (c2 : w32 a2 = a2) (c3 : w32 a3 = a3) : Stq w32 (FL_boat a0 a1 a2 a3 m) (fun m1 => Mo_boat a0 a1 a2 a3 m1) := by
  have b0 := cn c0
  have b1 := cn c1
  have b2 := cn c2
  have b3 := cn c3
  obtain ⟨⟨z0, z1, z2, z3, z4, z5, z6⟩, hs, hr, hv, hp⟩ := shF h
  by_cases g : (0 ≤ a0 ∧ a0 ≤ 9999) ∧ (0 ≤ a1 ∧ a1 ≤ 20) ∧ 0 ≤ a2 ∧ a2 ≤ 39
  · by_cases gp : Pt (m 7 0) (m 7 1) a3
    · have f1 := hpT hs gp
      have gp' := pt64 hs gp
      obtain ⟨ma, e1, e2, e3⟩ := c_boat hs (flC h) g.1.1 g.1.2 g.2.1.1 g.2.1.2 g.2.2.1 (show a2 < 41 by omega)
      have ka : ma 76 = m 76 := e2 76 (by decide)
      obtain ⟨mb, d1, d2, d3⟩ := m_boat h g.1.1 g.1.2 g.2.1.1 g.2.1.2 g.2.2.1 (show a2 < 41 by omega) (st ma 0 0 0) (by rw [st_ne _ _ _ (by decide)]; exact ka)
      have f2 : Mo_isPoint a3 (st ma 0 0 0) = 1 := mpT hs (by rw [st_ne _ _ _ (by decide), ka]; exact z0) (by rw [st_ne _ _ _ (by decide), ka]; exact z1) gp
      refine Stq.mk (x := ma 43 a3) (m1 := st ma 0 0 0) (y := mb 93 a3) (m2 := st mb 75 1 0) ?_ ?_ (by rw [e3 a3 gp, d3 a3 gp]) ?_
      · simp (disch := omega) only [bP, bE, bV, ltM, ltI, st_eq, st_ne, w32_id, w64_id, ↓reduceIte, ilt_t, ilt_f, ile_t, ile_f, ieq_t, ieq_f, not_true_eq_false, not_false_eq_true, and_true, true_and, and_self, and_false, false_and, Int.reduceMod, FL_boat, FL_isWithin, FL_no, FL_yes, FL_none, FL_answer, FL_isHand, f1, e1, Yard_boatAt]
      · simp (disch := omega) only [bP, bE, bV, ltM, ltI, st_eq, st_ne, w32_id, w64_id, ↓reduceIte, ilt_t, ilt_f, ile_t, ile_f, ieq_t, ieq_f, not_true_eq_false, not_false_eq_true, and_true, true_and, and_self, and_false, false_and, Int.reduceMod, Mo_boat, Mo_is, Mo_refuse, Mo_gives, Mo_isFrom, Mo_isHand, f2, d1]
      · refine h.ans ?_ ?_
        · refine Ag.st ?_ (by decide)
          refine Ag.cell ?_ 93 (fun i => by simp [comp]) d2
          refine Ag.st ?_ (by decide)
          exact Ag.cell (Ag.refl m) 43 (fun i => by simp [comp]) e2
        · refine Rst_set h.1 (k := 0) ?_ ?_ ?_ ?_ ?_ ?_
          · rw [st_ne _ _ _ (by decide), d2 0 (by decide), st_eq, if_pos rfl]
          · rw [st_eq, if_pos rfl]
          · rw [st_ne _ _ _ (by decide), d2 0 (by decide), st_eq, if_neg (by decide), e2 0 (by decide)]
          · rw [st_ne _ _ _ (by decide), d2 0 (by decide), st_eq, if_neg (by decide), e2 0 (by decide)]
          · rw [st_eq, if_neg (by decide), d2 75 (by decide), st_ne _ _ _ (by decide), e2 75 (by decide)]
          · rw [st_eq, if_neg (by decide), d2 75 (by decide), st_ne _ _ _ (by decide), e2 75 (by decide)]
    · have f1 := hpF hs (c64 c3) gp
      have f2 : ∀ k, Mo_isPoint a3 (st m 0 0 k) = 0 := fun k => mpF hs z0 z1 (c64 c3) gp
      refine Stq.mk (x := -1) (m1 := st m 0 0 1) (y := -1) (m2 := st (st m 0 0 1) 75 1 1) ?_ ?_ rfl (h.stat 1)
      · simp (disch := omega) only [bP, bE, bV, ltM, ltI, st_eq, st_ne, w32_id, w64_id, ↓reduceIte, ilt_t, ilt_f, ile_t, ile_f, ieq_t, ieq_f, not_true_eq_false, not_false_eq_true, and_true, true_and, and_self, and_false, false_and, Int.reduceMod, FL_boat, FL_isWithin, FL_no, FL_yes, FL_none, FL_answer, FL_isHand, f1]
      · simp (disch := omega) only [bP, bE, bV, ltM, ltI, st_eq, st_ne, w32_id, w64_id, ↓reduceIte, ilt_t, ilt_f, ile_t, ile_f, ieq_t, ieq_f, not_true_eq_false, not_false_eq_true, and_true, true_and, and_self, and_false, false_and, Int.reduceMod, Mo_boat, Mo_is, Mo_refuse, Mo_gives, Mo_isFrom, Mo_isHand, f2]
  · have hb : a0 < 0 ∨ 9999 < a0 ∨ ((0 ≤ a0 ∧ a0 ≤ 9999) ∧ a1 < 0) ∨ ((0 ≤ a0 ∧ a0 ≤ 9999) ∧ 20 < a1) ∨ ((0 ≤ a0 ∧ a0 ≤ 9999) ∧ (0 ≤ a1 ∧ a1 ≤ 20) ∧ a2 < 0) ∨ ((0 ≤ a0 ∧ a0 ≤ 9999) ∧ (0 ≤ a1 ∧ a1 ≤ 20) ∧ 39 < a2) := by omega
    refine Stq.mk (x := -1) (m1 := st m 0 0 1) (y := -1) (m2 := st (st m 0 0 1) 75 1 1) ?_ ?_ rfl (h.stat 1)
    · rcases hb with q | q | q | q | q | q <;> simp (disch := omega) only [bP, bE, bV, ltM, ltI, st_eq, st_ne, w32_id, w64_id, ↓reduceIte, ilt_t, ilt_f, ile_t, ile_f, ieq_t, ieq_f, not_true_eq_false, not_false_eq_true, and_true, true_and, and_self, and_false, false_and, Int.reduceMod, FL_boat, FL_isWithin, FL_no, FL_yes, FL_none, FL_answer, FL_isHand]
    · rcases hb with q | q | q | q | q | q <;> simp (disch := omega) only [bP, bE, bV, ltM, ltI, st_eq, st_ne, w32_id, w64_id, ↓reduceIte, ilt_t, ilt_f, ile_t, ile_f, ieq_t, ieq_f, not_true_eq_false, not_false_eq_true, and_true, true_and, and_self, and_false, false_and, Int.reduceMod, Mo_boat, Mo_is, Mo_refuse, Mo_gives, Mo_isFrom, Mo_isHand]
