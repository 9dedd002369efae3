/-! layer 2: tokens, the reference -/
def TpM (B : Nat → Int) (n : Nat) (m : Mem) : Prop := m 75 10 = (n : Int) ∧ n ≤ 600 ∧ ∀ i : Nat, i < n → bAnd (m 81 (i : Int)) 255 = B i ∧ 0 ≤ B i ∧ B i ≤ 255
theorem TpM.st {B : Nat → Int} {n : Nat} {m : Mem} (h : TpM B n m) {i : Int} (v : Int) (hi : i ≠ 10) : TpM B n (st m 75 i v) := by
  refine ⟨by rw [st_eq, if_neg (fun z => hi z.symm)]; exact h.1, h.2.1, fun j hj => ?_⟩
  rw [st_ne _ _ _ (by decide)]; exact h.2.2 j hj
def Tk75 (m m' : Mem) : Prop := (∀ c, c ≠ 75 → m' c = m c) ∧ ∀ i, i ≠ 11 → i ≠ 12 → i ≠ 13 → i ≠ 14 → m' 75 i = m 75 i
theorem Tk75.refl (m : Mem) : Tk75 m m := ⟨fun _ _ => rfl, fun _ _ _ _ _ => rfl⟩
theorem Tk75.st {m m' : Mem} (h : Tk75 m m') {i : Int} (v : Int) (hi : i = 11 ∨ i = 12 ∨ i = 13 ∨ i = 14) : Tk75 m (st m' 75 i v) := by
  refine ⟨fun c hc => by rw [st_ne _ _ _ hc]; exact h.1 c hc, fun j h3 h4 h5 h6 => ?_⟩
  rw [st_eq, if_neg (by omega)]; exact h.2 j h3 h4 h5 h6
theorem Tk75.trans {m m' m'' : Mem} (h : Tk75 m m') (h' : Tk75 m' m'') : Tk75 m m'' := ⟨fun c hc => (h'.1 c hc).trans (h.1 c hc), fun i a b c d => (h'.2 i a b c d).trans (h.2 i a b c d)⟩
theorem m_byte {B : Nat → Int} {n p : Nat} {m : Mem} (h : TpM B n m) (hp : p ≤ 600) : Mo_byteAt (p : Int) m = some (if n ≤ p then -1 else B p) := by
  have hn := h.2.1
  unfold Mo_byteAt
  rw [h.1, w32_id (x := (n : Int)) (by omega) (by omega), w32_id (x := (p : Int)) (by omega) (by omega)]
  by_cases q : n ≤ p
  · rw [if_pos (by omega), if_pos q]
  · rw [if_neg (by omega), if_pos (by omega), if_neg q, (h.2.2 p (by omega)).1]
theorem m_byE {B : Nat → Int} {n p : Nat} {m : Mem} (h : TpM B n m) (hp : p ≤ 600) (q : n ≤ p) : Mo_byteAt (p : Int) m = some (-1) := by rw [m_byte h hp, if_pos q]
theorem m_byI {B : Nat → Int} {n p : Nat} {m : Mem} (h : TpM B n m) (q : p < n) : Mo_byteAt (p : Int) m = some (B p) := by
  have := h.2.1
  rw [m_byte h (by omega), if_neg (by omega)]
theorem m_l0 {B : Nat → Int} {n : Nat} {K : Mem → Option Mem} : ∀ (f k p : Nat) (m : Mem), p + k = n → k < f → TpM B n m → m 75 13 = (p : Int) → ∃ m', Mo_ahead_L0 K f m = K m' ∧ Tk75 m m' ∧ m' 75 13 = (ruN blB B k p : Int) := by
  intro f
  induction f with
  | zero => intro k p m _ h; omega
  | succ f ih =>
    intro k p m hk hf h e3
    have hn := h.2.1
    rw [Mo_ahead_L0, e3]
    cases k with
    | zero =>
      rw [m_byE h (by omega) (by omega), bP_some, bP_some, if_neg (by decide), if_pos (by decide)]
      exact ⟨m, rfl, Tk75.refl m, e3⟩
    | succ k =>
      have hb := h.2.2 p (by omega)
      rw [m_byI h (by omega), bP_some, bP_some, w32_id (x := B p) (by omega) (by omega), ruN_s, show (p : Int) + 1 = ((p + 1 : Nat) : Int) by omega]
      by_cases q : blB (B p) = true
      · rw [if_pos q]
        obtain ⟨m', j1, j2, j3⟩ := ih k (p + 1) (st m 75 13 ((p + 1 : Nat) : Int)) (by omega) (by omega) (h.st _ (by decide)) (by rw [st_eq, if_pos rfl])
        refine ⟨m', ?_, ((Tk75.refl m).st _ (by omega)).trans j2, j3⟩
        by_cases z : B p = 32
        · rw [if_pos z]; exact j1
        · have := blB_t.mp q
          rw [if_neg z, if_neg (by omega)]; exact j1
      · have q' : ¬ (B p = 10 ∨ B p = 32) := fun z => q (blB_t.mpr z)
        rw [if_neg (by omega), if_pos (by omega), if_neg q]
        exact ⟨m, rfl, Tk75.refl m, e3⟩
theorem m_sm {x : Int} (h0 : -1 ≤ x) (h1 : x ≤ 255) : (Mo_isSmall x = 0) ↔ ¬ smB x = true := by
  unfold Mo_isSmall
  rw [w32_id (by omega) (by omega), smB_t]
  by_cases a : x < 97
  · rw [if_pos a]; simp; omega
  · rw [if_neg a]
    by_cases b : 122 < x
    · rw [if_pos b]; simp; omega
    · rw [if_neg b]; simp; omega
theorem m_dg {x : Int} (h0 : -1 ≤ x) (h1 : x ≤ 255) : (Mo_isDigit x = 0) ↔ ¬ dgB x = true := by
  unfold Mo_isDigit
  rw [w32_id (by omega) (by omega), dgB_t]
  by_cases a : x < 48
  · rw [if_pos a]; simp; omega
  · rw [if_neg a]
    by_cases b : 57 < x
    · rw [if_pos b]; simp; omega
    · rw [if_neg b]; simp; omega
theorem m_l81 {B : Nat → Int} {n : Nat} : ∀ (f k p : Nat) (m : Mem), p + k = n → k < f → TpM B n m → m 75 13 = (p : Int) → ∃ m', Mo_ahead_L81 f m = some (st m' 75 11 2) ∧ (∀ c, c ≠ 75 → m' c = m c) ∧ (∀ i, i ≠ 13 → m' 75 i = m 75 i) ∧ m' 75 13 = (ruN smB B k p : Int) := by
  intro f
  induction f with
  | zero => intro k p m _ h; omega
  | succ f ih =>
    intro k p m hk hf h e3
    have hn := h.2.1
    rw [Mo_ahead_L81, e3]
    cases k with
    | zero =>
      rw [m_byE h (by omega) (by omega), bP_some, if_pos (by decide)]
      exact ⟨m, rfl, fun _ _ => rfl, fun _ _ => rfl, e3⟩
    | succ k =>
      have hb := h.2.2 p (by omega)
      rw [m_byI h (by omega), bP_some, ruN_s, show (p : Int) + 1 = ((p + 1 : Nat) : Int) by omega]
      by_cases q : smB (B p) = true
      · rw [if_pos q, if_neg (fun z => (m_sm (by omega) (by omega)).mp z q)]
        obtain ⟨m', j1, j2, j2', j3⟩ := ih k (p + 1) (st m 75 13 ((p + 1 : Nat) : Int)) (by omega) (by omega) (h.st _ (by decide)) (by rw [st_eq, if_pos rfl])
        exact ⟨m', j1, fun c hc => by rw [j2 c hc, st_ne _ _ _ hc], fun i hi => by rw [j2' i hi, st_eq, if_neg hi], j3⟩
      · rw [if_neg q, if_pos ((m_sm (by omega) (by omega)).mpr q)]
        exact ⟨m, rfl, fun _ _ => rfl, fun _ _ => rfl, e3⟩
theorem m_l128 {B : Nat → Int} {n s : Nat} : ∀ (f k d : Nat) (m : Mem), s + d + k = n → k < f → TpM B n m → m 75 13 = ((s + d : Nat) : Int) → m 75 12 = (s : Int) → m 75 14 = cgN 10000 B s d → (∀ i, i < d → 48 ≤ B (s + i) ∧ B (s + i) ≤ 57) → ∃ m', Mo_ahead_L128 f m = some (st m' 75 11 (if ruN dgB B k (s + d) - s ≤ 3 then 3 else 1)) ∧ (∀ c, c ≠ 75 → m' c = m c) ∧ (∀ i, i ≠ 13 → i ≠ 14 → m' 75 i = m 75 i) ∧ m' 75 13 = (ruN dgB B k (s + d) : Int) ∧ m' 75 14 = cgN 10000 B s (ruN dgB B k (s + d) - s) := by
  intro f
  induction f with
  | zero => intro k d m _ h; omega
  | succ f ih =>
    intro k d m hk hf h e3 e5 e6 hd
    have hn := h.2.1
    have hq : ∀ x : Nat, s ≤ x → x ≤ 600 → (if w32 ((x : Int) - (s : Int)) ≤ 3 then (3 : Int) else 1) = if x - s ≤ 3 then 3 else 1 := fun x h1 h2 => by
      rw [w32_id (by omega) (by omega)]
      by_cases z : x - s ≤ 3
      · rw [if_pos (by omega), if_pos z]
      · rw [if_neg (by omega), if_neg z]
    rw [Mo_ahead_L128, e3, e5, hq (s + d) (by omega) (by omega)]
    cases k with
    | zero =>
      rw [m_byE h (by omega) (by omega), bP_some, if_pos (by decide)]
      exact ⟨m, rfl, fun _ _ => rfl, fun _ _ _ => rfl, e3, by rw [e6]; congr 1; unfold ruN; omega⟩
    | succ k =>
      have hb := h.2.2 (s + d) (by omega)
      rw [m_byI h (by omega), bP_some, bP_some, ruN_s]
      by_cases q : dgB (B (s + d)) = true
      · have hdg := dgB_t.mp q
        have hcb := cgN_b (cap := 10000) (B := B) (s := s) (by omega) d hd
        have ej : J_min 10000 (10 * cgN 10000 B s d + B (s + d) - 48) = cgN 10000 B s (d + 1) := by
          unfold J_min
          rw [w32_id (by omega) (by omega), w32_id (by omega) (by omega), Int.mul_comm 10]
          rfl
        rw [if_neg (fun z => (m_dg (by omega) (by omega)).mp z q), if_pos q, e6, ej]
        unfold ltM
        have e33 : (st m 75 14 (cgN 10000 B s (d + 1))) 75 13 = ((s + d : Nat) : Int) := by rw [st_eq, if_neg (by decide)]; exact e3
        rw [e33, show ((s + d : Nat) : Int) + 1 = ((s + (d + 1) : Nat) : Int) by omega]
        obtain ⟨m', j1, j2, j2', j3, j4⟩ := ih k (d + 1) (st (st m 75 14 (cgN 10000 B s (d + 1))) 75 13 ((s + (d + 1) : Nat) : Int)) (by omega) (by omega) ((h.st _ (by decide)).st _ (by decide)) (by rw [st_eq, if_pos rfl]) (by rw [st_eq, if_neg (by decide), st_eq, if_neg (by decide)]; exact e5) (by rw [st_eq, if_neg (by decide), st_eq, if_pos rfl]) (fun i hi => by
          by_cases z : i = d
          · subst z; exact hdg
          · exact hd i (by omega))
        rw [show s + d + 1 = s + (d + 1) by omega]
        exact ⟨m', j1, fun c hc => by rw [j2 c hc, st_ne _ _ _ hc, st_ne _ _ _ hc], fun i h3 h6 => by rw [j2' i h3 h6, st_eq, if_neg h3, st_eq, if_neg h6], j3, j4⟩
      · rw [if_pos ((m_dg (by omega) (by omega)).mpr q), if_neg q]
        exact ⟨m, rfl, fun _ _ => rfl, fun _ _ _ => rfl, e3, by rw [e6]; congr 1; omega⟩
def kRN (k : Int) : Int := if k = 0 then 0 else if k = 4 then 1 else k + 1
/-- the reference's token in hand -/
def MT (B : Nat → Int) (n s : Nat) (m : Mem) : Prop := m 75 12 = (s : Int) ∧ m 75 11 = kRN (tkK B n s) ∧ (tkK B n s ≠ 4 → m 75 13 = (tkE B n s : Int)) ∧ (tkK B n s = 2 → m 75 14 = tkV B n s)
theorem m_ahd {B : Nat → Int} {n p : Nat} {m : Mem} (h : TpM B n m) (hp : p ≤ n) (e3 : m 75 13 = (p : Int)) : ∃ m', Mo_ahead m = some m' ∧ Tk75 m m' ∧ MT B n (tkS B n p) m' := by
  have hn := h.2.1
  unfold Mo_ahead
  generalize hK : (fun m9 : Mem => (bP (Mo_byteAt ((st m9 75 12 (m9 75 13)) 75 13) (st m9 75 12 (m9 75 13))) fun x10 => (if ¬ (w32 x10) = (-1) then (if (Mo_isSmall x10) = 0 then (if (Mo_isDigit x10) = 0 then (ltM (st (st (st (st m9 75 12 (m9 75 13)) 75 14 x10) 75 13 (((st (st m9 75 12 (m9 75 13)) 75 14 x10) 75 13) + 1)) 75 11 (if ¬ (w32 x10) = 59 then 1 else 4 : Int)) fun m23 => some m23) else (Mo_ahead_L128 FU (st (st (st m9 75 12 (m9 75 13)) 75 14 x10) 75 14 0))) else (Mo_ahead_L81 FU (st (st m9 75 12 (m9 75 13)) 75 14 x10))) else some (st (st (st m9 75 12 (m9 75 13)) 75 14 x10) 75 11 0)))) = KK
  obtain ⟨ma, a1, a2, a3⟩ := m_l0 (B := B) (n := n) (K := KK) FU (n - p) p m (by omega) (by rw [FU_eq]; omega) h e3
  have es : (ruN blB B (n - p) p) = tkS B n p := rfl
  rw [es] at a3
  have hs := tkS_b B hp
  have hta : TpM B n ma := ⟨by rw [a2.2 10 (by decide) (by decide) (by decide) (by decide)]; exact h.1, hn, fun i hi => by rw [a2.1 81 (by decide)]; exact h.2.2 i hi⟩
  generalize hsd : tkS B n p = s at *
  rw [a1, ← hK]
  show ∃ m', bP (Mo_byteAt ((st ma 75 12 (ma 75 13)) 75 13) (st ma 75 12 (ma 75 13))) _ = some m' ∧ _
  have f3 : (st ma 75 12 (ma 75 13)) 75 13 = (s : Int) := by rw [st_eq, if_neg (by decide)]; exact a3
  have htb : TpM B n (st ma 75 12 (s : Int)) := hta.st _ (by decide)
  have hbase : Tk75 m (st ma 75 12 (s : Int)) := a2.st _ (by omega)
  rw [f3, a3]
  rw [a3] at f3
  by_cases q : n ≤ s
  · have eK : tkK B n s = 0 := by unfold tkK; rw [if_pos q]
    have eE : tkE B n s = s := by unfold tkE; rw [if_pos q]
    rw [m_byE htb (by omega) q, bP_some, if_neg (by decide)]
    refine ⟨_, rfl, (hbase.st _ (by omega)).st _ (by omega), ?_, ?_, ?_, ?_⟩
    · rfl
    · rw [st_eq, if_pos rfl, eK]; rfl
    · intro _; rw [st_eq, if_neg (by decide), st_eq, if_neg (by decide), f3, eE]
    · rw [eK]; intro z; omega
  · have hb := htb.2.2 s (by omega)
    rw [m_byI htb (by omega), bP_some, w32_id (x := B s) (by omega) (by omega), if_pos (by omega)]
    by_cases q1 : smB (B s) = true
    · have eK : tkK B n s = 1 := by unfold tkK; rw [if_neg q, if_pos q1]
      have eE : tkE B n s = ruN smB B (n - s) s := by unfold tkE; rw [if_neg q, if_pos q1]
      rw [if_neg (fun z => (m_sm (by omega) (by omega)).mp z q1)]
      obtain ⟨m', j1, j2, j2', j3⟩ := m_l81 (B := B) (n := n) FU (n - s) s (st (st ma 75 12 (s : Int)) 75 14 (B s)) (by omega) (by rw [FU_eq]; omega) (htb.st _ (by decide)) (by rw [st_eq, if_neg (by decide)]; exact f3)
      refine ⟨_, j1, ⟨fun c hc => ?_, fun i i3 i4 i5 i6 => ?_⟩, ?_, ?_, ?_, ?_⟩
      · rw [st_ne _ _ _ hc, j2 c hc]; exact (hbase.st (i := 14) (B s) (by omega)).1 c hc
      · rw [st_eq, if_neg i3, j2' i i5]; exact (hbase.st (i := 14) (B s) (by omega)).2 i i3 i4 i5 i6
      · rw [st_eq, if_neg (by decide), j2' 12 (by decide)]; rfl
      · rw [st_eq, if_pos rfl, eK]; rfl
      · intro _; rw [st_eq, if_neg (by decide), j3, eE]
      · rw [eK]; intro z; omega
    · rw [if_pos ((m_sm (by omega) (by omega)).mpr q1)]
      by_cases q2 : dgB (B s) = true
      · have eE : tkE B n s = ruN dgB B (n - s) s := by unfold tkE; rw [if_neg q, if_neg q1, if_pos q2]
        have eK : tkK B n s = if ruN dgB B (n - s) s - s ≤ 3 then 2 else 4 := by
          have : tkK B n s = if tkE B n s - s ≤ 3 then 2 else 4 := by unfold tkK; rw [if_neg q, if_neg q1, if_pos q2]
          rw [this, eE]
        rw [if_neg (fun z => (m_dg (by omega) (by omega)).mp z q2)]
        obtain ⟨m', j1, j2, j2', j3, j4⟩ := m_l128 (B := B) (n := n) (s := s) FU (n - s) 0 (st (st (st ma 75 12 (s : Int)) 75 14 (B s)) 75 14 0) (by omega) (by rw [FU_eq]; omega) ((htb.st _ (by decide)).st _ (by decide)) (by rw [st_eq, if_neg (by decide), st_eq, if_neg (by decide)]; exact f3) rfl rfl (fun i hi => by omega)
        rw [Nat.add_zero] at j1 j3 j4
        have hb2 := (hbase.st (i := 14) (B s) (by omega)).st (i := 14) 0 (by omega)
        refine ⟨_, j1, ⟨fun c hc => ?_, fun i i3 i4 i5 i6 => ?_⟩, ?_, ?_, ?_, ?_⟩
        · rw [st_ne _ _ _ hc, j2 c hc]; exact hb2.1 c hc
        · rw [st_eq, if_neg i3, j2' i i5 i6]; exact hb2.2 i i3 i4 i5 i6
        · rw [st_eq, if_neg (by decide), j2' 12 (by decide) (by decide)]; rfl
        · rw [st_eq, if_pos rfl, eK]
          by_cases y : ruN dgB B (n - s) s - s ≤ 3
          · rw [if_pos y, if_pos y]; rfl
          · rw [if_neg y, if_neg y]; rfl
        · intro _; rw [st_eq, if_neg (by decide), j3, eE]
        · intro z
          rw [st_eq, if_neg (by decide), j4]
          have h3 : ruN dgB B (n - s) s - s ≤ 3 := by
            rw [eK] at z
            by_cases y : ruN dgB B (n - s) s - s ≤ 3
            · exact y
            · rw [if_neg y] at z; omega
          rw [cgN_d (by omega) _ h3 (fun i hi => dgB_t.mp (ruN_in (n - s) s (s + i) (by omega) (by omega)))]
          unfold tkV
          rw [eE]
      · rw [if_pos ((m_dg (by omega) (by omega)).mpr q2)]
        unfold ltM
        have f4 : (st (st ma 75 12 (s : Int)) 75 14 (B s)) 75 13 = (s : Int) := by rw [st_eq, if_neg (by decide)]; exact f3
        rw [f4]
        refine ⟨_, rfl, ((hbase.st _ (by omega)).st _ (by omega)).st _ (by omega), ?_, ?_, ?_, ?_⟩
        · rfl
        · rw [st_eq, if_pos rfl]
          by_cases q3 : B s = 59
          · have eK : tkK B n s = 3 := by unfold tkK; rw [if_neg q, if_neg q1, if_neg q2, if_pos q3]
            rw [if_neg (fun z => z q3), eK]; rfl
          · have eK : tkK B n s = 4 := by unfold tkK; rw [if_neg q, if_neg q1, if_neg q2, if_neg q3]
            rw [if_pos q3, eK]; rfl
        · intro z
          have q3 : B s = 59 := by
            unfold tkK at z
            rw [if_neg q, if_neg q1, if_neg q2] at z
            by_cases y : B s = 59
            · exact y
            · rw [if_neg y] at z; omega
          have eE : tkE B n s = s + 1 := by unfold tkE; rw [if_neg q, if_neg q1, if_neg q2, if_pos q3]
          rw [st_eq, if_neg (by decide), st_eq, if_pos rfl, eE]; omega
        · intro z
          unfold tkK at z
          rw [if_neg q, if_neg q1, if_neg q2] at z
          split at z <;> omega
