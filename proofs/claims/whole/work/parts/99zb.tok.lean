/-! layer 2: tokens, both sides -/
theorem TpC.st5 {B : Nat → Int} {n : Nat} {m : Mem} (h : TpC B n m) {i : Int} (v : Int) (hi : i ≠ 2) : TpC B n (st m 5 i v) := by
  refine ⟨by rw [st_eq, if_neg (fun z => hi z.symm)]; exact h.1, h.2.1, fun j hj => ?_⟩
  rw [st_ne _ _ _ (by decide)]; exact h.2.2 j hj
/-- the same but for the tape's token -/
def Tk5 (m m' : Mem) : Prop := (∀ c, c ≠ 5 → m' c = m c) ∧ ∀ i, i ≠ 3 → i ≠ 4 → i ≠ 5 → i ≠ 6 → m' 5 i = m 5 i
theorem Tk5.refl (m : Mem) : Tk5 m m := ⟨fun _ _ => rfl, fun _ _ _ _ _ => rfl⟩
theorem Tk5.st {m m' : Mem} (h : Tk5 m m') {i : Int} (v : Int) (hi : i = 3 ∨ i = 4 ∨ i = 5 ∨ i = 6) : Tk5 m (st m' 5 i v) := by
  refine ⟨fun c hc => by rw [st_ne _ _ _ hc]; exact h.1 c hc, fun j h3 h4 h5 h6 => ?_⟩
  rw [st_eq, if_neg (by omega)]; exact h.2 j h3 h4 h5 h6
theorem Tk5.trans {m m' m'' : Mem} (h : Tk5 m m') (h' : Tk5 m' m'') : Tk5 m m'' := ⟨fun c hc => (h'.1 c hc).trans (h.1 c hc), fun i a b c d => (h'.2 i a b c d).trans (h.2 i a b c d)⟩
theorem c_l0 {B : Nat → Int} {n : Nat} {K : Mem → Option Mem} : ∀ (f k p : Nat) (m : Mem), p + k = n → k < f → TpC B n m → m 5 3 = (p : Int) → ∃ m', Tape_advance_L0 K f m = K m' ∧ Tk5 m m' ∧ m' 5 3 = (ruN blB B k p : Int) := by
  intro f
  induction f with
  | zero => intro k p m _ h; omega
  | succ f ih =>
    intro k p m hk hf h e3
    have hn := h.2.1
    rw [Tape_advance_L0, h.1, e3, w32_id (x := (n : Int)) (by omega) (by omega), w32_id (x := (p : Int)) (by omega) (by omega)]
    cases k with
    | zero =>
      rw [if_pos (by omega)]
      exact ⟨m, rfl, Tk5.refl m, e3⟩
    | succ k =>
      have hb := h.2.2 p (by omega)
      rw [if_neg (by omega), c_kind (by omega) (by omega) hb.1 hb.2.1 hb.2.2, ruN_s]
      by_cases q : blB (B p) = true
      · rw [if_neg (fun z => z (kdN_5.mpr q)), if_pos q, show (p : Int) + 1 = ((p + 1 : Nat) : Int) by omega]
        obtain ⟨m', j1, j2, j3⟩ := ih k (p + 1) (st m 5 3 ((p + 1 : Nat) : Int)) (by omega) (by omega) (h.st5 _ (by decide)) (by rw [st_eq, if_pos rfl])
        exact ⟨m', j1, ((Tk5.refl m).st _ (by omega)).trans j2, j3⟩
      · rw [if_pos (fun z => q (kdN_5.mp z)), if_neg q]
        exact ⟨m, rfl, Tk5.refl m, e3⟩
theorem c_l105 {B : Nat → Int} {n : Nat} : ∀ (f k p : Nat) (m : Mem), p + k = n → k < f → TpC B n m → m 5 3 = (p : Int) → ∃ m', Tape_advance_L105 f m = some m' ∧ (∀ c, c ≠ 5 → m' c = m c) ∧ (∀ i, i ≠ 3 → m' 5 i = m 5 i) ∧ m' 5 3 = (ruN smB B k p : Int) := by
  intro f
  induction f with
  | zero => intro k p m _ h; omega
  | succ f ih =>
    intro k p m hk hf h e3
    have hn := h.2.1
    rw [Tape_advance_L105, h.1, e3, w32_id (x := (n : Int)) (by omega) (by omega), w32_id (x := (p : Int)) (by omega) (by omega)]
    cases k with
    | zero =>
      rw [if_pos (by omega)]
      exact ⟨m, rfl, fun _ _ => rfl, fun _ _ => rfl, e3⟩
    | succ k =>
      have hb := h.2.2 p (by omega)
      rw [if_neg (by omega), c_kind (by omega) (by omega) hb.1 hb.2.1 hb.2.2, ruN_s]
      by_cases q : smB (B p) = true
      · rw [if_neg (fun z => z (kdN_1.mpr q)), if_pos q, show (p : Int) + 1 = ((p + 1 : Nat) : Int) by omega]
        obtain ⟨m', j1, j2, j2', j3⟩ := ih k (p + 1) (st m 5 3 ((p + 1 : Nat) : Int)) (by omega) (by omega) (h.st5 _ (by decide)) (by rw [st_eq, if_pos rfl])
        exact ⟨m', j1, fun c hc => by rw [j2 c hc, st_ne _ _ _ hc], fun i hi => by rw [j2' i hi, st_eq, if_neg hi], j3⟩
      · rw [if_pos (fun z => q (kdN_1.mp z)), if_neg q]
        exact ⟨m, rfl, fun _ _ => rfl, fun _ _ => rfl, e3⟩
theorem c_l149 {B : Nat → Int} {n s : Nat} : ∀ (f k d : Nat) (m : Mem), s + d + k = n → k < f → TpC B n m → m 5 3 = ((s + d : Nat) : Int) → m 5 5 = (s : Int) → m 5 6 = cgN 9999 B s d → (∀ i, i < d → 48 ≤ B (s + i) ∧ B (s + i) ≤ 57) → ∃ m', Tape_advance_L149 f m = some (st m' 5 4 (if ruN dgB B k (s + d) - s ≤ 3 then 2 else 4)) ∧ (∀ c, c ≠ 5 → m' c = m c) ∧ (∀ i, i ≠ 3 → i ≠ 6 → m' 5 i = m 5 i) ∧ m' 5 3 = (ruN dgB B k (s + d) : Int) ∧ m' 5 6 = cgN 9999 B s (ruN dgB B k (s + d) - s) := by
  intro f
  induction f with
  | zero => intro k d m _ h; omega
  | succ f ih =>
    intro k d m hk hf h e3 e5 e6 hd
    have hn := h.2.1
    have hq : ∀ x : Nat, s ≤ x → x ≤ 600 → (if w32 ((x : Int) - (s : Int)) ≤ 3 then (2 : Int) else 4) = if x - s ≤ 3 then 2 else 4 := fun x h1 h2 => by
      rw [w32_id (by omega) (by omega)]
      by_cases z : x - s ≤ 3
      · rw [if_pos (by omega), if_pos z]
      · rw [if_neg (by omega), if_neg z]
    rw [Tape_advance_L149, h.1, e3, e5, w32_id (x := (n : Int)) (by omega) (by omega), w32_id (x := ((s + d : Nat) : Int)) (by omega) (by omega), hq (s + d) (by omega) (by omega)]
    cases k with
    | zero =>
      rw [if_pos (by omega)]
      exact ⟨m, rfl, fun _ _ => rfl, fun _ _ _ => rfl, e3, by rw [e6]; congr 1; unfold ruN; omega⟩
    | succ k =>
      have hb := h.2.2 (s + d) (by omega)
      rw [if_neg (by omega), c_kind (by omega) (by omega) hb.1 hb.2.1 hb.2.2, ruN_s]
      by_cases q : dgB (B (s + d)) = true
      · have hdg := dgB_t.mp q
        have hcb := cgN_b (cap := 9999) (B := B) (s := s) (by omega) d hd
        have ej : J_min 9999 (cgN 9999 B s d * 10 + B (s + d) - 48) = cgN 9999 B s (d + 1) := by
          unfold J_min
          rw [w32_id (by omega) (by omega), w32_id (by omega) (by omega)]
          rfl
        have ebt : Tape_byteAt ((s + d : Nat) : Int) m = B (s + d) := by
          unfold Tape_byteAt
          rw [w32_id (by omega) (by omega), if_neg (by omega), if_neg (by omega), hb.1]
        rw [if_neg (fun z => z (kdN_2.mpr q)), if_pos q, e6, ebt, ej]
        unfold ltM
        have e33 : (st m 5 6 (cgN 9999 B s (d + 1))) 5 3 = ((s + d : Nat) : Int) := by rw [st_eq, if_neg (by decide)]; exact e3
        rw [e33, show ((s + d : Nat) : Int) + 1 = ((s + (d + 1) : Nat) : Int) by omega]
        obtain ⟨m', j1, j2, j2', j3, j4⟩ := ih k (d + 1) (st (st m 5 6 (cgN 9999 B s (d + 1))) 5 3 ((s + (d + 1) : Nat) : Int)) (by omega) (by omega) ((h.st5 _ (by decide)).st5 _ (by decide)) (by rw [st_eq, if_pos rfl]) (by rw [st_eq, if_neg (by decide), st_eq, if_neg (by decide)]; exact e5) (by rw [st_eq, if_neg (by decide), st_eq, if_pos rfl]) (fun i hi => by
          by_cases z : i = d
          · subst z; exact hdg
          · exact hd i (by omega))
        rw [show s + d + 1 = s + (d + 1) by omega]
        exact ⟨m', j1, fun c hc => by rw [j2 c hc, st_ne _ _ _ hc, st_ne _ _ _ hc], fun i h3 h6 => by rw [j2' i h3 h6, st_eq, if_neg h3, st_eq, if_neg h6], j3, j4⟩
      · rw [if_pos (fun z => q (kdN_2.mp z)), if_neg q]
        exact ⟨m, rfl, fun _ _ => rfl, fun _ _ _ => rfl, e3, by rw [e6]; congr 1; omega⟩
/-- the class's token in hand -/
def CTk (B : Nat → Int) (n s : Nat) (m : Mem) : Prop := m 5 5 = (s : Int) ∧ m 5 3 = (tkE B n s : Int) ∧ m 5 4 = tkK B n s ∧ (tkK B n s = 2 → m 5 6 = tkV B n s)
theorem c_adv {B : Nat → Int} {n p : Nat} {m : Mem} (h : TpC B n m) (hp : p ≤ n) (e3 : m 5 3 = (p : Int)) : ∃ m', Tape_advance m = some m' ∧ Tk5 m m' ∧ CTk B n (tkS B n p) m' := by
  have hn := h.2.1
  obtain ⟨ma, a1, a2, a3⟩ := c_l0 (B := B) (n := n) (K := fun m6 => Tape_advance_J36 m6) FU (n - p) p m (by omega) (by rw [FU_eq]; omega) h e3
  have es : (ruN blB B (n - p) p) = tkS B n p := rfl
  rw [es] at a3
  have hs := tkS_b B hp
  have hta : TpC B n ma := ⟨by rw [a2.2 2 (by decide) (by decide) (by decide) (by decide)]; exact h.1, hn, fun i hi => by rw [a2.1 6 (by decide)]; exact h.2.2 i hi⟩
  generalize hsd : tkS B n p = s at *
  unfold Tape_advance
  rw [a1]
  show ∃ m', Tape_advance_J36 ma = some m' ∧ _
  unfold Tape_advance_J36
  have f2 : (st (st ma 5 5 (ma 5 3)) 5 6 0) 5 2 = (n : Int) := by rw [st_eq, if_neg (by decide), st_eq, if_neg (by decide)]; exact hta.1
  have f3 : (st (st ma 5 5 (ma 5 3)) 5 6 0) 5 3 = (s : Int) := by rw [st_eq, if_neg (by decide), st_eq, if_neg (by decide)]; exact a3
  rw [f2, f3, a3, w32_id (x := (n : Int)) (by omega) (by omega), w32_id (x := (s : Int)) (by omega) (by omega)]
  have hbase : Tk5 m (st (st ma 5 5 (s : Int)) 5 6 0) := (a2.st _ (by omega)).st _ (by omega)
  have htb : TpC B n (st (st ma 5 5 (s : Int)) 5 6 0) := (hta.st5 _ (by decide)).st5 _ (by decide)
  rw [a3] at f3
  have hnk : ∀ (mm : Mem) (v : Int), (st mm 5 4 v) 5 4 = v := fun mm v => by rw [st_eq, if_pos rfl]
  by_cases q : n ≤ s
  · have eK : tkK B n s = 0 := by unfold tkK; rw [if_pos q]
    have eE : tkE B n s = s := by unfold tkE; rw [if_pos q]
    rw [if_pos (by omega)]
    unfold ltI
    simp only [hnk]
    rw [if_pos (by decide), if_pos (by decide), if_pos (by decide)]
    refine ⟨_, rfl, hbase.st _ (by omega), ?_, ?_, ?_, ?_⟩
    · rfl
    · rw [st_eq, if_neg (by decide), f3, eE]
    · rw [st_eq, if_pos rfl, eK]
    · rw [eK]; intro z; omega
  · have hb := htb.2.2 s (by omega)
    have ek : Tape_kindAt (s : Int) (st (st ma 5 5 (s : Int)) 5 6 0) = kdN (B s) := c_kd (by omega) (by omega) hb.1 hb.2.1 hb.2.2
    rw [if_neg (by omega), ek]
    have hnb : ¬ blB (B s) = true := by
      have := ruN_end (f := blB) (B := B) (n - p) p (by rw [show ruN blB B (n - p) p = s from hsd]; omega)
      rw [show ruN blB B (n - p) p = s from hsd] at this; exact this
    unfold ltI
    simp only [hnk]
    rw [kdN_w]
    by_cases q1 : smB (B s) = true
    · have eK : tkK B n s = 1 := by unfold tkK; rw [if_neg q, if_pos q1]
      have eE : tkE B n s = ruN smB B (n - s) s := by unfold tkE; rw [if_neg q, if_pos q1]
      have e1 : kdN (B s) = 1 := kdN_1.mpr q1
      rw [e1, if_pos (by decide), if_neg (by decide)]
      obtain ⟨m', j1, j2, j2', j3⟩ := c_l105 (B := B) (n := n) FU (n - s) s (st (st (st ma 5 5 (s : Int)) 5 6 0) 5 4 1) (by omega) (by rw [FU_eq]; omega) (htb.st5 _ (by decide)) (by rw [st_eq, if_neg (by decide)]; exact f3)
      refine ⟨m', j1, ⟨fun c hc => ?_, fun i i3 i4 i5 i6 => ?_⟩, ?_, ?_, ?_, ?_⟩
      · rw [j2 c hc]; exact (hbase.st (i := 4) 1 (by omega)).1 c hc
      · rw [j2' i i3]; exact (hbase.st (i := 4) 1 (by omega)).2 i i3 i4 i5 i6
      · rw [j2' 5 (by decide)]; rfl
      · rw [j3, eE]
      · rw [j2' 4 (by decide), eK]; rfl
      · rw [eK]; intro z; omega
    · by_cases q2 : dgB (B s) = true
      · have eE : tkE B n s = ruN dgB B (n - s) s := by unfold tkE; rw [if_neg q, if_neg q1, if_pos q2]
        have eK : tkK B n s = if ruN dgB B (n - s) s - s ≤ 3 then 2 else 4 := by
          have : tkK B n s = if tkE B n s - s ≤ 3 then 2 else 4 := by unfold tkK; rw [if_neg q, if_neg q1, if_pos q2]
          rw [this, eE]
        have e1 : kdN (B s) = 2 := kdN_2.mpr q2
        rw [e1, if_pos (by decide), if_pos (by decide), if_neg (by decide)]
        obtain ⟨m', j1, j2, j2', j3, j4⟩ := c_l149 (B := B) (n := n) (s := s) FU (n - s) 0 (st (st (st ma 5 5 (s : Int)) 5 6 0) 5 4 2) (by omega) (by rw [FU_eq]; omega) (htb.st5 _ (by decide)) (by rw [st_eq, if_neg (by decide)]; exact f3) rfl rfl (fun i hi => by omega)
        rw [Nat.add_zero] at j1 j3 j4
        refine ⟨_, j1, ⟨fun c hc => ?_, fun i i3 i4 i5 i6 => ?_⟩, ?_, ?_, ?_, ?_⟩
        · rw [st_ne _ _ _ hc, j2 c hc]; exact (hbase.st (i := 4) 2 (by omega)).1 c hc
        · rw [st_eq, if_neg i4, j2' i i3 i6]; exact (hbase.st (i := 4) 2 (by omega)).2 i i3 i4 i5 i6
        · rw [st_eq, if_neg (by decide), j2' 5 (by decide) (by decide)]; rfl
        · rw [st_eq, if_neg (by decide), j3, eE]
        · rw [st_eq, if_pos rfl, eK]
        · intro z
          rw [st_eq, if_neg (by decide), j4]
          have h3 : ruN dgB B (n - s) s - s ≤ 3 := by
            rw [eK] at z
            by_cases y : ruN dgB B (n - s) s - s ≤ 3
            · exact y
            · rw [if_neg y] at z; omega
          rw [cgN_d (by omega) _ h3 (fun i hi => dgB_t.mp (ruN_in (n - s) s (s + i) (by omega) (by omega)))]
          unfold tkV
          rw [eE]
      · by_cases q3 : B s = 59
        · have eK : tkK B n s = 3 := by unfold tkK; rw [if_neg q, if_neg q1, if_neg q2, if_pos q3]
          have eE : tkE B n s = s + 1 := by unfold tkE; rw [if_neg q, if_neg q1, if_neg q2, if_pos q3]
          have e1 : kdN (B s) = 3 := by unfold kdN; rw [if_neg q1, if_neg q2, if_neg hnb, if_pos q3]
          rw [e1, if_neg (by decide)]
          unfold ltM
          refine ⟨_, rfl, (hbase.st (i := 4) 3 (by omega)).st _ (by omega), ?_, ?_, ?_, ?_⟩
          · rfl
          · rw [st_eq, if_pos rfl, st_eq, if_neg (by decide), f3, eE]; omega
          · rw [st_eq, if_neg (by decide), st_eq, if_pos rfl, eK]
          · rw [eK]; intro z; omega
        · have eK : tkK B n s = 4 := by unfold tkK; rw [if_neg q, if_neg q1, if_neg q2, if_neg q3]
          have eE : tkE B n s = s := by unfold tkE; rw [if_neg q, if_neg q1, if_neg q2, if_neg q3]
          have e1 : kdN (B s) = 4 := by unfold kdN; rw [if_neg q1, if_neg q2, if_neg hnb, if_neg q3]
          rw [e1, if_pos (by decide), if_pos (by decide), if_pos (by decide)]
          refine ⟨_, rfl, hbase.st (i := 4) 4 (by omega), ?_, ?_, ?_, ?_⟩
          · rfl
          · rw [st_eq, if_neg (by decide), f3, eE]
          · rw [st_eq, if_pos rfl, eK]
          · rw [eK]; intro z; omega
