/-! layer 2: what both parsers take from the tape -/
theorem tkK_b (B : Nat → Int) (n s : Nat) : 0 ≤ tkK B n s ∧ tkK B n s ≤ 4 := by
  unfold tkK; split
  · omega
  · split
    · omega
    · split
      · split <;> omega
      · split <;> omega
/-- the class's frame while it reads -/
def Cf (m m' : Mem) : Prop := (∀ c, c ≠ 5 → c < 16 ∨ 27 < c → m' c = m c) ∧ ∀ i, i < 3 ∨ 8 < i → m' 5 i = m 5 i
theorem Cf.refl (m : Mem) : Cf m m := ⟨fun _ _ _ => rfl, fun _ _ => rfl⟩
theorem Cf.trans {m m' m'' : Mem} (h : Cf m m') (h' : Cf m' m'') : Cf m m'' := ⟨fun c a b => (h'.1 c a b).trans (h.1 c a b), fun i a => (h'.2 i a).trans (h.2 i a)⟩
theorem Cf.st {m m' : Mem} (h : Cf m m') {c : Nat} (i v : Int) (hc : 16 ≤ c ∧ c ≤ 27) : Cf m (st m' c i v) := by
  refine ⟨fun c' a b => ?_, fun j hj => ?_⟩
  · rw [st_ne _ _ _ (by omega)]; exact h.1 c' a b
  · rw [st_ne _ _ _ (by omega)]; exact h.2 j hj
theorem Tk5.cf {m m' : Mem} (h : Tk5 m m') : Cf m m' := ⟨fun c a _ => h.1 c a, fun i hi => h.2 i (by omega) (by omega) (by omega) (by omega)⟩
/-- the reference's frame while it reads -/
def Mf (m m' : Mem) : Prop := (∀ c, c ≠ 75 → c ≠ 76 → c ≠ 82 → m' c = m c) ∧ (∀ i, i < 11 ∨ i = 15 ∨ i = 19 ∨ i = 20 ∨ 22 < i → m' 75 i = m 75 i) ∧ ∀ i, i < 2320 → m' 76 i = m 76 i
theorem Mf.refl (m : Mem) : Mf m m := ⟨fun _ _ _ _ => rfl, fun _ _ => rfl, fun _ _ => rfl⟩
theorem Mf.trans {m m' m'' : Mem} (h : Mf m m') (h' : Mf m' m'') : Mf m m'' := ⟨fun c a b d => (h'.1 c a b d).trans (h.1 c a b d), fun i a => (h'.2.1 i a).trans (h.2.1 i a), fun i a => (h'.2.2 i a).trans (h.2.2 i a)⟩
theorem Mf.s76 {m m' : Mem} (h : Mf m m') {i : Int} (v : Int) (hi : 2320 ≤ i) : Mf m (st m' 76 i v) := by
  refine ⟨fun c a b d => ?_, fun j hj => ?_, fun j hj => ?_⟩
  · rw [st_ne _ _ _ b]; exact h.1 c a b d
  · rw [st_ne _ _ _ (by decide)]; exact h.2.1 j hj
  · rw [st_eq, if_neg (by omega)]; exact h.2.2 j hj
theorem Mf.s75 {m m' : Mem} (h : Mf m m') {i : Int} (v : Int) (hi : ¬ (i < 11 ∨ i = 15 ∨ i = 19 ∨ i = 20 ∨ 22 < i)) : Mf m (st m' 75 i v) := by
  refine ⟨fun c a b d => ?_, fun j hj => ?_, fun j hj => ?_⟩
  · rw [st_ne _ _ _ a]; exact h.1 c a b d
  · rw [st_eq, if_neg (fun z => hi (by rw [← z]; exact hj))]; exact h.2.1 j hj
  · rw [st_ne _ _ _ (by decide)]; exact h.2.2 j hj
theorem Tk75.mf {m m' : Mem} (h : Tk75 m m') : Mf m m' := ⟨fun c a _ _ => h.1 c a, fun i hi => h.2 i (by omega) (by omega) (by omega) (by omega), fun i _ => by rw [h.1 76 (by decide)]⟩
theorem TpC.cf {B : Nat → Int} {n : Nat} {m m' : Mem} (h : TpC B n m) (e : Cf m m') : TpC B n m' := ⟨by rw [e.2 2 (by omega)]; exact h.1, h.2.1, fun i hi => by rw [e.1 6 (by decide) (by omega)]; exact h.2.2 i hi⟩
theorem TpM.mf {B : Nat → Int} {n : Nat} {m m' : Mem} (h : TpM B n m) (e : Mf m m') : TpM B n m' := ⟨by rw [e.2.1 10 (by omega)]; exact h.1, h.2.1, fun i hi => by rw [e.1 81 (by decide) (by decide) (by decide)]; exact h.2.2 i hi⟩
/-- both failed alike -/
def Flt (f : Int) (s : Nat) (mC mR : Mem) : Prop := 1 ≤ f ∧ f ≤ 6 ∧ mC 5 7 = f ∧ mC 5 8 = (s : Int) ∧ mR 75 17 = f ∧ mR 75 16 = (s : Int)
/-- the class has said its fault -/
def FC (f : Int) (s : Nat) (m m' : Mem) : Prop := Cf m m' ∧ m' 5 7 = f ∧ m' 5 8 = (s : Int)
def FM (f : Int) (s : Nat) (m m' : Mem) : Prop := Mf m m' ∧ m' 75 17 = f ∧ m' 75 16 = (s : Int)
theorem c_fail {B : Nat → Int} {n s : Nat} {m : Mem} (ht : CTk B n s m) (f : Int) : ∃ m', Tape_fail f m = (0, m') ∧ FC f s m m' := by
  refine ⟨_, rfl, ⟨⟨fun c a b => ?_, fun i hi => ?_⟩, ?_, ?_⟩⟩
  · rw [st_ne _ _ _ a, st_ne _ _ _ a]
  · rw [st_eq, if_neg (by omega), st_eq, if_neg (by omega)]
  · rw [st_eq, if_neg (by decide), st_eq, if_pos rfl]
  · rw [st_eq, if_pos rfl, st_eq, if_neg (by decide)]; exact ht.1
theorem m_fail {B : Nat → Int} {n s : Nat} {m : Mem} (ht : MT B n s m) (h0 : m 75 17 = 0) {f g : Int} (hg : g = if tkK B n s = 4 then 1 else f) : ∃ m', Mo_fails f m = (0, m') ∧ FM g s m m' := by
  have eb := tkK_b B n s
  have e1 : (¬ w32 (m 75 11) = 1) ↔ ¬ tkK B n s = 4 := by
    rw [ht.2.1]
    have : tkK B n s = 0 ∨ tkK B n s = 1 ∨ tkK B n s = 2 ∨ tkK B n s = 3 ∨ tkK B n s = 4 := by omega
    rcases this with e | e | e | e | e <;> rw [e] <;> decide
  have e2 : (if ¬ w32 (m 75 11) = 1 then f else 1 : Int) = g := by
    rw [hg]
    by_cases q : tkK B n s = 4
    · rw [if_neg (fun z => (e1.mp z) q), if_pos q]
    · rw [if_pos (e1.mpr q), if_neg q]
  unfold Mo_fails
  rw [h0, if_neg (by decide), e2]
  refine ⟨_, rfl, ⟨?_, ?_, ?_⟩⟩
  · exact ((Mf.refl m).s75 _ (by omega)).s75 _ (by omega)
  · rw [st_eq, if_neg (by decide), st_eq, if_pos rfl]
  · rw [st_eq, if_pos rfl, st_eq, if_neg (by decide)]; exact ht.1
theorem c_isK {B : Nat → Int} {n s : Nat} {m : Mem} (ht : CTk B n s m) {k : Int} (hk : 1 ≤ k ∧ k ≤ 3) : (tkK B n s = k ∧ Tape_isKind k m = (1, m)) ∨ (tkK B n s ≠ k ∧ ∃ m', Tape_isKind k m = (0, m') ∧ FC (if tkK B n s = 4 then 1 else 2) s m m') := by
  have eb := tkK_b B n s
  unfold Tape_isKind
  rw [ht.2.2.1, w32_id (x := tkK B n s) (by omega) (by omega), w32_id (x := k) (by omega) (by omega)]
  by_cases q4 : tkK B n s = 4
  · right
    obtain ⟨m', j1, j2⟩ := c_fail ht 1
    refine ⟨by omega, m', ?_, by rw [if_pos q4]; exact j2⟩
    rw [if_neg (fun z => z q4), j1]; rfl
  · rw [if_pos q4]
    by_cases q : tkK B n s = k
    · left; exact ⟨q, by rw [if_pos q]⟩
    · right
      obtain ⟨m', j1, j2⟩ := c_fail ht 2
      refine ⟨q, m', ?_, by rw [if_neg q4]; exact j2⟩
      rw [if_neg q, j1]; rfl
theorem FC.cf {f : Int} {s : Nat} {m m' m'' : Mem} (h : Cf m m') (h' : FC f s m' m'') : FC f s m m'' := ⟨h.trans h'.1, h'.2⟩
theorem FM.mf {f : Int} {s : Nat} {m m' m'' : Mem} (h : Mf m m') (h' : FM f s m' m'') : FM f s m m'' := ⟨h.trans h'.1, h'.2⟩
theorem c_tKind {B : Nat → Int} {n p : Nat} {m : Mem} (h : TpC B n m) (hp : p ≤ n) (e3 : m 5 3 = (p : Int)) {k : Int} (hk : 1 ≤ k ∧ k ≤ 3) : (tkK B n (tkS B n p) = k ∧ ∃ m', Tape_takeKind k m = some (1, m') ∧ Tk5 m m' ∧ CTk B n (tkS B n p) m') ∨ (tkK B n (tkS B n p) ≠ k ∧ ∃ m', Tape_takeKind k m = some (0, m') ∧ FC (if tkK B n (tkS B n p) = 4 then 1 else 2) (tkS B n p) m m') := by
  obtain ⟨ma, a1, a2, a3⟩ := c_adv h hp e3
  unfold Tape_takeKind
  rw [a1, bV_some]
  rcases c_isK a3 hk with ⟨q, j⟩ | ⟨q, m', j1, j2⟩
  · left; exact ⟨q, ma, by rw [j]; rfl, a2, a3⟩
  · right; exact ⟨q, m', by rw [j1]; rfl, j2.cf a2.cf⟩
theorem c_tNum {B : Nat → Int} {n p : Nat} {m : Mem} (h : TpC B n m) (hp : p ≤ n) (e3 : m 5 3 = (p : Int)) {lo hi : Int} (hl : -1000 ≤ lo ∧ lo ≤ 1000) (hh : -1000 ≤ hi ∧ hi ≤ 1000) : (tkK B n (tkS B n p) = 2 ∧ (lo ≤ tkV B n (tkS B n p) ∧ tkV B n (tkS B n p) ≤ hi) ∧ ∃ m', Tape_takeNumber lo hi m = some (1, m') ∧ Tk5 m m' ∧ CTk B n (tkS B n p) m') ∨ (tkK B n (tkS B n p) = 2 ∧ ¬ (lo ≤ tkV B n (tkS B n p) ∧ tkV B n (tkS B n p) ≤ hi) ∧ ∃ m', Tape_takeNumber lo hi m = some (0, m') ∧ FC 4 (tkS B n p) m m') ∨ (tkK B n (tkS B n p) ≠ 2 ∧ ∃ m', Tape_takeNumber lo hi m = some (0, m') ∧ FC (if tkK B n (tkS B n p) = 4 then 1 else 2) (tkS B n p) m m') := by
  obtain ⟨ma, a1, a2, a3⟩ := c_adv h hp e3
  rcases c_isK a3 (k := 2) (by omega) with ⟨q, j⟩ | ⟨q, m', j1, j2⟩
  · have hv := tkV_b q
    have ev := a3.2.2.2 q
    have eT : Tape_takeNumber lo hi m = (if ¬ FL_isWithin (tkV B n (tkS B n p)) lo hi = 0 then some (1, ma) else some ((if w32 (Tape_fail 4 ma).1 = 0 then 0 else 1 : Int), (Tape_fail 4 ma).2)) := by
      unfold Tape_takeNumber
      rw [a1, bV_some, j]
      show (if ¬ w32 1 = 0 then (if ¬ FL_isWithin (w32 (ma 5 6)) (w32 lo) (w32 hi) = 0 then some (1, ma) else some ((if w32 (Tape_fail 4 ma).1 = 0 then 0 else 1 : Int), (Tape_fail 4 ma).2)) else some (0, ma)) = _
      rw [if_pos (show ¬ w32 1 = 0 by decide), ev, w32_id (x := tkV B n (tkS B n p)) (by omega) (by omega), w32_id (x := lo) (by omega) (by omega), w32_id (x := hi) (by omega) (by omega)]
    have eW : FL_isWithin (tkV B n (tkS B n p)) lo hi = if tkV B n (tkS B n p) < lo then 0 else (if hi < tkV B n (tkS B n p) then 0 else 1 : Int) := by
      unfold FL_isWithin
      rw [w64_id (x := tkV B n (tkS B n p)) (by omega) (by omega), w64_id (x := lo) (by omega) (by omega), w64_id (x := hi) (by omega) (by omega)]
    rw [eW] at eT
    clear eW
    rw [eT]
    clear eT
    by_cases g1 : tkV B n (tkS B n p) < lo
    · right; left
      obtain ⟨m', j1, j2⟩ := c_fail a3 4
      refine ⟨q, by omega, m', ?_, j2.cf a2.cf⟩
      rw [if_pos g1, if_neg (by decide), j1]; rfl
    · by_cases g2 : hi < tkV B n (tkS B n p)
      · right; left
        obtain ⟨m', j1, j2⟩ := c_fail a3 4
        refine ⟨q, by omega, m', ?_, j2.cf a2.cf⟩
        rw [if_neg g1, if_pos g2, if_neg (by decide), j1]; rfl
      · left
        refine ⟨q, by omega, ma, ?_, a2, a3⟩
        rw [if_neg g1, if_neg g2, if_pos (by decide)]
  · right; right
    refine ⟨q, m', ?_, j2.cf a2.cf⟩
    unfold Tape_takeNumber
    rw [a1, bV_some, j1]
    show (if ¬ w32 0 = 0 then _ else some (0, m')) = _
    rw [if_neg (show ¬ ¬ w32 0 = 0 by decide)]
/-- the reference's next token behind one in hand -/
theorem m_next {B : Nat → Int} {n s : Nat} {m : Mem} (h : TpM B n m) (hs : s ≤ n) (e3 : m 75 13 = (tkE B n s : Int)) : ∃ m', Mo_ahead m = some m' ∧ Tk75 m m' ∧ MT B n (tkS B n (tkE B n s)) m' := m_ahd h (tkE_b B hs).2 e3
theorem m_num {B : Nat → Int} {n s : Nat} {m : Mem} (h : TpM B n m) (hs : s ≤ n) (ht : MT B n s m) (h0 : m 75 17 = 0) {a lo hi : Int} (ha : 2320 ≤ a ∧ a < 2900) (hl : -1000 ≤ lo ∧ lo ≤ 1000) (hh : -1000 ≤ hi ∧ hi ≤ 1000) : (tkK B n s = 2 ∧ (lo ≤ tkV B n s ∧ tkV B n s ≤ hi) ∧ ∃ m', Mo_number a lo hi m = some (1, m') ∧ Tk75 (st m 76 a (tkV B n s)) m' ∧ MT B n (tkS B n (tkE B n s)) m') ∨ (tkK B n s = 2 ∧ ¬ (lo ≤ tkV B n s ∧ tkV B n s ≤ hi) ∧ ∃ m', Mo_number a lo hi m = some (0, m') ∧ FM 4 s m m') ∨ (tkK B n s ≠ 2 ∧ ∃ m', Mo_number a lo hi m = some (0, m') ∧ FM (if tkK B n s = 4 then 1 else 2) s m m') := by
  have eb := tkK_b B n s
  unfold Mo_number
  by_cases q : tkK B n s = 2
  · have hv := tkV_b q
    have ev := ht.2.2.2 q
    have e13 := ht.2.2.1 (by omega)
    rw [ht.2.1, q, if_pos (show w32 (kRN 2) = 3 from rfl), ev, w32_id (x := tkV B n s) (by omega) (by omega), w32_id (x := lo) (by omega) (by omega), w32_id (x := hi) (by omega) (by omega)]
    by_cases g1 : tkV B n s < lo
    · right; left
      obtain ⟨m', j1, j2⟩ := m_fail ht h0 (f := 4) (g := 4) (by rw [q]; rfl)
      refine ⟨rfl, by omega, m', ?_, j2⟩
      rw [if_pos g1, j1]; rfl
    · by_cases g2 : tkV B n s ≤ hi
      · left
        obtain ⟨m', j1, j2, j3⟩ := m_next (m := st m 76 a (tkV B n s)) (h.mf ((Mf.refl m).s76 _ ha.1)) hs (by rw [st_ne _ _ _ (by decide)]; exact e13)
        refine ⟨rfl, by omega, m', ?_, j2, j3⟩
        rw [if_neg g1, if_pos g2, w32_id (x := a) (by omega) (by omega), if_pos (by omega), j1, bV_some]
      · right; left
        obtain ⟨m', j1, j2⟩ := m_fail ht h0 (f := 4) (g := 4) (by rw [q]; rfl)
        refine ⟨rfl, by omega, m', ?_, j2⟩
        rw [if_neg g1, if_neg g2, j1]; rfl
  · right; right
    obtain ⟨m', j1, j2⟩ := m_fail ht h0 (f := 2) (g := if tkK B n s = 4 then 1 else 2) rfl
    refine ⟨q, m', ?_, j2⟩
    have e1 : ¬ w32 (m 75 11) = 3 := by
      rw [ht.2.1]
      have : tkK B n s = 0 ∨ tkK B n s = 1 ∨ tkK B n s = 3 ∨ tkK B n s = 4 := by omega
      rcases this with e | e | e | e <;> rw [e] <;> decide
    rw [if_neg e1, j1]; rfl
/-- the sign, by both: the class takes it, the reference has it in hand -/
theorem m_isS {B : Nat → Int} {n s : Nat} {m : Mem} (ht : MT B n s m) : (w32 (m 75 11) = 4) ↔ tkK B n s = 3 := by
  have eb := tkK_b B n s
  rw [ht.2.1]
  have : tkK B n s = 0 ∨ tkK B n s = 1 ∨ tkK B n s = 2 ∨ tkK B n s = 3 ∨ tkK B n s = 4 := by omega
  rcases this with e | e | e | e | e <;> rw [e] <;> decide
theorem m_isN {B : Nat → Int} {n s : Nat} {m : Mem} (ht : MT B n s m) : (w32 (m 75 11) = 3) ↔ tkK B n s = 2 := by
  have eb := tkK_b B n s
  rw [ht.2.1]
  have : tkK B n s = 0 ∨ tkK B n s = 1 ∨ tkK B n s = 2 ∨ tkK B n s = 3 ∨ tkK B n s = 4 := by omega
  rcases this with e | e | e | e | e <;> rw [e] <;> decide
theorem m_isE {B : Nat → Int} {n s : Nat} {m : Mem} (ht : MT B n s m) : (w32 (m 75 11) = 0) ↔ tkK B n s = 0 := by
  have eb := tkK_b B n s
  rw [ht.2.1]
  have : tkK B n s = 0 ∨ tkK B n s = 1 ∨ tkK B n s = 2 ∨ tkK B n s = 3 ∨ tkK B n s = 4 := by omega
  rcases this with e | e | e | e | e <;> rw [e] <;> decide
theorem wdL_n {B : Nat → Int} {n s : Nat} (h : tkK B n s ≠ 1) : wdL B n s = [] := by unfold wdL; rw [if_neg h]
theorem iw18_n : iwF [] w18 0 = -1 := by decide +kernel
theorem iw19_n : iwF [] w19 0 = -1 := by decide +kernel
theorem c_nView {B : Nat → Int} {n s : Nat} {m : Mem} (h : TpC B n m) (hs : s ≤ n) (ht : CTk B n s m) : Tape_namedView m = some (if 0 ≤ iwF (wdL B n s) w18 0 ∧ iwF (wdL B n s) w18 0 ≤ 2 then iwF (wdL B n s) w18 0 else -1) := by
  have hb := iwF_b (W := wdL B n s) w18 0 (by omega)
  unfold Tape_namedView
  rw [c_word h hs ht (by decide), c_word h hs ht (by decide), c_word h hs ht (by decide), bP_some, bP_some, bP_some]
  have i0 := w18_0 (wdL B n s)
  have i1 := w18_1 (wdL B n s)
  have i2 := w18_2 (wdL B n s)
  by_cases y0 : wdL B n s = chL 3
  · rw [if_pos y0, if_neg (by decide), i0.mp y0, if_pos (by decide)]
  · by_cases y1 : wdL B n s = chL 4
    · rw [if_neg y0, if_pos (by decide), if_pos y1, if_neg (by decide), i1.mp y1, if_pos (by decide)]
    · by_cases y2 : wdL B n s = chL 5
      · rw [if_neg y0, if_pos (by decide), if_neg y1, if_pos (by decide), if_pos y2, if_neg (by decide), i2.mp y2, if_pos (by decide)]
      · have n0 : ¬ iwF (wdL B n s) w18 0 = 0 := fun z => y0 (i0.mpr z)
        have n1 : ¬ iwF (wdL B n s) w18 0 = 1 := fun z => y1 (i1.mpr z)
        have n2 : ¬ iwF (wdL B n s) w18 0 = 2 := fun z => y2 (i2.mpr z)
        rw [if_neg y0, if_pos (by decide), if_neg y1, if_pos (by decide), if_neg y2, if_pos (by decide), if_neg (by omega)]
theorem iw_same (W : List Int) : (∀ k : Int, 0 ≤ k → k ≤ 2 → (iwF W w18 0 = k ↔ iwF W w19 0 = k)) := by
  intro k h0 h2
  have : k = 0 ∨ k = 1 ∨ k = 2 := by omega
  rcases this with e | e | e <;> subst e
  · rw [← w18_0, ← w19_0]
  · rw [← w18_1, ← w19_1]
  · rw [← w18_2, ← w19_2]
