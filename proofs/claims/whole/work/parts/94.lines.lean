/-! layer 2: the lines -/
def lnS (S W v : Int) : Int := if S = 0 then 0 else if v = 0 then S else if v = 1 then W else S + W - 1
def fsS (S v l : Int) : Int := if v = 0 then 8 * l else if v = 1 then l else if l - S + 1 < 0 then -8 * (l - S + 1) else l - S + 1
def srS (v : Int) : Int := if v = 0 then 1 else if v = 1 then 8 else 9
def plS (S W v l : Int) : Int := if v = 0 then W else if v = 1 then S else if l - S + 1 < 0 then (if S + (l - S + 1) < W then S + (l - S + 1) else W) else (if S < W - (l - S + 1) then S else W - (l - S + 1))
def isLn (S W v l : Int) : Prop := (0 ≤ v ∧ v ≤ 2) ∧ 0 ≤ l ∧ l < lnS S W v
abbrev gSW (S W : Int) : Prop := (S = 0 ∧ W = 0) ∨ (1 ≤ S ∧ S ≤ 8 ∧ 3 ≤ W ∧ W ≤ 6)
theorem isLn_pos {S W v l : Int} (s : gSW S W) (h : isLn S W v l) : 1 ≤ S ∧ S ≤ 8 ∧ 3 ≤ W ∧ W ≤ 6 ∧ 0 ≤ v ∧ v ≤ 2 ∧ 0 ≤ l ∧ l < S + W - 1 + 2 ∧ (v = 0 → l < S) ∧ (v = 1 → l < W) ∧ (v = 2 → l < S + W - 1) := by
  obtain ⟨⟨v0, v2⟩, l0, l1⟩ := h
  unfold lnS at l1
  rcases s with s | s
  · rw [if_pos s.1] at l1; omega
  · rw [if_neg (by omega)] at l1
    split at l1
    · omega
    · split at l1 <;> omega
theorem mod8 {p k : Int} (h0 : 0 ≤ p) (h1 : p < 8) : (8 * k + p) % 8 = p := by omega
theorem pt_in {S W v l p : Int} (s : gSW S W) (h : isLn S W v l) (p0 : 0 ≤ p) (p1 : p < plS S W v l) : Pt S W (fsS S v l + srS v * p) := by
  have g := isLn_pos s h
  unfold plS at p1
  unfold fsS srS Pt
  rcases (by omega : v = 0 ∨ v = 1 ∨ v = 2) with e | e | e
  · subst e; simp only [↓reduceIte] at p1 ⊢; omega
  · subst e; simp at p1 ⊢; omega
  · subst e
    simp at p1 ⊢
    split
    · rename_i q
      rw [if_pos q] at p1
      have b : p < W ∧ p < S + (l - S + 1) := by split at p1 <;> omega
      rw [show -8 * (l - S + 1) + 9 * p = 8 * (p - (l - S + 1)) + p by omega, mod8 p0 (by omega)]
      omega
    · rename_i q; rw [if_neg q] at p1; split at p1 <;> omega
theorem plS_le {S W v l : Int} (s : gSW S W) (h : isLn S W v l) : 1 ≤ plS S W v l ∧ plS S W v l ≤ 8 := by
  have g := isLn_pos s h
  unfold plS
  rcases (by omega : v = 0 ∨ v = 1 ∨ v = 2) with e | e | e
  · subst e; simp; omega
  · subst e; simp; omega
  · subst e; simp; split <;> split <;> omega
theorem c_lines {m : Mem} {v : Int} (s : gSW (m 7 0) (m 7 1)) (v0 : 0 ≤ v) (v2 : v ≤ 2) : Sheet_linesOf 7 v m = lnS (m 7 0) (m 7 1) v := by
  unfold lnS
  rcases (by omega : v = 0 ∨ v = 1 ∨ v = 2) with e | e | e <;> subst e <;> rcases s with s | s <;> simp (disch := omega) only [bP, bE, bV, ltM, ltI, st_eq, st_ne, w32_id, w64_id, ↓reduceIte, ilt_t, ilt_f, ile_t, ile_f, ieq_t, ieq_f, not_true_eq_false, not_false_eq_true, and_true, true_and, and_self, and_false, false_and, Int.reduceMod, Sheet_linesOf] <;> omega
theorem c_hasLineT {m : Mem} {v l : Int} (s : gSW (m 7 0) (m 7 1)) (h : isLn (m 7 0) (m 7 1) v l) : Sheet_hasLine 7 v l m = 1 := by
  have g := isLn_pos s h
  obtain ⟨⟨v0, v2⟩, l0, l1⟩ := h
  have e := c_lines s v0 v2
  unfold lnS at e l1
  simp (disch := omega) only [bP, bE, bV, ltM, ltI, st_eq, st_ne, w32_id, w64_id, ↓reduceIte, ilt_t, ilt_f, ile_t, ile_f, ieq_t, ieq_f, not_true_eq_false, not_false_eq_true, and_true, true_and, and_self, and_false, false_and, Int.reduceMod, Sheet_hasLine, Sheet_isView, e]
theorem isLn_cases {S W v l : Int} (s : gSW S W) (h : ¬ isLn S W v l) : v < 0 ∨ 2 < v ∨ ((0 ≤ v ∧ v ≤ 2) ∧ l < 0) ∨ ((0 ≤ v ∧ v ≤ 2) ∧ 0 ≤ l ∧ lnS S W v ≤ l) := by
  unfold isLn at h; omega
theorem lnS_le {S W : Int} (s : gSW S W) (v : Int) : 0 ≤ lnS S W v ∧ lnS S W v ≤ 13 := by
  unfold lnS; rcases s with s | s <;> split <;> (try split) <;> (try split) <;> omega
theorem c_hasLineF {m : Mem} {v l : Int} (s : gSW (m 7 0) (m 7 1)) (cv : w32 v = v) (cl : w32 l = l) (h : ¬ isLn (m 7 0) (m 7 1) v l) : Sheet_hasLine 7 v l m = 0 := by
  have b1 := cn cv
  have b2 := cn cl
  have bl := lnS_le s v
  rcases isLn_cases s h with g | g | g | g
  · simp (disch := omega) only [bP, bE, bV, ltM, ltI, st_eq, st_ne, w32_id, w64_id, ↓reduceIte, ilt_t, ilt_f, ile_t, ile_f, ieq_t, ieq_f, not_true_eq_false, not_false_eq_true, and_true, true_and, and_self, and_false, false_and, Int.reduceMod, Sheet_hasLine, Sheet_isView]
  · simp (disch := omega) only [bP, bE, bV, ltM, ltI, st_eq, st_ne, w32_id, w64_id, ↓reduceIte, ilt_t, ilt_f, ile_t, ile_f, ieq_t, ieq_f, not_true_eq_false, not_false_eq_true, and_true, true_and, and_self, and_false, false_and, Int.reduceMod, Sheet_hasLine, Sheet_isView]
  · simp (disch := omega) only [bP, bE, bV, ltM, ltI, st_eq, st_ne, w32_id, w64_id, ↓reduceIte, ilt_t, ilt_f, ile_t, ile_f, ieq_t, ieq_f, not_true_eq_false, not_false_eq_true, and_true, true_and, and_self, and_false, false_and, Int.reduceMod, Sheet_hasLine, Sheet_isView]
  · have e := c_lines s g.1.1 g.1.2
    simp (disch := omega) only [bP, bE, bV, ltM, ltI, st_eq, st_ne, w32_id, w64_id, ↓reduceIte, ilt_t, ilt_f, ile_t, ile_f, ieq_t, ieq_f, not_true_eq_false, not_false_eq_true, and_true, true_and, and_self, and_false, false_and, Int.reduceMod, Sheet_hasLine, Sheet_isView, e]
theorem c_places {m : Mem} {v l : Int} (s : gSW (m 7 0) (m 7 1)) (h : isLn (m 7 0) (m 7 1) v l) : Sheet_placesOf 7 v l m = plS (m 7 0) (m 7 1) v l := by
  have g := isLn_pos s h
  unfold plS
  rcases (by omega : v = 0 ∨ v = 1 ∨ v = 2) with e | e | e <;> subst e
  · simp (disch := omega) only [bP, bE, bV, ltM, ltI, st_eq, st_ne, w32_id, w64_id, ↓reduceIte, ilt_t, ilt_f, ile_t, ile_f, ieq_t, ieq_f, not_true_eq_false, not_false_eq_true, and_true, true_and, and_self, and_false, false_and, Int.reduceMod, Sheet_placesOf]
  · simp (disch := omega) only [bP, bE, bV, ltM, ltI, st_eq, st_ne, w32_id, w64_id, ↓reduceIte, ilt_t, ilt_f, ile_t, ile_f, ieq_t, ieq_f, not_true_eq_false, not_false_eq_true, and_true, true_and, and_self, and_false, false_and, Int.reduceMod, Sheet_placesOf]
  · simp only [show ¬ (2 : Int) = 0 by decide, show ¬ (2 : Int) = 1 by decide, ↓reduceIte]
    unfold Sheet_placesOf J_min J_max
    rw [w32_id (x := 2) (by omega) (by omega), if_pos (by decide), if_pos (by decide), w32_id (by omega) (by omega), w32_id (by omega) (by omega), w32_id (by omega) (by omega), w32_id (by omega) (by omega)]
    split <;> split <;> split <;> (try split) <;> omega
theorem c_first {m : Mem} {v l : Int} (s : gSW (m 7 0) (m 7 1)) (h : isLn (m 7 0) (m 7 1) v l) : Sheet_firstOf 7 v l m = fsS (m 7 0) v l := by
  have g := isLn_pos s h
  unfold fsS
  rcases (by omega : v = 0 ∨ v = 1 ∨ v = 2) with e | e | e <;> subst e
  · simp (disch := omega) only [bP, bE, bV, ltM, ltI, st_eq, st_ne, w32_id, w64_id, ↓reduceIte, ilt_t, ilt_f, ile_t, ile_f, ieq_t, ieq_f, not_true_eq_false, not_false_eq_true, and_true, true_and, and_self, and_false, false_and, Int.reduceMod, Sheet_firstOf]
  · simp (disch := omega) only [bP, bE, bV, ltM, ltI, st_eq, st_ne, w32_id, w64_id, ↓reduceIte, ilt_t, ilt_f, ile_t, ile_f, ieq_t, ieq_f, not_true_eq_false, not_false_eq_true, and_true, true_and, and_self, and_false, false_and, Int.reduceMod, Sheet_firstOf]
  · simp only [show ¬ (2 : Int) = 0 by decide, show ¬ (2 : Int) = 1 by decide, ↓reduceIte]
    unfold Sheet_firstOf
    rw [w32_id (x := 2) (by omega) (by omega), if_pos (by decide), if_pos (by decide), w32_id (by omega) (by omega)]
    split <;> split <;> omega
theorem c_stride {v : Int} (v0 : 0 ≤ v) (v2 : v ≤ 2) : Sheet_strideOf 7 v = srS v := by
  unfold srS
  rcases (by omega : v = 0 ∨ v = 1 ∨ v = 2) with e | e | e <;> subst e <;> simp (disch := omega) only [bP, bE, bV, ltM, ltI, st_eq, st_ne, w32_id, w64_id, ↓reduceIte, ilt_t, ilt_f, ile_t, ile_f, ieq_t, ieq_f, not_true_eq_false, not_false_eq_true, and_true, true_and, and_self, and_false, false_and, Int.reduceMod, Sheet_strideOf]
theorem m_lines {m : Mem} {S W v : Int} (s : gSW S W) (z0 : m 76 0 = S) (z1 : m 76 1 = W) (v0 : 0 ≤ v) (v2 : v ≤ 2) : Mo_linesOf v m = lnS S W v := by
  unfold lnS Mo_linesOf
  rw [z0, z1]
  rcases (by omega : v = 0 ∨ v = 1 ∨ v = 2) with e | e | e <;> subst e <;> rcases s with s | s <;> simp (disch := omega) only [bP, bE, bV, ltM, ltI, st_eq, st_ne, w32_id, w64_id, ↓reduceIte, ilt_t, ilt_f, ile_t, ile_f, ieq_t, ieq_f, not_true_eq_false, not_false_eq_true, and_true, true_and, and_self, and_false, false_and, Int.reduceMod]
theorem m_isLineT {m : Mem} {S W v l : Int} (s : gSW S W) (z0 : m 76 0 = S) (z1 : m 76 1 = W) (h : isLn S W v l) : Mo_isLine v l m = 1 := by
  have g := isLn_pos s h
  obtain ⟨⟨v0, v2⟩, l0, l1⟩ := h
  have e := m_lines s z0 z1 v0 v2
  have bl := lnS_le s v
  simp (disch := omega) only [bP, bE, bV, ltM, ltI, st_eq, st_ne, w32_id, w64_id, ↓reduceIte, ilt_t, ilt_f, ile_t, ile_f, ieq_t, ieq_f, not_true_eq_false, not_false_eq_true, and_true, true_and, and_self, and_false, false_and, Int.reduceMod, Mo_isLine, Mo_isView, e]
theorem m_isLineF {m : Mem} {S W v l : Int} (s : gSW S W) (z0 : m 76 0 = S) (z1 : m 76 1 = W) (cv : w32 v = v) (cl : w32 l = l) (h : ¬ isLn S W v l) : Mo_isLine v l m = 0 := by
  have b1 := cn cv
  have b2 := cn cl
  have bl := lnS_le s v
  rcases isLn_cases s h with g | g | g | g
  · simp (disch := omega) only [bP, bE, bV, ltM, ltI, st_eq, st_ne, w32_id, w64_id, ↓reduceIte, ilt_t, ilt_f, ile_t, ile_f, ieq_t, ieq_f, not_true_eq_false, not_false_eq_true, and_true, true_and, and_self, and_false, false_and, Int.reduceMod, Mo_isLine, Mo_isView]
  · simp (disch := omega) only [bP, bE, bV, ltM, ltI, st_eq, st_ne, w32_id, w64_id, ↓reduceIte, ilt_t, ilt_f, ile_t, ile_f, ieq_t, ieq_f, not_true_eq_false, not_false_eq_true, and_true, true_and, and_self, and_false, false_and, Int.reduceMod, Mo_isLine, Mo_isView]
  · simp (disch := omega) only [bP, bE, bV, ltM, ltI, st_eq, st_ne, w32_id, w64_id, ↓reduceIte, ilt_t, ilt_f, ile_t, ile_f, ieq_t, ieq_f, not_true_eq_false, not_false_eq_true, and_true, true_and, and_self, and_false, false_and, Int.reduceMod, Mo_isLine, Mo_isView]
  · have e := m_lines s z0 z1 g.1.1 g.1.2
    simp (disch := omega) only [bP, bE, bV, ltM, ltI, st_eq, st_ne, w32_id, w64_id, ↓reduceIte, ilt_t, ilt_f, ile_t, ile_f, ieq_t, ieq_f, not_true_eq_false, not_false_eq_true, and_true, true_and, and_self, and_false, false_and, Int.reduceMod, Mo_isLine, Mo_isView, e]
/-- what takes(view, line) leaves -/
def tk (m : Mem) (f a p : Int) : Mem := st (st (st m 75 23 f) 75 24 a) 75 25 p
theorem m_takes {m : Mem} {S W v l : Int} (s : gSW S W) (z0 : m 76 0 = S) (z1 : m 76 1 = W) (h : isLn S W v l) : Mo_takes v l m = tk m (fsS S v l) (srS v) (plS S W v l) := by
  have g := isLn_pos s h
  unfold Mo_takes tk fsS srS plS
  rw [z0, z1]
  rcases (by omega : v = 0 ∨ v = 1 ∨ v = 2) with e | e | e <;> subst e
  · simp (disch := omega) only [bP, bE, bV, ltM, ltI, st_eq, st_ne, w32_id, w64_id, ↓reduceIte, ilt_t, ilt_f, ile_t, ile_f, ieq_t, ieq_f, not_true_eq_false, not_false_eq_true, and_true, true_and, and_self, and_false, false_and, Int.reduceMod]
  · simp (disch := omega) only [bP, bE, bV, ltM, ltI, st_eq, st_ne, w32_id, w64_id, ↓reduceIte, ilt_t, ilt_f, ile_t, ile_f, ieq_t, ieq_f, not_true_eq_false, not_false_eq_true, and_true, true_and, and_self, and_false, false_and, Int.reduceMod]
  · simp only [show ¬ (2 : Int) = 0 by decide, show ¬ (2 : Int) = 1 by decide, ↓reduceIte]
    rw [w32_id (x := 2) (by omega) (by omega), if_pos (by decide), w32_id (by omega) (by omega)]
    unfold J_min
    by_cases q : l - S + 1 < 0
    · rw [if_neg (by omega), if_neg (by omega), if_pos q, if_pos q, w32_id (by omega) (by omega), w32_id (by omega) (by omega)]
      have e1 : 8 * -(l - S + 1) + 0 = -8 * (l - S + 1) := by omega
      have e2 : (if W - 0 < S - -(l - S + 1) then W - 0 else S - -(l - S + 1)) = if S + (l - S + 1) < W then S + (l - S + 1) else W := by split <;> split <;> omega
      rw [e1, e2]
    · rw [if_pos (by omega), if_pos (by omega), if_neg q, if_neg q, w32_id (by omega) (by omega), w32_id (by omega) (by omega)]
      have e1 : 8 * 0 + (l - S + 1) = l - S + 1 := by omega
      have e2 : (if W - (l - S + 1) < S - 0 then W - (l - S + 1) else S - 0) = if S < W - (l - S + 1) then S else W - (l - S + 1) := by split <;> split <;> omega
      rw [e1, e2]
