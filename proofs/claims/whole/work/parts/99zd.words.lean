/-! layer 2: words -/
def wdL (B : Nat → Int) (n s : Nat) : List Int := if tkK B n s = 1 then (List.range (tkE B n s - s)).map (fun i => B (s + i)) else []
def chL (k : Nat) : List Int := (List.range (slen k).toNat).map (fun i => sch k ((i : Nat) : Int))
theorem rg_eq {L : Nat} {f g : Nat → Int} : (List.range L).map f = (List.range L).map g ↔ ∀ i, i < L → f i = g i := by
  rw [List.map_inj_left]
  exact ⟨fun h i hi => h i (List.mem_range.mpr hi), fun h i hi => h i (List.mem_range.mp hi)⟩
theorem rg_len {L L' : Nat} {f g : Nat → Int} (h : (List.range L).map f = (List.range L').map g) : L = L' := by
  have := congrArg List.length h
  simpa using this
theorem nST_eq : nST = 20 := by decide
theorem sch_b {k : Nat} {i : Int} (hk : k < 20) (h0 : 0 ≤ i) (h1 : i < slen k) : 0 ≤ sch k i ∧ sch k i < 128 := sch_in (by rw [nST_eq]; exact hk) h0 h1
theorem slen_b : ∀ k : Fin 20, 1 ≤ slen k.val ∧ slen k.val ≤ 100 := by decide +kernel
theorem c_w28 {B : Nat → Int} {n s k L : Nat} {m : Mem} (h : TpC B n m) (e5 : m 5 5 = (s : Int)) (hk : k < 20) (eL : slen k = (L : Int)) (hL : L ≤ 100) (hsn : s + L ≤ n) : ∀ (f r j : Nat), j + r = L → r < f → ∃ x : Int, Tape_isWord_L28 k m f (j : Int) = some x ∧ (x = 0 ∨ x = 1) ∧ (x = 1 ↔ ∀ i, j ≤ i → i < L → B (s + i) = sch k ((i : Nat) : Int)) := by
  intro f
  induction f with
  | zero => intro r j _ q; omega
  | succ f ih =>
    intro r j hr hf
    have hn := h.2.1
    rw [Tape_isWord_L28, eL, w32_id (x := (L : Int)) (by omega) (by omega), w32_id (x := (j : Int)) (by omega) (by omega)]
    cases r with
    | zero =>
      rw [if_pos (by omega)]
      exact ⟨1, rfl, Or.inr rfl, fun _ i h1 h2 => by omega, fun _ => rfl⟩
    | succ r =>
      have hb := h.2.2 (s + j) (by omega)
      have hc := sch_b (k := k) (i := (j : Int)) hk (by omega) (by rw [eL]; omega)
      have ebt : Tape_byteAt (m 5 5 + (j : Int)) m = B (s + j) := by
        unfold Tape_byteAt
        rw [e5, show (s : Int) + (j : Int) = ((s + j : Nat) : Int) by omega, w32_id (by omega) (by omega), if_neg (by omega), if_neg (by omega), hb.1]
      rw [if_neg (by omega), if_pos (by omega), ebt, w32_id (x := B (s + j)) (by clear ebt; omega) (by clear ebt; omega), w32_id (x := sch k (j : Int)) (by clear ebt; omega) (by clear ebt; omega)]
      clear ebt
      by_cases q : B (s + j) = sch k (j : Int)
      · rw [if_pos q, show (j : Int) + 1 = ((j + 1 : Nat) : Int) by omega]
        obtain ⟨x, j1, j2, j3⟩ := ih r (j + 1) (by omega) (by omega)
        refine ⟨x, j1, j2, j3.trans ⟨fun hx i h1 h2 => ?_, fun hx i h1 h2 => hx i (by omega) h2⟩⟩
        by_cases z : i = j
        · subst z; exact q
        · exact hx i (by omega) h2
      · rw [if_neg q]
        exact ⟨0, rfl, Or.inl rfl, fun z => by omega, fun hx => absurd (hx j (by omega) (by omega)) q⟩
theorem c_word {B : Nat → Int} {n s k : Nat} {m : Mem} (h : TpC B n m) (hs : s ≤ n) (ht : CTk B n s m) (hk : k < 20) : Tape_isWord k m = some (if wdL B n s = chL k then 1 else 0) := by
  have hn := h.2.1
  have hsl := slen_b ⟨k, hk⟩
  simp only at hsl
  obtain ⟨L, eL⟩ : ∃ L : Nat, slen k = (L : Int) := ⟨(slen k).toNat, by omega⟩
  have eL' : (slen k).toNat = L := by rw [eL]; rfl
  have he := tkE_b B hs
  unfold Tape_isWord
  rw [ht.2.2.1]
  have hkk : w32 (tkK B n s) = tkK B n s := by
    unfold tkK; split
    · rfl
    · split
      · rfl
      · split
        · split <;> rfl
        · split <;> rfl
  rw [hkk]
  by_cases q : tkK B n s = 1
  · have ew : wdL B n s = (List.range (tkE B n s - s)).map (fun i => B (s + i)) := by unfold wdL; rw [if_pos q]
    rw [if_neg (fun z => z q), ht.2.1, ht.1, eL, w32_id (x := (L : Int)) (by omega) (by omega), w32_id (x := (tkE B n s : Int) - (s : Int)) (by omega) (by omega)]
    by_cases q2 : tkE B n s - s = L
    · obtain ⟨x, j1, j2, j3⟩ := c_w28 (B := B) (n := n) (s := s) (k := k) (L := L) h ht.1 hk eL (by omega) (by omega) FU L 0 (by omega) (by rw [FU_eq]; omega)
      rw [if_pos (by omega), show (0 : Int) = ((0 : Nat) : Int) from rfl, j1]
      have e2 : wdL B n s = chL k ↔ x = 1 := by
        rw [j3, ew, q2]
        unfold chL
        rw [eL', rg_eq]
        exact ⟨fun hh i _ h2 => hh i h2, fun hh i h2 => hh i (by omega) h2⟩
      by_cases y : x = 1
      · rw [if_pos (e2.mpr y), y]
      · rw [if_neg (fun z => y (e2.mp z))]
        rcases j2 with z | z
        · rw [z]; rfl
        · exact absurd z y
    · rw [if_neg (by omega)]
      rw [if_neg (fun z => q2 (by
        rw [ew] at z
        unfold chL at z
        rw [eL'] at z
        exact rg_len z))]
  · have ew : wdL B n s = [] := by unfold wdL; rw [if_neg q]
    rw [if_pos q, ew, if_neg (fun z => by
      have := congrArg List.length z
      unfold chL at this
      rw [eL'] at this
      simp at this
      omega)]
/-- the first of the words that it is, or -1 -/
def iwF (W : List Int) : List (List Int) → Int → Int
  | [], _ => -1
  | w :: ws, i => if W = w then i else iwF W ws (i + 1)
theorem iwF_b {W : List Int} : ∀ (ws : List (List Int)) (i : Int), 0 ≤ i → -1 ≤ iwF W ws i ∧ iwF W ws i < i + ws.length
  | [], i, h => by unfold iwF; simp; omega
  | w :: ws, i, h => by
    have := iwF_b (W := W) ws (i + 1) (by omega)
    unfold iwF
    rw [List.length_cons]
    split <;> omega
theorem iwF_is {W : List Int} : ∀ (ws : List (List Int)) (i : Int) (k : Nat) (hk : k < ws.length), ws.Nodup → 0 ≤ i → (W = ws[k] ↔ iwF W ws i = i + (k : Int))
  | [], i, k, hk, _, _ => by simp at hk
  | w :: ws, i, 0, hk, hd, h => by
    unfold iwF
    simp only [List.getElem_cons_zero]
    constructor
    · intro e; rw [if_pos e]; omega
    · intro e
      by_cases q : W = w
      · exact q
      · rw [if_neg q] at e
        exfalso
        have key : ∀ (us : List (List Int)) (j : Int), i < j → 0 ≤ i → iwF W us j ≠ i := by
          intro us
          induction us with
          | nil => intro j _ _; unfold iwF; omega
          | cons u us ih =>
            intro j h1 h2
            unfold iwF
            split
            · omega
            · exact ih (j + 1) (by omega) h2
        exact key ws (i + 1) (by omega) h (by omega)
  | w :: ws, i, k + 1, hk, hd, h => by
    have hd' := List.nodup_cons.mp hd
    have hk' : k < ws.length := by simpa using hk
    have ih := iwF_is (W := W) ws (i + 1) k hk' hd'.2 (by omega)
    unfold iwF
    simp only [List.getElem_cons_succ]
    by_cases q : W = w
    · rw [if_pos q]
      constructor
      · intro e; exact absurd (by rw [← q, e]; exact List.getElem_mem hk') hd'.1
      · intro e; omega
    · rw [if_neg q, ih]
      constructor <;> intro e <;> omega
def w18 : List (List Int) := [chL 3, chL 4, chL 5, chL 0, chL 6, chL 7, chL 8, chL 9, chL 1, chL 2]
theorem w18_nd : w18.Nodup := by decide +kernel
theorem w18_0 (W : List Int) : (W = chL 3) ↔ iwF W w18 0 = 0 := by
  have := iwF_is (W := W) w18 0 0 (by decide) w18_nd (by decide)
  simpa [w18] using this
theorem w18_1 (W : List Int) : (W = chL 4) ↔ iwF W w18 0 = 1 := by
  have := iwF_is (W := W) w18 0 1 (by decide) w18_nd (by decide)
  simpa [w18] using this
theorem w18_2 (W : List Int) : (W = chL 5) ↔ iwF W w18 0 = 2 := by
  have := iwF_is (W := W) w18 0 2 (by decide) w18_nd (by decide)
  simpa [w18] using this
theorem w18_3 (W : List Int) : (W = chL 0) ↔ iwF W w18 0 = 3 := by
  have := iwF_is (W := W) w18 0 3 (by decide) w18_nd (by decide)
  simpa [w18] using this
theorem w18_4 (W : List Int) : (W = chL 6) ↔ iwF W w18 0 = 4 := by
  have := iwF_is (W := W) w18 0 4 (by decide) w18_nd (by decide)
  simpa [w18] using this
theorem w18_5 (W : List Int) : (W = chL 7) ↔ iwF W w18 0 = 5 := by
  have := iwF_is (W := W) w18 0 5 (by decide) w18_nd (by decide)
  simpa [w18] using this
theorem w18_6 (W : List Int) : (W = chL 8) ↔ iwF W w18 0 = 6 := by
  have := iwF_is (W := W) w18 0 6 (by decide) w18_nd (by decide)
  simpa [w18] using this
theorem w18_7 (W : List Int) : (W = chL 9) ↔ iwF W w18 0 = 7 := by
  have := iwF_is (W := W) w18 0 7 (by decide) w18_nd (by decide)
  simpa [w18] using this
theorem w18_8 (W : List Int) : (W = chL 1) ↔ iwF W w18 0 = 8 := by
  have := iwF_is (W := W) w18 0 8 (by decide) w18_nd (by decide)
  simpa [w18] using this
theorem w18_9 (W : List Int) : (W = chL 2) ↔ iwF W w18 0 = 9 := by
  have := iwF_is (W := W) w18 0 9 (by decide) w18_nd (by decide)
  simpa [w18] using this
def w19 : List (List Int) := [chL 3, chL 4, chL 5, chL 11, chL 12, chL 1, chL 13, chL 14, chL 15, chL 16, chL 10, chL 17]
theorem w19_nd : w19.Nodup := by decide +kernel
theorem w19_0 (W : List Int) : (W = chL 3) ↔ iwF W w19 0 = 0 := by
  have := iwF_is (W := W) w19 0 0 (by decide) w19_nd (by decide)
  simpa [w19] using this
theorem w19_1 (W : List Int) : (W = chL 4) ↔ iwF W w19 0 = 1 := by
  have := iwF_is (W := W) w19 0 1 (by decide) w19_nd (by decide)
  simpa [w19] using this
theorem w19_2 (W : List Int) : (W = chL 5) ↔ iwF W w19 0 = 2 := by
  have := iwF_is (W := W) w19 0 2 (by decide) w19_nd (by decide)
  simpa [w19] using this
theorem w19_3 (W : List Int) : (W = chL 11) ↔ iwF W w19 0 = 3 := by
  have := iwF_is (W := W) w19 0 3 (by decide) w19_nd (by decide)
  simpa [w19] using this
theorem w19_4 (W : List Int) : (W = chL 12) ↔ iwF W w19 0 = 4 := by
  have := iwF_is (W := W) w19 0 4 (by decide) w19_nd (by decide)
  simpa [w19] using this
theorem w19_5 (W : List Int) : (W = chL 1) ↔ iwF W w19 0 = 5 := by
  have := iwF_is (W := W) w19 0 5 (by decide) w19_nd (by decide)
  simpa [w19] using this
theorem w19_6 (W : List Int) : (W = chL 13) ↔ iwF W w19 0 = 6 := by
  have := iwF_is (W := W) w19 0 6 (by decide) w19_nd (by decide)
  simpa [w19] using this
theorem w19_7 (W : List Int) : (W = chL 14) ↔ iwF W w19 0 = 7 := by
  have := iwF_is (W := W) w19 0 7 (by decide) w19_nd (by decide)
  simpa [w19] using this
theorem w19_8 (W : List Int) : (W = chL 15) ↔ iwF W w19 0 = 8 := by
  have := iwF_is (W := W) w19 0 8 (by decide) w19_nd (by decide)
  simpa [w19] using this
theorem w19_9 (W : List Int) : (W = chL 16) ↔ iwF W w19 0 = 9 := by
  have := iwF_is (W := W) w19 0 9 (by decide) w19_nd (by decide)
  simpa [w19] using this
theorem w19_10 (W : List Int) : (W = chL 10) ↔ iwF W w19 0 = 10 := by
  have := iwF_is (W := W) w19 0 10 (by decide) w19_nd (by decide)
  simpa [w19] using this
theorem w19_11 (W : List Int) : (W = chL 17) ↔ iwF W w19 0 = 11 := by
  have := iwF_is (W := W) w19 0 11 (by decide) w19_nd (by decide)
  simpa [w19] using this
/-! the reference's search -/
theorem m_w25 {k : Nat} {v2 v3 : Int} {K : Int → Option Int} {m : Mem} {b : Nat} (hb : (b : Int) < slen k) (hsl : slen k ≤ 100) (h32 : sch k (b : Int) = 32) : ∀ (f r a : Nat), a + r = b → r < f → (∀ i : Nat, a ≤ i → i < b → w32 (sch k (i : Int)) ≠ 32) → Mo_inWords_L25 k v2 v3 K m f (a : Int) = K (b : Int) := by
  intro f
  induction f with
  | zero => intro r a _ h; omega
  | succ f ih =>
    intro r a hr hf hne
    rw [Mo_inWords_L25, w32_id (x := (a : Int)) (by omega) (by omega), if_pos (by omega)]
    cases r with
    | zero =>
      have e : a = b := by omega
      subst e
      rw [h32, if_pos (by decide)]
    | succ r =>
      rw [if_neg (hne a (by omega) (by omega)), show (a : Int) + 1 = ((a + 1 : Nat) : Int) by omega]
      exact ih r (a + 1) (by omega) (by omega) (fun i h1 h2 => hne i (by omega) h2)
theorem m_w68z {k a b : Nat} {v2 : Int} {K : Int → Int → Option Int} {m : Mem} (hb : b ≤ 100) {f j : Nat} (hj : j ≤ b) (hf : 0 < f) : Mo_inWords_L68 k (b : Int) K m f v2 (a : Int) 0 (j : Int) = K (v2 + 1) ((b : Int) + 1) := by
  match f, hf with
  | f + 1, _ =>
    rw [Mo_inWords_L68, w32_id (x := (b : Int)) (by omega) (by omega), w32_id (x := (j : Int)) (by omega) (by omega)]
    by_cases q : (b : Int) ≤ (j : Int)
    · rw [if_pos q, if_pos (by decide)]
    · rw [if_neg q, if_pos (by decide), if_pos (by decide)]
theorem m_w68 {B : Nat → Int} {n s k a b : Nat} {v2 : Int} {K : Int → Int → Option Int} {m : Mem} (h : TpM B n m) (e12 : m 75 12 = (s : Int)) (hk : k < 20) (hb : (b : Int) < slen k) (hsl : slen k ≤ 100) (hab : a ≤ b) (hsn : s + (b - a) ≤ n) : ∀ (f r j : Nat), a ≤ j → j + r = b → r + 1 < f → ((∀ i, j ≤ i → i < b → B (s + (i - a)) = sch k ((i : Nat) : Int)) ∧ Mo_inWords_L68 k (b : Int) K m f v2 (a : Int) 1 (j : Int) = some v2) ∨ (¬ (∀ i, j ≤ i → i < b → B (s + (i - a)) = sch k ((i : Nat) : Int)) ∧ Mo_inWords_L68 k (b : Int) K m f v2 (a : Int) 1 (j : Int) = K (v2 + 1) ((b : Int) + 1)) := by
  intro f
  induction f with
  | zero => intro r j _ _ q; omega
  | succ f ih =>
    intro r j haj hr hf
    have hn := h.2.1
    rw [Mo_inWords_L68, w32_id (x := (b : Int)) (by omega) (by omega), w32_id (x := (j : Int)) (by omega) (by omega)]
    cases r with
    | zero =>
      rw [if_pos (by omega), if_neg (by decide)]
      exact Or.inl ⟨fun i h1 h2 => by omega, rfl⟩
    | succ r =>
      have hbb := h.2.2 (s + (j - a)) (by omega)
      have hc := sch_b (k := k) (i := (j : Int)) hk (by omega) (by omega)
      rw [if_neg (by omega), if_neg (by decide), if_pos (by omega), e12, show (s : Int) + (j : Int) - (a : Int) = ((s + (j - a) : Nat) : Int) by omega, m_byI h (by omega), bP_some, w32_id (x := B (s + (j - a))) (by omega) (by omega), w32_id (x := sch k (j : Int)) (by omega) (by omega), show (j : Int) + 1 = ((j + 1 : Nat) : Int) by omega]
      by_cases q : sch k (j : Int) = B (s + (j - a))
      · rw [if_neg (fun z => z q)]
        rcases ih r (j + 1) (by omega) (by omega) (by omega) with ⟨h1, h2⟩ | ⟨h1, h2⟩
        · refine Or.inl ⟨fun i i1 i2 => ?_, h2⟩
          by_cases z : i = j
          · subst z; exact q.symm
          · exact h1 i (by omega) i2
        · exact Or.inr ⟨fun z => h1 (fun i i1 i2 => z i (by omega) i2), h2⟩
      · rw [if_pos q, m_w68z (by omega) (by omega) (by omega)]
        exact Or.inr ⟨fun z => q (z j (by omega) (by omega)).symm, rfl⟩
/-- one word of the row of words -/
theorem m_iw {B : Nat → Int} {n s k a b : Nat} {v2 : Int} {m : Mem} {w : List Int} (h : TpM B n m) (hs : s ≤ n) (ht : MT B n s m) (hK : tkK B n s = 1) (hk : k < 20) (hab : a < b) (hb : (b : Int) < slen k) (h32 : sch k (b : Int) = 32) (hne : ∀ i : Nat, a ≤ i → i < b → w32 (sch k (i : Int)) ≠ 32) (hw : (List.range (b - a)).map (fun i => sch k (((a + i : Nat)) : Int)) = w) (f : Nat) : Mo_inWords_L14 k m (f + 1) v2 (a : Int) = if wdL B n s = w then some v2 else Mo_inWords_L14 k m f (v2 + 1) ((b : Int) + 1) := by
  have hn := h.2.1
  have hsl := slen_b ⟨k, hk⟩
  simp only at hsl
  have he := tkE_b B hs
  have ew : wdL B n s = (List.range (tkE B n s - s)).map (fun i => B (s + i)) := by unfold wdL; rw [if_pos hK]
  have e13 := ht.2.2.1 (by omega)
  rw [Mo_inWords_L14, w32_id (x := slen k) (by omega) (by omega), w32_id (x := (a : Int)) (by omega) (by omega), if_neg (by omega), m_w25 (b := b) hb hsl.2 h32 FU (b - a) a (by omega) (by rw [FU_eq]; omega) hne, e13, ht.1, w32_id (x := (b : Int) - (a : Int)) (by omega) (by omega), w32_id (x := (tkE B n s : Int) - (s : Int)) (by omega) (by omega)]
  by_cases q : tkE B n s - s = b - a
  · rw [if_neg (by omega)]
    have e2 : wdL B n s = w ↔ ∀ i, a ≤ i → i < b → B (s + (i - a)) = sch k ((i : Nat) : Int) := by
      rw [ew, ← hw, q, rg_eq]
      constructor
      · intro hh i h1 h2
        have := hh (i - a) (by omega)
        rw [show a + (i - a) = i by omega] at this
        exact this
      · intro hh i hi
        have := hh (a + i) (by omega) (by omega)
        rw [show a + i - a = i by omega] at this
        exact this
    rcases m_w68 (B := B) (n := n) (s := s) (k := k) (a := a) (b := b) (v2 := v2) (K := Mo_inWords_L14 k m f) h ht.1 hk hb hsl.2 (by omega) (by omega) FU (b - a) a (by omega) (by omega) (by rw [FU_eq]; omega) with ⟨h1, h2⟩ | ⟨h1, h2⟩
    · rw [if_pos (e2.mpr h1)]; exact h2
    · rw [if_neg (fun z => h1 (e2.mp z))]; exact h2
  · rw [if_pos (by omega), m_w68z (by omega) (by omega) (by rw [FU_eq]; omega), if_neg (fun z => q (by
      rw [ew, ← hw] at z
      exact rg_len z))]
theorem m_iwE {k : Nat} {v2 : Int} {m : Mem} {a : Int} (h : slen k ≤ a) (hk : k < 20) (ha : a ≤ 1000) (f : Nat) : Mo_inWords_L14 k m (f + 1) v2 a = some (-1) := by
  have hsl := slen_b ⟨k, hk⟩
  simp only at hsl
  rw [Mo_inWords_L14, w32_id (x := slen k) (by omega) (by omega), w32_id (x := a) (by omega) (by omega), if_pos h]
theorem m_in18 {B : Nat → Int} {n s : Nat} {m : Mem} (h : TpM B n m) (hs : s ≤ n) (ht : MT B n s m) : Mo_inWords 18 m = some (iwF (wdL B n s) w18 0) := by
  unfold Mo_inWords
  rw [ht.2.1]
  by_cases q : tkK B n s = 1
  · rw [q, if_pos (show w32 (kRN 1) = 2 from rfl)]
    rw [FU_eq, show (20000 : Nat) = 19989 + 1 + 1 + 1 + 1 + 1 + 1 + 1 + 1 + 1 + 1 + 1 from rfl]
    rw [show (1 : Int) = ((1 : Nat) : Int) from rfl, m_iw (B := B) (n := n) (s := s) (k := 18) (a := 1) (b := 9) (w := chL 3) h hs ht q (by decide) (by decide) (by decide +kernel) (by decide +kernel) (fun i h1 h2 => (show ∀ i : Fin 9, 1 ≤ i.val → w32 (sch 18 (i.val : Int)) ≠ 32 by decide +kernel) ⟨i, h2⟩ h1) (by decide +kernel)]
    rw [show (((9 : Nat) : Int) + 1) = 10 from rfl, show (0 : Int) + 1 = 1 from rfl]
    rw [show (10 : Int) = ((10 : Nat) : Int) from rfl, m_iw (B := B) (n := n) (s := s) (k := 18) (a := 10) (b := 16) (w := chL 4) h hs ht q (by decide) (by decide) (by decide +kernel) (by decide +kernel) (fun i h1 h2 => (show ∀ i : Fin 16, 10 ≤ i.val → w32 (sch 18 (i.val : Int)) ≠ 32 by decide +kernel) ⟨i, h2⟩ h1) (by decide +kernel)]
    rw [show (((16 : Nat) : Int) + 1) = 17 from rfl, show (1 : Int) + 1 = 2 from rfl]
    rw [show (17 : Int) = ((17 : Nat) : Int) from rfl, m_iw (B := B) (n := n) (s := s) (k := 18) (a := 17) (b := 23) (w := chL 5) h hs ht q (by decide) (by decide) (by decide +kernel) (by decide +kernel) (fun i h1 h2 => (show ∀ i : Fin 23, 17 ≤ i.val → w32 (sch 18 (i.val : Int)) ≠ 32 by decide +kernel) ⟨i, h2⟩ h1) (by decide +kernel)]
    rw [show (((23 : Nat) : Int) + 1) = 24 from rfl, show (2 : Int) + 1 = 3 from rfl]
    rw [show (24 : Int) = ((24 : Nat) : Int) from rfl, m_iw (B := B) (n := n) (s := s) (k := 18) (a := 24) (b := 27) (w := chL 0) h hs ht q (by decide) (by decide) (by decide +kernel) (by decide +kernel) (fun i h1 h2 => (show ∀ i : Fin 27, 24 ≤ i.val → w32 (sch 18 (i.val : Int)) ≠ 32 by decide +kernel) ⟨i, h2⟩ h1) (by decide +kernel)]
    rw [show (((27 : Nat) : Int) + 1) = 28 from rfl, show (3 : Int) + 1 = 4 from rfl]
    rw [show (28 : Int) = ((28 : Nat) : Int) from rfl, m_iw (B := B) (n := n) (s := s) (k := 18) (a := 28) (b := 33) (w := chL 6) h hs ht q (by decide) (by decide) (by decide +kernel) (by decide +kernel) (fun i h1 h2 => (show ∀ i : Fin 33, 28 ≤ i.val → w32 (sch 18 (i.val : Int)) ≠ 32 by decide +kernel) ⟨i, h2⟩ h1) (by decide +kernel)]
    rw [show (((33 : Nat) : Int) + 1) = 34 from rfl, show (4 : Int) + 1 = 5 from rfl]
    rw [show (34 : Int) = ((34 : Nat) : Int) from rfl, m_iw (B := B) (n := n) (s := s) (k := 18) (a := 34) (b := 38) (w := chL 7) h hs ht q (by decide) (by decide) (by decide +kernel) (by decide +kernel) (fun i h1 h2 => (show ∀ i : Fin 38, 34 ≤ i.val → w32 (sch 18 (i.val : Int)) ≠ 32 by decide +kernel) ⟨i, h2⟩ h1) (by decide +kernel)]
    rw [show (((38 : Nat) : Int) + 1) = 39 from rfl, show (5 : Int) + 1 = 6 from rfl]
    rw [show (39 : Int) = ((39 : Nat) : Int) from rfl, m_iw (B := B) (n := n) (s := s) (k := 18) (a := 39) (b := 42) (w := chL 8) h hs ht q (by decide) (by decide) (by decide +kernel) (by decide +kernel) (fun i h1 h2 => (show ∀ i : Fin 42, 39 ≤ i.val → w32 (sch 18 (i.val : Int)) ≠ 32 by decide +kernel) ⟨i, h2⟩ h1) (by decide +kernel)]
    rw [show (((42 : Nat) : Int) + 1) = 43 from rfl, show (6 : Int) + 1 = 7 from rfl]
    rw [show (43 : Int) = ((43 : Nat) : Int) from rfl, m_iw (B := B) (n := n) (s := s) (k := 18) (a := 43) (b := 47) (w := chL 9) h hs ht q (by decide) (by decide) (by decide +kernel) (by decide +kernel) (fun i h1 h2 => (show ∀ i : Fin 47, 43 ≤ i.val → w32 (sch 18 (i.val : Int)) ≠ 32 by decide +kernel) ⟨i, h2⟩ h1) (by decide +kernel)]
    rw [show (((47 : Nat) : Int) + 1) = 48 from rfl, show (7 : Int) + 1 = 8 from rfl]
    rw [show (48 : Int) = ((48 : Nat) : Int) from rfl, m_iw (B := B) (n := n) (s := s) (k := 18) (a := 48) (b := 52) (w := chL 1) h hs ht q (by decide) (by decide) (by decide +kernel) (by decide +kernel) (fun i h1 h2 => (show ∀ i : Fin 52, 48 ≤ i.val → w32 (sch 18 (i.val : Int)) ≠ 32 by decide +kernel) ⟨i, h2⟩ h1) (by decide +kernel)]
    rw [show (((52 : Nat) : Int) + 1) = 53 from rfl, show (8 : Int) + 1 = 9 from rfl]
    rw [show (53 : Int) = ((53 : Nat) : Int) from rfl, m_iw (B := B) (n := n) (s := s) (k := 18) (a := 53) (b := 58) (w := chL 2) h hs ht q (by decide) (by decide) (by decide +kernel) (by decide +kernel) (fun i h1 h2 => (show ∀ i : Fin 58, 53 ≤ i.val → w32 (sch 18 (i.val : Int)) ≠ 32 by decide +kernel) ⟨i, h2⟩ h1) (by decide +kernel)]
    rw [show (((58 : Nat) : Int) + 1) = 59 from rfl, show (9 : Int) + 1 = 10 from rfl]
    rw [m_iwE (by decide +kernel) (by decide) (by decide)]
    unfold w18
    simp only [iwF]
    generalize wdL B n s = W
    by_cases y0 : W = chL 3
    · rw [if_pos y0, if_pos y0]
    rw [if_neg y0, if_neg y0]
    by_cases y1 : W = chL 4
    · simp only [if_pos y1]; rfl
    rw [if_neg y1, if_neg y1]
    by_cases y2 : W = chL 5
    · simp only [if_pos y2]; rfl
    rw [if_neg y2, if_neg y2]
    by_cases y3 : W = chL 0
    · simp only [if_pos y3]; rfl
    rw [if_neg y3, if_neg y3]
    by_cases y4 : W = chL 6
    · simp only [if_pos y4]; rfl
    rw [if_neg y4, if_neg y4]
    by_cases y5 : W = chL 7
    · simp only [if_pos y5]; rfl
    rw [if_neg y5, if_neg y5]
    by_cases y6 : W = chL 8
    · simp only [if_pos y6]; rfl
    rw [if_neg y6, if_neg y6]
    by_cases y7 : W = chL 9
    · simp only [if_pos y7]; rfl
    rw [if_neg y7, if_neg y7]
    by_cases y8 : W = chL 1
    · simp only [if_pos y8]; rfl
    rw [if_neg y8, if_neg y8]
    by_cases y9 : W = chL 2
    · simp only [if_pos y9]; rfl
    rw [if_neg y9, if_neg y9]
  · have ew : wdL B n s = [] := by unfold wdL; rw [if_neg q]
    have hne : ¬ w32 (kRN (tkK B n s)) = 2 := by
      unfold tkK at q ⊢
      split at q <;> rename_i g1
      · rw [if_pos g1]; decide
      · rw [if_neg g1]
        split at q <;> rename_i g2
        · exact absurd rfl q
        · rw [if_neg g2]
          split at q <;> rename_i g3
          · rw [if_pos g3]; split <;> decide
          · rw [if_neg g3]; split <;> decide
    rw [if_neg hne, ew]
    decide +kernel
theorem m_in19 {B : Nat → Int} {n s : Nat} {m : Mem} (h : TpM B n m) (hs : s ≤ n) (ht : MT B n s m) : Mo_inWords 19 m = some (iwF (wdL B n s) w19 0) := by
  unfold Mo_inWords
  rw [ht.2.1]
  by_cases q : tkK B n s = 1
  · rw [q, if_pos (show w32 (kRN 1) = 2 from rfl)]
    rw [FU_eq, show (20000 : Nat) = 19987 + 1 + 1 + 1 + 1 + 1 + 1 + 1 + 1 + 1 + 1 + 1 + 1 + 1 from rfl]
    rw [show (1 : Int) = ((1 : Nat) : Int) from rfl, m_iw (B := B) (n := n) (s := s) (k := 19) (a := 1) (b := 9) (w := chL 3) h hs ht q (by decide) (by decide) (by decide +kernel) (by decide +kernel) (fun i h1 h2 => (show ∀ i : Fin 9, 1 ≤ i.val → w32 (sch 19 (i.val : Int)) ≠ 32 by decide +kernel) ⟨i, h2⟩ h1) (by decide +kernel)]
    rw [show (((9 : Nat) : Int) + 1) = 10 from rfl, show (0 : Int) + 1 = 1 from rfl]
    rw [show (10 : Int) = ((10 : Nat) : Int) from rfl, m_iw (B := B) (n := n) (s := s) (k := 19) (a := 10) (b := 16) (w := chL 4) h hs ht q (by decide) (by decide) (by decide +kernel) (by decide +kernel) (fun i h1 h2 => (show ∀ i : Fin 16, 10 ≤ i.val → w32 (sch 19 (i.val : Int)) ≠ 32 by decide +kernel) ⟨i, h2⟩ h1) (by decide +kernel)]
    rw [show (((16 : Nat) : Int) + 1) = 17 from rfl, show (1 : Int) + 1 = 2 from rfl]
    rw [show (17 : Int) = ((17 : Nat) : Int) from rfl, m_iw (B := B) (n := n) (s := s) (k := 19) (a := 17) (b := 23) (w := chL 5) h hs ht q (by decide) (by decide) (by decide +kernel) (by decide +kernel) (fun i h1 h2 => (show ∀ i : Fin 23, 17 ≤ i.val → w32 (sch 19 (i.val : Int)) ≠ 32 by decide +kernel) ⟨i, h2⟩ h1) (by decide +kernel)]
    rw [show (((23 : Nat) : Int) + 1) = 24 from rfl, show (2 : Int) + 1 = 3 from rfl]
    rw [show (24 : Int) = ((24 : Nat) : Int) from rfl, m_iw (B := B) (n := n) (s := s) (k := 19) (a := 24) (b := 28) (w := chL 11) h hs ht q (by decide) (by decide) (by decide +kernel) (by decide +kernel) (fun i h1 h2 => (show ∀ i : Fin 28, 24 ≤ i.val → w32 (sch 19 (i.val : Int)) ≠ 32 by decide +kernel) ⟨i, h2⟩ h1) (by decide +kernel)]
    rw [show (((28 : Nat) : Int) + 1) = 29 from rfl, show (3 : Int) + 1 = 4 from rfl]
    rw [show (29 : Int) = ((29 : Nat) : Int) from rfl, m_iw (B := B) (n := n) (s := s) (k := 19) (a := 29) (b := 33) (w := chL 12) h hs ht q (by decide) (by decide) (by decide +kernel) (by decide +kernel) (fun i h1 h2 => (show ∀ i : Fin 33, 29 ≤ i.val → w32 (sch 19 (i.val : Int)) ≠ 32 by decide +kernel) ⟨i, h2⟩ h1) (by decide +kernel)]
    rw [show (((33 : Nat) : Int) + 1) = 34 from rfl, show (4 : Int) + 1 = 5 from rfl]
    rw [show (34 : Int) = ((34 : Nat) : Int) from rfl, m_iw (B := B) (n := n) (s := s) (k := 19) (a := 34) (b := 38) (w := chL 1) h hs ht q (by decide) (by decide) (by decide +kernel) (by decide +kernel) (fun i h1 h2 => (show ∀ i : Fin 38, 34 ≤ i.val → w32 (sch 19 (i.val : Int)) ≠ 32 by decide +kernel) ⟨i, h2⟩ h1) (by decide +kernel)]
    rw [show (((38 : Nat) : Int) + 1) = 39 from rfl, show (5 : Int) + 1 = 6 from rfl]
    rw [show (39 : Int) = ((39 : Nat) : Int) from rfl, m_iw (B := B) (n := n) (s := s) (k := 19) (a := 39) (b := 43) (w := chL 13) h hs ht q (by decide) (by decide) (by decide +kernel) (by decide +kernel) (fun i h1 h2 => (show ∀ i : Fin 43, 39 ≤ i.val → w32 (sch 19 (i.val : Int)) ≠ 32 by decide +kernel) ⟨i, h2⟩ h1) (by decide +kernel)]
    rw [show (((43 : Nat) : Int) + 1) = 44 from rfl, show (6 : Int) + 1 = 7 from rfl]
    rw [show (44 : Int) = ((44 : Nat) : Int) from rfl, m_iw (B := B) (n := n) (s := s) (k := 19) (a := 44) (b := 48) (w := chL 14) h hs ht q (by decide) (by decide) (by decide +kernel) (by decide +kernel) (fun i h1 h2 => (show ∀ i : Fin 48, 44 ≤ i.val → w32 (sch 19 (i.val : Int)) ≠ 32 by decide +kernel) ⟨i, h2⟩ h1) (by decide +kernel)]
    rw [show (((48 : Nat) : Int) + 1) = 49 from rfl, show (7 : Int) + 1 = 8 from rfl]
    rw [show (49 : Int) = ((49 : Nat) : Int) from rfl, m_iw (B := B) (n := n) (s := s) (k := 19) (a := 49) (b := 54) (w := chL 15) h hs ht q (by decide) (by decide) (by decide +kernel) (by decide +kernel) (fun i h1 h2 => (show ∀ i : Fin 54, 49 ≤ i.val → w32 (sch 19 (i.val : Int)) ≠ 32 by decide +kernel) ⟨i, h2⟩ h1) (by decide +kernel)]
    rw [show (((54 : Nat) : Int) + 1) = 55 from rfl, show (8 : Int) + 1 = 9 from rfl]
    rw [show (55 : Int) = ((55 : Nat) : Int) from rfl, m_iw (B := B) (n := n) (s := s) (k := 19) (a := 55) (b := 59) (w := chL 16) h hs ht q (by decide) (by decide) (by decide +kernel) (by decide +kernel) (fun i h1 h2 => (show ∀ i : Fin 59, 55 ≤ i.val → w32 (sch 19 (i.val : Int)) ≠ 32 by decide +kernel) ⟨i, h2⟩ h1) (by decide +kernel)]
    rw [show (((59 : Nat) : Int) + 1) = 60 from rfl, show (9 : Int) + 1 = 10 from rfl]
    rw [show (60 : Int) = ((60 : Nat) : Int) from rfl, m_iw (B := B) (n := n) (s := s) (k := 19) (a := 60) (b := 63) (w := chL 10) h hs ht q (by decide) (by decide) (by decide +kernel) (by decide +kernel) (fun i h1 h2 => (show ∀ i : Fin 63, 60 ≤ i.val → w32 (sch 19 (i.val : Int)) ≠ 32 by decide +kernel) ⟨i, h2⟩ h1) (by decide +kernel)]
    rw [show (((63 : Nat) : Int) + 1) = 64 from rfl, show (10 : Int) + 1 = 11 from rfl]
    rw [show (64 : Int) = ((64 : Nat) : Int) from rfl, m_iw (B := B) (n := n) (s := s) (k := 19) (a := 64) (b := 66) (w := chL 17) h hs ht q (by decide) (by decide) (by decide +kernel) (by decide +kernel) (fun i h1 h2 => (show ∀ i : Fin 66, 64 ≤ i.val → w32 (sch 19 (i.val : Int)) ≠ 32 by decide +kernel) ⟨i, h2⟩ h1) (by decide +kernel)]
    rw [show (((66 : Nat) : Int) + 1) = 67 from rfl, show (11 : Int) + 1 = 12 from rfl]
    rw [m_iwE (by decide +kernel) (by decide) (by decide)]
    unfold w19
    simp only [iwF]
    generalize wdL B n s = W
    by_cases y0 : W = chL 3
    · rw [if_pos y0, if_pos y0]
    rw [if_neg y0, if_neg y0]
    by_cases y1 : W = chL 4
    · simp only [if_pos y1]; rfl
    rw [if_neg y1, if_neg y1]
    by_cases y2 : W = chL 5
    · simp only [if_pos y2]; rfl
    rw [if_neg y2, if_neg y2]
    by_cases y3 : W = chL 11
    · simp only [if_pos y3]; rfl
    rw [if_neg y3, if_neg y3]
    by_cases y4 : W = chL 12
    · simp only [if_pos y4]; rfl
    rw [if_neg y4, if_neg y4]
    by_cases y5 : W = chL 1
    · simp only [if_pos y5]; rfl
    rw [if_neg y5, if_neg y5]
    by_cases y6 : W = chL 13
    · simp only [if_pos y6]; rfl
    rw [if_neg y6, if_neg y6]
    by_cases y7 : W = chL 14
    · simp only [if_pos y7]; rfl
    rw [if_neg y7, if_neg y7]
    by_cases y8 : W = chL 15
    · simp only [if_pos y8]; rfl
    rw [if_neg y8, if_neg y8]
    by_cases y9 : W = chL 16
    · simp only [if_pos y9]; rfl
    rw [if_neg y9, if_neg y9]
    by_cases y10 : W = chL 10
    · simp only [if_pos y10]; rfl
    rw [if_neg y10, if_neg y10]
    by_cases y11 : W = chL 17
    · simp only [if_pos y11]; rfl
    rw [if_neg y11, if_neg y11]
  · have ew : wdL B n s = [] := by unfold wdL; rw [if_neg q]
    have hne : ¬ w32 (kRN (tkK B n s)) = 2 := by
      unfold tkK at q ⊢
      split at q <;> rename_i g1
      · rw [if_pos g1]; decide
      · rw [if_neg g1]
        split at q <;> rename_i g2
        · exact absurd rfl q
        · rw [if_neg g2]
          split at q <;> rename_i g3
          · rw [if_pos g3]; split <;> decide
          · rw [if_neg g3]; split <;> decide
    rw [if_neg hne, ew]
    decide +kernel
