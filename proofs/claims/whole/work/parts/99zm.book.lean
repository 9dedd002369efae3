/-! layer 2: book -/
noncomputable def bkK (m17 : Mem) : Option (Int × Mem) := (if (w32 ((st m17 75 15 (m17 75 17)) 75 17)) ≤ 0 then (Mo_book_L114 FU 0 (st (st m17 75 15 (m17 75 17)) 76 2334 ((st m17 75 15 (m17 75 17)) 76 14))) else some ((Mo_refuse 9 (st m17 75 15 (m17 75 17))).1, (Mo_refuse 9 (st m17 75 15 (m17 75 17))).2))
theorem book_eq (a0 : Int) (m : Mem) : Mo_book a0 m = (if (w32 a0) < 0 then some ((Mo_refuse 1 m).1, (Mo_refuse 1 m).2) else (if (w32 a0) ≤ (w32 (m 75 9)) then (bV (Mo_begins a0 m) fun m4 => (bV (Mo_plain 75 2320 (st m4 75 18 0)) fun m6 => (Mo_book_L48 bkK FU (if (w32 (m6 75 11)) = 0 then 0 else 1 : Int) m6))) else some ((Mo_refuse 1 m).1, (Mo_refuse 1 m).2))) := rfl
theorem m_cp114 {m : Mem} : ∀ (f r k : Nat) (mm : Mem), k + r = 208 → r < f → (∀ c, c ≠ 76 → mm c = m c) → (∀ i, mm 76 i = if 0 ≤ i ∧ i < (k : Int) then m 76 (2320 + i) else m 76 i) → ∃ m', Mo_book_L114 f (k : Int) mm = some (m' 76 0, st m' 75 1 0) ∧ (∀ c, c ≠ 76 → m' c = m c) ∧ (∀ i, m' 76 i = if 0 ≤ i ∧ i < 208 then m 76 (2320 + i) else m 76 i) := by
  intro f
  induction f with
  | zero => intro r k mm _ h; omega
  | succ f ih =>
    intro r k mm hr hf e1 e2
    rw [Mo_book_L114, w32_id (x := (k : Int)) (by omega) (by omega)]
    cases r with
    | zero =>
      rw [if_pos (by omega)]
      refine ⟨mm, rfl, e1, fun i => ?_⟩
      rw [e2 i]
      have : (k : Int) = 208 := by omega
      rw [this]
    | succ r =>
      rw [if_neg (by omega), w32_id (x := 2320 + (k : Int)) (by omega) (by omega), if_pos (by omega), if_pos (by omega), show (k : Int) + 1 = ((k + 1 : Nat) : Int) by omega]
      refine ih r (k + 1) _ (by omega) (by omega) (fun c hc => by rw [st_ne _ _ _ hc]; exact e1 c hc) (fun i => ?_)
      rw [st_eq]
      by_cases z : i = (k : Int)
      · rw [if_pos z, if_pos (by omega), e2, if_neg (by omega), z]
      · rw [if_neg z, e2]
        by_cases y : 0 ≤ i ∧ i < (k : Int)
        · rw [if_pos y, if_pos (by omega)]
        · rw [if_neg y, if_neg (by omega)]
/-- the class's frame of a reading, from its beginning -/
def Cg (m m' : Mem) : Prop := ∀ c, c ≠ 5 → c < 16 ∨ 27 < c → m' c = m c
def Mg (m m' : Mem) : Prop := (∀ c, c ≠ 75 → c ≠ 76 → c ≠ 81 → c ≠ 82 → m' c = m c) ∧ (∀ i, i < 9 ∨ i = 15 ∨ 22 < i → m' 75 i = m 75 i) ∧ (∀ i, i < 2320 → m' 76 i = m 76 i) ∧ m' 75 9 = 0
theorem Mg.mf {m m' m'' : Mem} (h : Mg m m') (h' : Mf m' m'') : Mg m m'' := by
  refine ⟨fun c a b d e => (h'.1 c a b e).trans (h.1 c a b d e), fun i hi => (h'.2.1 i (by omega)).trans (h.2.1 i hi), fun i hi => (h'.2.2 i hi).trans (h.2.2.1 i hi), ?_⟩
  rw [h'.2.1 9 (by omega)]; exact h.2.2.2
theorem tb2 {n : Nat} {m : Mem} (hn : n ≤ 600) : Tape_begin (n : Int) m 5 2 = (n : Int) := by
  have ej : J_min (n : Int) 600 = (n : Int) := by
    unfold J_min
    rw [w32_id (by omega) (by omega), w32_id (by omega) (by omega), if_neg (by omega)]
  unfold Tape_begin
  rw [st_eq, if_neg (by decide), st_eq, if_neg (by decide), st_eq, if_neg (by decide), st_eq, if_pos rfl, ej]
theorem bk_run {m : Mem} (h : Rel m) {n : Nat} (hn : (n : Int) ≤ m 5 1) {m1 : Mem} (e80 : m1 80 = m 80) (e9 : m1 75 9 = m 75 9) : (∃ mC' mR', BookR_readText (n : Int) m = some (1, mC') ∧ Mo_book (n : Int) m1 = bkK mR' ∧ N1 mC' mR' ∧ N2 mC' mR' ∧ mC' 5 7 = 0 ∧ mC' 5 8 = -1 ∧ mR' 75 17 = 0 ∧ mR' 75 16 = -1 ∧ Cg m mC' ∧ Mg m1 mR') ∨ (∃ (f s : Int) (mC' mR' : Mem), BookR_readText (n : Int) m = some (0, mC') ∧ Mo_book (n : Int) m1 = bkK mR' ∧ 1 ≤ f ∧ f ≤ 6 ∧ mC' 5 7 = f ∧ mC' 5 8 = s ∧ mR' 75 17 = f ∧ mR' 75 16 = s ∧ Cg m mC' ∧ Mg m1 mR') := by
  obtain ⟨r1, r2, r3, r4, r5, r6⟩ := h.2.2.1
  have hn6 : n ≤ 600 := by omega
  have hB : ∀ i : Nat, i < n → bAnd (m1 80 (i : Int)) 255 = (fun i : Nat => m 6 (i : Int)) i ∧ 0 ≤ (fun i : Nat => m 6 (i : Int)) i ∧ (fun i : Nat => m 6 (i : Int)) i ≤ 255 := fun i hi => by
    have := r4 (i : Int) (by omega) (by omega)
    rw [e80]
    exact ⟨this.1.symm, this.2⟩
  generalize hBd : (fun i : Nat => m 6 (i : Int)) = B at hB
  have hB6 : ∀ i : Nat, m 6 (i : Int) = B i := fun i => by rw [← hBd]
  clear hBd
  obtain ⟨mB, b1, b2, b3, b4, b5, b6, b7, b8⟩ := m_begins (m := m1) (n := n) (B := B) hn6 hB
  obtain ⟨mR0, p1, p2, p3, ⟨q0, q1, q2, q3, q4, q5, q6⟩, p5, p6⟩ := m_plain (st mB 75 18 0)
  obtain ⟨mE, c1, c2, ⟨d0, d1, d2, d3, d4, d5, d6, d10⟩, c4⟩ := c_empty (Tape_begin (n : Int) m)
  have e5 : ∀ i, st mE 16 2 0 5 i = Tape_begin (n : Int) m 5 i := fun i => by rw [st_ne _ _ _ (by decide), c2 5 (by decide) (by decide)]
  have eR75 : ∀ i, mR0 75 i = st mB 75 18 0 75 i := fun i => by rw [p2 75 (by decide)]
  have hTC : TpC B n (st mE 16 2 0) := by
    refine ⟨?_, hn6, fun i hi => ?_⟩
    · rw [e5]; exact tb2 hn6
    · rw [st_ne _ _ _ (by decide), c2 6 (by decide) (by decide)]
      have := hB i hi
      exact ⟨hB6 i, this.2⟩
  have hTM : TpM B n mR0 := by
    refine ⟨?_, hn6, fun i hi => ?_⟩
    · rw [eR75, st_eq, if_neg (by decide)]; exact b7.1
    · rw [p2 81 (by decide), st_ne _ _ _ (by decide)]; exact b7.2.2 i hi
  have hMT : MT B n (tkS B n 0) mR0 := by
    obtain ⟨t1, t2, t3, t4⟩ := b8
    refine ⟨?_, ?_, fun z => ?_, fun z => ?_⟩
    · rw [eR75, st_eq, if_neg (by decide)]; exact t1
    · rw [eR75, st_eq, if_neg (by decide)]; exact t2
    · rw [eR75, st_eq, if_neg (by decide)]; exact t3 z
    · rw [eR75, st_eq, if_neg (by decide)]; exact t4 z
  have e17 : st mE 16 2 0 17 = mE 17 := st_ne _ _ _ (by decide)
  have e18 : st mE 16 2 0 18 = mE 18 := st_ne _ _ _ (by decide)
  have ek : ∀ p, Sheet_isKept 17 p (st mE 16 2 0) = 0 := fun p => by
    unfold Sheet_isKept
    rw [e17, d10]
    have : ∀ x : Int, w64 (lAnd 0 x) = 0 := fun x => by
      unfold lAnd
      rw [w64_zero, Int64.toBitVec_and, Int64.toBitVec_ofInt]
      show BitVec.ofInt 64 0 &&& _ = 0#64
      rw [show BitVec.ofInt 64 0 = 0#64 by decide +kernel, BitVec.zero_and]
    rw [if_pos (this _)]
  have hN1 : N1 (st mE 16 2 0) mR0 := by
    unfold N1
    rw [e17, d0, d1, d2, d3, d4, d5]
    refine ⟨⟨q0, q1, q2, q3, q4, q5⟩, Or.inl ⟨rfl, rfl⟩, by omega, fun p hp => ?_, fun p p0 p1 => ⟨?_, fun _ => ek p⟩⟩
    · unfold Pt at hp; omega
    · rw [ek p]; exact p6 _ (by omega) (by omega)
  have hN2 : N2 (st mE 16 2 0) mR0 := by
    unfold N2
    rw [e17, d6]
    refine ⟨q6, by omega, by omega, fun j j0 j1 => ?_⟩
    rw [e18, p5 j j0 j1, c4 j j0 (by omega)]
    have : j % 3 = j := Int.emod_eq_of_lt j0 j1
    omega
  have hBk : BkR B n 0 (st mE 16 2 0) mR0 := by
    refine ⟨hTC, hTM, ?_, ⟨?_, ?_, ?_⟩, ⟨by omega, ?_, ?_⟩, hN1⟩
    · rw [eR75, st_eq, if_neg (by decide)]; exact b5
    · rw [e5]; rfl
    · rw [e5]; rfl
    · rw [eR75, st_eq, if_neg (by decide)]; exact b6
    · rw [st_eq, if_pos rfl]; rfl
    · rw [eR75, st_eq, if_pos rfl]; rfl
  have hCg : ∀ mC', Cf (st mE 16 2 0) mC' → Cg m mC' := fun mC' hf c h1 h2 => by
    rw [hf.1 c h1 h2, st_ne _ _ _ (by omega), c2 c (by omega) (by omega)]
    unfold Tape_begin
    rw [st_ne _ _ _ h1, st_ne _ _ _ h1, st_ne _ _ _ h1, st_ne _ _ _ h1]
  have hMg0 : Mg m1 mR0 := by
    refine ⟨fun c h75 h76 h81 h82 => ?_, fun i hi => ?_, fun i hi => ?_, ?_⟩
    · rw [p2 c h76, st_ne _ _ _ h75, b2 c h75 h81]
    · rw [eR75, st_eq, if_neg (by omega), b3 i (by omega)]
    · rw [p3 i hi, st_ne _ _ _ (by decide), b2 76 (by decide) (by decide)]
    · rw [eR75, st_eq, if_neg (by decide)]; exact b4
  have eRun : BookR_readText (n : Int) m = BookR_readText_L22 (n : Int) FU 0 (st mE 16 2 0) := by
    unfold BookR_readText
    rw [c1, bV_some]
  have eM : Mo_book (n : Int) m1 = Mo_book_L48 bkK FU (if tkK B n (tkS B n 0) = 0 then 0 else 1) mR0 := by
    rw [book_eq, w32_id (x := (n : Int)) (by omega) (by omega), if_neg (by omega), e9, r1, w32_id (x := m 5 1) (by omega) (by omega), if_pos hn, b1, bV_some, p1, bV_some]
    by_cases y : tkK B n (tkS B n 0) = 0
    · rw [if_pos y, if_pos ((m_isE hMT).mpr y)]
    · rw [if_neg y, if_neg (fun z => y ((m_isE hMT).mp z))]
  rw [eRun, eM]
  clear eRun eM
  rcases text_loop (B := B) (n := n) (K := bkK) FU FU 0 0 0 (st mE 16 2 0) mR0 (by omega) (by rw [FU_eq]; omega) (by rw [FU_eq]; omega) (by omega) hBk hN2 (by rw [e5]; rfl) hMT with ⟨tp', mC', mR', x1, x2, x3, x4, x5, x6⟩ | ⟨f, s, mC', mR', x1, x2, x3, x4, x5, x6⟩
  · left
    exact ⟨mC', mR', x1, x2, x3.2.2.2.2.2, x4, x3.2.2.2.1.1, x3.2.2.2.1.2.1, x3.2.2.1, x3.2.2.2.1.2.2, hCg _ x5, hMg0.mf x6⟩
  · right
    exact ⟨f, (s : Int), mC', mR', x1, x2, x3, x4, x5.2.1, x5.2.2, x6.2.1, x6.2.2, hCg _ x5.1, hMg0.mf x6.1⟩
