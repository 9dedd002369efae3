/-! layer 2: the book, part by part -/
theorem PR.md {B : Nat → Int} {n p : Nat} {mC mR : Mem} {rC rR : Option (Int × Mem)} (h : PR B n p mC mR rC rR) : PR B n p mC mR (bE rC fun x m => some ((x % 2), m)) rR := by
  rcases h with ⟨p', tp, mC', mR', a, b⟩ | ⟨f, s, mC', mR', a, b⟩
  · exact Or.inl ⟨p', tp, mC', mR', by rw [a, bE_some]; rfl, b⟩
  · exact Or.inr ⟨f, s, mC', mR', by rw [a, bE_some]; rfl, b⟩
theorem part_pr {B : Nat → Int} {n s tp : Nat} {mC mR : Mem} (h : BkR B n tp mC mR) (h2 : N2 mC mR) (hs : s ≤ n) (hc : CTk B n s mC) (ht : MT B n s mR) : PR B n s mC mR (BookR_readPart mC) (Mo_part mR) := by
  obtain ⟨h1, hM, h3, _⟩ := id h
  have cb := code_b (wdL B n s)
  unfold BookR_readPart Mo_part
  rw [m_key hM hs ht, bP_some]
  rcases c_isK hc (k := 1) (by omega) with ⟨q, j⟩ | ⟨q, mC', j1, j2⟩
  · rw [j]
    show PR B n s mC mR (if ¬ w32 1 = 0 then (bP (Tape_isWord 0 mC) _) else _) _
    rw [if_pos (show ¬ w32 1 = 0 by decide)]
    rw [c_word h1 hs hc (k := 0) (by decide), bP_some]
    by_cases y3 : wdL B n s = chL 0
    · rw [if_pos y3, if_neg (show ¬ w32 1 = 0 by decide), (w18_3 _).mp y3, if_pos (show 3 ≤ w32 3 by decide)]
      rw [if_pos (show w32 3 = 3 by decide)]
      exact (row_pr h h2 hs hc ht q).md
    have n3 : ¬ iwF (wdL B n s) w18 0 = 3 := fun z => y3 ((w18_3 _).mpr z)
    rw [if_neg y3, if_pos (show w32 0 = 0 by decide)]
    rw [c_word h1 hs hc (k := 1) (by decide), bP_some]
    by_cases y8 : wdL B n s = chL 1
    · rw [if_pos y8, if_neg (show ¬ w32 1 = 0 by decide), (w18_8 _).mp y8, if_pos (show 3 ≤ w32 8 by decide)]
      rw [if_neg (show ¬ w32 8 = 3 by decide), if_pos (show w32 8 = 8 by decide)]
      exact (keep_pr h h2 hs hc ht q).md
    have n8 : ¬ iwF (wdL B n s) w18 0 = 8 := fun z => y8 ((w18_8 _).mpr z)
    rw [if_neg y8, if_pos (show w32 0 = 0 by decide)]
    rw [c_word h1 hs hc (k := 2) (by decide), bP_some]
    by_cases y9 : wdL B n s = chL 2
    · rw [if_pos y9, if_neg (show ¬ w32 1 = 0 by decide), (w18_9 _).mp y9, if_pos (show 3 ≤ w32 9 by decide)]
      rw [if_neg (show ¬ w32 9 = 3 by decide), if_neg (show ¬ w32 9 = 8 by decide)]
      exact (order_pr h hs hc ht q).md
    have n9 : ¬ iwF (wdL B n s) w18 0 = 9 := fun z => y9 ((w18_9 _).mpr z)
    rw [if_neg y9, if_pos (show w32 0 = 0 by decide)]
    rw [c_word h1 hs hc (k := 6) (by decide), bP_some]
    by_cases y4 : wdL B n s = chL 6
    · rw [if_pos y4, if_neg (show ¬ w32 1 = 0 by decide), (w18_4 _).mp y4, if_pos (show 3 ≤ w32 4 by decide)]
      rw [if_neg (show ¬ w32 4 = 3 by decide), if_neg (show ¬ w32 4 = 8 by decide)]
      exact (set_pr0 h h2 hs hc ht q).md
    have n4 : ¬ iwF (wdL B n s) w18 0 = 4 := fun z => y4 ((w18_4 _).mpr z)
    rw [if_neg y4, if_pos (show w32 0 = 0 by decide)]
    rw [c_word h1 hs hc (k := 7) (by decide), bP_some]
    by_cases y5 : wdL B n s = chL 7
    · rw [if_pos y5, if_neg (show ¬ w32 1 = 0 by decide), (w18_5 _).mp y5, if_pos (show 3 ≤ w32 5 by decide)]
      rw [if_neg (show ¬ w32 5 = 3 by decide), if_neg (show ¬ w32 5 = 8 by decide)]
      exact (set_pr1 h h2 hs hc ht q).md
    have n5 : ¬ iwF (wdL B n s) w18 0 = 5 := fun z => y5 ((w18_5 _).mpr z)
    rw [if_neg y5, if_pos (show w32 0 = 0 by decide)]
    rw [c_word h1 hs hc (k := 8) (by decide), bP_some]
    by_cases y6 : wdL B n s = chL 8
    · rw [if_pos y6, if_neg (show ¬ w32 1 = 0 by decide), (w18_6 _).mp y6, if_pos (show 3 ≤ w32 6 by decide)]
      rw [if_neg (show ¬ w32 6 = 3 by decide), if_neg (show ¬ w32 6 = 8 by decide)]
      exact (set_pr2 h h2 hs hc ht q).md
    have n6 : ¬ iwF (wdL B n s) w18 0 = 6 := fun z => y6 ((w18_6 _).mpr z)
    rw [if_neg y6, if_pos (show w32 0 = 0 by decide)]
    rw [c_word h1 hs hc (k := 9) (by decide), bP_some]
    by_cases y7 : wdL B n s = chL 9
    · rw [if_pos y7, if_neg (show ¬ w32 1 = 0 by decide), (w18_7 _).mp y7, if_pos (show 3 ≤ w32 7 by decide)]
      rw [if_neg (show ¬ w32 7 = 3 by decide), if_neg (show ¬ w32 7 = 8 by decide)]
      exact (set_pr3 h h2 hs hc ht q).md
    have n7 : ¬ iwF (wdL B n s) w18 0 = 7 := fun z => y7 ((w18_7 _).mpr z)
    rw [if_neg y7, if_pos (show w32 0 = 0 by decide)]
    rw [w32_id (x := iwF (wdL B n s) w18 0) (by omega) (by omega), if_neg (show ¬ 3 ≤ iwF (wdL B n s) w18 0 by omega)]
    obtain ⟨mC', x1, x2⟩ := c_fail hc 2
    obtain ⟨mR', y1, y2⟩ := m_fail ht h3 (f := 2) (g := 2) (by rw [q]; rfl)
    right
    exact ⟨2, s, mC', mR', by rw [x1]; rfl, by rw [y1]; rfl, by omega, by omega, x2, y2⟩
  · have hc1 : iwF (wdL B n s) w18 0 = -1 := by rw [wdL_n q]; exact iw18_n
    obtain ⟨mR', y1, y2⟩ := m_fail ht h3 (f := 2) (g := if tkK B n s = 4 then 1 else 2) rfl
    right
    refine ⟨_, s, mC', mR', ?_, ?_, (ff_b _).1, (ff_b _).2, j2, y2⟩
    · rw [j1]
      show (if ¬ w32 0 = 0 then _ else some (0, mC')) = _
      rw [if_neg (show ¬ ¬ w32 0 = 0 by decide)]
    · rw [hc1, if_neg (show ¬ 3 ≤ w32 (-1) by decide), y1]; rfl
theorem text_loop {B : Nat → Int} {n : Nat} {K : Mem → Option (Int × Mem)} : ∀ (fC fR p part tp : Nat) (mC mR : Mem), p ≤ n → n - p + 1 < fC → n - p + 1 < fR → part ≤ p → BkR B n tp mC mR → N2 mC mR → mC 5 3 = (p : Int) → MT B n (tkS B n p) mR → (∃ (tp' : Nat) (mC' mR' : Mem), BookR_readText_L22 (n : Int) fC (part : Int) mC = some (1, mC') ∧ Mo_book_L48 K fR (if tkK B n (tkS B n p) = 0 then 0 else 1) mR = K mR' ∧ BkR B n tp' mC' mR' ∧ N2 mC' mR' ∧ Cf mC mC' ∧ Mf mR mR') ∨ (∃ (f : Int) (s : Nat) (mC' mR' : Mem), BookR_readText_L22 (n : Int) fC (part : Int) mC = some (0, mC') ∧ Mo_book_L48 K fR (if tkK B n (tkS B n p) = 0 then 0 else 1) mR = K mR' ∧ 1 ≤ f ∧ f ≤ 6 ∧ FC f s mC mC' ∧ FM f s mR mR') := by
  intro fC
  induction fC with
  | zero => intro fR p part tp mC mR _ h; omega
  | succ fC ih =>
    intro fR p part tp mC mR hp hfC hfR hpt h h2 e3 ht
    obtain ⟨h1, hM, h3, _⟩ := id h
    have hn := h1.2.1
    have eb := tkK_b B n (tkS B n p)
    have hs := tkS_b B hp
    obtain ⟨mC1, j1, j2, j3⟩ := c_adv h1 hp e3
    match fR, hfR with
    | fR + 1, hfR =>
      rw [BookR_readText_L22, Mo_book_L48, w32_id (x := (n : Int)) (by omega) (by omega), w32_id (x := (part : Int)) (by omega) (by omega), if_neg (show ¬ (n : Int) < (part : Int) by omega), j1, bV_some, j3.2.2.1, w32_id (x := tkK B n (tkS B n p)) (by omega) (by omega)]
      by_cases q : tkK B n (tkS B n p) = 0
      · left
        refine ⟨tp, mC1, mR, ?_, ?_, h.tk j2 (Tk75.refl mR), h2.tk j2 (Tk75.refl mR), j2.cf, Mf.refl mR⟩
        · rw [if_neg (show ¬ ¬ tkK B n (tkS B n p) = 0 from fun z => z q)]
        · rw [if_pos q, if_pos (show w32 0 = 0 by decide)]
      · rw [if_pos q, if_neg q, if_neg (show ¬ w32 1 = 0 by decide)]
        rcases part_pr (h.tk j2 (Tk75.refl mR)) (h2.tk j2 (Tk75.refl mR)) hs.2 j3 ht with ⟨p', tp', mC', mR', a1, a2, a3, a4, a5, a6, a7, a8, a9, a10⟩ | ⟨f, s, mC', mR', a1, a2, a3, a4, a5, a6⟩
        · have em : (if w32 1 = 0 then 0 else (if w32 (mR' 75 11) = 0 then 0 else 1 : Int) : Int) = if tkK B n (tkS B n p') = 0 then 0 else 1 := by
            rw [if_neg (show ¬ w32 1 = 0 by decide)]
            by_cases y : tkK B n (tkS B n p') = 0
            · rw [if_pos y, if_pos ((m_isE a6).mpr y)]
            · rw [if_neg y, if_neg (fun z => y ((m_isE a6).mp z))]
          rw [a1, bE_some, a2, bE_some, if_pos (show ¬ w32 1 = 0 by decide), em, show (part : Int) + 1 = ((part + 1 : Nat) : Int) by omega]
          rcases ih fR p' (part + 1) tp' mC' mR' a4 (by omega) (by omega) (by omega) a7 a8 a5 a6 with ⟨tq, mC2, mR2, b1, b2, b3, b4, b5, b6⟩ | ⟨f, s, mC2, mR2, b1, b2, b3, b4, b5, b6⟩
          · left; exact ⟨tq, mC2, mR2, b1, b2, b3, b4, (j2.cf.trans a9).trans b5, a10.trans b6⟩
          · right; exact ⟨f, s, mC2, mR2, b1, b2, b3, b4, b5.cf (j2.cf.trans a9), b6.mf a10⟩
        · right
          refine ⟨f, s, mC', mR', ?_, ?_, a3, a4, a5.cf j2.cf, a6⟩
          · rw [a1, bE_some, if_neg (show ¬ ¬ w32 0 = 0 by decide)]
          · rw [a2, bE_some, if_pos (show w32 0 = 0 by decide)]
            match fR, hfR with
            | fR + 1, _ => rw [Mo_book_L48, if_pos (show w32 0 = 0 by decide)]
