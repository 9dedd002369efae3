/-! layer 2: the law's loop -/
theorem lOr_can (a b : Int) : w64 (lOr a b) = lOr a b := by
  unfold lOr
  rw [← t64, ofInt_toInt64]
theorem law_loop {sx : Int → Int} {sL : Int} (hsx : ∀ i, w32 (sx i) = sx i) (hL0 : 0 ≤ sL) (hL1 : sL ≤ 4096) : ∀ (n : Nat) (v : Int) (m : Mem), Rel m → 0 ≤ v → v ≤ sL + 8 → sL - v < 8 * (n : Int) - 8 → Law_L18 sx sL n v m = some () := by
  intro n
  induction n with
  | zero => intro v m _ _ _ h; omega
  | succ n ih =>
    intro v m hR v0 v1 hn
    rw [Law_L18, w32_id (x := sL - 8) (by omega) (by omega), w32_id (x := v) (by omega) (by omega)]
    by_cases qe : sL - 8 < v
    · rw [if_pos qe]
    rw [if_neg qe, if_pos (show 0 ≤ v ∧ v < sL by omega)]
    have go : ∀ m2, Rel m2 → Law_L18 sx sL n (v + 8) m2 = some () := fun m2 h2 => ih (v + 8) m2 h2 (by omega) (by omega) (by omega)
    have c1 : 0 ≤ v + 1 ∧ v + 1 < sL := by omega
    have w1 : w32 (v + 1) = v + 1 := w32_id (by omega) (by omega)
    have c2 : 0 ≤ v + 2 ∧ v + 2 < sL := by omega
    have w2 : w32 (v + 2) = v + 2 := w32_id (by omega) (by omega)
    have c3 : 0 ≤ v + 3 ∧ v + 3 < sL := by omega
    have w3 : w32 (v + 3) = v + 3 := w32_id (by omega) (by omega)
    have c4 : 0 ≤ v + 4 ∧ v + 4 < sL := by omega
    have w4 : w32 (v + 4) = v + 4 := w32_id (by omega) (by omega)
    have c5 : 0 ≤ v + 5 ∧ v + 5 < sL := by omega
    have w5 : w32 (v + 5) = v + 5 := w32_id (by omega) (by omega)
    have c6 : 0 ≤ v + 6 ∧ v + 6 < sL := by omega
    have w6 : w32 (v + 6) = v + 6 := w32_id (by omega) (by omega)
    have c7 : 0 ≤ v + 7 ∧ v + 7 < sL := by omega
    have w7 : w32 (v + 7) = v + 7 := w32_id (by omega) (by omega)
    simp only [w1, w2, w3, w4, w5, w6, w7]
    generalize hcode : w32 (bAnd (sx v) 63) = code
    clear hcode
    by_cases q0 : code = 0
    · rw [if_pos q0]
      rw [if_pos (s_status hR)]; exact go m hR
    rw [if_neg q0]
    by_cases q1 : code = 1
    · rw [if_pos q1]
      rw [if_pos (s_top hR)]; exact go m hR
    rw [if_neg q1]
    by_cases q2 : code = 2
    · rw [if_pos q2]
      rw [if_pos (s_bottom hR)]; exact go m hR
    rw [if_neg q2]
    by_cases q3 : code = 3
    · rw [if_pos q3]
      simp only [if_pos c1, if_pos c2, if_pos c3]
      obtain ⟨x, m1, y, m2, e1, e2, e3, hR2⟩ := s_tray hR (a0 := (sx (v + 1)))  (a1 := (sx (v + 2)))  (a2 := (sx (v + 3))) (hsx _) (hsx _) (hsx _)
      rw [e1, bE_some]
      have e2' : Mo_tray (sx (v + 1)) (sx (v + 2)) (sx (v + 3)) m1 = some (y, m2) := e2
      show bE (Mo_tray (sx (v + 1)) (sx (v + 2)) (sx (v + 3)) m1) (fun x' m' => if w32 x = w32 x' then Law_L18 sx sL n (v + 8) m' else none) = some ()
      rw [e2', bE_some, if_pos e3]; exact go m2 hR2
    rw [if_neg q3]
    by_cases q4 : code = 4
    · rw [if_pos q4]
      simp only [if_pos c1, if_pos c2, if_pos c3, if_pos c4]
      obtain ⟨x, m1, y, m2, e1, e2, e3, hR2⟩ := s_write hR (a0 := (sx (v + 1)))  (a1 := (sx (v + 2)))  (a2 := (lOr (lShl (w32 (sx (v + 3))) 32) (lAnd (w32 (sx (v + 4))) 4294967295))) (hsx _) (hsx _) (lOr_can _ _)
      rw [Option.some.inj e1]
      unfold ltM
      have e2' : Mo_write (sx (v + 1)) (sx (v + 2)) (lOr (lShl (w32 (sx (v + 3))) 32) (lAnd (w32 (sx (v + 4))) 4294967295)) m1 = some (y, m2) := e2
      show bE (Mo_write (sx (v + 1)) (sx (v + 2)) (lOr (lShl (w32 (sx (v + 3))) 32) (lAnd (w32 (sx (v + 4))) 4294967295)) m1) (fun x' m' => if w32 x = w32 x' then Law_L18 sx sL n (v + 8) m' else none) = some ()
      rw [e2', bE_some, if_pos e3]; exact go m2 hR2
    rw [if_neg q4]
    by_cases q5 : code = 5
    · rw [if_pos q5]
      simp only [if_pos c1, if_pos c2]
      obtain ⟨x, m1, y, m2, e1, e2, e3, hR2⟩ := s_read hR (a0 := (sx (v + 1)))  (a1 := (sx (v + 2))) (hsx _) (hsx _)
      rw [Option.some.inj e1]
      have e2' : Mo_read (sx (v + 1)) (sx (v + 2)) m1 = some (y, m2) := e2
      show bE (Mo_read (sx (v + 1)) (sx (v + 2)) m1) (fun x' m' => if w64 x = w64 x' then Law_L18 sx sL n (v + 8) m' else none) = some ()
      rw [e2', bE_some, if_pos e3]; exact go m2 hR2
    rw [if_neg q5]
    by_cases q6 : code = 6
    · rw [if_pos q6]
      simp only [if_pos c1, if_pos c2, if_pos c3, if_pos c4, if_pos c5]
      obtain ⟨x, m1, y, m2, e1, e2, e3, hR2⟩ := s_pour hR (a0 := (sx (v + 1)))  (a1 := (sx (v + 2)))  (a2 := (sx (v + 3)))  (a3 := (sx (v + 4)))  (a4 := (sx (v + 5))) (hsx _) (hsx _) (hsx _) (hsx _) (hsx _)
      rw [e1, bE_some]
      have e2' : Mo_pour (sx (v + 1)) (sx (v + 2)) (sx (v + 3)) (sx (v + 4)) (sx (v + 5)) m1 = some (y, m2) := e2
      show bE (Mo_pour (sx (v + 1)) (sx (v + 2)) (sx (v + 3)) (sx (v + 4)) (sx (v + 5)) m1) (fun x' m' => if w32 x = w32 x' then Law_L18 sx sL n (v + 8) m' else none) = some ()
      rw [e2', bE_some, if_pos e3]; exact go m2 hR2
    rw [if_neg q6]
    by_cases q7 : code = 7
    · rw [if_pos q7]
      simp only [if_pos c1, if_pos c2, if_pos c3, if_pos c4, if_pos c5]
      obtain ⟨x, m1, y, m2, e1, e2, e3, hR2⟩ := s_feed hR (a0 := (sx (v + 1)))  (a1 := (sx (v + 2)))  (a2 := (sx (v + 3)))  (a3 := (sx (v + 4)))  (a4 := (sx (v + 5))) (hsx _) (hsx _) (hsx _) (hsx _) (hsx _)
      rw [e1, bE_some]
      have e2' : Mo_feed (sx (v + 1)) (sx (v + 2)) (sx (v + 3)) (sx (v + 4)) (sx (v + 5)) m1 = some (y, m2) := e2
      show bE (Mo_feed (sx (v + 1)) (sx (v + 2)) (sx (v + 3)) (sx (v + 4)) (sx (v + 5)) m1) (fun x' m' => if w32 x = w32 x' then Law_L18 sx sL n (v + 8) m' else none) = some ()
      rw [e2', bE_some, if_pos e3]; exact go m2 hR2
    rw [if_neg q7]
    by_cases q8 : code = 8
    · rw [if_pos q8]
      simp only [if_pos c1]
      obtain ⟨x, m1, y, m2, e1, e2, e3, hR2⟩ := s_book hR (a0 := (sx (v + 1))) (hsx _)
      rw [e1, bE_some]
      have e2' : Mo_book (sx (v + 1)) m1 = some (y, m2) := e2
      show bE (Mo_book (sx (v + 1)) m1) (fun x' m' => if w32 x = w32 x' then Law_L18 sx sL n (v + 8) m' else none) = some ()
      rw [e2', bE_some, if_pos e3]; exact go m2 hR2
    rw [if_neg q8]
    by_cases q9 : code = 9
    · rw [if_pos q9]
      simp only [if_pos c1]
      rw [s_fault hR, if_pos rfl]; exact go m hR
    rw [if_neg q9]
    by_cases q10 : code = 10
    · rw [if_pos q10]
      simp only [if_pos c1]
      obtain ⟨x, m1, y, m2, e1, e2, e3, hR2⟩ := s_told hR (a0 := (sx (v + 1))) (hsx _)
      rw [Option.some.inj e1]
      have e2' : Mo_told (sx (v + 1)) m1 = (y, m2) := Option.some.inj e2
      show (if w32 x = w32 (Mo_told (sx (v + 1)) m1).1 then Law_L18 sx sL n (v + 8) (Mo_told (sx (v + 1)) m1).2 else none) = some ()
      rw [e2']
      show (if w32 x = w32 y then Law_L18 sx sL n (v + 8) m2 else none) = some ()
      rw [if_pos e3]; exact go m2 hR2
    rw [if_neg q10]
    by_cases q11 : code = 11
    · rw [if_pos q11]
      simp only [if_pos c1]
      obtain ⟨x, m1, y, m2, e1, e2, e3, hR2⟩ := s_view hR (a0 := (sx (v + 1))) (hsx _)
      rw [Option.some.inj e1]
      have e2' : Mo_view (sx (v + 1)) m1 = some (y, m2) := e2
      show bE (Mo_view (sx (v + 1)) m1) (fun x' m' => if w32 x = w32 x' then Law_L18 sx sL n (v + 8) m' else none) = some ()
      rw [e2', bE_some, if_pos e3]; exact go m2 hR2
    rw [if_neg q11]
    by_cases q12 : code = 12
    · rw [if_pos q12]
      simp only [if_pos c1, if_pos c2]
      obtain ⟨x, m1, y, m2, e1, e2, e3, hR2⟩ := s_point hR (a0 := (sx (v + 1)))  (a1 := (sx (v + 2))) (hsx _) (hsx _)
      rw [Option.some.inj e1]
      have e2' : Mo_point (sx (v + 1)) (sx (v + 2)) m1 = some (y, m2) := e2
      show bE (Mo_point (sx (v + 1)) (sx (v + 2)) m1) (fun x' m' => if w32 x = w32 x' then Law_L18 sx sL n (v + 8) m' else none) = some ()
      rw [e2', bE_some, if_pos e3]; exact go m2 hR2
    rw [if_neg q12]
    by_cases q13 : code = 13
    · rw [if_pos q13]
      simp only [if_pos c1, if_pos c2]
      obtain ⟨x, m1, y, m2, e1, e2, e3, hR2⟩ := s_move hR (a0 := (sx (v + 1)))  (a1 := (sx (v + 2))) (hsx _) (hsx _)
      rw [Option.some.inj e1]
      have e2' : Mo_move (sx (v + 1)) (sx (v + 2)) m1 = some (y, m2) := e2
      show bE (Mo_move (sx (v + 1)) (sx (v + 2)) m1) (fun x' m' => if w32 x = w32 x' then Law_L18 sx sL n (v + 8) m' else none) = some ()
      rw [e2', bE_some, if_pos e3]; exact go m2 hR2
    rw [if_neg q13]
    by_cases q14 : code = 14
    · rw [if_pos q14]
      simp only [if_pos c1, if_pos c2]
      obtain ⟨x, m1, y, m2, e1, e2, e3, hR2⟩ := s_keep hR (a0 := (sx (v + 1)))  (a1 := (if (w32 (sx (v + 2))) = 0 then 0 else 1 : Int)) (hsx _) (by split <;> simp)
      rw [Option.some.inj e1]
      have e2' : Mo_keep (sx (v + 1)) (if (w32 (sx (v + 2))) = 0 then 0 else 1 : Int) m1 = some (y, m2) := e2
      show bE (Mo_keep (sx (v + 1)) (if (w32 (sx (v + 2))) = 0 then 0 else 1 : Int) m1) (fun x' m' => if w32 x = w32 x' then Law_L18 sx sL n (v + 8) m' else none) = some ()
      rw [e2', bE_some, if_pos e3]; exact go m2 hR2
    rw [if_neg q14]
    by_cases q15 : code = 15
    · rw [if_pos q15]
      simp only [if_pos c1, if_pos c2]
      obtain ⟨x, m1, y, m2, e1, e2, e3, hR2⟩ := s_lines hR (a0 := (sx (v + 1)))  (a1 := (sx (v + 2))) (hsx _) (hsx _)
      rw [Option.some.inj e1]
      have e2' : Mo_lines (sx (v + 1)) (sx (v + 2)) m1 = (y, m2) := Option.some.inj e2
      show (if w32 x = w32 (Mo_lines (sx (v + 1)) (sx (v + 2)) m1).1 then Law_L18 sx sL n (v + 8) (Mo_lines (sx (v + 1)) (sx (v + 2)) m1).2 else none) = some ()
      rw [e2']
      show (if w32 x = w32 y then Law_L18 sx sL n (v + 8) m2 else none) = some ()
      rw [if_pos e3]; exact go m2 hR2
    rw [if_neg q15]
    by_cases q16 : code = 16
    · rw [if_pos q16]
      simp only [if_pos c1, if_pos c2, if_pos c3]
      obtain ⟨x, m1, y, m2, e1, e2, e3, hR2⟩ := s_lies hR (a0 := (sx (v + 1)))  (a1 := (sx (v + 2)))  (a2 := (sx (v + 3))) (hsx _) (hsx _) (hsx _)
      rw [Option.some.inj e1]
      unfold ltM
      unfold ltI
      have e2' : Mo_lies (sx (v + 1)) (sx (v + 2)) (sx (v + 3)) m1 = (y, m2) := Option.some.inj e2
      show (if w32 x = w32 (Mo_lies (sx (v + 1)) (sx (v + 2)) (sx (v + 3)) m1).1 then Law_L18 sx sL n (v + 8) (Mo_lies (sx (v + 1)) (sx (v + 2)) (sx (v + 3)) m1).2 else none) = some ()
      rw [e2']
      show (if w32 x = w32 y then Law_L18 sx sL n (v + 8) m2 else none) = some ()
      rw [if_pos e3]; exact go m2 hR2
    rw [if_neg q16]
    by_cases q17 : code = 17
    · rw [if_pos q17]
      simp only [if_pos c1, if_pos c2, if_pos c3]
      obtain ⟨x, m1, y, m2, e1, e2, e3, hR2⟩ := s_bend hR (a0 := (sx (v + 1)))  (a1 := (sx (v + 2)))  (a2 := (sx (v + 3))) (hsx _) (hsx _) (hsx _)
      rw [Option.some.inj e1]
      have e2' : Mo_bend (sx (v + 1)) (sx (v + 2)) (sx (v + 3)) m1 = some (y, m2) := e2
      show bE (Mo_bend (sx (v + 1)) (sx (v + 2)) (sx (v + 3)) m1) (fun x' m' => if w32 x = w32 x' then Law_L18 sx sL n (v + 8) m' else none) = some ()
      rw [e2', bE_some, if_pos e3]; exact go m2 hR2
    rw [if_neg q17]
    by_cases q18 : code = 18
    · rw [if_pos q18]
      simp only [if_pos c1, if_pos c2]
      obtain ⟨x, m1, y, m2, e1, e2, e3, hR2⟩ := s_unfair hR (a0 := (sx (v + 1)))  (a1 := (sx (v + 2))) (hsx _) (hsx _)
      rw [e1, bE_some]
      have e2' : Mo_unfair (sx (v + 1)) (sx (v + 2)) m1 = some (y, m2) := e2
      show bE (Mo_unfair (sx (v + 1)) (sx (v + 2)) m1) (fun x' m' => if w32 x = w32 x' then Law_L18 sx sL n (v + 8) m' else none) = some ()
      rw [e2', bE_some, if_pos e3]; exact go m2 hR2
    rw [if_neg q18]
    by_cases q19 : code = 19
    · rw [if_pos q19]
      obtain ⟨x, m1, y, m2, e1, e2, e3, hR2⟩ := s_unfairAll hR 
      rw [e1, bE_some]
      have e2' : Mo_unfairAll  m1 = some (y, m2) := e2
      show bE (Mo_unfairAll  m1) (fun x' m' => if w32 x = w32 x' then Law_L18 sx sL n (v + 8) m' else none) = some ()
      rw [e2', bE_some, if_pos e3]; exact go m2 hR2
    rw [if_neg q19]
    by_cases q20 : code = 20
    · rw [if_pos q20]
      simp only [if_pos c1, if_pos c2]
      obtain ⟨x, m1, y, m2, e1, e2, e3, hR2⟩ := s_where hR (a0 := (sx (v + 1)))  (a1 := (sx (v + 2))) (hsx _) (hsx _)
      rw [e1, bE_some]
      have e2' : Mo_where (sx (v + 1)) (sx (v + 2)) m1 = some (y, m2) := e2
      show bE (Mo_where (sx (v + 1)) (sx (v + 2)) m1) (fun x' m' => if w32 x = w32 x' then Law_L18 sx sL n (v + 8) m' else none) = some ()
      rw [e2', bE_some, if_pos e3]; exact go m2 hR2
    rw [if_neg q20]
    by_cases q21 : code = 21
    · rw [if_pos q21]
      simp only [if_pos c1, if_pos c2]
      obtain ⟨x, m1, y, m2, e1, e2, e3, hR2⟩ := s_strain hR (a0 := (sx (v + 1)))  (a1 := (sx (v + 2))) (hsx _) (hsx _)
      rw [e1, bE_some]
      have e2' : Mo_strain (sx (v + 1)) (sx (v + 2)) m1 = some (y, m2) := e2
      show bE (Mo_strain (sx (v + 1)) (sx (v + 2)) m1) (fun x' m' => if w64 x = w64 x' then Law_L18 sx sL n (v + 8) m' else none) = some ()
      rw [e2', bE_some, if_pos e3]; exact go m2 hR2
    rw [if_neg q21]
    by_cases q22 : code = 22
    · rw [if_pos q22]
      simp only [if_pos c1, if_pos c2, if_pos c3, if_pos c4]
      obtain ⟨x, m1, y, m2, e1, e2, e3, hR2⟩ := s_lath hR (a0 := (sx (v + 1)))  (a1 := (sx (v + 2)))  (a2 := (sx (v + 3)))  (a3 := (sx (v + 4))) (hsx _) (hsx _) (hsx _) (hsx _)
      rw [e1, bE_some]
      have e2' : Mo_lath (sx (v + 1)) (sx (v + 2)) (sx (v + 3)) (sx (v + 4)) m1 = some (y, m2) := e2
      show bE (Mo_lath (sx (v + 1)) (sx (v + 2)) (sx (v + 3)) (sx (v + 4)) m1) (fun x' m' => if w32 x = w32 x' then Law_L18 sx sL n (v + 8) m' else none) = some ()
      rw [e2', bE_some, if_pos e3]; exact go m2 hR2
    rw [if_neg q22]
    by_cases q23 : code = 23
    · rw [if_pos q23]
      simp only [if_pos c1]
      obtain ⟨x, m1, y, m2, e1, e2, e3, hR2⟩ := s_rounds hR (a0 := (sx (v + 1))) (hsx _)
      rw [e1, bE_some]
      have e2' : Mo_rounds (sx (v + 1)) m1 = some (y, m2) := e2
      show bE (Mo_rounds (sx (v + 1)) m1) (fun x' m' => if w32 x = w32 x' then Law_L18 sx sL n (v + 8) m' else none) = some ()
      rw [e2', bE_some, if_pos e3]; exact go m2 hR2
    rw [if_neg q23]
    by_cases q24 : code = 24
    · rw [if_pos q24]
      simp only [if_pos c1]
      obtain ⟨x, m1, y, m2, e1, e2, e3, hR2⟩ := s_ended hR (a0 := (sx (v + 1))) (hsx _)
      rw [Option.some.inj e1]
      have e2' : Mo_ended (sx (v + 1)) m1 = (y, m2) := Option.some.inj e2
      show (if w32 x = w32 (Mo_ended (sx (v + 1)) m1).1 then Law_L18 sx sL n (v + 8) (Mo_ended (sx (v + 1)) m1).2 else none) = some ()
      rw [e2']
      show (if w32 x = w32 y then Law_L18 sx sL n (v + 8) m2 else none) = some ()
      rw [if_pos e3]; exact go m2 hR2
    rw [if_neg q24]
    by_cases q25 : code = 25
    · rw [if_pos q25]
      simp only [if_pos c1, if_pos c2, if_pos c3]
      obtain ⟨x, m1, y, m2, e1, e2, e3, hR2⟩ := s_least hR (a0 := (sx (v + 1)))  (a1 := (sx (v + 2)))  (a2 := (sx (v + 3))) (hsx _) (hsx _) (hsx _)
      rw [e1, bE_some]
      have e2' : Mo_least (sx (v + 1)) (sx (v + 2)) (sx (v + 3)) m1 = some (y, m2) := e2
      show bE (Mo_least (sx (v + 1)) (sx (v + 2)) (sx (v + 3)) m1) (fun x' m' => if w32 x = w32 x' then Law_L18 sx sL n (v + 8) m' else none) = some ()
      rw [e2', bE_some, if_pos e3]; exact go m2 hR2
    rw [if_neg q25]
    by_cases q26 : code = 26
    · rw [if_pos q26]
      simp only [if_pos c1]
      obtain ⟨x, m1, y, m2, e1, e2, e3, hR2⟩ := s_leastMove hR (a0 := (sx (v + 1))) (hsx _)
      rw [Option.some.inj e1]
      have e2' : Mo_leastMove (sx (v + 1)) m1 = some (y, m2) := e2
      show bE (Mo_leastMove (sx (v + 1)) m1) (fun x' m' => if w32 x = w32 x' then Law_L18 sx sL n (v + 8) m' else none) = some ()
      rw [e2', bE_some, if_pos e3]; exact go m2 hR2
    rw [if_neg q26]
    by_cases q27 : code = 27
    · rw [if_pos q27]
      obtain ⟨x, m1, y, m2, e1, e2, e3, hR2⟩ := s_slips hR 
      rw [e1, bE_some]
      have e2' : Mo_slips  m1 = some (y, m2) := e2
      show bE (Mo_slips  m1) (fun x' m' => if w32 x = w32 x' then Law_L18 sx sL n (v + 8) m' else none) = some ()
      rw [e2', bE_some, if_pos e3]; exact go m2 hR2
    rw [if_neg q27]
    by_cases q28 : code = 28
    · rw [if_pos q28]
      simp only [if_pos c1, if_pos c2]
      obtain ⟨x, m1, y, m2, e1, e2, e3, hR2⟩ := s_slip hR (a0 := (sx (v + 1)))  (a1 := (sx (v + 2))) (hsx _) (hsx _)
      rw [e1, bE_some]
      have e2' : Mo_slip (sx (v + 1)) (sx (v + 2)) m1 = some (y, m2) := e2
      show bE (Mo_slip (sx (v + 1)) (sx (v + 2)) m1) (fun x' m' => if w32 x = w32 x' then Law_L18 sx sL n (v + 8) m' else none) = some ()
      rw [e2', bE_some, if_pos e3]; exact go m2 hR2
    rw [if_neg q28]
    by_cases q29 : code = 29
    · rw [if_pos q29]
      simp only [if_pos c1]
      obtain ⟨x, m1, y, m2, e1, e2, e3, hR2⟩ := s_way hR (a0 := (sx (v + 1))) (hsx _)
      rw [e1, bE_some]
      have e2' : Mo_way (sx (v + 1)) m1 = some (y, m2) := e2
      show bE (Mo_way (sx (v + 1)) m1) (fun x' m' => if w32 x = w32 x' then Law_L18 sx sL n (v + 8) m' else none) = some ()
      rw [e2', bE_some, if_pos e3]; exact go m2 hR2
    rw [if_neg q29]
    by_cases q30 : code = 30
    · rw [if_pos q30]
      obtain ⟨x, m1, y, m2, e1, e2, e3, hR2⟩ := s_run hR 
      rw [e1, bE_some]
      have e2' : Mo_run  m1 = some (y, m2) := e2
      show bE (Mo_run  m1) (fun x' m' => if w32 x = w32 x' then Law_L18 sx sL n (v + 8) m' else none) = some ()
      rw [e2', bE_some, if_pos e3]; exact go m2 hR2
    rw [if_neg q30]
    by_cases q31 : code = 31
    · rw [if_pos q31]
      simp only [if_pos c1]
      obtain ⟨x, m1, y, m2, e1, e2, e3, hR2⟩ := s_ran hR (a0 := (sx (v + 1))) (hsx _)
      rw [Option.some.inj e1]
      have e2' : Mo_ran (sx (v + 1)) m1 = (y, m2) := Option.some.inj e2
      show (if w32 x = w32 (Mo_ran (sx (v + 1)) m1).1 then Law_L18 sx sL n (v + 8) (Mo_ran (sx (v + 1)) m1).2 else none) = some ()
      rw [e2']
      show (if w32 x = w32 y then Law_L18 sx sL n (v + 8) m2 else none) = some ()
      rw [if_pos e3]; exact go m2 hR2
    rw [if_neg q31]
    by_cases q32 : code = 32
    · rw [if_pos q32]
      simp only [if_pos c1]
      obtain ⟨x, m1, y, m2, e1, e2, e3, hR2⟩ := s_given hR (a0 := (sx (v + 1))) (hsx _)
      rw [e1, bE_some]
      have e2' : Mo_given (sx (v + 1)) m1 = some (y, m2) := e2
      show bE (Mo_given (sx (v + 1)) m1) (fun x' m' => if w32 x = w32 x' then Law_L18 sx sL n (v + 8) m' else none) = some ()
      rw [e2', bE_some, if_pos e3]; exact go m2 hR2
    rw [if_neg q32]
    by_cases q33 : code = 33
    · rw [if_pos q33]
      simp only [if_pos c1]
      obtain ⟨x, m1, y, m2, e1, e2, e3, hR2⟩ := s_crook hR (a0 := (sx (v + 1))) (hsx _)
      rw [e1, bE_some]
      have e2' : Mo_crook (sx (v + 1)) m1 = some (y, m2) := e2
      show bE (Mo_crook (sx (v + 1)) m1) (fun x' m' => if w32 x = w32 x' then Law_L18 sx sL n (v + 8) m' else none) = some ()
      rw [e2', bE_some, if_pos e3]; exact go m2 hR2
    rw [if_neg q33]
    by_cases q34 : code = 34
    · rw [if_pos q34]
      simp only [if_pos c1, if_pos c2]
      obtain ⟨x, m1, y, m2, e1, e2, e3, hR2⟩ := s_ribs hR (a0 := (sx (v + 1)))  (a1 := (sx (v + 2))) (hsx _) (hsx _)
      rw [e1, bE_some]
      have e2' : Mo_ribs (sx (v + 1)) (sx (v + 2)) m1 = some (y, m2) := e2
      show bE (Mo_ribs (sx (v + 1)) (sx (v + 2)) m1) (fun x' m' => if w32 x = w32 x' then Law_L18 sx sL n (v + 8) m' else none) = some ()
      rw [e2', bE_some, if_pos e3]; exact go m2 hR2
    rw [if_neg q34]
    by_cases q35 : code = 35
    · rw [if_pos q35]
      simp only [if_pos c1]
      obtain ⟨x, m1, y, m2, e1, e2, e3, hR2⟩ := s_rib hR (a0 := (sx (v + 1))) (hsx _)
      rw [e1, bE_some]
      have e2' : Mo_rib (sx (v + 1)) m1 = some (y, m2) := e2
      show bE (Mo_rib (sx (v + 1)) m1) (fun x' m' => if w32 x = w32 x' then Law_L18 sx sL n (v + 8) m' else none) = some ()
      rw [e2', bE_some, if_pos e3]; exact go m2 hR2
    rw [if_neg q35]
    by_cases q36 : code = 36
    · rw [if_pos q36]
      simp only [if_pos c1]
      obtain ⟨x, m1, y, m2, e1, e2, e3, hR2⟩ := s_bevel hR (a0 := (sx (v + 1))) (hsx _)
      rw [e1, bE_some]
      have e2' : Mo_bevel (sx (v + 1)) m1 = some (y, m2) := e2
      show bE (Mo_bevel (sx (v + 1)) m1) (fun x' m' => if w32 x = w32 x' then Law_L18 sx sL n (v + 8) m' else none) = some ()
      rw [e2', bE_some, if_pos e3]; exact go m2 hR2
    rw [if_neg q36]
    by_cases q37 : code = 37
    · rw [if_pos q37]
      simp only [if_pos c1, if_pos c2]
      obtain ⟨x, m1, y, m2, e1, e2, e3, hR2⟩ := s_width hR (a0 := (sx (v + 1)))  (a1 := (sx (v + 2))) (hsx _) (hsx _)
      rw [e1, bE_some]
      have e2' : Mo_width (sx (v + 1)) (sx (v + 2)) m1 = some (y, m2) := e2
      show bE (Mo_width (sx (v + 1)) (sx (v + 2)) m1) (fun x' m' => if w32 x = w32 x' then Law_L18 sx sL n (v + 8) m' else none) = some ()
      rw [e2', bE_some, if_pos e3]; exact go m2 hR2
    rw [if_neg q37]
    by_cases q38 : code = 38
    · rw [if_pos q38]
      simp only [if_pos c1]
      obtain ⟨x, m1, y, m2, e1, e2, e3, hR2⟩ := s_length hR (a0 := (sx (v + 1))) (hsx _)
      rw [e1, bE_some]
      have e2' : Mo_length (sx (v + 1)) m1 = some (y, m2) := e2
      show bE (Mo_length (sx (v + 1)) m1) (fun x' m' => if w32 x = w32 x' then Law_L18 sx sL n (v + 8) m' else none) = some ()
      rw [e2', bE_some, if_pos e3]; exact go m2 hR2
    rw [if_neg q38]
    by_cases q39 : code = 39
    · rw [if_pos q39]
      simp only [if_pos c1]
      obtain ⟨x, m1, y, m2, e1, e2, e3, hR2⟩ := s_banana hR (a0 := (sx (v + 1))) (hsx _)
      rw [e1, bE_some]
      have e2' : Mo_banana (sx (v + 1)) m1 = some (y, m2) := e2
      show bE (Mo_banana (sx (v + 1)) m1) (fun x' m' => if w32 x = w32 x' then Law_L18 sx sL n (v + 8) m' else none) = some ()
      rw [e2', bE_some, if_pos e3]; exact go m2 hR2
    rw [if_neg q39]
    by_cases q40 : code = 40
    · rw [if_pos q40]
      simp only [if_pos c1]
      obtain ⟨x, m1, y, m2, e1, e2, e3, hR2⟩ := s_planks hR (a0 := (sx (v + 1))) (hsx _)
      rw [e1, bE_some]
      have e2' : Mo_planks (sx (v + 1)) m1 = some (y, m2) := e2
      show bE (Mo_planks (sx (v + 1)) m1) (fun x' m' => if w32 x = w32 x' then Law_L18 sx sL n (v + 8) m' else none) = some ()
      rw [e2', bE_some, if_pos e3]; exact go m2 hR2
    rw [if_neg q40]
    by_cases q41 : code = 41
    · rw [if_pos q41]
      simp only [if_pos c1]
      obtain ⟨x, m1, y, m2, e1, e2, e3, hR2⟩ := s_plank hR (a0 := (sx (v + 1))) (hsx _)
      rw [e1, bE_some]
      have e2' : Mo_plank (sx (v + 1)) m1 = some (y, m2) := e2
      show bE (Mo_plank (sx (v + 1)) m1) (fun x' m' => if w32 x = w32 x' then Law_L18 sx sL n (v + 8) m' else none) = some ()
      rw [e2', bE_some, if_pos e3]; exact go m2 hR2
    rw [if_neg q41]
    by_cases q42 : code = 42
    · rw [if_pos q42]
      simp only [if_pos c1, if_pos c2, if_pos c3]
      obtain ⟨x, m1, y, m2, e1, e2, e3, hR2⟩ := s_wet hR (a0 := (sx (v + 1)))  (a1 := (sx (v + 2)))  (a2 := (sx (v + 3))) (hsx _) (hsx _) (hsx _)
      rw [e1, bE_some]
      have e2' : Mo_wet (sx (v + 1)) (sx (v + 2)) (sx (v + 3)) m1 = some (y, m2) := e2
      show bE (Mo_wet (sx (v + 1)) (sx (v + 2)) (sx (v + 3)) m1) (fun x' m' => if w32 x = w32 x' then Law_L18 sx sL n (v + 8) m' else none) = some ()
      rw [e2', bE_some, if_pos e3]; exact go m2 hR2
    rw [if_neg q42]
    by_cases q43 : code = 43
    · rw [if_pos q43]
      simp only [if_pos c1, if_pos c2, if_pos c3, if_pos c4]
      obtain ⟨x, m1, y, m2, e1, e2, e3, hR2⟩ := s_boat hR (a0 := (sx (v + 1)))  (a1 := (sx (v + 2)))  (a2 := (sx (v + 3)))  (a3 := (sx (v + 4))) (hsx _) (hsx _) (hsx _) (hsx _)
      rw [e1, bE_some]
      have e2' : Mo_boat (sx (v + 1)) (sx (v + 2)) (sx (v + 3)) (sx (v + 4)) m1 = some (y, m2) := e2
      show bE (Mo_boat (sx (v + 1)) (sx (v + 2)) (sx (v + 3)) (sx (v + 4)) m1) (fun x' m' => if w32 x = w32 x' then Law_L18 sx sL n (v + 8) m' else none) = some ()
      rw [e2', bE_some, if_pos e3]; exact go m2 hR2
    rw [if_neg q43]
    by_cases q44 : code = 44
    · rw [if_pos q44]
      simp only [if_pos c1, if_pos c2, if_pos c3, if_pos c4]
      obtain ⟨x, m1, y, m2, e1, e2, e3, hR2⟩ := s_apart hR (a0 := (sx (v + 1)))  (a1 := (sx (v + 2)))  (a2 := (sx (v + 3)))  (a3 := (sx (v + 4))) (hsx _) (hsx _) (hsx _) (hsx _)
      rw [e1, bE_some]
      have e2' : Mo_apart (sx (v + 1)) (sx (v + 2)) (sx (v + 3)) (sx (v + 4)) m1 = some (y, m2) := e2
      show bE (Mo_apart (sx (v + 1)) (sx (v + 2)) (sx (v + 3)) (sx (v + 4)) m1) (fun x' m' => if w32 x = w32 x' then Law_L18 sx sL n (v + 8) m' else none) = some ()
      rw [e2', bE_some, if_pos e3]; exact go m2 hR2
    rw [if_neg q44]
    by_cases q45 : code = 45
    · rw [if_pos q45]
      simp only [if_pos c1, if_pos c2, if_pos c3, if_pos c4, if_pos c5, if_pos c6, if_pos c7]
      obtain ⟨x, m1, y, m2, e1, e2, e3, hR2⟩ := s_built hR (a0 := (sx (v + 1)))  (a1 := (sx (v + 2)))  (a2 := (sx (v + 3)))  (a3 := (sx (v + 4)))  (a4 := (sx (v + 5)))  (a5 := (sx (v + 6)))  (a6 := (sx (v + 7))) (hsx _) (hsx _) (hsx _) (hsx _) (hsx _) (hsx _) (hsx _)
      rw [e1, bE_some]
      have e2' : Mo_built (sx (v + 1)) (sx (v + 2)) (sx (v + 3)) (sx (v + 4)) (sx (v + 5)) (sx (v + 6)) (sx (v + 7)) m1 = some (y, m2) := e2
      show bE (Mo_built (sx (v + 1)) (sx (v + 2)) (sx (v + 3)) (sx (v + 4)) (sx (v + 5)) (sx (v + 6)) (sx (v + 7)) m1) (fun x' m' => if w32 x = w32 x' then Law_L18 sx sL n (v + 8) m' else none) = some ()
      rw [e2', bE_some, if_pos e3]; exact go m2 hR2
    rw [if_neg q45]
    by_cases q46 : code = 46
    · rw [if_pos q46]
      simp only [if_pos c1]
      obtain ⟨x, m1, y, m2, e1, e2, e3, hR2⟩ := s_volume hR (a0 := (sx (v + 1))) (hsx _)
      rw [e1, bE_some]
      have e2' : Mo_volume (sx (v + 1)) m1 = some (y, m2) := e2
      show bE (Mo_volume (sx (v + 1)) m1) (fun x' m' => if w32 x = w32 x' then Law_L18 sx sL n (v + 8) m' else none) = some ()
      rw [e2', bE_some, if_pos e3]; exact go m2 hR2
    rw [if_neg q46]
    by_cases q47 : code = 47
    · rw [if_pos q47]
      simp only [if_pos c1]
      obtain ⟨x, m1, y, m2, e1, e2, e3, hR2⟩ := s_centre hR (a0 := (sx (v + 1))) (hsx _)
      rw [e1, bE_some]
      have e2' : Mo_centre (sx (v + 1)) m1 = some (y, m2) := e2
      show bE (Mo_centre (sx (v + 1)) m1) (fun x' m' => if w32 x = w32 x' then Law_L18 sx sL n (v + 8) m' else none) = some ()
      rw [e2', bE_some, if_pos e3]; exact go m2 hR2
    rw [if_neg q47]
    by_cases q48 : code = 48
    · rw [if_pos q48]
      simp only [if_pos c1, if_pos c2, if_pos c3]
      obtain ⟨x, m1, y, m2, e1, e2, e3, hR2⟩ := s_carried hR (a0 := (sx (v + 1)))  (a1 := (sx (v + 2)))  (a2 := (sx (v + 3))) (hsx _) (hsx _) (hsx _)
      rw [e1, bE_some]
      have e2' : Mo_carried (sx (v + 1)) (sx (v + 2)) (sx (v + 3)) m1 = some (y, m2) := e2
      show bE (Mo_carried (sx (v + 1)) (sx (v + 2)) (sx (v + 3)) m1) (fun x' m' => if w32 x = w32 x' then Law_L18 sx sL n (v + 8) m' else none) = some ()
      rw [e2', bE_some, if_pos e3]; exact go m2 hR2
    rw [if_neg q48]
    by_cases q49 : code = 49
    · rw [if_pos q49]
      obtain ⟨x, m1, y, m2, e1, e2, e3, hR2⟩ := s_mark hR 
      rw [e1, bE_some]
      have e2' : Mo_mark  m1 = some (y, m2) := e2
      show bE (Mo_mark  m1) (fun x' m' => if w32 x = w32 x' then Law_L18 sx sL n (v + 8) m' else none) = some ()
      rw [e2', bE_some, if_pos e3]; exact go m2 hR2
    rw [if_neg q49]
    by_cases q50 : code = 50
    · rw [if_pos q50]
      obtain ⟨x, m1, y, m2, e1, e2, e3, hR2⟩ := s_back hR 
      rw [e1, bE_some]
      have e2' : Mo_back  m1 = some (y, m2) := e2
      show bE (Mo_back  m1) (fun x' m' => if w32 x = w32 x' then Law_L18 sx sL n (v + 8) m' else none) = some ()
      rw [e2', bE_some, if_pos e3]; exact go m2 hR2
    rw [if_neg q50]
    exact go m hR
