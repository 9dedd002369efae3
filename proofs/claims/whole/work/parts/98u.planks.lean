/-! layer 2: the call planks -/
theorem pkA : ∀ (n : Fin 4) (x : Fin 16), x.val < 2 ^ (n.val + 1) → cnS (enS ((x.val : Int) + bShl 1 ((n.val : Int) + 1))) (n.val + 2) 0 = J_bitCount ((x.val : Int) + bShl 1 ((n.val : Int) + 1)) ∧ 1 ≤ J_bitCount ((x.val : Int) + bShl 1 ((n.val : Int) + 1)) ∧ J_bitCount ((x.val : Int) + bShl 1 ((n.val : Int) + 1)) ≤ 5 := by decide +kernel
theorem pkB : ∀ (n : Fin 4) (x y : Fin 16), x.val < 2 ^ (n.val + 1) → y.val < 2 ^ (n.val + 1) → eaS (x.val : Int) (y.val : Int) (n.val + 2) 0 = Yard_isAheadOf ((x.val : Int) + bShl 1 ((n.val : Int) + 1)) ((y.val : Int) + bShl 1 ((n.val : Int) + 1)) := by decide +kernel
theorem pkC : ∀ (n : Fin 4) (x : Fin 16) (k : Fin 5), x.val < 2 ^ (n.val + 1) → k.val < n.val + 2 → erS (x.val : Int) ((n.val : Int) + 2) (k.val : Int) = enS ((x.val : Int) + bShl 1 ((n.val : Int) + 1)) (k.val : Int) := by decide +kernel
theorem ah01 (a b : Int) : Yard_isAheadOf a b = 0 ∨ Yard_isAheadOf a b = 1 := by
  unfold Yard_isAheadOf; split
  · exact Or.inl rfl
  · exact Or.inr rfl
def Lt2 (x z : Nat) : Prop := x < 2 ^ (z + 1)
theorem s_planks {m : Mem} (h : Rel m) {a0 : Int} (c0 : w32 a0 = a0) : Stq w32 (FL_planks a0 m) (fun m1 => Mo_planks a0 m1) := by
  have b0 := cn c0
  by_cases k0 : ¬ (1 ≤ a0 ∧ a0 ≤ 9999)
  · have q : a0 < 1 ∨ 9999 < a0 := by omega
    refine Stq.mk (x := -1) (m1 := st m 0 0 1) (y := -1) (m2 := st (st m 0 0 1) 75 1 1) ?_ ?_ rfl (h.stat 1)
    · rcases q with q | q <;> simp (disch := omega) only [bP, bE, bV, ltM, ltI, st_eq, st_ne, w32_id, w64_id, ↓reduceIte, ilt_t, ilt_f, ile_t, ile_f, ieq_t, ieq_f, not_true_eq_false, not_false_eq_true, and_true, true_and, and_self, and_false, false_and, Int.reduceMod, FL_planks, FL_isWithin, FL_no, FL_yes, FL_none, FL_answer]
    · rcases q with q | q <;> simp (disch := omega) only [bP, bE, bV, ltM, ltI, st_eq, st_ne, w32_id, w64_id, ↓reduceIte, ilt_t, ilt_f, ile_t, ile_f, ieq_t, ieq_f, not_true_eq_false, not_false_eq_true, and_true, true_and, and_self, and_false, false_and, Int.reduceMod, Mo_planks, Mo_is, Mo_refuse, Mo_gives, Mo_isFrom]
  replace k0 := Decidable.not_not.mp k0
  obtain ⟨t0, t1⟩ := k0
  obtain ⟨⟨z0, z1, -, z3, -⟩, hs, hv, -, -⟩ := shF h
  by_cases hw : m 7 1 = 0
  · refine Stq.mk (x := -1) (m1 := st m 0 0 6) (y := -1) (m2 := st (st m 0 0 6) 75 1 6) ?_ ?_ rfl (h.stat 6)
    · simp (disch := omega) only [bP, bE, bV, ltM, ltI, st_eq, st_ne, w32_id, w64_id, ↓reduceIte, ilt_t, ilt_f, ile_t, ile_f, ieq_t, ieq_f, not_true_eq_false, not_false_eq_true, and_true, true_and, and_self, and_false, false_and, Int.reduceMod, FL_planks, Yard_joinPlanks, FL_isWithin, FL_no, FL_yes, FL_none, FL_answer]
    · show Mo_planks a0 (st m 0 0 6) = _
      have e1 : st m 0 0 6 76 1 = 0 := by rw [st_ne _ _ _ (by decide)]; omega
      have ej : J_max 0 (0 - 1) = 0 := by decide
      unfold Mo_planks
      rw [e1, ej, iwM, iw (c64 (by rw [c0]; exact c0)) (by omega) (by omega) (by omega) (by omega), c0, if_pos (show 1 ≤ a0 ∧ a0 ≤ 9999 by omega), if_pos (by decide), show FU = 19999 + 1 from rfl, Mo_planks_L42, ej, if_neg (by decide), w32_id (x := 0) (by omega) (by omega), if_pos (by omega), if_neg (by decide)]
      rfl
  obtain ⟨z, ez⟩ : ∃ z : Nat, m 7 1 = (z : Int) + 3 := ⟨(m 7 1 - 3).toNat, by omega⟩
  have zl : z < 4 := by omega
  obtain ⟨L, hL⟩ : ∃ L : Int, bShl 1 ((z : Int) + 1) = L := ⟨_, rfl⟩
  have eL : L = ((2 ^ (z + 1) : Nat) : Int) := by
    rw [← hL, bShl1 (by omega) (by omega)]; congr 1
  have l16 : 2 ^ (z + 1) ≤ 16 := by
    have : 2 ^ (z + 1) ≤ 2 ^ 4 := Nat.pow_le_pow_right (by decide) (by omega)
    have e : 2 ^ 4 = 16 := by decide
    omega
  have l0 : 0 < 2 ^ (z + 1) := Nat.pow_pos (by decide)
  have hr7 : 0 ≤ m 7 3 ∧ m 7 3 ≤ 999 := by omega
  have nt : ∀ s : Int, 0 ≤ s → s < L → ∃ x : Nat, s = (x : Int) ∧ Lt2 x z ∧ x < 16 := fun s s0 s1 => ⟨s.toNat, by omega, by unfold Lt2; omega, by omega⟩
  have Lb : 1 ≤ L ∧ L ≤ 16 := by omega
  clear eL l16 l0
  obtain ⟨tp, etp⟩ : ∃ tp : Int → Option (Int × Int), tp = fun s => tpS (enS (s + L)) (okS (m 10) (m 7 3) (m 7 0) a0) (waS (m 10) (m 7 3) (m 7 0)) ((z : Int) + 2 - 0).toNat 0 0 0 0 := ⟨_, rfl⟩
  obtain ⟨ah, eah⟩ : ∃ ah : Int → Int → Bool, ah = fun s b => decide (Yard_isAheadOf (s + L) (b + L) = 1) := ⟨_, rfl⟩
  have hah : ∀ s b, 0 ≤ s → s < L → 0 ≤ b → b < L → Yard_isAheadOf (s + L) (b + L) = if ah s b then 1 else 0 := by
    intro s b _ _ _ _
    rw [eah]
    show _ = if decide _ = true then 1 else 0
    rcases ah01 (s + L) (b + L) with q | q <;> rw [q] <;> rfl
  have hJ : Jt L tp := by
    intro s c x s0 s1 e
    obtain ⟨y, ey, y1, y2⟩ := nt s s0 s1
    have u := tpS_n (N := (z : Int) + 2) (e := enS (s + L)) (ok := okS (m 10) (m 7 3) (m 7 0) a0) (ws := waS (m 10) (m 7 3) (m 7 0)) (fun a k a0' k1 => waS_b hs (flC h) hr7.1 hr7.2 a0' (by omega)) ((z : Int) + 2 - 0).toNat 0 0 0 0 c x (by omega) (by omega) (by omega) (by rw [← e, etp])
    have v := pkA ⟨z, zl⟩ ⟨y, y2⟩ y1
    have ec : ((z : Int) + 2 - 0).toNat = z + 2 := by omega
    rw [ec] at u
    subst ey
    have v' : cnS (enS ((y : Int) + L)) (z + 2) 0 = J_bitCount ((y : Int) + L) ∧ 1 ≤ J_bitCount ((y : Int) + L) ∧ J_bitCount ((y : Int) + L) ≤ 5 := by rw [← hL]; exact v
    omega
  obtain ⟨R, hR⟩ : ∃ R, jpS tp ah (L - 0).toNat 0 (-1, 0, 0) = R := ⟨_, rfl⟩
  have hB : Jb L (-1, 0, 0) := Or.inl rfl
  obtain ⟨ma, a1, a2, a3, a4⟩ := c_jp (m := m) (tr := a0) (strips := (z : Int) + 2) (last := L) (tp := tp) (ah := ah) hs (flC h) hr7 t0 t1 (by omega) (by omega) (by omega) (by omega) (fun s _ _ => by rw [etp]) hah hJ FU 0 0 0 0 m (-1, 0, 0) (Pk.refl m) hB (fun _ => rfl) (fun q => absurd rfl q) (by omega) (by omega) (by rw [FU_eq]; omega) R hR
  have fC : FL_planks a0 m = bE (Yard_joinPlanks_L40 a0 ((z : Int) + 2) L FU 0 0 0 (0 + L) m) fun x2 m4 => (if ¬ (w32 x2) = 0 then some (m4 39 4, st m4 0 0 0) else some (-1, st m4 0 0 6)) := by
    unfold FL_planks Yard_joinPlanks
    rw [iw (c64 (by rw [c0]; exact c0)) (by omega) (by omega) (by omega) (by omega), c0, if_pos (show 1 ≤ a0 ∧ a0 ≤ 9999 by omega), if_pos (by decide), ez, show (z : Int) + 3 - 1 = (z : Int) + 2 by omega, w32_id (x := (z : Int) + 2) (by omega) (by omega), if_neg (by omega), if_pos (by omega), show (z : Int) + 2 - 1 = (z : Int) + 1 by omega, hL, Int.zero_add]
    rfl
  have fM : ∀ mm : Mem, mm 76 = m 76 → Mo_planks a0 mm = if ¬ R.1 = -1 then some (R.2.1, st (st (st (st (st mm 75 47 R.1) 75 48 R.2.2) 75 49 R.2.1) 75 50 ((z : Int) + 2)) 75 1 0) else some (-1, st mm 75 1 6) := by
    intro mm k
    have ej : ∀ _ : Unit, J_max 0 ((z : Int) + 2) = (z : Int) + 2 := by intro _; unfold J_max; rw [w32_id (by omega) (by omega), w32_id (by omega) (by omega), if_pos (by omega)]
    have ej1 : ∀ _ : Unit, J_max 0 ((z : Int) + 2 - 1) = (z : Int) + 1 := by intro _; unfold J_max; rw [w32_id (by omega) (by omega), w32_id (by omega) (by omega), if_pos (by omega)]; omega
    have e76 : ∀ i, mm 76 i = m 76 i := fun i => by rw [k]
    have rb : w32 R.1 = R.1 := by
      rcases a2 with q | q
      · rw [q]; decide
      · exact w32_id (by omega) (by omega)
    unfold Mo_planks
    rw [iwM, iw (c64 (by rw [c0]; exact c0)) (by omega) (by omega) (by omega) (by omega), c0, if_pos (show 1 ≤ a0 ∧ a0 ≤ 9999 by omega), if_pos (by decide), e76, z1, ez, show (z : Int) + 3 - 1 = (z : Int) + 2 by omega, ej ()]
    have hj := m_jp (m := mm) (S := m 7 0) (W := m 7 1) (tr := a0) (strips := (z : Int) + 2) (last := L) (tp := tp) (ah := ah) hs (by rw [e76, z0]) (fun q hq => by rw [e76]; exact flMb h q hq) (by rw [e76]; omega) t0 t1 (by omega) (by omega) (by omega) (by omega) (by rw [ej1 ()]; exact hL) (fun s s0 s1 => by
      obtain ⟨y, ey, y1, y2⟩ := nt s s0 s1
      rw [etp]
      refine tpS_c (N := (z : Int) + 2) (fun k k0 k1 => ?_) (fun a k x0 k1 => ?_) (fun a k x0 k1 => ?_) _ _ _ _ _ (by omega) (by omega) (by omega)
      · obtain ⟨kk, ek⟩ : ∃ kk : Nat, k = (kk : Int) := ⟨k.toNat, by omega⟩
        have := pkC ⟨z, zl⟩ ⟨y, y2⟩ ⟨kk, by omega⟩ y1 (by show kk < z + 2; omega)
        rw [ey, ek, ← hL]; exact this
      · unfold okS
        rw [mtS_c (G := m 10) hs (fun q hq => by rw [e76]; exact flM h q hq) x0 (by omega), e76, z3]
      · rw [waS_c (G := m 10) hs (fun q hq => by rw [e76]; exact flM h q hq) x0 (by omega), e76, z3]) (fun s b s0 s1 x0 x1 => by
      obtain ⟨y, ey, y1, y2⟩ := nt s s0 s1
      obtain ⟨w, ew, w1, w2⟩ := nt b x0 x1
      rw [← hah s b s0 s1 x0 x1, ey, ew, ← hL, show ((z : Int) + 2 - 0).toNat = z + 2 by omega]
      exact pkB ⟨z, zl⟩ ⟨y, y2⟩ ⟨w, w2⟩ y1 w1) hJ (K := fun u62 u63 u64 => (if ¬ (w32 u62) = (-1) then some ((Mo_gives u63 (st (st (st (st mm 75 47 u62) 75 48 u64) 75 49 u63) 75 50 ((z : Int) + 2))).1, (Mo_gives u63 (st (st (st (st mm 75 47 u62) 75 48 u64) 75 49 u63) 75 50 ((z : Int) + 2))).2) else some ((Mo_refuse 6 mm).1, (Mo_refuse 6 mm).2))) FU 0 (-1, 0, 0) hB (by omega) (by omega) (by rw [FU_eq]; omega) R hR
    refine hj.trans ?_
    show (if ¬ (w32 R.1) = (-1) then _ else _) = _
    rw [rb]
    rfl
  by_cases g : R.1 = -1
  · refine Stq.mk (x := -1) (m1 := st ma 0 0 6) (y := -1) (m2 := st (st ma 0 0 6) 75 1 6) ?_ ?_ rfl ?_
    · rw [fC, a3 g, bE_some, if_neg (by decide)]
    · show Mo_planks a0 (st ma 0 0 6) = _
      rw [fM _ (by rw [st_ne _ _ _ (by decide), a1.1 76 (by decide)]), if_neg (not_not_intro g)]
    · have ag : Ag [0, 1] m ma := by
        intro c i q
        by_cases e : c = 39
        · subst e
          exact a1.2 i (fun z => q (by subst z; simp [comp])) (fun z => q (by subst z; simp [comp]))
        · rw [a1.1 c e]
      refine h.ans ((ag.st (by decide)).st (by decide)) (Rst_set h.1 (k := 6) rfl rfl ?_ ?_ ?_ ?_)
      · show ma 0 1 = m 0 1; rw [a1.1 0 (by decide)]
      · show ma 0 2 = m 0 2; rw [a1.1 0 (by decide)]
      · show ma 75 2 = m 75 2; rw [a1.1 75 (by decide)]
      · show ma 75 3 = m 75 3; rw [a1.1 75 (by decide)]
  · rcases a2 with y | ⟨y1, y2, y3, y4, y5, y6, y7⟩
    · exact absurd y g
    refine Stq.mk (x := R.2.1) (m1 := st (st (st (st ma 39 4 R.2.1) 39 5 R.2.2) 39 6 (R.1 + L)) 0 0 0) (y := R.2.1) (m2 := st (st (st (st (st (st (st (st (st ma 39 4 R.2.1) 39 5 R.2.2) 39 6 (R.1 + L)) 0 0 0) 75 47 R.1) 75 48 R.2.2) 75 49 R.2.1) 75 50 ((z : Int) + 2)) 75 1 0) ?_ ?_ rfl ?_
    · rw [fC, a4 g, bE_some, if_pos (by decide)]
      rfl
    · show Mo_planks a0 _ = _
      rw [fM _ (by rw [st_ne _ _ _ (by decide), st_ne _ _ _ (by decide), st_ne _ _ _ (by decide), st_ne _ _ _ (by decide), a1.1 76 (by decide)]), if_pos g]
    · have ag : Ag [0, 1, 10] m ma := by
        intro c i q
        by_cases e : c = 39
        · subst e
          exact a1.2 i (fun z => q (by subst z; simp [comp])) (fun z => q (by subst z; simp [comp]))
        · rw [a1.1 c e]
      refine h.yd (((((((((ag.st (by decide)).st (by decide)).st (by decide)).st (by decide)).st (by decide)).st (by decide)).st (by decide)).st (by decide)).st (by decide)) (Rst_set h.1 (k := 0) rfl rfl ?_ ?_ ?_ ?_) ?_
      · show ma 0 1 = m 0 1; rw [a1.1 0 (by decide)]
      · show ma 0 2 = m 0 2; rw [a1.1 0 (by decide)]
      · show ma 75 2 = m 75 2; rw [a1.1 75 (by decide)]
      · show ma 75 3 = m 75 3; rw [a1.1 75 (by decide)]
      · have r1 := h.2.2.2.2.2.2.2.2.2.1
        refine ⟨?_, Or.inr ?_⟩
        · show ((ma 39 3 = 0 ∧ ma 75 56 = -1) ∨ (1 ≤ ma 39 3 ∧ ma 39 3 ≤ 8 ∧ ma 75 56 = ma 39 3 ∧ ∀ k, 0 ≤ k → k < ma 39 3 → ma 97 k = ma 42 k))
          rw [a1.2 3 (by decide) (by decide), a1.1 75 (by decide), a1.1 97 (by decide), a1.1 42 (by decide)]
          exact r1
        · show 1 ≤ R.2.1 ∧ R.2.1 = R.2.1 ∧ R.2.2 = R.2.2 ∧ 2 ≤ (z : Int) + 2 ∧ (z : Int) + 2 ≤ 5 ∧ 0 ≤ R.1 ∧ R.1 < bShl 1 ((z : Int) + 2 - 1) ∧ R.1 + L = R.1 + bShl 1 ((z : Int) + 2 - 1) ∧ R.2.1 = J_bitCount (R.1 + L)
          rw [show (z : Int) + 2 - 1 = (z : Int) + 1 by omega, hL]
          exact ⟨y3, rfl, rfl, by omega, by omega, y1, y2, rfl, y7⟩
