/-! layer 2: the call slips -/
theorem gI_c {F G : Int → Int} {eye S W pt v : Int} (s : gSW S W) (e : ∀ q, Pt S W q → F q = G q) (hq : Pt S W pt) : gI F eye S W pt v = gI G eye S W pt v := by
  unfold gI gB
  rw [e pt hq, alU_c (F := upF F pt v) (G := upF G pt v) s (fun q hq' => by unfold upF; rw [e q hq'])]
theorem cpS_c {F G : Int → Int} {eye S W : Int} {kp : Int → Bool} (s : gSW S W) (e : ∀ q, Pt S W q → F q = G q) : cpS F eye S W kp = cpS G eye S W kp := by
  funext pt
  unfold cpS
  by_cases z : ptB S W pt = true
  · rw [suS_congr 1000 0 (fun x _ _ => gI_c s e (ptB_t.mp z))]
  · have z' : ptB S W pt = false := by simpa using z
    rw [z']; rfl
/-- behind slips of both sides -/
theorem Rel_sl {m ma mb : Mem} (h : Rel m) {x : Int} (hc : Cs m ma) (hb : Ms (st ma 0 0 x) mb) : Rel (st mb 75 1 x) := by
  have c0 : ∀ i, i ≠ 0 → mb 0 i = m 0 i := fun i hi => by rw [hb.1 0 (by decide), st_eq, if_neg hi, hc.1 0 (by decide) (by decide)]
  have c75 : ∀ i, i < 23 ∨ 28 < i → i ≠ 45 → i ≠ 46 → mb 75 i = m 75 i := fun i hi i1 i2 => by rw [hb.2 i hi i1 i2, st_ne _ _ _ (by decide), hc.1 75 (by decide) (by decide)]
  have ag : Ag [0, 1] m mb := by
    intro c i q
    by_cases e75 : c = 75
    · subst e75
      by_cases hi : (i < 23 ∨ 28 < i) ∧ i ≠ 45 ∧ i ≠ 46
      · exact c75 i hi.1 hi.2.1 hi.2.2
      · have : i = 23 ∨ i = 24 ∨ i = 25 ∨ i = 26 ∨ i = 27 ∨ i = 28 ∨ i = 45 ∨ i = 46 := by omega
        rcases this with z | z | z | z | z | z | z | z <;> subst z <;> exact absurd (by decide) q
    by_cases e0 : c = 0
    · subst e0
      exact c0 i (fun z => q (by subst z; decide))
    rw [hb.1 c e75, st_ne _ _ _ e0]
    by_cases e7 : c = 7
    · subst e7
      exact hc.2.1 i (fun z => q (by subst z; decide)) (fun z => q (by subst z; decide))
    by_cases e32 : c = 32
    · subst e32
      exact hc.2.2 i (fun z => q (by subst z; decide)) (fun z => q (by subst z; decide))
    rw [hc.1 c e7 e32]
  refine h.ans (ag.st (by decide)) (Rst_set h.1 (k := x) ?_ (by rw [st_eq, if_pos rfl]) ?_ ?_ ?_ ?_)
  · show mb 0 0 = x; rw [hb.1 0 (by decide), st_eq, if_pos rfl]
  · show mb 0 1 = m 0 1; exact c0 1 (by decide)
  · show mb 0 2 = m 0 2; exact c0 2 (by decide)
  · rw [st_eq, if_neg (by decide)]; exact c75 2 (by decide) (by decide) (by decide)
  · rw [st_eq, if_neg (by decide)]; exact c75 3 (by decide) (by decide) (by decide)
theorem hkM {m : Mem} (h : Rel m) : ∀ q, Pt (m 7 0) (m 7 1) q → m 76 (144 + q) = bI (decide (Sheet_isKept 7 q m = 1)) := fun q hq => by
  obtain ⟨-, -, -, -, hp⟩ := shF h
  rw [(hp q hq).2.2]; exact kp_is
theorem s_slips {m : Mem} (h : Rel m) : Stq w32 (FL_slips m) (fun m1 => Mo_slips m1) := by
  obtain ⟨⟨z0, z1, -, -, z4, -⟩, hs, hv, -, -⟩ := shF h
  have ey := eyC h
  obtain ⟨ma, a1, a2, -⟩ := c_cs5 (m := m) (kp := fun q => decide (Sheet_isKept 7 q m = 1)) (k := -1) hs (flC h) ey.1 ey.2 (fun q _ => kp_is) (by omega) (by omega) FU 0 0 m (Cs.refl m) (by omega) (by omega) (by omega) (by omega) (Or.inl rfl) (by rw [FU_eq]; omega)
  have k76 : st ma 0 0 0 76 = m 76 := by rw [st_ne _ _ _ (by decide), a1.1 76 (by decide) (by decide)]
  obtain ⟨mb, b1, b2, -⟩ := m_sl4 (m := st ma 0 0 0) (S := m 7 0) (W := m 7 1) (kp := fun q => decide (Sheet_isKept 7 q m = 1)) (k := -1) hs (by rw [k76]; exact z0) (by rw [k76]; exact z1) (by rw [k76]; exact flMb h) (by rw [k76]; omega) (by rw [k76]; exact hkM h) (by omega) (by omega) FU 0 0 (st ma 0 0 0) ⟨fun _ _ => rfl, fun _ _ _ _ => rfl⟩ (by omega) (by omega) (by omega) (by omega) (Or.inl rfl) (by rw [FU_eq]; omega)
  have ec : cpS (fun q => st ma 0 0 0 76 (80 + q)) (st ma 0 0 0 76 4) (m 7 0) (m 7 1) (fun q => decide (Sheet_isKept 7 q m = 1)) = cpS (m 10) (m 7 4) (m 7 0) (m 7 1) (fun q => decide (Sheet_isKept 7 q m = 1)) := by
    rw [k76, z4]; exact cpS_c hs (flM h)
  have b2' := b2 rfl
  rw [ec] at b2'
  have esum : suS (cpS (m 10) (m 7 4) (m 7 0) (m 7 1) (fun q => decide (Sheet_isKept 7 q m = 1))) (8 * m 7 0 - 0).toNat 0 = suS (cpS (m 10) (m 7 4) (m 7 0) (m 7 1) (fun q => decide (Sheet_isKept 7 q m = 1))) (64 - 0 : Int).toNat 0 := by
    obtain ⟨A, eA⟩ : ∃ A : Nat, 8 * m 7 0 = (A : Int) := ⟨(8 * m 7 0).toNat, by omega⟩
    have e1 : (8 * m 7 0 - 0).toNat = A := by omega
    have e2 : (64 - 0 : Int).toNat = A + (64 - A) := by omega
    rw [e1, e2, suS_add, suS_z (64 - A) _ (fun y y0 y1 => by
      unfold cpS
      rw [ptB_f.mpr (fun z => by unfold Pt at z; omega)]; rfl), Int.add_zero]
  refine Stq.mk (x := 0 + suS (cpS (m 10) (m 7 4) (m 7 0) (m 7 1) (fun q => decide (Sheet_isKept 7 q m = 1))) (64 - 0 : Int).toNat 0) (m1 := st ma 0 0 0) (y := 0 + suS (cpS (m 10) (m 7 4) (m 7 0) (m 7 1) (fun q => decide (Sheet_isKept 7 q m = 1))) (64 - 0 : Int).toNat 0) (m2 := st mb 75 1 0) ?_ ?_ rfl (Rel_sl h a1 b1)
  · unfold FL_slips Mender_countSlips
    rw [a2 rfl, bE_some]; rfl
  · show Mo_slips (st ma 0 0 0) = _
    unfold Mo_slips Mo_slipsTo
    rw [b2', bE_some, esum]; rfl
