/-! layer 2: lath -/
theorem Ag_lath {m m2 : Mem} (e : ∀ c, c ≠ 0 → c ≠ 30 → c ≠ 31 → c ≠ 75 → c ≠ 84 → c ≠ 85 → c ≠ 86 → c ≠ 87 → m2 c = m c) (e0 : ∀ i, i ≠ 0 → i ≠ 1 → i ≠ 2 → m2 0 i = m 0 i) (e75 : ∀ i, i ≠ 1 → i ≠ 2 → i ≠ 3 → i ≠ 23 → i ≠ 24 → i ≠ 25 → i ≠ 33 → m2 75 i = m 75 i) : Ag [0, 1] m m2 := by
  intro c i q
  by_cases h0 : c = 0
  · subst h0
    exact e0 i (fun z => q (by subst z; decide)) (fun z => q (by subst z; decide)) (fun z => q (by subst z; decide))
  · by_cases h75 : c = 75
    · subst h75
      exact e75 i (fun z => q (by subst z; decide)) (fun z => q (by subst z; decide)) (fun z => q (by subst z; decide)) (fun z => q (by subst z; decide)) (fun z => q (by subst z; decide)) (fun z => q (by subst z; decide)) (fun z => q (by subst z; decide))
    · have n : ∀ k : Nat, (∀ j, comp k j ∈ [0, 1]) → c ≠ k := fun k hk z => q (by subst z; exact hk i)
      rw [e c h0 (n 30 (fun j => by show 0 ∈ _; decide)) (n 31 (fun j => by show 0 ∈ _; decide)) h75 (n 84 (fun j => by show 0 ∈ _; decide)) (n 85 (fun j => by show 0 ∈ _; decide)) (n 86 (fun j => by show 0 ∈ _; decide)) (n 87 (fun j => by show 0 ∈ _; decide))]
theorem gd_m {b bf : Int} (b0 : 0 ≤ b) (f0 : 0 < bf) : gdS (b * bf) bf = bf := by
  have h : 0 ≤ b * bf := Int.mul_nonneg b0 (by omega)
  unfold gdS
  rw [show iab (b * bf) = b * bf by unfold iab; rw [if_pos h], show iab bf = bf by unfold iab; rw [if_pos (by omega)], show (200 : Nat) = 199 + 1 from rfl, gcS_s, if_neg (by omega), Int.mul_emod_left, gcS_z]
theorem c_ducks {m : Mem} {v l : Int} {P M : Nat} (hP : P ≤ 8) (eM : M = 2 ^ P) (hM : M ≤ 256) (hs : gSW (m 7 0) (m 7 1)) (hl : isLn (m 7 0) (m 7 1) v l) (eP : plS (m 7 0) (m 7 1) v l = (P : Int)) {d : Int} (cd : w32 d = d) : Sheet_hasDucks 7 v l d m = if 0 ≤ d ∧ d < (M : Int) then 1 else 0 := by
  have eSh : bShl 1 (P : Int) = (M : Int) := by rw [shlN (by omega), eM]
  clear eM
  unfold Sheet_hasDucks
  rw [c_hasLineT hs hl, if_neg (by omega), cd, c_places hs hl, eP, eSh, w32_id (x := (M : Int)) (by omega) (by omega)]
  by_cases h1 : d < 0
  · rw [if_pos h1, if_neg (by omega)]
  · rw [if_neg h1]
    by_cases h2 : (M : Int) ≤ d
    · rw [if_pos h2, if_neg (by omega)]
    · rw [if_neg h2, if_pos (by omega)]
theorem s_lath {m : Mem} (h : Rel m) {a0 a1 a2 a3 : Int} (c0 : w32 a0 = a0) (c1 : w32 a1 = a1) (c2 : w32 a2 = a2) (c3 : w32 a3 = a3) : Stq w32 (FL_lath a0 a1 a2 a3 m) (fun m1 => Mo_lath a0 a1 a2 a3 m1) := by
  obtain ⟨⟨z0, z1, z2, z3, z4, z5, z6⟩, hs, hr, hv, hp⟩ := shF h
  by_cases g : isLn (m 7 0) (m 7 1) a0 a1 ∧ 0 ≤ a3 ∧ a3 < plS (m 7 0) (m 7 1) a0 a1
  · obtain ⟨gl, g0, g1⟩ := g
    have gp := plS_le hs gl
    have e1 := c_hasPlT hs gl g0 g1
    have e4 : ∀ k, Mo_isPlace a0 a1 a3 (st m 0 0 k) = _ := fun k => m_isPlT hs z0 z1 gl g0 g1
    obtain ⟨P, eP⟩ : ∃ P : Nat, plS (m 7 0) (m 7 1) a0 a1 = (P : Int) := ⟨(plS (m 7 0) (m 7 1) a0 a1).toNat, by omega⟩
    have hP : P ≤ 8 := by omega
    have hP1 : 1 ≤ P := by omega
    obtain ⟨M, eM⟩ : ∃ M : Nat, M = 2 ^ P := ⟨_, rfl⟩
    have hM : M ≤ 256 := by rw [eM]; exact (dtE ⟨P, by omega⟩).2.1
    have e2 := c_ducks hP eM hM hs gl eP c2
    have eSh : bShl 1 (P : Int) = (M : Int) := by rw [shlN (by omega), eM]
    have hin : ∀ D : Nat, D < M → D < 2 ^ P := fun D hD => by rw [← eM]; exact hD
    clear eM
    have eSw : w32 (M : Int) = (M : Int) := w32_id (by omega) (by omega)
    by_cases gd : 0 ≤ a2 ∧ a2 < (M : Int)
    · rw [if_pos gd] at e2
      obtain ⟨D, eD⟩ : ∃ D : Nat, a2 = (D : Int) := ⟨a2.toNat, by omega⟩
      subst eD
      have hDM : D < M := Int.ofNat_lt.mp gd.2
      have hD : D < 256 := Nat.lt_of_lt_of_le hDM hM
      have hDP : D < 2 ^ P := hin D hDM
      obtain ⟨p, ep⟩ : ∃ p : Nat, a3 = (p : Int) := ⟨a3.toNat, by omega⟩
      subst ep
      have hpP : p < P := by omega
      have ebc : J_bitCount (D : Int) = (pcN 10 D : Int) := rbC ⟨D, by omega⟩
      have epc := frPC ⟨P, by omega⟩ ⟨D, hD⟩ hDP
      simp only at epc
      have ele : (fmN P D).length = (frN D P 0).length := rfl
      -- what the line is
      have hb : ∀ d : Nat, d < P → (0 ≤ fsS (m 7 0) a0 a1 + srS a0 * (d : Int) ∧ fsS (m 7 0) a0 a1 + srS a0 * (d : Int) < 64) ∧ m 76 (80 + (fsS (m 7 0) a0 a1 + srS a0 * (d : Int))) = m 10 (fsS (m 7 0) a0 a1 + srS a0 * (d : Int)) ∧ 0 ≤ m 10 (fsS (m 7 0) a0 a1 + srS a0 * (d : Int)) ∧ m 10 (fsS (m 7 0) a0 a1 + srS a0 * (d : Int)) ≤ 999 := fun d hd => by
        have q1 := pt_in hs gl (p := (d : Int)) (by omega) (by omega)
        exact ⟨pt64 hs q1, flM h _ q1, flC h _ q1⟩
      generalize hbd : (fun d : Nat => m 10 (fsS (m 7 0) a0 a1 + srS a0 * (d : Int))) = b at *
      have hb10 : ∀ d : Nat, d < P → m 10 (fsS (m 7 0) a0 a1 + srS a0 * (d : Int)) = b d := fun d _ => by rw [← hbd]
      have hLn : ∀ mm : Mem, mm 76 = m 76 → LnR P b (fsS (m 7 0) a0 a1) (srS a0) (tk mm (fsS (m 7 0) a0 a1) (srS a0) (plS (m 7 0) (m 7 1) a0 a1)) := fun mm e76 => by
        refine ⟨rfl, rfl, eP, fun d hd => ?_⟩
        rw [tk_96 _ _ _ _ (by decide), e76, ← hb10 d hd]
        exact hb d hd
      by_cases g2 : 2 ≤ pcN 10 D
      · obtain ⟨bf, L, k1, k2, k3, k4, k5, k6⟩ := ck_use hP1 hP hDP g2 b
        obtain ⟨ma, j1, j2, j3, j4, j5, j6⟩ := c_lay (P := P) (D := D) (v := a0) (l := a1) (b := b) hP hD hs gl eP (fun d hd => by rw [← hb10 d hd]; exact (hb d hd).2.2) hb10 k1
        have hvb := vl_b (b := b) (c := P) hP j5 (fun d hd => by rw [← hb10 d hd]; exact (hb d hd).2.2) hpP (Nat.le_refl P)
        unfold vlN at hvb
        rw [if_neg (by omega), ← j6 p hpP] at hvb
        have et : Lath_topAt (p : Int) ma = ma 31 (9 * (p : Int) + P) := by unfold Lath_topAt; rw [j3, c_cell (by omega) (by omega)]
        have eT := c_tell (m := ma) (a := ma 31 (9 * (p : Int) + P)) (b := bf) (by omega) (by omega) k2 (by omega)
        generalize hT : ma 31 (9 * (p : Int) + P) = T at *
        have eF : FL_lath a0 a1 (D : Int) (p : Int) m = some (1, st (st (st ma 0 1 (Int.tdiv T (gdS T bf))) 0 2 (Int.tdiv bf (gdS T bf))) 0 0 0) := by
          unfold FL_lath
          rw [e1, if_neg (by omega), e2, if_pos (by omega), ebc, w32_id (x := (pcN 10 D : Int)) (by omega) (by omega), if_pos (by omega), j1, bV_some, et, j4, eT, bE_some]
          rfl
        generalize hm1 : st (st (st ma 0 1 (Int.tdiv T (gdS T bf))) 0 2 (Int.tdiv bf (gdS T bf))) 0 0 0 = m1 at eF
        have f1 : ∀ c, c ≠ 0 → c ≠ 30 → c ≠ 31 → m1 c = m c := fun c h1 h2 h3 => by rw [← hm1, st_ne _ _ _ h1, st_ne _ _ _ h1, st_ne _ _ _ h1, j2 c h2 h3]
        have f0 : ∀ i, i ≠ 0 → i ≠ 1 → i ≠ 2 → m1 0 i = m 0 i := fun i h1 h2 h3 => by rw [← hm1, st_eq, if_neg h1, st_eq, if_neg h3, st_eq, if_neg h2, j2 0 (by decide) (by decide)]
        have f00 : m1 0 0 = 0 := by rw [← hm1, st_eq, if_pos rfl]
        have f01 : m1 0 1 = Int.tdiv T (gdS T bf) := by rw [← hm1, st_eq, if_neg (by decide), st_eq, if_neg (by decide), st_eq, if_pos rfl]
        have f02 : m1 0 2 = Int.tdiv bf (gdS T bf) := by rw [← hm1, st_eq, if_neg (by decide), st_eq, if_pos rfl]
        clear hm1
        have e76 : m1 76 = m 76 := f1 76 (by decide) (by decide) (by decide)
        have ePl : Mo_isPlace a0 a1 (p : Int) m1 = (1, tk m1 (fsS (m 7 0) a0 a1) (srS a0) (plS (m 7 0) (m 7 1) a0 a1)) := m_isPlT hs (by rw [e76]; exact z0) (by rw [e76]; exact z1) gl g0 g1
        obtain ⟨mb, b1, b2, b3⟩ := m_laid (P := P) (D := D) (pl := p) hP hD hpP (hLn m1 e76)
        have tk75 : ∀ i, i ≠ 23 → i ≠ 24 → i ≠ 25 → tk m1 (fsS (m 7 0) a0 a1) (srS a0) (plS (m 7 0) (m 7 1) a0 a1) 75 i = m1 75 i := fun i h1 h2 h3 => by
          unfold tk; rw [st_eq, if_neg h3, st_eq, if_neg h2, st_eq, if_neg h1]
        have fin : ∀ (mc : Mem) (t b' : Int), La mb mc → t = Int.tdiv T (gdS T bf) → b' = Int.tdiv bf (gdS T bf) → Rel (st (st (st mc 75 2 t) 75 3 b') 75 1 0) := by
          intro mc t b' hla ht hb'
          refine h.ans (Ag_lath (fun c n0 n30 n31 n75 n84 n85 n86 n87 => ?_) (fun i i0 i1 i2 => ?_) (fun i i1 i2 i3 i23 i24 i25 i33 => ?_)) ?_
          · rw [st_ne _ _ _ n75, st_ne _ _ _ n75, st_ne _ _ _ n75, hla.1 c n75 n84 n85 n86 n87, b2.1 c n75 n84 n85 n86 n87, tk_96 _ _ _ _ n75, f1 c n0 n30 n31]
          · rw [st_ne _ _ _ (by decide), st_ne _ _ _ (by decide), st_ne _ _ _ (by decide), hla.1 0 (by decide) (by decide) (by decide) (by decide) (by decide), b2.1 0 (by decide) (by decide) (by decide) (by decide) (by decide), tk_96 _ _ _ _ (by decide), f0 i i0 i1 i2]
          · rw [st_eq, if_neg i1, st_eq, if_neg i3, st_eq, if_neg i2, hla.2 i i33, b2.2 i i33, tk75 i i23 i24 i25, f1 75 (by decide) (by decide) (by decide)]
          · have e0 : mc 0 = m1 0 := by rw [hla.1 0 (by decide) (by decide) (by decide) (by decide) (by decide), b2.1 0 (by decide) (by decide) (by decide) (by decide) (by decide), tk_96 _ _ _ _ (by decide)]
            refine ⟨?_, ?_, ?_⟩
            · rw [st_ne _ _ _ (by decide), st_ne _ _ _ (by decide), st_ne _ _ _ (by decide), e0, f00, st_eq, if_pos rfl]
            · rw [st_ne _ _ _ (by decide), st_ne _ _ _ (by decide), st_ne _ _ _ (by decide), e0, f01, st_eq, if_neg (by decide), st_eq, if_neg (by decide), st_eq, if_pos rfl, ht]
            · rw [st_ne _ _ _ (by decide), st_ne _ _ _ (by decide), st_ne _ _ _ (by decide), e0, f02, st_eq, if_neg (by decide), st_eq, if_pos rfl, hb']
        have eM0 : ∀ (R : Option (Int × Mem)), (bE (Mo_laid (D : Int) (p : Int) (tk m1 (fsS (m 7 0) a0 a1) (srS a0) (plS (m 7 0) (m 7 1) a0 a1))) fun x4 m6 => (if 2 ≤ (w32 ((m6 75 25) - (m6 75 33))) then (if ¬ (w32 x4) = (-1) then (bE (Mo_determinant x4 m6) fun x10 m12 => (bE (Mo_determinant (-1) m12) fun x13 m15 => (bE (Mo_tells x10 x13 m15) fun x16 m18 => some ((x16 % 2), m18)))) else (bP (Mo_breadth (p : Int) m6) fun x19 => (bE (Mo_tells (w32 x19) 1 m6) fun x21 m23 => some ((x21 % 2), m23)))) else some (((Mo_is 6 m6).1 % 2), (Mo_is 6 m6).2))) = R → Mo_lath a0 a1 (D : Int) (p : Int) m1 = R := by
          intro R hR
          unfold Mo_lath
          rw [ePl]
          show (if w32 1 = 0 then _ else _) = R
          rw [show w32 1 = 1 from rfl, if_neg (by decide), c2, if_neg (by omega)]
          show (if (D : Int) < w32 (bShl 1 (plS (m 7 0) (m 7 1) a0 a1)) then _ else _) = R
          rw [eP, eSh, eSw, if_pos gd.2]
          rw [eP] at hR
          exact hR
        have e25 : mb 75 25 = (P : Int) := by rw [b2.2 25 (by decide)]; exact eP
        have e33 : mb 75 33 = ((frN D P 0).length : Int) := b3.1
        by_cases gz : Fz D p
        · rw [if_pos (fzB_t.mpr gz)] at b1
          have hlt := frN_sub D hpP gz
          obtain ⟨mc, d1, d2⟩ := m_det (P := P) (D := D) (col := (frN D p 0).length) (v1 := ((frN D p 0).length : Int)) hP b3 ⟨w32_id (by omega) (by omega), fun c _ => by omega⟩
          have hl2 : LdR P D b mc := ⟨by rw [d2 _ (by decide)]; exact b3.1, by rw [d2 _ (by decide)]; exact b3.2.1, by rw [d2 _ (by decide)]; exact b3.2.2⟩
          obtain ⟨md, x1, x2⟩ := m_det (P := P) (D := D) (col := 100) (v1 := -1) hP hl2 ⟨rfl, fun c hc => by rw [ele] at hc; omega⟩
          rw [k4] at x1
          have ek6 := k6 p hpP gz
          rw [← j6 p hpP, hT] at ek6
          rw [← ek6] at d1
          have eMt := m_tell (m := md) (a := T) (b := bf) (by omega) (by omega) k2 (by omega)
          refine Stq.mk (x := 1) (m1 := m1) (y := 1) (m2 := st (st (st md 75 2 (Int.tdiv T (gdS T bf))) 75 3 (Int.tdiv bf (gdS T bf))) 75 1 0) eF ?_ rfl (fin md _ _ ((La.refl mb).ch (fun c _ _ h86 _ => by rw [x2 c h86, d2 c h86])) rfl rfl)
          refine eM0 _ ?_
          rw [b1, bE_some, e25, e33, w32_id (x := (P : Int) - ((frN D P 0).length : Int)) (by omega) (by omega), if_pos (by omega), w32_id (x := ((frN D p 0).length : Int)) (by omega) (by omega), if_pos (by omega), d1, bE_some, x1, bE_some, eMt, bE_some]
          rfl
        · rw [if_neg (fun y => gz (fzB_t.mp y))] at b1
          have ek5 := k5 p hpP gz
          rw [← j6 p hpP, hT] at ek5
          have hbp := hb p hpP
          rw [hb10 p hpP] at hbp
          have eg := gd_m hbp.2.2.1 k2
          have eg1 := gd_m (b := b p) (bf := 1) hbp.2.2.1 (by omega)
          rw [Int.mul_one] at eg1
          have eMt := m_tell (m := mb) (a := b p) (b := 1) (by omega) (by omega) (by omega) (by omega)
          rw [eg1] at eMt
          have ebr : Mo_breadth (p : Int) mb = some (b p) := by
            have q := (hLn m1 e76).la b2
            rw [m_breadth q.1 q.2.1 hbp.1.1 hbp.1.2, (q.2.2.2 p hpP).2.1]
          refine Stq.mk (x := 1) (m1 := m1) (y := 1) (m2 := st (st (st mb 75 2 (Int.tdiv (b p) 1)) 75 3 (Int.tdiv 1 1)) 75 1 0) eF ?_ rfl (fin mb _ _ (La.refl mb) (by rw [ek5, eg, Int.mul_tdiv_cancel _ (by omega), Int.tdiv_one]) (by rw [ek5, eg, Int.tdiv_self (show bf ≠ 0 by omega), Int.tdiv_one]))
          refine eM0 _ ?_
          rw [b1, bE_some, e25, e33, w32_id (x := (P : Int) - ((frN D P 0).length : Int)) (by omega) (by omega), if_pos (by omega), show w32 (-1) = -1 from rfl, if_neg (by decide), ebr, bP_some, w32_id (x := b p) (by omega) (by omega), eMt, bE_some]
          rfl
      · have eF : FL_lath a0 a1 (D : Int) (p : Int) m = some (0, st m 0 0 6) := by
          unfold FL_lath
          rw [e1, if_neg (by omega), e2, if_pos (by omega), ebc, w32_id (x := (pcN 10 D : Int)) (by omega) (by omega), if_neg (by omega)]
          rfl
        obtain ⟨mb, b1, b2, b3⟩ := m_laid (P := P) (D := D) (pl := p) hP hD hpP (hLn (st m 0 0 6) (st_ne _ _ _ (by decide)))
        have e25 : mb 75 25 = (P : Int) := by rw [b2.2 25 (by decide)]; exact eP
        have e33 : mb 75 33 = ((frN D P 0).length : Int) := b3.1
        refine Stq.mk (x := 0) (m1 := st m 0 0 6) (y := 0) (m2 := st mb 75 1 6) eF ?_ rfl ?_
        · show Mo_lath a0 a1 (D : Int) (p : Int) (st m 0 0 6) = _
          unfold Mo_lath
          rw [e4 6]
          show (if w32 1 = 0 then _ else _) = _
          rw [show w32 1 = 1 from rfl, if_neg (by decide), c2, if_neg (by omega)]
          show (if (D : Int) < w32 (bShl 1 (plS (m 7 0) (m 7 1) a0 a1)) then _ else _) = _
          rw [eP, eSh, eSw, if_pos gd.2]
          rw [eP] at b1
          rw [b1, bE_some, e25, e33, w32_id (x := (P : Int) - ((frN D P 0).length : Int)) (by omega) (by omega), if_neg (by omega)]
          rfl
        · refine h.ans (Ag_lath (fun c n0 n30 n31 n75 n84 n85 n86 n87 => ?_) (fun i i0 i1 i2 => ?_) (fun i i1 i2 i3 i23 i24 i25 i33 => ?_)) ?_
          · rw [st_ne _ _ _ n75, b2.1 c n75 n84 n85 n86 n87, tk_96 _ _ _ _ n75, st_ne _ _ _ n0]
          · rw [st_ne _ _ _ (by decide), b2.1 0 (by decide) (by decide) (by decide) (by decide) (by decide), tk_96 _ _ _ _ (by decide), st_eq, if_neg i0]
          · rw [st_eq, if_neg i1, b2.2 i i33]
            unfold tk
            rw [st_eq, if_neg i25, st_eq, if_neg i24, st_eq, if_neg i23, st_ne _ _ _ (by decide)]
          · have e0 : ∀ i, mb 0 i = st m 0 0 6 0 i := fun i => by rw [b2.1 0 (by decide) (by decide) (by decide) (by decide) (by decide), tk_96 _ _ _ _ (by decide)]
            have e7 : ∀ i, i ≠ 33 → i ≠ 23 → i ≠ 24 → i ≠ 25 → mb 75 i = m 75 i := fun i h1 h2 h3 h4 => by
              rw [b2.2 i h1]; unfold tk; rw [st_eq, if_neg h4, st_eq, if_neg h3, st_eq, if_neg h2, st_ne _ _ _ (by decide)]
            refine Rst_set h.1 (k := 6) ?_ ?_ ?_ ?_ ?_ ?_
            · rw [st_ne _ _ _ (by decide), e0]; rfl
            · rfl
            · rw [st_ne _ _ _ (by decide), e0]; rfl
            · rw [st_ne _ _ _ (by decide), e0]; rfl
            · rw [st_eq, if_neg (by decide), e7 _ (by decide) (by decide) (by decide) (by decide)]
            · rw [st_eq, if_neg (by decide), e7 _ (by decide) (by decide) (by decide) (by decide)]
    · rw [if_neg gd] at e2
      refine Stq.mk (x := 0) (m1 := st m 0 0 1) (y := 0) (m2 := st (tk (st m 0 0 1) (fsS (m 7 0) a0 a1) (srS a0) (plS (m 7 0) (m 7 1) a0 a1)) 75 1 1) ?_ ?_ rfl (h.tk _ _ _ _)
      · unfold FL_lath
        rw [e1, if_neg (by omega), e2, if_neg (by omega)]
        rfl
      · show Mo_lath a0 a1 a2 a3 (st m 0 0 1) = _
        unfold Mo_lath
        rw [e4 1]
        show (if w32 1 = 0 then _ else _) = _
        rw [show w32 1 = 1 from rfl, if_neg (by decide), c2]
        by_cases y : a2 < 0
        · rw [if_pos y]; rfl
        · rw [if_neg y]
          show (if a2 < w32 (bShl 1 (plS (m 7 0) (m 7 1) a0 a1)) then _ else _) = _
          rw [eP, eSh, eSw, if_neg (fun z => gd ⟨Int.not_lt.mp y, z⟩)]
          rfl
  · have e1 := c_hasPlF hs c0 c1 c3 g
    rcases m_isPlF (m := st m 0 0 1) hs z0 z1 c0 c1 c3 g with ⟨gl, e4⟩ | e4
    · refine Stq.mk (x := 0) (m1 := st m 0 0 1) (y := 0) (m2 := st (tk (st m 0 0 1) (fsS (m 7 0) a0 a1) (srS a0) (plS (m 7 0) (m 7 1) a0 a1)) 75 1 1) ?_ ?_ rfl (h.tk _ _ _ _)
      · unfold FL_lath
        rw [e1, if_pos rfl]
        rfl
      · show Mo_lath a0 a1 a2 a3 (st m 0 0 1) = _
        unfold Mo_lath
        rw [e4]
        show (if w32 0 = 0 then _ else _) = _
        rw [if_pos (show w32 0 = 0 from rfl)]
        rfl
    · refine Stq.mk (x := 0) (m1 := st m 0 0 1) (y := 0) (m2 := st (st m 0 0 1) 75 1 1) ?_ ?_ rfl (h.stat 1)
      · unfold FL_lath
        rw [e1, if_pos rfl]
        rfl
      · show Mo_lath a0 a1 a2 a3 (st m 0 0 1) = _
        unfold Mo_lath
        rw [e4]
        show (if w32 0 = 0 then _ else _) = _
        rw [if_pos (show w32 0 = 0 from rfl)]
        rfl
