/-! layer 2: feed -/
theorem w8_mod (x : Int) : w8 x % 256 = x % 256 := by
  unfold w8; rw [Int.bmod_def]; split <;> omega
theorem amtU : ∀ k : Fin 32, ((Int32.ofInt (k.val : Int)).toUInt32 &&& Int32.toUInt32 31).toBitVec.toNat % 32 = k.val := by decide +kernel
theorem bUshr_mod (v : Int) (k : Nat) (hk : k < 32) : bUshr v (k : Int) % 256 = ((v % 4294967296) / ((2 ^ k : Nat) : Int)) % 256 := by
  unfold bUshr
  have e1 : ∀ u : UInt32, u.toInt32.toInt % 256 = (u.toBitVec.toNat : Int) % 256 := by
    intro u
    show (u.toBitVec.toInt) % 256 = _
    rw [BitVec.toInt_eq_toNat_bmod, Int.bmod_def]
    have := u.toBitVec.isLt
    split <;> omega
  rw [e1]
  have e2 : ((Int32.ofInt v).toUInt32 >>> ((Int32.ofInt (k : Int)).toUInt32 &&& Int32.toUInt32 31)).toBitVec.toNat = (v % 4294967296).toNat / 2 ^ k := by
    show (((Int32.ofInt v).toUInt32.toBitVec) >>> (((Int32.ofInt (k : Int)).toUInt32 &&& Int32.toUInt32 31).toBitVec % 32)).toNat = _
    rw [BitVec.ushiftRight_eq', BitVec.toNat_ushiftRight, BitVec.toNat_umod, Nat.shiftRight_eq_div_pow]
    have := amtU ⟨k, hk⟩
    have e32 : (32 : BitVec 32).toNat = 32 := by decide
    rw [e32, this]
    show (BitVec.ofInt 32 v).toNat / 2 ^ k = _
    rw [BitVec.toNat_ofInt]
    rfl
  rw [e2, Int.natCast_ediv, Int.toNat_of_nonneg (Int.emod_nonneg _ (by decide))]
def cb (v : Int) : List Int := [bAnd (bUshr v 24) 255, bAnd (bUshr v 16) 255, bAnd (bUshr v 8) 255, bAnd (bUshr v 0) 255]
def mb (v : Int) : List Int := [w8 (w8 (bShr v 24)), w8 (w8 (bShr v 16)), w8 (w8 (bShr v 8)), w8 (w8 (bShr v 0))]
theorem cb_mb {v : Int} (hv : w32 v = v) : cb v = (mb v).map (fun x => bAnd x 255) := by
  have h1 : bAnd (bUshr v 24) 255 = bAnd (w8 (w8 (bShr v 24))) 255 := by
    have u : bUshr v 24 % 256 = _ := bUshr_mod v 24 (by decide)
    have s : bShr v 24 = _ := bShr_eq v 24 (by decide)
    rw [bAnd_255, bAnd_255, w8_mod, w8_mod, u, s, hv]
    simp only [Nat.reducePow]; omega
  have h2 : bAnd (bUshr v 16) 255 = bAnd (w8 (w8 (bShr v 16))) 255 := by
    have u : bUshr v 16 % 256 = _ := bUshr_mod v 16 (by decide)
    have s : bShr v 16 = _ := bShr_eq v 16 (by decide)
    rw [bAnd_255, bAnd_255, w8_mod, w8_mod, u, s, hv]
    simp only [Nat.reducePow]; omega
  have h3 : bAnd (bUshr v 8) 255 = bAnd (w8 (w8 (bShr v 8))) 255 := by
    have u : bUshr v 8 % 256 = _ := bUshr_mod v 8 (by decide)
    have s : bShr v 8 = _ := bShr_eq v 8 (by decide)
    rw [bAnd_255, bAnd_255, w8_mod, w8_mod, u, s, hv]
    simp only [Nat.reducePow]; omega
  have h4 : bAnd (bUshr v 0) 255 = bAnd (w8 (w8 (bShr v 0))) 255 := by
    have u := bUshr_mod v 0 (by decide)
    have s := bShr_eq v 0 (by decide)
    simp only [Int.natCast_zero] at u s
    rw [bAnd_255, bAnd_255, w8_mod, w8_mod, u, s, hv]
    simp only [Nat.reducePow]; omega
  unfold cb mb
  simp only [List.map_cons, List.map_nil, h1, h2, h3, h4]
def ap (c d : Nat) (j : Int) (m : Mem) (b : Int) : Mem := st (st m c (m d j) b) d j (m d j + 1)
def apL (c d : Nat) (j : Int) : List Int → Mem → Mem
  | [], m => m
  | b :: bs, m => apL c d j bs (ap c d j m b)
theorem apL_app (c d : Nat) (j : Int) : ∀ (a b : List Int) (m : Mem), apL c d j b (apL c d j a m) = apL c d j (a ++ b) m
  | [], _, _ => rfl
  | x :: a, b, m => apL_app c d j a b (ap c d j m x)
theorem ap_sz {c d : Nat} {j : Int} (m : Mem) (b : Int) : ap c d j m b d j = m d j + 1 := by unfold ap; rw [st_eq, if_pos rfl]
theorem apL_sp {c d : Nat} {j : Int} (hcd : c ≠ d) : ∀ (bs : List Int) (m : Mem), apL c d j bs m d j = m d j + bs.length ∧ (∀ i, i ≠ j → apL c d j bs m d i = m d i) ∧ (∀ i, apL c d j bs m c i = if m d j ≤ i ∧ i < m d j + bs.length then bs.getD (i - m d j).toNat 0 else m c i) ∧ (∀ x, x ≠ c → x ≠ d → apL c d j bs m x = m x)
  | [], m => by
    refine ⟨by simp [apL], fun _ _ => rfl, fun i => ?_, fun _ _ _ => rfl⟩
    rw [if_neg (by simp)]; rfl
  | b :: bs, m => by
    obtain ⟨h1, h2, h3, h4⟩ := apL_sp (j := j) hcd bs (ap c d j m b)
    have k : ap c d j m b d j = m d j + 1 := ap_sz m b
    refine ⟨?_, fun i hi => ?_, fun i => ?_, fun x hx hy => ?_⟩
    · show apL c d j bs (ap c d j m b) d j = _
      rw [h1, k, List.length_cons]; omega
    · show apL c d j bs (ap c d j m b) d i = _
      rw [h2 i hi]; unfold ap; rw [st_eq, if_neg hi, st_ne _ _ _ (Ne.symm hcd)]
    · show apL c d j bs (ap c d j m b) c i = _
      rw [h3, k, List.length_cons]
      have ec : ap c d j m b c i = if i = m d j then b else m c i := by unfold ap; rw [st_ne _ _ _ hcd, st_eq]
      by_cases z : i = m d j
      · subst z
        rw [if_neg (by omega), ec, if_pos rfl, if_pos (by omega), Int.sub_self]; rfl
      · by_cases z2 : m d j + 1 ≤ i ∧ i < m d j + 1 + bs.length
        · rw [if_pos z2, if_pos (by omega), show (i - m d j).toNat = (i - (m d j + 1)).toNat + 1 by omega]
          rfl
        · rw [if_neg z2, ec, if_neg z, if_neg (by omega)]
    · show apL c d j bs (ap c d j m b) x = _
      rw [h4 x hx hy]; unfold ap; rw [st_ne _ _ _ hy, st_ne _ _ _ hx]
theorem c_step {v v2 : Int} {n : Nat} {m : Mem} (s0 : 0 ≤ m 5 1) (s1 : m 5 1 < 600) (h0 : 0 ≤ v2) (h1 : v2 ≤ 24) : Tape_append_L3 v (n + 1) v2 m = Tape_append_L3 v n (v2 + (-8)) (ap 6 5 1 m (bAnd (bUshr v v2) 255)) := by
  rw [Tape_append_L3, w32_id (x := v2) (by omega) (by omega), if_neg (by omega), w32_id (x := m 5 1) (by omega) (by omega), if_neg (by omega), if_neg (by omega)]
  rfl
theorem m_step {v v2 : Int} {n : Nat} {m : Mem} (s0 : 0 ≤ m 75 9) (s1 : m 75 9 < 600) (h0 : 0 ≤ v2) (h1 : v2 ≤ 24) : Mo_four_L3 v (n + 1) v2 m = Mo_four_L3 v n (v2 + (-8)) (ap 80 75 9 m (w8 (w8 (bShr v v2)))) := by
  rw [Mo_four_L3, w32_id (x := v2) (by omega) (by omega), if_neg (by omega), w32_id (x := m 75 9) (by omega) (by omega), if_pos (by omega)]
  rfl
theorem c_app {v : Int} {m : Mem} (s0 : 0 ≤ m 5 1) (s1 : m 5 1 ≤ 596) : Tape_append v m = some (apL 6 5 1 (cb v) m) := by
  have e : FU = 19995 + 1 + 1 + 1 + 1 + 1 := rfl
  unfold Tape_append
  rw [e, c_step s0 (by omega) (by omega) (by omega), c_step (by rw [ap_sz]; omega) (by rw [ap_sz]; omega) (by omega) (by omega), c_step (by rw [ap_sz, ap_sz]; omega) (by rw [ap_sz, ap_sz]; omega) (by omega) (by omega), c_step (by rw [ap_sz, ap_sz, ap_sz]; omega) (by rw [ap_sz, ap_sz, ap_sz]; omega) (by omega) (by omega), Tape_append_L3, if_pos (by decide)]
  rfl
theorem m_app {v : Int} {m : Mem} (s0 : 0 ≤ m 75 9) (s1 : m 75 9 ≤ 596) : Mo_four v m = some (apL 80 75 9 (mb v) m) := by
  have e : FU = 19995 + 1 + 1 + 1 + 1 + 1 := rfl
  unfold Mo_four
  rw [e, m_step s0 (by omega) (by omega) (by omega), m_step (by rw [ap_sz]; omega) (by rw [ap_sz]; omega) (by omega) (by omega), m_step (by rw [ap_sz, ap_sz]; omega) (by rw [ap_sz, ap_sz]; omega) (by omega) (by omega), m_step (by rw [ap_sz, ap_sz, ap_sz]; omega) (by rw [ap_sz, ap_sz, ap_sz]; omega) (by omega) (by omega), Mo_four_L3, if_pos (by decide)]
  rfl
theorem s_feed {m : Mem} (h : Rel m) {a0 a1 a2 a3 a4 : Int} (c0 : w32 a0 = a0) (c1 : w32 a1 = a1) (c2 : w32 a2 = a2) (c3 : w32 a3 = a3) (c4 : w32 a4 = a4) : Stq w32 (FL_feed a0 a1 a2 a3 a4 m) (fun m1 => Mo_feed a0 a1 a2 a3 a4 m1) := by
  obtain ⟨t1, t2, t3, t4, t5, t6⟩ := h.2.2.1
  by_cases g : m 5 1 + 20 ≤ 600
  · have L4 : ∀ v, (cb v).length = 4 := fun _ => rfl
    have M4 : ∀ v, (mb v).length = 4 := fun _ => rfl
    obtain ⟨A1, A2, A3, A4⟩ := apL_sp (c := 6) (d := 5) (j := 1) (by decide) (cb a0 ++ (cb a1 ++ (cb a2 ++ (cb a3 ++ cb a4)))) m
    have LA : (cb a0 ++ (cb a1 ++ (cb a2 ++ (cb a3 ++ cb a4)))).length = 20 := rfl
    have LM : (mb a0 ++ (mb a1 ++ (mb a2 ++ (mb a3 ++ mb a4)))).length = 20 := rfl
    rw [LA] at A1 A3
    generalize hma : apL 6 5 1 (cb a0 ++ (cb a1 ++ (cb a2 ++ (cb a3 ++ cb a4)))) m = ma at A1 A2 A3 A4
    have k75 : ma 75 = m 75 := A4 75 (by decide) (by decide)
    obtain ⟨B1, B2, B3, B4⟩ := apL_sp (c := 80) (d := 75) (j := 9) (by decide) (mb a0 ++ (mb a1 ++ (mb a2 ++ (mb a3 ++ mb a4)))) ma
    rw [LM] at B1 B3
    generalize hmb : apL 80 75 9 (mb a0 ++ (mb a1 ++ (mb a2 ++ (mb a3 ++ mb a4)))) ma = mb' at B1 B2 B3 B4
    have q9 : ma 75 9 = m 5 1 := by rw [k75]; exact t1
    refine Stq.mk (x := ma 5 1) (m1 := ma) (y := mb' 75 9) (m2 := mb') ?_ ?_ (by rw [A1, B1, q9]) ?_
    · have sz : ∀ (bs : List Int) (mm : Mem), apL 6 5 1 bs mm 5 1 = mm 5 1 + bs.length := fun bs mm => (apL_sp (by decide) bs mm).1
      unfold FL_feed
      rw [w32_id (by omega) (by omega), if_pos g, c_app t2 (by omega), bV_some, c_app (by rw [sz, L4]; omega) (by rw [sz, L4]; omega), bV_some, c_app (by rw [sz, sz, L4, L4]; omega) (by rw [sz, sz, L4, L4]; omega), bV_some, c_app (by rw [sz, sz, sz, L4, L4, L4]; omega) (by rw [sz, sz, sz, L4, L4, L4]; omega), bV_some, c_app (by rw [sz, sz, sz, sz, L4, L4, L4, L4]; omega) (by rw [sz, sz, sz, sz, L4, L4, L4, L4]; omega), bV_some]
      rw [apL_app, apL_app, apL_app, apL_app]
      rw [hma]
    · have sz : ∀ (bs : List Int) (mm : Mem), apL 80 75 9 bs mm 75 9 = mm 75 9 + bs.length := fun bs mm => (apL_sp (by decide) bs mm).1
      unfold Mo_feed
      rw [q9, w32_id (by omega) (by omega), if_pos g, m_app (by omega) (by omega), bV_some, m_app (by rw [sz, M4]; omega) (by rw [sz, M4]; omega), bV_some, m_app (by rw [sz, sz, M4, M4]; omega) (by rw [sz, sz, M4, M4]; omega), bV_some, m_app (by rw [sz, sz, sz, M4, M4, M4]; omega) (by rw [sz, sz, sz, M4, M4, M4]; omega), bV_some, m_app (by rw [sz, sz, sz, sz, M4, M4, M4, M4]; omega) (by rw [sz, sz, sz, sz, M4, M4, M4, M4]; omega), bV_some]
      rw [apL_app, apL_app, apL_app, apL_app]
      rw [hmb]
    · refine h.upd [3] ?_ (by simp) (by simp) (fun _ => ?_) (by simp) (by simp) (by simp) (by simp) (by simp) (by simp) (by simp)
      · intro c i q
        by_cases n80 : c = 80
        · subst n80; exact absurd (by simp [comp]) q
        by_cases n6 : c = 6
        · subst n6; exact absurd (by simp [comp]) q
        by_cases n75 : c = 75
        · subst n75
          rw [B2 i (fun z => q (by subst z; decide)), k75]
        · rw [B4 c n80 n75]
          by_cases n5 : c = 5
          · subst n5
            exact A2 i (fun z => q (by subst z; decide))
          · rw [A4 c n6 n5]
      · have e5 : mb' 5 = ma 5 := B4 5 (by decide) (by decide)
        have e6 : mb' 6 = ma 6 := B4 6 (by decide) (by decide)
        have k80 : ma 80 = m 80 := A4 80 (by decide) (by decide)
        refine ⟨by rw [B1, e5, A1, q9], by rw [e5, A1]; omega, by rw [e5, A1]; omega, fun i i0 i1 => ?_, by rw [B2 15 (by decide), k75, e5, A2 7 (by decide)]; exact t5, by rw [B2 16 (by decide), k75, e5, A2 8 (by decide)]; exact t6⟩
        rw [e5, A1] at i1
        rw [e6, A3, B3, q9, k80]
        by_cases z : m 5 1 ≤ i
        · rw [if_pos (by omega), if_pos (by omega)]
          have eL : cb a0 ++ (cb a1 ++ (cb a2 ++ (cb a3 ++ cb a4))) = (mb a0 ++ (mb a1 ++ (mb a2 ++ (mb a3 ++ mb a4)))).map (fun x => bAnd x 255) := by
            rw [cb_mb c0, cb_mb c1, cb_mb c2, cb_mb c3, cb_mb c4]; simp only [List.map_append]
          have hi : (i - m 5 1).toNat < (mb a0 ++ (mb a1 ++ (mb a2 ++ (mb a3 ++ mb a4)))).length := by rw [LM]; omega
          rw [eL, List.getD_eq_getElem?_getD, List.getD_eq_getElem?_getD, List.getElem?_map, List.getElem?_eq_getElem hi]
          simp only [Option.map_some, Option.getD_some, true_and]
          rw [bAnd_255]; omega
        · rw [if_neg (by omega), if_neg (by omega)]
          exact t4 i i0 (by omega)
  · refine Stq.mk (x := -1) (m1 := m) (y := -1) (m2 := m) ?_ ?_ rfl h
    · simp (disch := omega) only [bP, bE, bV, ltM, ltI, st_eq, st_ne, w32_id, w64_id, ↓reduceIte, ilt_t, ilt_f, ile_t, ile_f, ieq_t, ieq_f, not_true_eq_false, not_false_eq_true, and_true, true_and, and_self, and_false, false_and, Int.reduceMod, FL_feed]
    · simp (disch := omega) only [bP, bE, bV, ltM, ltI, st_eq, st_ne, w32_id, w64_id, ↓reduceIte, ilt_t, ilt_f, ile_t, ile_f, ieq_t, ieq_f, not_true_eq_false, not_false_eq_true, and_true, true_and, and_self, and_false, false_and, Int.reduceMod, Mo_feed]
