/-! layer 2: the least moves, the reference's side -/
theorem vw_b {wd r w k : Int} {n : Nat} (hw : wd = 2 * r + 1) (r1 : 1 ≤ r) : -r ≤ vwS wd r n w k ∧ vwS wd r n w k ≤ r := by
  unfold vwS
  have h1 := Int.emod_nonneg (w / wd ^ (n - 1 - k.toNat)) (show wd ≠ 0 by omega)
  have h2 := Int.emod_lt_of_pos (w / wd ^ (n - 1 - k.toNat)) (show 0 < wd by omega)
  omega
theorem dv_b {wd w : Int} (e : Nat) (w0 : 0 ≤ w) (wd0 : 0 < wd) : 0 ≤ w / wd ^ e ∧ w / wd ^ e ≤ w :=
  ⟨Int.ediv_nonneg w0 (Int.le_of_lt (Int.pow_pos wd0)), Int.ediv_le_self _ w0⟩
theorem m_l87 {m : Mem} {n : Nat} {r wd w v6 v7 v8 v9 : Int} {G : Int → Int} (n5 : n ≤ 5) (hw : wd = 2 * r + 1) (r1 : 1 ≤ r) (r3 : r ≤ 3) (w0 : 0 ≤ w) (w1 : w ≤ 20000) (hG : ∀ k : Int, 0 ≤ k → k < n → m 90 k = G k ∧ 0 ≤ G k ∧ G k ≤ 999) {K0 : Int → Int → Int → Mem → Option (Int × Mem)} : ∀ (t f : Nat) (mm : Mem) (v13 : Int), t ≤ n → t < f → (∀ c, c ≠ 91 → mm c = m c) → (∀ k : Int, t ≤ k → k < n → mm 91 k = vwS wd r n w k) → (v13 = 0 ∨ v13 = 1) → (v13 = 1 ↔ ∀ k : Nat, t ≤ k → k < n → 0 ≤ G k + vwS wd r n w k ∧ G k + vwS wd r n w k ≤ 999) → ∃ mm' vv, Mo_least_L87 n r wd v6 v7 v8 v9 K0 f (w / wd ^ (n - t)) (smS (vwS wd r n w) n - smS (vwS wd r n w) t) (mvS (vwS wd r n w) n - mvS (vwS wd r n w) t) v13 ((t : Int) - 1) mm = K0 (smS (vwS wd r n w) n) (mvS (vwS wd r n w) n) vv mm' ∧ (∀ c, c ≠ 91 → mm' c = m c) ∧ (∀ k : Int, 0 ≤ k → k < n → mm' 91 k = vwS wd r n w k) ∧ (vv = 0 ∨ vv = 1) ∧ (vv = 1 ↔ ∀ k : Nat, k < n → 0 ≤ G k + vwS wd r n w k ∧ G k + vwS wd r n w k ≤ 999) := by
  intro t
  induction t with
  | zero =>
    intro f mm v13 _ hf hc h91 hv hvv
    obtain ⟨f, rfl⟩ : ∃ x, f = x + 1 := ⟨f - 1, by omega⟩
    rw [Mo_least_L87, if_pos (by rw [w32_id (by omega) (by omega)]; omega), smS, mvS, Int.sub_zero, Int.sub_zero]
    exact ⟨mm, v13, rfl, hc, fun k a b => h91 k (by omega) b, hv, hvv.trans ⟨fun z k a => z k (by omega) a, fun z k _ a => z k a⟩⟩
  | succ t ih =>
    intro f mm v13 ht hf hc h91 hv hvv
    obtain ⟨f, rfl⟩ : ∃ x, f = x + 1 := ⟨f - 1, by omega⟩
    have db := dv_b (n - (t + 1)) w0 (show 0 < wd by omega)
    have ob := vw_b (n := n) (w := w) (k := (t : Int)) hw r1
    have e1 : Int.tmod (w / wd ^ (n - (t + 1))) wd - r = vwS wd r n w t := by
      rw [Int.tmod_eq_emod_of_nonneg db.1]; unfold vwS
      rw [show n - 1 - (t : Int).toNat = n - (t + 1) by omega]
    have e2 : Int.tdiv (w / wd ^ (n - (t + 1))) wd = w / wd ^ (n - t) := by
      rw [Int.tdiv_eq_ediv_of_nonneg db.1, Int.ediv_ediv_of_nonneg (Int.le_of_lt (Int.pow_pos (by omega))), ← Int.pow_succ, show (n - (t + 1)).succ = n - t by omega]
    have h2 : ∀ k : Int, (t : Int) ≤ k → k < n → st mm 91 t (vwS wd r n w t) 91 k = vwS wd r n w k := fun k a b => by
      rw [st_eq]
      by_cases z : k = t
      · rw [if_pos z, z]
      · rw [if_neg z]; exact h91 k (by omega) b
    have hc2 : ∀ c, c ≠ 91 → st mm 91 t (vwS wd r n w t) c = m c := fun c h => by rw [st_ne _ _ _ h]; exact hc c h
    have gg := hG t (by omega) (by omega)
    have e4 : smS (vwS wd r n w) n - smS (vwS wd r n w) (t + 1) + J_abs (vwS wd r n w t) = smS (vwS wd r n w) n - smS (vwS wd r n w) t := by
      rw [smS, jabs (by omega) (by omega)]; omega
    have e5 : mvS (vwS wd r n w) n - mvS (vwS wd r n w) (t + 1) + (if vwS wd r n w t = 0 then 0 else 1 : Int) = mvS (vwS wd r n w) n - mvS (vwS wd r n w) t := by
      rw [mvS]; omega
    rw [Mo_least_L87, show ((t + 1 : Nat) : Int) - 1 = (t : Int) by omega, w32_id (x := (t : Int)) (by omega) (by omega), w32_id (x := wd) (by omega) (by omega), w32_id (x := w / wd ^ (n - (t + 1))) (by omega) (by omega), if_neg (by omega), if_neg (by omega), if_pos (by omega), if_neg (by omega), if_pos (by omega), if_pos (by omega), e1, e2, st_eq, if_pos rfl, w32_id (x := vwS wd r n w t) (by omega) (by omega), e4, e5, w32_id (x := v13) (by omega) (by omega)]
    by_cases z : v13 = 0
    · rw [if_pos z, show (t : Int) + (-1) = t - 1 by omega]
      refine ih f _ 0 (by omega) (by omega) hc2 h2 (Or.inl rfl) ?_
      rw [z] at hvv
      exact ⟨fun y => by omega, fun y => hvv.mpr (fun k a b => y k (by omega) b)⟩
    · have v1 : v13 = 1 := by omega
      rw [if_neg z, if_pos (by omega), if_pos (by omega), show (t : Int) + (-1) = t - 1 by omega, hc2 90 (by decide), gg.1, w32_id (x := G t + vwS wd r n w t) (by omega) (by omega)]
      simp only [ltI]
      have ef : Mo_isFrom (G t + vwS wd r n w t) 0 999 = if 0 ≤ G t + vwS wd r n w t ∧ G t + vwS wd r n w t ≤ 999 then 1 else 0 := by
        by_cases y : 0 ≤ G t + vwS wd r n w t ∧ G t + vwS wd r n w t ≤ 999
        · rw [if_pos y]; simp (disch := omega) only [w32_id, w64_id, ↓reduceIte, ilt_t, ilt_f, ile_t, ile_f, Mo_isFrom]
        · rw [if_neg y]
          have y' : G t + vwS wd r n w t < 0 ∨ 999 < G t + vwS wd r n w t := by omega
          rcases y' with y' | y' <;> simp (disch := omega) only [w32_id, w64_id, ↓reduceIte, ilt_t, ilt_f, ile_t, ile_f, Mo_isFrom]
      rw [ef]
      have hv1 := hvv.mp v1
      by_cases y : 0 ≤ G t + vwS wd r n w t ∧ G t + vwS wd r n w t ≤ 999
      · rw [if_pos y, if_neg (by decide)]
        refine ih f _ 1 (by omega) (by omega) hc2 h2 (Or.inr rfl) ⟨fun _ k a b => ?_, fun _ => rfl⟩
        by_cases x : k = t
        · rw [x]; exact y
        · exact hv1 k (by omega) b
      · rw [if_neg y, if_pos (by decide)]
        refine ih f _ 0 (by omega) (by omega) hc2 h2 (Or.inl rfl) ⟨fun x => by omega, fun x => absurd (x t (by omega) (by omega)) y⟩
theorem m_l230 {m : Mem} {n : Nat} {F P o : Int → Int} {r wd v6 v7 v8 v9 v11 v12 : Int} (n5 : n ≤ 5) (hP : ∀ k : Int, 0 ≤ k → k < n → m 89 k = P k ∧ 0 ≤ P k ∧ P k < 64) (h90 : ∀ k : Int, 0 ≤ k → k < n → m 90 k = F (P k)) (h91 : ∀ k : Int, 0 ≤ k → k < n → m 91 k = o k) {K0 : Mem → Option (Int × Mem)} : ∀ (j f t : Nat) (mm : Mem), t + j = n → j < f → (∀ c, c ≠ 76 → mm c = m c) → (∀ q, mm 76 (80 + q) = ovr F P o t q) → ∃ mm', Mo_least_L230 n r wd v6 v7 v8 v9 v11 v12 K0 f t mm = K0 mm' ∧ (∀ c, c ≠ 76 → mm' c = m c) ∧ ∀ q, mm' 76 (80 + q) = ovr F P o n q := by
  intro j
  induction j with
  | zero =>
    intro f t mm ht hf hc h76
    obtain ⟨f, rfl⟩ : ∃ x, f = x + 1 := ⟨f - 1, by omega⟩
    rw [Mo_least_L230, if_pos (by rw [w32_id (by omega) (by omega), w32_id (by omega) (by omega)]; omega)]
    have : t = n := by omega
    subst this
    exact ⟨mm, rfl, hc, h76⟩
  | succ j ih =>
    intro f t mm ht hf hc h76
    obtain ⟨f, rfl⟩ : ∃ x, f = x + 1 := ⟨f - 1, by omega⟩
    have pp := hP t (by omega) (by omega)
    rw [Mo_least_L230, w32_id (x := (t : Int)) (by omega) (by omega), w32_id (x := (n : Int)) (by omega) (by omega), if_neg (by omega), if_pos (by omega), if_pos (by omega), if_pos (by omega), hc 89 (by decide), hc 90 (by decide), hc 91 (by decide), pp.1, h90 t (by omega) (by omega), h91 t (by omega) (by omega), w32_id (x := 80 + P t) (by omega) (by omega), if_pos (by omega)]
    refine ih f (t + 1) _ (by omega) (by omega) (fun c h => by rw [st_ne _ _ _ h]; exact hc c h) (fun q => ?_)
    rw [st_eq, ovr]; unfold upF
    by_cases z : q = P t
    · rw [if_pos (by omega), if_pos z]
    · rw [if_neg (by omega), if_neg z, h76 q]
theorem m_l290 {m : Mem} {n : Nat} {F P : Int → Int} {r wd v6 v7 v8 v9 v11 v12 v14 : Int} (n5 : n ≤ 5) (hP : ∀ k : Int, 0 ≤ k → k < n → m 89 k = P k ∧ 0 ≤ P k ∧ P k < 64) (h90 : ∀ k : Int, 0 ≤ k → k < n → m 90 k = F (P k)) {K0 : Mem → Option (Int × Mem)} : ∀ (j f t : Nat) (mm : Mem), t + j = n → j < f → (∀ c, c ≠ 76 → mm c = m c) → (∀ q, (∀ k : Int, t ≤ k → k < n → P k ≠ q) → mm 76 (80 + q) = F q) → ∃ mm', Mo_least_L290 n r wd v6 v7 v8 v9 v11 v12 v14 K0 f t mm = K0 mm' ∧ (∀ c, c ≠ 76 → mm' c = m c) ∧ ∀ q, mm' 76 (80 + q) = F q := by
  intro j
  induction j with
  | zero =>
    intro f t mm ht hf hc h76
    obtain ⟨f, rfl⟩ : ∃ x, f = x + 1 := ⟨f - 1, by omega⟩
    rw [Mo_least_L290, if_pos (by rw [w32_id (by omega) (by omega), w32_id (by omega) (by omega)]; omega)]
    exact ⟨mm, rfl, hc, fun q => h76 q (fun k a b => by omega)⟩
  | succ j ih =>
    intro f t mm ht hf hc h76
    obtain ⟨f, rfl⟩ : ∃ x, f = x + 1 := ⟨f - 1, by omega⟩
    have pp := hP t (by omega) (by omega)
    rw [Mo_least_L290, w32_id (x := (t : Int)) (by omega) (by omega), w32_id (x := (n : Int)) (by omega) (by omega), if_neg (by omega), if_pos (by omega), if_pos (by omega), hc 89 (by decide), hc 90 (by decide), pp.1, h90 t (by omega) (by omega), w32_id (x := 80 + P t) (by omega) (by omega), if_pos (by omega)]
    refine ih f (t + 1) _ (by omega) (by omega) (fun c h => by rw [st_ne _ _ _ h]; exact hc c h) (fun q hq => ?_)
    rw [st_eq]
    by_cases z : q = P t
    · rw [if_pos (by omega), z]
    · rw [if_neg (by omega)]
      refine h76 q (fun k a b => ?_)
      by_cases y : k = t
      · rw [y]; exact fun x => z x.symm
      · exact hq k (by omega) b
theorem m_l348 {m : Mem} {n : Nat} {r wd v6 v7 v8 v9 : Int} (n5 : n ≤ 5) {K0 : Int → Int → Int → Mem → Option (Int × Mem)} : ∀ (j f t : Nat) (mm : Mem), t + j = n → j < f → (∀ c, c ≠ 92 → mm c = m c) → (∀ k : Int, 0 ≤ k → k < t → mm 92 k = m 91 k) → ∃ mm', Mo_least_L348 n r wd v6 v7 v8 K0 f v9 t mm = K0 v7 v8 (v9 + 1) mm' ∧ (∀ c, c ≠ 92 → mm' c = m c) ∧ ∀ k : Int, 0 ≤ k → k < n → mm' 92 k = m 91 k := by
  intro j
  induction j with
  | zero =>
    intro f t mm ht hf hc h92
    obtain ⟨f, rfl⟩ : ∃ x, f = x + 1 := ⟨f - 1, by omega⟩
    rw [Mo_least_L348, if_pos (by rw [w32_id (by omega) (by omega), w32_id (by omega) (by omega)]; omega)]
    exact ⟨mm, rfl, hc, fun k a b => h92 k a (by omega)⟩
  | succ j ih =>
    intro f t mm ht hf hc h92
    obtain ⟨f, rfl⟩ : ∃ x, f = x + 1 := ⟨f - 1, by omega⟩
    rw [Mo_least_L348, w32_id (x := (t : Int)) (by omega) (by omega), w32_id (x := (n : Int)) (by omega) (by omega), if_neg (by omega), if_pos (by omega), if_pos (by omega), hc 91 (by decide)]
    refine ih f (t + 1) _ (by omega) (by omega) (fun c h => by rw [st_ne _ _ _ h]; exact hc c h) (fun k a b => ?_)
    rw [st_eq]
    by_cases z : k = t
    · rw [if_pos z, z]
    · rw [if_neg z]; exact h92 k a (by omega)
def Lr (m mm : Mem) (v7 v8 : Int) (b : Bs) (n : Int) : Prop := (∀ c, c ≠ 75 → c ≠ 91 → c ≠ 92 → mm c = m c) ∧ (∀ i, i < 23 ∨ 28 < i → i ≠ 44 → mm 75 i = m 75 i) ∧ ((v7 = -1 ∧ v8 = 0 ∧ b.1 = 1073741824 ∧ b.2.1 = 1073741824 ∧ mm 75 44 = m 75 44 ∧ mm 92 = m 92) ∨ ((0 ≤ v7 ∧ v7 ≤ 100 ∧ 0 ≤ v8 ∧ v8 ≤ 100) ∧ b.1 = v7 ∧ b.2.1 = v8 ∧ mm 75 44 = n ∧ ∀ k, 0 ≤ k → k < n → mm 92 k = b.2.2 k))
