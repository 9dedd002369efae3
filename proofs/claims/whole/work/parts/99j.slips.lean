/-! layer 2: the calls slips and slip -/
theorem fdS_x {c : Int → Int} {k : Int} : ∀ (n j : Nat) (l acc : Int), (∀ x, l + n ≤ x → x < l + n + j → c x = 0) → acc ≤ k → fdS c k (n + j) l acc = fdS c k n l acc
  | 0, 0, l, acc, _, _ => rfl
  | 0, j + 1, l, acc, h, ha => by
    have e := h l (by omega) (by omega)
    rw [show 0 + (j + 1) = (0 + j) + 1 by omega, fdS_s, e, Int.add_zero, if_neg (by omega)]
    exact fdS_x 0 j (l + 1) acc (fun x a b => h x (by omega) (by omega)) ha
  | n + 1, j, l, acc, h, ha => by
    rw [show n + 1 + j = (n + j) + 1 by omega, fdS_s, fdS_s]
    by_cases q : k < acc + c l
    · rw [if_pos q, if_pos q]
    · rw [if_neg q, if_neg q]
      exact fdS_x n j (l + 1) _ (fun x a b => h x (by omega) (by omega)) (by omega)
theorem m_sl4 {m : Mem} {S W k : Int} {kp : Int → Bool} (s : gSW S W) (z0 : m 76 0 = S) (z1 : m 76 1 = W) (hF : ∀ q, Pt S W q → 0 ≤ m 76 (80 + q) ∧ m 76 (80 + q) ≤ 999) (he : 0 ≤ m 76 4 ∧ m 76 4 ≤ 999) (hk : ∀ q, Pt S W q → m 76 (144 + q) = bI (kp q)) (k0 : -1 ≤ k) (k1 : k < 2147483648) : ∀ (n : Nat) (c p : Int) (mm : Mem), Ms m mm → 0 ≤ c → c ≤ 1000 * p → 0 ≤ p → p ≤ 64 → (k = -1 ∨ c ≤ k) → (8 * S - p).toNat < n → ∃ m', Ms m m' ∧ (k = -1 → Mo_slipsTo_L4 k n c p mm = some (c + suS (cpS (fun q => m 76 (80 + q)) (m 76 4) S W kp) (8 * S - p).toNat p, m')) ∧ (k ≠ -1 → ∀ R, fdS (cpS (fun q => m 76 (80 + q)) (m 76 4) S W kp) k (8 * S - p).toNat p c = R → (R.1 = -1 → Mo_slipsTo_L4 k n c p mm = some (R.2, m')) ∧ (R.1 ≠ -1 → Mo_slipsTo_L4 k n c p mm = some (k + 1, m') ∧ m' 75 45 = R.1 ∧ m' 75 46 = ktS (gI (fun q => m 76 (80 + q)) (m 76 4) S W R.1) 1000 0 (k - R.2))) := by
  intro n
  induction n with
  | zero => intro c p mm _ _ _ _ _ _ q; omega
  | succ n ih =>
    intro c p mm hm c0 c1 p0 p1 hck hn
    have x76 : mm 76 = m 76 := hm.1 76 (by decide)
    rw [Mo_slipsTo_L4, x76, z0, w32_id (x := 8 * S) (by omega) (by omega), w32_id (x := p) (by omega) (by omega)]
    by_cases q : 8 * S ≤ p
    · rw [if_pos q, show (8 * S - p).toNat = 0 by omega]
      refine ⟨mm, hm, fun _ => by simp [suS], fun _ R hR => ?_⟩
      subst hR
      exact ⟨fun _ => rfl, fun z => absurd rfl z⟩
    · rw [if_neg q, show (8 * S - p).toNat = (8 * S - (p + 1)).toNat + 1 by omega, suS_succ]
      have cb := cpS_b (fun q => m 76 (80 + q)) (m 76 4) S W kp p
      have skip : cpS (fun q => m 76 (80 + q)) (m 76 4) S W kp p = 0 → ∃ m', Ms m m' ∧ (k = -1 → Mo_slipsTo_L4 k n c (p + 1) mm = some (c + (cpS (fun q => m 76 (80 + q)) (m 76 4) S W kp p + suS (cpS (fun q => m 76 (80 + q)) (m 76 4) S W kp) (8 * S - (p + 1)).toNat (p + 1)), m')) ∧ (k ≠ -1 → ∀ R, fdS (cpS (fun q => m 76 (80 + q)) (m 76 4) S W kp) k ((8 * S - (p + 1)).toNat + 1) p c = R → (R.1 = -1 → Mo_slipsTo_L4 k n c (p + 1) mm = some (R.2, m')) ∧ (R.1 ≠ -1 → Mo_slipsTo_L4 k n c (p + 1) mm = some (k + 1, m') ∧ m' 75 45 = R.1 ∧ m' 75 46 = ktS (gI (fun q => m 76 (80 + q)) (m 76 4) S W R.1) 1000 0 (k - R.2))) := by
        intro hz
        obtain ⟨m', j1, j2, j3⟩ := ih c (p + 1) mm hm c0 (by omega) (by omega) (by omega) hck (by omega)
        refine ⟨m', j1, fun y => by rw [j2 y, hz, Int.zero_add], fun y R hR => ?_⟩
        rw [fdS_s, hz, Int.add_zero, if_neg (by omega)] at hR
        exact j3 y R hR
      by_cases g1 : Pt S W p
      · have p64 := pt64 s g1
        rw [mpT (m := mm) s (by rw [x76]; exact z0) (by rw [x76]; exact z1) g1, if_neg (by decide), w32_id (x := 144 + p) (by omega) (by omega), if_pos (by omega), hk p g1]
        cases hkp : kp p with
        | true =>
          rw [show w32 (bI true) = 1 from by decide, if_neg (by decide)]
          exact skip (by unfold cpS; rw [hkp, Bool.not_true, Bool.and_false]; rfl)
        | false =>
          rw [show w32 (bI false) = 0 from by decide, if_pos (by decide), w32_id (x := 80 + p) (by omega) (by omega), if_pos (by omega)]
          have ecp : cpS (fun q => m 76 (80 + q)) (m 76 4) S W kp p = suS (gI (fun q => m 76 (80 + q)) (m 76 4) S W p) (1000 - (0 : Int)).toNat 0 := by
            unfold cpS; rw [hkp, ptB_t.mpr g1]; rfl
          obtain ⟨ma, a1, a2, a3⟩ := m_sl57 (m := m) (pt := p) (k := k) (old := m 76 (80 + p)) s z0 z1 hF he g1 rfl k0 k1 (K := Mo_slipsTo_L4 k n) FU c 0 mm hm c0 (by omega) (by omega) (by omega) hck (by rw [FU_eq]; omega)
          rw [← ecp] at a2 a3
          by_cases y : k = -1
          · obtain ⟨m', j1, j2, j3⟩ := ih (c + cpS (fun q => m 76 (80 + q)) (m 76 4) S W kp p) (p + 1) ma a1 (by omega) (by omega) (by omega) (by omega) (Or.inl y) (by omega)
            refine ⟨m', j1, fun _ => ?_, fun w => absurd y w⟩
            rw [a2 (Or.inl y), j2 y, Int.add_assoc]
          · by_cases w : c + cpS (fun q => m 76 (80 + q)) (m 76 4) S W kp p ≤ k
            · obtain ⟨m', j1, j2, j3⟩ := ih (c + cpS (fun q => m 76 (80 + q)) (m 76 4) S W kp p) (p + 1) ma a1 (by omega) (by omega) (by omega) (by omega) (Or.inr w) (by omega)
              refine ⟨m', j1, fun z => absurd z y, fun _ R hR => ?_⟩
              rw [fdS_s, if_neg (by omega)] at hR
              rw [a2 (Or.inr w)]
              exact j3 y R hR
            · refine ⟨ma, a1, fun z => absurd z y, fun _ R hR => ?_⟩
              rw [fdS_s, if_pos (by omega)] at hR
              subst hR
              exact ⟨fun z => absurd (show p = -1 from z) (by omega), fun _ => a3 (by omega)⟩
      · rw [mpF (m := mm) s (by rw [x76]; exact z0) (by rw [x76]; exact z1) (w64_id (by omega) (by omega)) g1, if_pos rfl]
        exact skip (by unfold cpS; rw [ptB_f.mpr g1]; rfl)
