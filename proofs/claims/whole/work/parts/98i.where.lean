theorem m_find {S W k : Int} {m : Mem} (s : gSW S W) (k0 : 0 ≤ k) (k1 : k < 2147483648) (z0 : m 76 0 = S) (z1 : m 76 1 = W) (hfl : ∀ q, Pt S W q → 0 ≤ m 76 (80 + q) ∧ m 76 (80 + q) ≤ 999) (he : 0 ≤ m 76 4 ∧ m 76 4 ≤ 999) : ∃ m', Sc m m' ∧ ((wrS (fun q => m 76 (80 + q)) (m 76 4) S W k).1 = 3 → Mo_unfairs k m = some ((wrS (fun q => m 76 (80 + q)) (m 76 4) S W k).2.2, m') ∧ (wrS (fun q => m 76 (80 + q)) (m 76 4) S W k).2.2 ≤ k ∧ 0 ≤ (wrS (fun q => m 76 (80 + q)) (m 76 4) S W k).2.2) ∧ ((wrS (fun q => m 76 (80 + q)) (m 76 4) S W k).1 ≠ 3 → Mo_unfairs k m = some (k + 1, m') ∧ k ≤ 400 ∧ (0 ≤ (wrS (fun q => m 76 (80 + q)) (m 76 4) S W k).1 ∧ (wrS (fun q => m 76 (80 + q)) (m 76 4) S W k).1 ≤ 2 ∧ isLn S W (wrS (fun q => m 76 (80 + q)) (m 76 4) S W k).1 (wrS (fun q => m 76 (80 + q)) (m 76 4) S W k).2.1) ∧ m' 75 26 = (wrS (fun q => m 76 (80 + q)) (m 76 4) S W k).1 ∧ m' 75 27 = (wrS (fun q => m 76 (80 + q)) (m 76 4) S W k).2.1 ∧ m' 75 28 = ktS (ufS (fun q => m 76 (80 + q)) (m 76 4) (fsS S (wrS (fun q => m 76 (80 + q)) (m 76 4) S W k).1 (wrS (fun q => m 76 (80 + q)) (m 76 4) S W k).2.1) (srS (wrS (fun q => m 76 (80 + q)) (m 76 4) S W k).1)) (plS S W (wrS (fun q => m 76 (80 + q)) (m 76 4) S W k).1 (wrS (fun q => m 76 (80 + q)) (m 76 4) S W k).2.1 - 1 - 2).toNat 2 (k - (wrS (fun q => m 76 (80 + q)) (m 76 4) S W k).2.2)) := by
  have step : ∀ (n : Nat) (acc v : Int) (mm : Mem), mm 76 = m 76 → 0 ≤ v → v ≤ 2 → 0 ≤ acc → acc ≤ 400 → acc ≤ k → ∀ R, (fdS (lnU (fun q => m 76 (80 + q)) (m 76 4) S W v) k (lnS S W v - 0).toNat 0 acc) = R → ∃ m', Sc mm m' ∧ (R.1 = -1 → Mo_unfairs_L4 k (n + 1) acc v mm = Mo_unfairs_L4 k n R.2 (v + 1) m') ∧ (R.1 ≠ -1 → Mo_unfairs_L4 k (n + 1) acc v mm = some (k + 1, m') ∧ m' 75 26 = v ∧ m' 75 27 = R.1 ∧ m' 75 28 = ktS (ufS (fun q => m 76 (80 + q)) (m 76 4) (fsS S v R.1) (srS v)) (plS S W v R.1 - 1 - 2).toNat 2 (k - R.2)) := by
    intro n acc v mm e76 v0 v2 a0 a4 a1 R hR
    have bl := lnS_le s v
    obtain ⟨m', j1, j2, j3⟩ := m_un12k s v0 v2 k0 k1 z0 z1 hfl he (K := Mo_unfairs_L4 k n) FU acc 0 mm e76 a0 (by omega) a1 (by omega) (by omega) (by rw [FU_eq]; omega) R hR
    have e0 : Mo_unfairs_L4 k (n + 1) acc v mm = Mo_unfairs_L12 k (Mo_unfairs_L4 k n) FU acc v 0 mm := by
      rw [Mo_unfairs_L4, w32_id (x := v) (by omega) (by omega), if_neg (by omega)]
    rw [e0]
    exact ⟨m', j1, j2, j3⟩
  have b0 := fd_v (fun q => m 76 (80 + q)) (m 76 4) s (v := 0) (k := k) (acc := 0) (by omega) (by omega) (by omega) k0
  obtain ⟨ma, a1, a2, a3⟩ := step 19999 0 0 m rfl (by omega) (by omega) (by omega) (by omega) k0 _ rfl
  unfold wrS Mo_unfairs
  generalize hA : (fdS (lnU (fun q => m 76 (80 + q)) (m 76 4) S W 0) k (lnS S W 0 - 0).toNat 0 0) = A at b0 a2 a3 ⊢
  by_cases qA : A.1 = -1
  · have bA : 0 ≤ A.2 ∧ A.2 ≤ k ∧ A.2 ≤ 104 := by
      rcases b0 with z | z
      · omega
      · have := isLn_pos s z.1; omega
    have b1 := fd_v (fun q => m 76 (80 + q)) (m 76 4) s (v := 1) (k := k) (acc := A.2) (by omega) (by omega) bA.1 bA.2.1
    obtain ⟨mb, c1, c2, c3⟩ := step 19998 A.2 1 ma (a1.1 76 (by decide)) (by omega) (by omega) (by omega) (by omega) (by omega) _ rfl
    rw [if_neg (show ¬ A.1 ≠ -1 by omega)]
    have eA : Mo_unfairs_L4 k FU 0 0 m = Mo_unfairs_L4 k 19999 A.2 1 ma := a2 qA
    generalize hB : (fdS (lnU (fun q => m 76 (80 + q)) (m 76 4) S W 1) k (lnS S W 1 - 0).toNat 0 A.2) = B at b1 c2 c3 ⊢
    by_cases qB : B.1 = -1
    · have bB : 0 ≤ B.2 ∧ B.2 ≤ k ∧ B.2 ≤ 208 := by
        rcases b1 with z | z
        · omega
        · have := isLn_pos s z.1; omega
      have b2 := fd_v (fun q => m 76 (80 + q)) (m 76 4) s (v := 2) (k := k) (acc := B.2) (by omega) (by omega) bB.1 bB.2.1
      obtain ⟨mc, d1, d2, d3⟩ := step 19997 B.2 2 mb ((c1.1 76 (by decide)).trans (a1.1 76 (by decide))) (by omega) (by omega) (by omega) (by omega) (by omega) _ rfl
      rw [if_neg (show ¬ B.1 ≠ -1 by omega)]
      have eB : Mo_unfairs_L4 k 19999 A.2 1 ma = Mo_unfairs_L4 k 19998 B.2 2 mb := c2 qB
      generalize hC : (fdS (lnU (fun q => m 76 (80 + q)) (m 76 4) S W 2) k (lnS S W 2 - 0).toNat 0 B.2) = C at b2 d2 d3 ⊢
      refine ⟨mc, (a1.trans c1).trans d1, ?_⟩
      by_cases qC : C.1 = -1
      · have eC : Mo_unfairs_L4 k 19998 B.2 2 mb = Mo_unfairs_L4 k 19997 C.2 3 mc := d2 qC
        rw [if_neg (show ¬ C.1 ≠ -1 by omega)]
        refine ⟨fun _ => ⟨?_, ?_, ?_⟩, fun z => absurd rfl z⟩
        · rw [eA, eB, eC, show 19997 = 19996 + 1 from rfl, Mo_unfairs_L4, w32_id (by omega) (by omega), if_pos (by decide)]
        · show C.2 ≤ k
          rcases b2 with z | z
          · omega
          · omega
        · show 0 ≤ C.2
          rcases b2 with z | z
          · omega
          · omega
      · rw [if_pos qC]
        obtain ⟨f1, f2, f3, f4⟩ := d3 qC
        rcases b2 with z | z
        · exact absurd z.1 qC
        · refine ⟨fun y => absurd y (by show ¬ (2 : Int) = 3; decide), fun _ => ⟨?_, by omega, ⟨by show (0 : Int) ≤ 2; omega, by show (2 : Int) ≤ 2; omega, z.1⟩, f2, f3, f4⟩⟩
          rw [eA, eB]; exact f1
    · rw [if_pos qB]
      obtain ⟨f1, f2, f3, f4⟩ := c3 qB
      rcases b1 with z | z
      · exact absurd z.1 qB
      · refine ⟨mb, a1.trans c1, fun y => absurd y (by show ¬ (1 : Int) = 3; decide), fun _ => ⟨?_, by omega, ⟨by show (0 : Int) ≤ 1; omega, by show (1 : Int) ≤ 2; omega, z.1⟩, f2, f3, f4⟩⟩
        rw [eA]; exact f1
  · rw [if_pos qA]
    obtain ⟨f1, f2, f3, f4⟩ := a3 qA
    rcases b0 with z | z
    · exact absurd z.1 qA
    · exact ⟨ma, a1, fun y => absurd y (by show ¬ (0 : Int) = 3; decide), fun _ => ⟨f1, by omega, ⟨by show (0 : Int) ≤ 0; omega, by show (0 : Int) ≤ 2; omega, z.1⟩, f2, f3, f4⟩⟩
