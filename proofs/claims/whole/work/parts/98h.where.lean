theorem m_un12k {S W v k : Int} {m : Mem} (s : gSW S W) (v0 : 0 ≤ v) (v2 : v ≤ 2) (k0 : 0 ≤ k) (k1 : k < 2147483648) (z0 : m 76 0 = S) (z1 : m 76 1 = W) (hfl : ∀ q, Pt S W q → 0 ≤ m 76 (80 + q) ∧ m 76 (80 + q) ≤ 999) (he : 0 ≤ m 76 4 ∧ m 76 4 ≤ 999) {K : Int → Int → Mem → Option (Int × Mem)} : ∀ (n : Nat) (acc l : Int) (mm : Mem), mm 76 = m 76 → 0 ≤ acc → acc ≤ 400 + 20 * l → acc ≤ k → 0 ≤ l → l ≤ 20 → (lnS S W v - l).toNat < n → ∀ R, fdS (lnU (fun q => m 76 (80 + q)) (m 76 4) S W v) k (lnS S W v - l).toNat l acc = R → ∃ m', Sc mm m' ∧ (R.1 = -1 → Mo_unfairs_L12 k K n acc v l mm = K R.2 (v + 1) m') ∧ (R.1 ≠ -1 → Mo_unfairs_L12 k K n acc v l mm = some (k + 1, m') ∧ m' 75 26 = v ∧ m' 75 27 = R.1 ∧ m' 75 28 = (ktS (ufS (fun q => m 76 (80 + q)) (m 76 4) (fsS S v R.1) (srS v)) (plS S W v R.1 - 1 - 2).toNat 2 (k - R.2))) := by
  have bl := lnS_le s v
  intro n
  induction n with
  | zero => intro acc l mm _ _ _ _ _ _ q; omega
  | succ n ih =>
    intro acc l mm e76 a0 a4 a1 l0 l20 hn R hR
    have el := m_lines (m := mm) s (by rw [e76]; exact z0) (by rw [e76]; exact z1) v0 v2
    by_cases q : lnS S W v ≤ l
    · rw [show (lnS S W v - l).toNat = 0 by omega] at hR
      subst hR
      refine ⟨mm, Sc.refl mm, fun _ => ?_, fun z => absurd rfl z⟩
      rw [Mo_unfairs_L12, el, w32_id (x := l) (by omega) (by omega), w32_id (x := lnS S W v) (by omega) (by omega), if_pos q]; rfl
    · have hl := isLn_of v0 v2 l0 (show l < lnS S W v by omega)
      have g := plS_le s hl
      have b := lnU_b (fun q => m 76 (80 + q)) (m 76 4) s hl
      have et := m_takes (m := mm) s (by rw [e76]; exact z0) (by rw [e76]; exact z1) hl
      rw [show (lnS S W v - l).toNat = (lnS S W v - (l + 1)).toNat + 1 by omega, fdS_s] at hR
      have k2 := m_un32k s hl k0 k1 (K := Mo_unfairs_L12 k K n) (m := tk mm (fsS S v l) (srS v) (plS S W v l)) (by show ∀ q, Pt S W q → 0 ≤ mm 76 (80 + q) ∧ mm 76 (80 + q) ≤ 999; rw [e76]; exact hfl) (by show 0 ≤ mm 76 4 ∧ mm 76 4 ≤ 999; rw [e76]; exact he) rfl rfl rfl FU acc 2 a0 (by omega) a1 (by omega) (by omega) (by rw [FU_eq]; omega)
      have t76 : tk mm (fsS S v l) (srS v) (plS S W v l) 76 = m 76 := e76
      rw [t76] at k2
      have k2' : Mo_unfairs_L32 k v (Mo_unfairs_L12 k K n) FU acc l 2 (tk mm (fsS S v l) (srS v) (plS S W v l)) = if k < acc + lnU (fun q => m 76 (80 + q)) (m 76 4) S W v l then some (k + 1, st (st (st (tk mm (fsS S v l) (srS v) (plS S W v l)) 75 26 v) 75 27 l) 75 28 (ktS (ufS (fun q => m 76 (80 + q)) (m 76 4) (fsS S v l) (srS v)) (plS S W v l - 1 - 2).toNat 2 (k - acc))) else Mo_unfairs_L12 k K n (acc + lnU (fun q => m 76 (80 + q)) (m 76 4) S W v l) v (l + 1) (tk mm (fsS S v l) (srS v) (plS S W v l)) := k2
      by_cases z : k < acc + lnU (fun q => m 76 (80 + q)) (m 76 4) S W v l
      · rw [if_pos z] at hR k2'
        subst hR
        refine ⟨st (st (st (tk mm (fsS S v l) (srS v) (plS S W v l)) 75 26 v) 75 27 l) 75 28 (ktS (ufS (fun q => m 76 (80 + q)) (m 76 4) (fsS S v l) (srS v)) (plS S W v l - 1 - 2).toNat 2 (k - acc)), ((((Sc_tk (m := mm) (fsS S v l) (srS v) (plS S W v l)).st (by decide) (by decide)).st (by decide) (by decide)).st (by decide) (by decide)), fun y => absurd y (by show ¬ l = -1; omega), fun _ => ⟨?_, ?_, ?_, ?_⟩⟩
        · rw [Mo_unfairs_L12, el, w32_id (x := l) (by omega) (by omega), w32_id (x := lnS S W v) (by omega) (by omega), if_neg q, et, k2']
        · rw [st_eq, if_neg (by decide), st_eq, if_neg (by decide), st_eq, if_pos rfl]
        · rw [st_eq, if_neg (by decide), st_eq, if_pos rfl]
        · rw [st_eq, if_pos rfl]
      · rw [if_neg z] at hR k2'
        obtain ⟨m', j1, j2, j3⟩ := ih (acc + lnU (fun q => m 76 (80 + q)) (m 76 4) S W v l) (l + 1) (tk mm (fsS S v l) (srS v) (plS S W v l)) t76 (by omega) (by omega) (by omega) (by omega) (by omega) (by omega) R hR
        have e0 : Mo_unfairs_L12 k K (n + 1) acc v l mm = Mo_unfairs_L12 k K n (acc + lnU (fun q => m 76 (80 + q)) (m 76 4) S W v l) v (l + 1) (tk mm (fsS S v l) (srS v) (plS S W v l)) := by
          rw [Mo_unfairs_L12, el, w32_id (x := l) (by omega) (by omega), w32_id (x := lnS S W v) (by omega) (by omega), if_neg q, et, k2']
        rw [e0]
        exact ⟨m', (Sc_tk (m := mm) (fsS S v l) (srS v) (plS S W v l)).trans j1, j2, j3⟩
/-- the k-th unfair place: its view (3: none), line, and how many lie ahead of its line -/
noncomputable def wrS (F : Int → Int) (eye S W k : Int) : Int × Int × Int :=
  if (fdS (lnU F eye S W 0) k (lnS S W 0 - 0).toNat 0 0).1 ≠ -1 then (0, fdS (lnU F eye S W 0) k (lnS S W 0 - 0).toNat 0 0)
  else if (fdS (lnU F eye S W 1) k (lnS S W 1 - 0).toNat 0 (fdS (lnU F eye S W 0) k (lnS S W 0 - 0).toNat 0 0).2).1 ≠ -1 then (1, fdS (lnU F eye S W 1) k (lnS S W 1 - 0).toNat 0 (fdS (lnU F eye S W 0) k (lnS S W 0 - 0).toNat 0 0).2)
  else if (fdS (lnU F eye S W 2) k (lnS S W 2 - 0).toNat 0 (fdS (lnU F eye S W 1) k (lnS S W 1 - 0).toNat 0 (fdS (lnU F eye S W 0) k (lnS S W 0 - 0).toNat 0 0).2).2).1 ≠ -1 then (2, fdS (lnU F eye S W 2) k (lnS S W 2 - 0).toNat 0 (fdS (lnU F eye S W 1) k (lnS S W 1 - 0).toNat 0 (fdS (lnU F eye S W 0) k (lnS S W 0 - 0).toNat 0 0).2).2)
  else (3, fdS (lnU F eye S W 2) k (lnS S W 2 - 0).toNat 0 (fdS (lnU F eye S W 1) k (lnS S W 1 - 0).toNat 0 (fdS (lnU F eye S W 0) k (lnS S W 0 - 0).toNat 0 0).2).2)
theorem fd_v (F : Int → Int) (eye : Int) {S W v k acc : Int} (s : gSW S W) (v0 : 0 ≤ v) (v2 : v ≤ 2) (a0 : 0 ≤ acc) (a1 : acc ≤ k) : ((fdS (lnU F eye S W v) k (lnS S W v - 0).toNat 0 acc).1 = -1 ∧ acc ≤ (fdS (lnU F eye S W v) k (lnS S W v - 0).toNat 0 acc).2 ∧ (fdS (lnU F eye S W v) k (lnS S W v - 0).toNat 0 acc).2 ≤ k ∧ (fdS (lnU F eye S W v) k (lnS S W v - 0).toNat 0 acc).2 ≤ acc + 104) ∨ (isLn S W v (fdS (lnU F eye S W v) k (lnS S W v - 0).toNat 0 acc).1 ∧ 0 ≤ (fdS (lnU F eye S W v) k (lnS S W v - 0).toNat 0 acc).2 ∧ (fdS (lnU F eye S W v) k (lnS S W v - 0).toNat 0 acc).2 ≤ k ∧ k < acc + 112) := by
  have bl := lnS_le s v
  rcases fdS_r (c := lnU F eye S W v) (k := k) (B := 8) (by omega) (lnS S W v - 0).toNat 0 acc (fun x a b => lnU_b F eye s (isLn_of v0 v2 a (by omega))) (by omega) a0 a1 with z | z
  · left; omega
  · right
    have hl := isLn_of v0 v2 z.1 (show (fdS (lnU F eye S W v) k (lnS S W v - 0).toNat 0 acc).1 < lnS S W v by omega)
    have b := lnU_b F eye s hl
    exact ⟨hl, by omega, z.2.2.2.1, by omega⟩
theorem c_find {m : Mem} {k : Int} (s : gSW (m 7 0) (m 7 1)) (hfl : ∀ q, Pt (m 7 0) (m 7 1) q → 0 ≤ m 10 q ∧ m 10 q ≤ 999) (he : 0 ≤ m 7 4 ∧ m 7 4 ≤ 999) (k0 : 0 ≤ k) (k1 : k < 2147483648) : Sheet_findUnfair 7 k m = if (wrS (m 10) (m 7 4) (m 7 0) (m 7 1) k).1 = 3 then some (0, m) else some (1, st (st (st m 7 11 (wrS (m 10) (m 7 4) (m 7 0) (m 7 1) k).1) 7 12 (wrS (m 10) (m 7 4) (m 7 0) (m 7 1) k).2.1) 7 13 (ktS (ufS (m 10) (m 7 4) (fsS (m 7 0) (wrS (m 10) (m 7 4) (m 7 0) (m 7 1) k).1 (wrS (m 10) (m 7 4) (m 7 0) (m 7 1) k).2.1) (srS (wrS (m 10) (m 7 4) (m 7 0) (m 7 1) k).1)) (plS (m 7 0) (m 7 1) (wrS (m 10) (m 7 4) (m 7 0) (m 7 1) k).1 (wrS (m 10) (m 7 4) (m 7 0) (m 7 1) k).2.1 - 1 - 2).toNat 2 (k - (wrS (m 10) (m 7 4) (m 7 0) (m 7 1) k).2.2))) := by
  have b0 := fd_v (m 10) (m 7 4) s (v := 0) (k := k) (acc := 0) (by omega) (by omega) (by omega) k0
  have step : ∀ (n : Nat) (acc v : Int), 0 ≤ v → v ≤ 2 → 0 ≤ acc → acc ≤ 400 → acc ≤ k → Sheet_findUnfair_L4 7 k (n + 1) acc v m = if (fdS (lnU (m 10) (m 7 4) (m 7 0) (m 7 1) v) k (lnS (m 7 0) (m 7 1) v - 0).toNat 0 acc).1 = -1 then Sheet_findUnfair_L4 7 k n (fdS (lnU (m 10) (m 7 4) (m 7 0) (m 7 1) v) k (lnS (m 7 0) (m 7 1) v - 0).toNat 0 acc).2 (v + 1) m else some (1, st (st (st m 7 11 v) 7 12 (fdS (lnU (m 10) (m 7 4) (m 7 0) (m 7 1) v) k (lnS (m 7 0) (m 7 1) v - 0).toNat 0 acc).1) 7 13 (ktS (ufS (m 10) (m 7 4) (fsS (m 7 0) v (fdS (lnU (m 10) (m 7 4) (m 7 0) (m 7 1) v) k (lnS (m 7 0) (m 7 1) v - 0).toNat 0 acc).1) (srS v)) (plS (m 7 0) (m 7 1) v (fdS (lnU (m 10) (m 7 4) (m 7 0) (m 7 1) v) k (lnS (m 7 0) (m 7 1) v - 0).toNat 0 acc).1 - 1 - 2).toNat 2 (k - (fdS (lnU (m 10) (m 7 4) (m 7 0) (m 7 1) v) k (lnS (m 7 0) (m 7 1) v - 0).toNat 0 acc).2))) := by
    intro n acc v v0 v2 a0 a4 a1
    have bl := lnS_le s v
    rw [Sheet_findUnfair_L4, w32_id (x := v) (by omega) (by omega), if_neg (by omega)]
    exact c_fu12 s hfl he v0 v2 k1 FU acc 0 a0 (by omega) a1 (by omega) (by omega) (by rw [FU_eq]; omega) _ rfl
  unfold Sheet_findUnfair
  rw [show FU = 19996 + 1 + 1 + 1 + 1 from rfl, step _ 0 0 (by omega) (by omega) (by omega) (by omega) k0, show (0 : Int) + 1 = 1 from rfl]
  unfold wrS
  generalize hA : fdS (lnU (m 10) (m 7 4) (m 7 0) (m 7 1) 0) k (lnS (m 7 0) (m 7 1) 0 - 0).toNat 0 0 = A at b0 ⊢
  by_cases qA : A.1 = -1
  · have bA : 0 ≤ A.2 ∧ A.2 ≤ k ∧ A.2 ≤ 104 := by
      rcases b0 with z | z
      · omega
      · have := isLn_pos s z.1; omega
    have b1 := fd_v (m 10) (m 7 4) s (v := 1) (k := k) (acc := A.2) (by omega) (by omega) bA.1 bA.2.1
    rw [if_pos qA, step _ A.2 1 (by omega) (by omega) (by omega) (by omega) (by omega), show (1 : Int) + 1 = 2 from rfl, if_neg (show ¬ A.1 ≠ -1 by omega)]
    generalize hB : fdS (lnU (m 10) (m 7 4) (m 7 0) (m 7 1) 1) k (lnS (m 7 0) (m 7 1) 1 - 0).toNat 0 A.2 = B at b1 ⊢
    by_cases qB : B.1 = -1
    · have bB : 0 ≤ B.2 ∧ B.2 ≤ k ∧ B.2 ≤ 208 := by
        rcases b1 with z | z
        · omega
        · have := isLn_pos s z.1; omega
      rw [if_pos qB, step _ B.2 2 (by omega) (by omega) (by omega) (by omega) (by omega), show (2 : Int) + 1 = 3 from rfl, if_neg (show ¬ B.1 ≠ -1 by omega)]
      generalize hC : fdS (lnU (m 10) (m 7 4) (m 7 0) (m 7 1) 2) k (lnS (m 7 0) (m 7 1) 2 - 0).toNat 0 B.2 = C
      by_cases qC : C.1 = -1
      · rw [if_pos qC, if_neg (show ¬ C.1 ≠ -1 by omega), if_pos rfl, Sheet_findUnfair_L4, w32_id (by omega) (by omega), if_pos (by decide)]
      · rw [if_neg qC, if_pos qC, if_neg (by show ¬ (2 : Int) = 3; decide)]
    · rw [if_neg qB, if_pos qB, if_neg (by show ¬ (1 : Int) = 3; decide)]
  · rw [if_neg qA, if_pos qA, if_neg (by show ¬ (0 : Int) = 3; decide)]
