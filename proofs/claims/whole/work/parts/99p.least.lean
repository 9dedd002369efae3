/-! layer 2: the least moves, the reference's fold -/
def Mq (m : Mem) (n : Nat) (S W : Int) : Prop := gSW S W ∧ (m 76 0 = S ∧ m 76 1 = W) ∧ (0 ≤ m 76 4 ∧ m 76 4 ≤ 999) ∧ (∀ q, Pt S W q → 0 ≤ m 76 (80 + q) ∧ m 76 (80 + q) ≤ 999) ∧ (∀ k : Int, 0 ≤ k → k < n → Pt S W (m 89 k)) ∧ (∀ k : Int, 0 ≤ k → k < n → m 90 k = m 76 (80 + m 89 k))
theorem ex3_tr {α : Type} {A B : α} (e : A = B) {C : Int → Int → Mem → α} {Q : Int → Int → Mem → Prop} (h : ∃ a b c, B = C a b c ∧ Q a b c) : ∃ a b c, A = C a b c ∧ Q a b c := by rw [e]; exact h
theorem m_j227 {m mm : Mem} {n : Nat} {S W r wd v6 v7 v8 w : Int} {b : Bs} {o : Int → Int} (n5 : n ≤ 5) (n1 : 1 ≤ n) (q : Mq m n S W) (ho : ∀ k : Int, 0 ≤ k → k < n → -3 ≤ o k ∧ o k ≤ 3) (hv : ∀ k : Nat, k < n → 0 ≤ m 76 (80 + m 89 k) + o k ∧ m 76 (80 + m 89 k) + o k ≤ 999) (hb : smS o n < b.1 ∨ (smS o n = b.1 ∧ mvS o n < b.2.1)) (hm : Lr m mm v7 v8 b n) (h91 : ∀ k : Int, 0 ≤ k → k < n → mm 91 k = o k) {K0 : Int → Int → Int → Mem → Option (Int × Mem)} : ∃ v7' v8' mm', Mo_least_J227 n r wd v6 K0 v7 v8 w (smS o n) (mvS o n) mm = K0 v7' v8' (w + 1) mm' ∧ Lr m mm' v7' v8' (lfT (fun q => m 76 (80 + q)) (m 89) (m 76 4) S W n o b) n := by
  obtain ⟨s, ⟨z0, z1⟩, ey, hF, hP, h90⟩ := q
  obtain ⟨hc, h75, hb2⟩ := hm
  have e76 := hc 76 (by decide) (by decide) (by decide)
  have e89 := hc 89 (by decide) (by decide) (by decide)
  have e90 := hc 90 (by decide) (by decide) (by decide)
  have sb := smS_b n ho
  have mb := mvS_b o n
  have hP' : ∀ k : Int, 0 ≤ k → k < n → mm 89 k = m 89 k ∧ 0 ≤ m 89 k ∧ m 89 k < 64 := fun k a b => ⟨by rw [e89], pt64 s (hP k a b)⟩
  have h90' : ∀ k : Int, 0 ≤ k → k < n → mm 90 k = (fun q => m 76 (80 + q)) (m 89 k) := fun k a b => by rw [e90]; exact h90 k a b
  unfold Mo_least_J227
  obtain ⟨ma, a1, a2, a3⟩ := m_l230 (m := mm) (F := fun q => m 76 (80 + q)) (P := m 89) (o := o) (r := r) (wd := wd) (v6 := v6) (v7 := v7) (v8 := v8) (v9 := w) (v11 := smS o n) (v12 := mvS o n) (K0 := (fun m46 => (bE (Mo_unfairs 0 m46) fun x47 m49 => (Mo_least_L290 n r wd v6 v7 v8 w (smS o n) (mvS o n) (if ¬ (w32 x47) = 0 then 0 else 1 : Int) (fun m58 => (if ¬ (if ¬ (w32 x47) = 0 then 0 else 1 : Int) = 0 then (Mo_least_L348 n r wd v6 (smS o n) (mvS o n) K0 FU w 0 (st m58 75 44 n)) else (K0 v7 v8 (w + 1) m58))) FU 0 m49)))) n5 hP' h90' h91 n FU 0 mm (by omega) (by rw [FU_eq]; omega) (fun _ _ => rfl) (fun q => by rw [e76]; rfl)
  refine ex3_tr a1 ?_
  have off : ∀ x : Int, (x < 0 ∨ 64 ≤ x) → ma 76 (80 + x) = m 76 (80 + x) := fun x hx => by
    rw [a3 x]; exact ovr_ne n (fun k a b => by have := pt64 s (hP k a b); omega)
  have o0 := off (-80) (by omega)
  have o1 := off (-79) (by omega)
  have o4 := off (-76) (by omega)
  have hbd := ovr_b (F := fun q => m 76 (80 + q)) (P := m 89) (o := o) hF n (fun k a b => by
    obtain ⟨k', rfl⟩ : ∃ k' : Nat, k = k' := ⟨k.toNat, by omega⟩
    exact hv k' (by omega))
  have ef : (fun q => ma 76 (80 + q)) = ovr (fun q => m 76 (80 + q)) (m 89) o n := funext a3
  obtain ⟨mb', x, b1, b2, b3, b4, b5⟩ := m_uf0 (m := ma) s (o0.trans z0) (o1.trans z1) (fun q hq => by rw [a3 q]; exact hbd q hq) (by rw [show ma 76 4 = m 76 4 from o4]; exact ey)
  rw [ef, show ma 76 4 = m 76 4 from o4] at b5
  have b5' := b5.trans (alU_0 _ _ s).symm
  show ∃ v7' v8' mm', bE (Mo_unfairs 0 ma) _ = _ ∧ _
  rw [b2, bE_some]
  have c76 : mb' 76 = ma 76 := b1.1 76 (by decide)
  obtain ⟨md, d1, d2, d3⟩ := m_l290 (m := mb') (n := n) (F := fun q => m 76 (80 + q)) (P := m 89) (r := r) (wd := wd) (v6 := v6) (v7 := v7) (v8 := v8) (v9 := w) (v11 := smS o n) (v12 := mvS o n) (v14 := (if ¬ (w32 x) = 0 then 0 else 1 : Int)) (K0 := (fun m58 => (if ¬ (if ¬ (w32 x) = 0 then 0 else 1 : Int) = 0 then (Mo_least_L348 n r wd v6 (smS o n) (mvS o n) K0 FU w 0 (st m58 75 44 n)) else (K0 v7 v8 (w + 1) m58)))) n5 (fun k a b => by rw [b1.1 89 (by decide), a2 89 (by decide)]; exact hP' k a b) (fun k a b => by rw [b1.1 90 (by decide), a2 90 (by decide)]; exact h90' k a b) n FU 0 mb' (by omega) (by rw [FU_eq]; omega) (fun _ _ => rfl) (fun q hq => by rw [c76, a3 q]; exact ovr_ne n (fun k a b => hq k (by omega) b))
  refine ex3_tr d1 ?_
  have m76 : md 76 = m 76 := by
    funext i
    have := d3 (i - 80)
    simp only [show (80 : Int) + (i - 80) = i by omega] at this
    exact this
  have mc : ∀ c, c ≠ 75 → c ≠ 91 → c ≠ 92 → md c = m c := fun c x1 x2 x3 => by
    by_cases y : c = 76
    · rw [y]; exact m76
    · rw [d2 c y, b1.1 c x1, a2 c y]; exact hc c x1 x2 x3
  have m75 : ∀ i, i < 23 ∨ 28 < i → md 75 i = mm 75 i := fun i hi => by rw [d2 75 (by decide), b1.2 i hi, a2 75 (by decide)]
  have m92 : md 92 = mm 92 := by rw [d2 92 (by decide), b1.1 92 (by decide), a2 92 (by decide)]
  have m91 : md 91 = mm 91 := by rw [d2 91 (by decide), b1.1 91 (by decide), a2 91 (by decide)]
  rw [w32_id (x := x) (by omega) (by omega)]
  by_cases g : x = 0
  · have eT : lfT (fun q => m 76 (80 + q)) (m 89) (m 76 4) S W n o b = (smS o n, mvS o n, fun k : Int => if 0 ≤ k ∧ k < n then o k else 0) := by
      unfold lfT; rw [if_pos ⟨hv, b5'.mp g, hb⟩]
    rw [if_neg (not_not_intro g), if_pos (by decide), eT]
    obtain ⟨me, f1, f2, f3⟩ := m_l348 (m := st md 75 44 n) (n := n) (r := r) (wd := wd) (v6 := v6) (v7 := smS o n) (v8 := mvS o n) (v9 := w) n5 (K0 := K0) n FU 0 (st md 75 44 n) (by omega) (by rw [FU_eq]; omega) (fun _ _ => rfl) (fun k a b => by omega)
    refine ⟨_, _, me, f1, fun c x1 x2 x3 => ?_, fun i hi h44 => ?_, Or.inr ⟨by omega, rfl, rfl, ?_, fun k a b => ?_⟩⟩
    · rw [f2 c x3, st_ne _ _ _ x1]; exact mc c x1 x2 x3
    · rw [f2 75 (by decide), st_eq, if_neg h44, m75 i hi]; exact h75 i hi h44
    · rw [f2 75 (by decide), st_eq, if_pos rfl]
    · rw [f3 k a b, st_ne _ _ _ (by decide), m91, h91 k a b]
      show o k = if 0 ≤ k ∧ k < n then o k else 0
      rw [if_pos ⟨a, b⟩]
  · have eT : lfT (fun q => m 76 (80 + q)) (m 89) (m 76 4) S W n o b = b := by
      unfold lfT; rw [if_neg (fun y => g (b5'.mpr y.2.1))]
    rw [if_pos g, if_neg (by decide), eT]
    refine ⟨v7, v8, md, rfl, mc, fun i hi h44 => by rw [m75 i hi]; exact h75 i hi h44, ?_⟩
    rw [m75 44 (by omega), m92]; exact hb2
theorem m_l62 {m : Mem} {n : Nat} {S W r wd N : Int} (n5 : n ≤ 5) (n1 : 1 ≤ n) (q : Mq m n S W) (hw : wd = 2 * r + 1) (r1 : 1 ≤ r) (r3 : r ≤ 3) (N0 : 0 ≤ N) (N1 : N ≤ 19000) : ∀ (f : Nat) (v7 v8 w : Int) (b : Bs) (mm : Mem), 0 ≤ w → w ≤ N → (N - w).toNat < f → Lr m mm v7 v8 b n → ∃ v7' v8' mm', Mo_least_L62 n r wd N f v7 v8 w mm = (if ¬ v7' = -1 then some (v7', st mm' 75 1 0) else some (-1, st mm' 75 1 6)) ∧ Lr m mm' v7' v8' (foS (fun w b => lfT (fun q => m 76 (80 + q)) (m 89) (m 76 4) S W n (vwS wd r n w) b) (N - w).toNat w b) n := by
  intro f
  induction f with
  | zero => intro v7 v8 w b mm _ _ z; omega
  | succ f ih =>
    intro v7 v8 w b mm w0 wN hf hm
    have v7b : -1 ≤ v7 ∧ v7 ≤ 100 ∧ 0 ≤ v8 ∧ v8 ≤ 100 := by rcases hm.2.2 with y | y <;> omega
    rw [Mo_least_L62, w32_id (x := w) (by omega) (by omega), w32_id (x := N) (by omega) (by omega), w32_id (x := v7) (by omega) (by omega), w32_id (x := v8) (by omega) (by omega)]
    by_cases g : N ≤ w
    · rw [if_pos g, show (N - w).toNat = 0 by omega, foS]
      exact ⟨v7, v8, mm, rfl, hm⟩
    · rw [if_neg g, show (N - w).toNat = (N - (w + 1)).toNat + 1 by omega, foS]
      obtain ⟨s, ⟨z0, z1⟩, ey, hF, hP, h90⟩ := q
      have q : Mq m n S W := ⟨s, ⟨z0, z1⟩, ey, hF, hP, h90⟩
      have e90 : mm 90 = m 90 := hm.1 90 (by decide) (by decide) (by decide)
      obtain ⟨ma, vv, a1, a2, a3, a4, a5⟩ := m_l87 (m := mm) (n := n) (r := r) (wd := wd) (w := w) (v6 := N) (v7 := v7) (v8 := v8) (v9 := w) (G := fun k => m 76 (80 + m 89 k)) n5 hw r1 r3 w0 (by omega) (fun k a b => ⟨by rw [e90]; exact h90 k a b, hF _ (hP k a b)⟩) (K0 := (fun u30 u31 u32 m33 => (if (w32 u32) = 0 then (Mo_least_L62 n r wd N f v7 v8 (w + 1) m33) else (if v7 = (-1) then (Mo_least_J227 n r wd N (Mo_least_L62 n r wd N f) v7 v8 w u30 u31 m33) else (if v7 < (w32 u30) then (Mo_least_L62 n r wd N f v7 v8 (w + 1) m33) else (if ¬ (w32 u30) = v7 then (Mo_least_J227 n r wd N (Mo_least_L62 n r wd N f) v7 v8 w u30 u31 m33) else (if (w32 u31) < v8 then (Mo_least_J227 n r wd N (Mo_least_L62 n r wd N f) v7 v8 w u30 u31 m33) else (Mo_least_L62 n r wd N f v7 v8 (w + 1) m33)))))))) n FU mm 1 (by omega) (by rw [FU_eq]; omega) (fun _ _ => rfl) (fun k a b => by omega) (Or.inr rfl) ⟨fun _ k a b => by omega, fun _ => rfl⟩
      rw [Nat.sub_self, Int.pow_zero, Int.ediv_one, Int.sub_self, Int.sub_self] at a1
      rw [a1]
      have hvw : ∀ k : Int, 0 ≤ k → k < n → -3 ≤ vwS wd r n w k ∧ vwS wd r n w k ≤ 3 := fun k _ _ => by have := vw_b (n := n) (w := w) (k := k) hw r1; omega
      have sb := smS_b n hvw
      have mb := mvS_b (vwS wd r n w) n
      have hma : Lr m ma v7 v8 b n := by
        refine ⟨fun c x1 x2 x3 => by rw [a2 c x2]; exact hm.1 c x1 x2 x3, fun i x1 x2 => by rw [a2 75 (by decide)]; exact hm.2.1 i x1 x2, ?_⟩
        rw [a2 75 (by decide), a2 92 (by decide)]; exact hm.2.2
      rw [w32_id (x := smS (vwS wd r n w) n) (by omega) (by omega), w32_id (x := mvS (vwS wd r n w) n) (by omega) (by omega), w32_id (x := vv) (by omega) (by omega)]
      have skip : lfT (fun q => m 76 (80 + q)) (m 89) (m 76 4) S W n (vwS wd r n w) b = b → ∃ v7' v8' mm', Mo_least_L62 n r wd N f v7 v8 (w + 1) ma = (if ¬ v7' = -1 then some (v7', st mm' 75 1 0) else some (-1, st mm' 75 1 6)) ∧ Lr m mm' v7' v8' (foS (fun w b => lfT (fun q => m 76 (80 + q)) (m 89) (m 76 4) S W n (vwS wd r n w) b) (N - (w + 1)).toNat (w + 1) (lfT (fun q => m 76 (80 + q)) (m 89) (m 76 4) S W n (vwS wd r n w) b)) n := by
        intro e
        rw [e]
        exact ih v7 v8 (w + 1) b ma (by omega) (by omega) (by omega) hma
      have take : vv = 1 → (smS (vwS wd r n w) n < b.1 ∨ (smS (vwS wd r n w) n = b.1 ∧ mvS (vwS wd r n w) n < b.2.1)) → ∃ v7' v8' mm', Mo_least_J227 n r wd N (Mo_least_L62 n r wd N f) v7 v8 w (smS (vwS wd r n w) n) (mvS (vwS wd r n w) n) ma = (if ¬ v7' = -1 then some (v7', st mm' 75 1 0) else some (-1, st mm' 75 1 6)) ∧ Lr m mm' v7' v8' (foS (fun w b => lfT (fun q => m 76 (80 + q)) (m 89) (m 76 4) S W n (vwS wd r n w) b) (N - (w + 1)).toNat (w + 1) (lfT (fun q => m 76 (80 + q)) (m 89) (m 76 4) S W n (vwS wd r n w) b)) n := by
        intro e1 e2
        obtain ⟨x7, x8, mx, y1, y2⟩ := m_j227 (r := r) (wd := wd) (v6 := N) (w := w) n5 n1 q hvw (a5.mp e1) e2 hma a3 (K0 := Mo_least_L62 n r wd N f)
        rw [y1]
        exact ih x7 x8 (w + 1) _ mx (by omega) (by omega) (by omega) y2
      by_cases g1 : vv = 0
      · rw [if_pos g1]
        refine skip ?_
        unfold lfT
        rw [if_neg (fun y => absurd (a5.mpr y.1) (by omega))]
      · rw [if_neg g1]
        have nob : ¬ (smS (vwS wd r n w) n < b.1 ∨ (smS (vwS wd r n w) n = b.1 ∧ mvS (vwS wd r n w) n < b.2.1)) → lfT (fun q => m 76 (80 + q)) (m 89) (m 76 4) S W n (vwS wd r n w) b = b := fun y => by unfold lfT; rw [if_neg (fun z => y z.2.2)]
        rcases hm.2.2 with y | y
        · rw [if_pos y.1]
          exact take (by omega) (by omega)
        · rw [if_neg (by omega)]
          by_cases g2 : v7 < smS (vwS wd r n w) n
          · rw [if_pos g2]; exact skip (nob (by omega))
          · rw [if_neg g2]
            by_cases g3 : smS (vwS wd r n w) n = v7
            · rw [if_neg (not_not_intro g3)]
              by_cases g4 : mvS (vwS wd r n w) n < v8
              · rw [if_pos g4]; exact take (by omega) (by omega)
              · rw [if_neg g4]; exact skip (nob (by omega))
            · rw [if_pos g3]; exact take (by omega) (by omega)
