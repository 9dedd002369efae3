/-! layer 2: the book, both readers side by side -/
def N1 (mC mR : Mem) : Prop :=
  (mR 76 2320 = mC 17 0 ∧ mR 76 2321 = mC 17 1 ∧ mR 76 2322 = mC 17 2 ∧ mR 76 2323 = mC 17 3 ∧ mR 76 2324 = mC 17 4 ∧ mR 76 2325 = mC 17 5)
  ∧ ((mC 17 0 = 0 ∧ mC 17 1 = 0) ∨ (1 ≤ mC 17 0 ∧ mC 17 0 ≤ 8 ∧ 3 ≤ mC 17 1 ∧ mC 17 1 ≤ 6))
  ∧ (1 ≤ mC 17 2 ∧ mC 17 2 ≤ 999 ∧ 1 ≤ mC 17 3 ∧ mC 17 3 ≤ 999 ∧ 0 ≤ mC 17 4 ∧ mC 17 4 ≤ 999 ∧ 1 ≤ mC 17 5 ∧ mC 17 5 ≤ 99)
  ∧ (∀ p, Pt (mC 17 0) (mC 17 1) p → (mR 76 (2336 + p) = mC 19 p ∧ 0 ≤ mC 19 p ∧ mC 19 p ≤ 999) ∧ (mR 76 (2400 + p) = mC 20 p ∧ 0 ≤ mC 20 p ∧ mC 20 p ≤ 999))
  ∧ (∀ p, 0 ≤ p → p < 64 → mR 76 (2464 + p) = Sheet_isKept 17 p mC ∧ (¬ Pt (mC 17 0) (mC 17 1) p → Sheet_isKept 17 p mC = 0))
/-- k views told -/
def NV (k : Int) (mC mR : Mem) : Prop := ∀ j, 0 ≤ j → j < k → mR 76 (2327 + j) = mC 18 j ∧ 0 ≤ mC 18 j ∧ mC 18 j ≤ 2
def N2 (mC mR : Mem) : Prop := mR 76 2326 = mC 17 6 ∧ 1 ≤ mC 17 6 ∧ mC 17 6 ≤ 6 ∧ NV (mC 17 6) mC mR
theorem N1.of {mC mR mC' mR' : Mem} (h : N1 mC mR) (e17 : ∀ i, i ≤ 5 ∨ i = 10 → mC' 17 i = mC 17 i) (e19 : mC' 19 = mC 19) (e20 : mC' 20 = mC 20) (e76 : ∀ i, 2320 ≤ i → (i < 2326 ∨ 2336 ≤ i) → i < 2528 → mR' 76 i = mR 76 i) : N1 mC' mR' := by
  obtain ⟨⟨a0, a1, a2, a3, a4, a5⟩, b, c, d, e⟩ := h
  have f0 := e17 0 (by omega); have f1 := e17 1 (by omega); have f2 := e17 2 (by omega); have f3 := e17 3 (by omega); have f4 := e17 4 (by omega); have f5 := e17 5 (by omega); have f10 := e17 10 (by omega)
  unfold N1
  rw [f0, f1, f2, f3, f4, f5, e19, e20]
  refine ⟨⟨?_, ?_, ?_, ?_, ?_, ?_⟩, b, c, ?_, ?_⟩
  · rw [e76 _ (by omega) (by omega) (by omega)]; exact a0
  · rw [e76 _ (by omega) (by omega) (by omega)]; exact a1
  · rw [e76 _ (by omega) (by omega) (by omega)]; exact a2
  · rw [e76 _ (by omega) (by omega) (by omega)]; exact a3
  · rw [e76 _ (by omega) (by omega) (by omega)]; exact a4
  · rw [e76 _ (by omega) (by omega) (by omega)]; exact a5
  · intro p hp
    have hp' := hp
    unfold Pt at hp'
    rw [e76 _ (by omega) (by omega) (by omega), e76 _ (by omega) (by omega) (by omega)]
    exact d p hp
  · intro p p0 p1
    have := e p p0 p1
    have ek : Sheet_isKept 17 p mC' = Sheet_isKept 17 p mC := by unfold Sheet_isKept; rw [f10]
    rw [e76 _ (by omega) (by omega) (by omega), ek]; exact this
theorem NV.of {k : Int} {mC mR mC' mR' : Mem} (h : NV k mC mR) (e18 : mC' 18 = mC 18) (e76 : ∀ i, 2327 ≤ i → i < 2327 + k → mR' 76 i = mR 76 i) : NV k mC' mR' := fun j h0 h1 => by
  rw [e76 _ (by omega) (by omega), e18]; exact h j h0 h1
theorem N2.of {mC mR mC' mR' : Mem} (h : N2 mC mR) (e17 : mC' 17 6 = mC 17 6) (e18 : mC' 18 = mC 18) (e76 : ∀ i, 2326 ≤ i → i < 2333 → mR' 76 i = mR 76 i) : N2 mC' mR' := by
  obtain ⟨a, b, c, d⟩ := h
  unfold N2
  rw [e17]
  exact ⟨by rw [e76 _ (by omega) (by omega)]; exact a, b, c, d.of e18 (fun i h0 h1 => e76 i (by omega) (by omega))⟩
/-- told parts -/
def tdN (tp : Nat) : Int := ((16 * (tp % 16) + 512 * (tp / 16) : Nat) : Int)
theorem tdC : ∀ (tp : Fin 32) (a : Fin 5), (¬ (tp.val / 2 ^ a.val) % 2 = 0 → ¬ w32 (bAnd (bShr (tp.val : Int) (a.val : Int)) 1) = 0 ∧ w32 (bAnd (bShr (tdN tp.val) (if a.val < 4 then (a.val : Int) + 4 else 9)) 1) = 1) ∧ ((tp.val / 2 ^ a.val) % 2 = 0 → w32 (bAnd (bShr (tp.val : Int) (a.val : Int)) 1) = 0 ∧ ¬ w32 (bAnd (bShr (tdN tp.val) (if a.val < 4 then (a.val : Int) + 4 else 9)) 1) = 1 ∧ bOr (tp.val : Int) (bShl 1 (a.val : Int)) = ((tp.val + 2 ^ a.val : Nat) : Int) ∧ bOr (tdN tp.val) (bShl 1 (if a.val < 4 then (a.val : Int) + 4 else 9)) = tdN (tp.val + 2 ^ a.val) ∧ tp.val + 2 ^ a.val < 32) := by decide +kernel
/-- the readers' common state -/
def BkR (B : Nat → Int) (n tp : Nat) (mC mR : Mem) : Prop := TpC B n mC ∧ TpM B n mR ∧ mR 75 17 = 0 ∧ (mC 5 7 = 0 ∧ mC 5 8 = -1 ∧ mR 75 16 = -1) ∧ (tp < 32 ∧ mC 16 2 = (tp : Int) ∧ mR 75 18 = tdN tp) ∧ N1 mC mR
theorem BkR.tk {B : Nat → Int} {n tp : Nat} {mC mR mC' mR' : Mem} (h : BkR B n tp mC mR) (eC : Tk5 mC mC') (eR : Tk75 mR mR') : BkR B n tp mC' mR' := by
  obtain ⟨h1, h2, h3, ⟨h4, h5, h6⟩, ⟨h7, h8, h9⟩, h10⟩ := h
  have g : ∀ i, i ≠ 11 → i ≠ 12 → i ≠ 13 → i ≠ 14 → mR' 75 i = mR 75 i := eR.2
  refine ⟨h1.cf eC.cf, h2.mf eR.mf, by rw [g _ (by decide) (by decide) (by decide) (by decide)]; exact h3, ⟨by rw [eC.2 _ (by decide) (by decide) (by decide) (by decide)]; exact h4, by rw [eC.2 _ (by decide) (by decide) (by decide) (by decide)]; exact h5, by rw [g _ (by decide) (by decide) (by decide) (by decide)]; exact h6⟩, ⟨h7, by rw [eC.1 _ (by decide)]; exact h8, by rw [g _ (by decide) (by decide) (by decide) (by decide)]; exact h9⟩, ?_⟩
  exact h10.of (fun i _ => by rw [eC.1 _ (by decide)]) (eC.1 _ (by decide)) (eC.1 _ (by decide)) (fun i _ _ _ => by rw [eR.1 _ (by decide)])
theorem N2.tk {mC mR mC' mR' : Mem} (h : N2 mC mR) (eC : Tk5 mC mC') (eR : Tk75 mR mR') : N2 mC' mR' := h.of (by rw [eC.1 _ (by decide)]) (eC.1 _ (by decide)) (fun i _ _ => by rw [eR.1 _ (by decide)])
/-- how a part ends: both go on alike, or both have the same fault -/
def PR (B : Nat → Int) (n p : Nat) (mC mR : Mem) (rC rR : Option (Int × Mem)) : Prop :=
  (∃ (p' tp : Nat) (mC' mR' : Mem), rC = some (1, mC') ∧ rR = some (1, mR') ∧ p < p' ∧ p' ≤ n ∧ mC' 5 3 = (p' : Int) ∧ MT B n (tkS B n p') mR' ∧ BkR B n tp mC' mR' ∧ N2 mC' mR' ∧ Cf mC mC' ∧ Mf mR mR')
  ∨ (∃ (f : Int) (s : Nat) (mC' mR' : Mem), rC = some (0, mC') ∧ rR = some (0, mR') ∧ 1 ≤ f ∧ f ≤ 6 ∧ FC f s mC mC' ∧ FM f s mR mR')
theorem ff_b (k : Int) : 1 ≤ (if k = 4 then 1 else 2 : Int) ∧ (if k = 4 then 1 else 2 : Int) ≤ 6 := by split <;> omega
/-- the reference's end of a part -/
noncomputable def mEnd (m : Mem) : Option (Int × Mem) := if (w32 (m 75 11)) = 4 then (bV (Mo_ahead m) fun m33 => some (1, m33)) else some (((Mo_fails 2 m).1 % 2), (Mo_fails 2 m).2)
theorem sgn {B : Nat → Int} {n p tp p0 : Nat} {mC mR mC0 mR0 : Mem} (h : BkR B n tp mC mR) (h2 : N2 mC mR) (hp : p ≤ n) (hp0 : p0 ≤ p) (e3 : mC 5 3 = (p : Int)) (ht : MT B n (tkS B n p) mR) (fC : Cf mC0 mC) (fR : Mf mR0 mR) : PR B n p0 mC0 mR0 (bE (Tape_takeKind 3 mC) fun x7 m9 => some ((x7 % 2), m9)) (mEnd mR) := by
  obtain ⟨h1, hM, h3, _⟩ := id h
  have hs := tkS_b B hp
  unfold mEnd
  rcases c_tKind h1 hp e3 (k := 3) (by omega) with ⟨q, mC', j1, j2, j3⟩ | ⟨q, mC', j1, j2⟩
  · have g := tkE_gt B (n := n) (s := tkS B n p) (by omega)
    have gb := tkE_b B hs.2
    obtain ⟨mR', k1, k2, k3⟩ := m_next hM hs.2 (ht.2.2.1 (by omega))
    left
    refine ⟨tkE B n (tkS B n p), tp, mC', mR', ?_, ?_, by omega, gb.2, j3.2.1, k3, h.tk j2 k2, h2.tk j2 k2, fC.trans j2.cf, fR.trans k2.mf⟩
    · rw [j1, bE_some]; rfl
    · rw [if_pos ((m_isS ht).mpr q), k1, bV_some]
  · obtain ⟨mR', k1, k2⟩ := m_fail ht h3 (f := 2) (g := if tkK B n (tkS B n p) = 4 then 1 else 2) rfl
    right
    refine ⟨_, tkS B n p, mC', mR', ?_, ?_, (ff_b _).1, (ff_b _).2, j2.cf fC, k2.mf fR⟩
    · rw [j1, bE_some]; rfl
    · rw [if_neg (fun z => q ((m_isS ht).mp z)), k1]; rfl
theorem isNewT {m : Mem} {a tp : Nat} (ha : a < 5) (ht : tp < 32) (e : m 16 2 = (tp : Int)) (hz : (tp / 2 ^ a) % 2 = 0) : BookR_isNew (a : Int) m = (1, st m 16 2 ((tp + 2 ^ a : Nat) : Int)) := by
  have := (tdC ⟨tp, ht⟩ ⟨a, ha⟩).2 hz
  unfold BookR_isNew
  rw [e, if_pos this.1, this.2.2.1]
theorem isNewF {B : Nat → Int} {n s : Nat} {m : Mem} {a tp : Nat} (ha : a < 5) (ht : tp < 32) (e : m 16 2 = (tp : Int)) (hz : ¬ (tp / 2 ^ a) % 2 = 0) (hc : CTk B n s m) : ∃ m', BookR_isNew (a : Int) m = (0, m') ∧ FC 5 s m m' := by
  have := (tdC ⟨tp, ht⟩ ⟨a, ha⟩).1 hz
  obtain ⟨m', j1, j2⟩ := c_fail hc 5
  refine ⟨m', ?_, j2⟩
  unfold BookR_isNew
  rw [e, if_neg this.1, j1]; rfl
/-- a new part is marked as told by both -/
theorem BkR.told {B : Nat → Int} {n tp : Nat} {mC mR : Mem} (h : BkR B n tp mC mR) {a : Nat} (ha : a < 5) (hz : (tp / 2 ^ a) % 2 = 0) : BkR B n (tp + 2 ^ a) (st mC 16 2 ((tp + 2 ^ a : Nat) : Int)) (st mR 75 18 (tdN (tp + 2 ^ a))) := by
  obtain ⟨h1, h2, h3, ⟨h4, h5, h6⟩, ⟨h7, h8, h9⟩, h10⟩ := h
  have := (tdC ⟨tp, h7⟩ ⟨a, ha⟩).2 hz
  refine ⟨h1.cf ((Cf.refl mC).st _ _ (by omega)), h2.mf ((Mf.refl mR).s75 _ (by omega)), h3, ⟨h4, h5, h6⟩, ⟨this.2.2.2.2, rfl, rfl⟩, ?_⟩
  exact h10.of (fun i _ => rfl) rfl rfl (fun i _ _ _ => rfl)
