/-! layer 2: laths, determinants are linear in a column -/
theorem dtP : ∀ (u : Fin 256) (c : Fin 8), ¬ (u.val / 2 ^ c.val) % 2 = 0 → pcN 10 (u.val - 2 ^ c.val) + 1 = pcN 10 u.val := by decide +kernel
theorem dtF : ∀ (u : Fin 256) (c j : Fin 8), ¬ (u.val / 2 ^ c.val) % 2 = 0 → j ≠ c → ((u.val - 2 ^ c.val) / 2 ^ j.val) % 2 = (u.val / 2 ^ j.val) % 2 := by decide +kernel
theorem dtC : ∀ (u : Fin 256) (c : Fin 8), ¬ (u.val / 2 ^ c.val) % 2 = 0 → ((u.val - 2 ^ c.val) / 2 ^ c.val) % 2 = 0 ∧ 2 ^ c.val ≤ u.val := by decide +kernel
theorem dtB : ∀ (u : Fin 256) (c : Fin 8), ¬ (u.val / 2 ^ c.val) % 2 = 0 → bAnd (u.val : Int) (bXor (bShl 1 (c.val : Int)) (-1)) = ((u.val - 2 ^ c.val : Nat) : Int) := by decide +kernel
theorem dtL : ∀ (u : Fin 256), u.val ≠ 0 → bAnd (u.val : Int) ((u.val : Int) - 1) = ((Nat.land u.val (u.val - 1) : Nat) : Int) ∧ pcN 10 (Nat.land u.val (u.val - 1)) + 1 = pcN 10 u.val ∧ Nat.land u.val (u.val - 1) < 256 := by decide +kernel
theorem dtZ : ∀ (u : Fin 256), pcN 10 u.val = 0 → u.val = 0 := by decide +kernel
theorem dtM : ∀ (n : Fin 9) (u : Fin 256), u.val < 2 ^ n.val → pcN 10 u.val ≤ n.val := by decide +kernel
theorem dtE : ∀ (n : Fin 9), pcN 10 (2 ^ n.val - 1) = n.val ∧ 2 ^ n.val ≤ 256 ∧ 1 ≤ 2 ^ n.val ∧ ∀ j : Fin 8, j.val < n.val → ¬ ((2 ^ n.val - 1) / 2 ^ j.val) % 2 = 0 := by decide +kernel
theorem sdN_mul (x : Int) (f : Nat → Int) : ∀ (n : Nat), x * sdN f n = sdN (fun d => x * f d) n
  | 0 => by simp [sdN]
  | n + 1 => by rw [sdN_s, sdN_s, Int.mul_add, sdN_mul x f n]
theorem sdN_add (f g : Nat → Int) : ∀ (n : Nat), sdN f n + sdN g n = sdN (fun d => f d + g d) n
  | 0 => by simp [sdN]
  | n + 1 => by rw [sdN_s, sdN_s, sdN_s, ← sdN_add f g n]; omega
theorem smN_s (set : Nat) (g : Nat → Int) (k c : Nat) (s : Int) : smN set g (k + 1) c s = if fzB set c then smN set g k (c + 1) s else s * g c + smN set g k (c + 1) (-s) := rfl
theorem smN_c {set : Nat} {g g' : Nat → Int} : ∀ (k c : Nat) (s : Int), (∀ j, c ≤ j → j < c + k → ¬ Fz set j → g j = g' j) → smN set g k c s = smN set g' k c s
  | 0, _, _, _ => rfl
  | k + 1, c, s, h => by
    rw [smN_s, smN_s]
    by_cases q : fzB set c = true
    · rw [if_pos q, if_pos q]; exact smN_c k (c + 1) s (fun j h1 h2 => h j (by omega) (by omega))
    · rw [if_neg q, if_neg q, h c (by omega) (by omega) (fun z => q (fzB_t.mpr z)), smN_c k (c + 1) (-s) (fun j h1 h2 => h j (by omega) (by omega))]
theorem smN_lin {set P : Nat} {b : Nat → Int} {g : Nat → Int} {gd : Nat → Nat → Int} : ∀ (k c : Nat) (s : Int), (∀ j, c ≤ j → j < c + k → ¬ Fz set j → g j = sdN (fun d => b d * gd d j) P) → smN set g k c s = sdN (fun d => b d * smN set (gd d) k c s) P
  | 0, _, _, _ => by
    rw [sdN_z P (fun d _ => by show b d * 0 = 0; exact Int.mul_zero _)]; rfl
  | k + 1, c, s, h => by
    rw [smN_s]
    by_cases q : fzB set c = true
    · rw [if_pos q, smN_lin k (c + 1) s (fun j h1 h2 => h j (by omega) (by omega))]
      exact sdN_c P (fun d _ => by show b d * _ = b d * _; rw [smN_s, if_pos q])
    · rw [if_neg q, h c (by omega) (by omega) (fun z => q (fzB_t.mpr z)), smN_lin k (c + 1) (-s) (fun j h1 h2 => h j (by omega) (by omega)), sdN_mul, sdN_add]
      exact sdN_c P (fun d _ => by show s * (b d * gd d c) + b d * _ = b d * _; rw [smN_s, if_neg q, Int.mul_add, Int.mul_left_comm])
theorem dtN_s (F : Nat) (E : Nat → Nat → Int) (l set : Nat) : dtN F E (l + 1) set = smN set (fun c => E l c * dtN F E l (set - 2 ^ c)) F 0 (sgN l) := by
  rw [dtN]
  refine smN_c F 0 _ (fun j _ _ _ => ?_)
  show (if E l j = 0 then 0 else _) = _
  by_cases q : E l j = 0
  · rw [if_pos q, q, Int.zero_mul]
  · rw [if_neg q]
theorem dt_in {P F : Nat} {fr : List Nat} {col : Nat} {r r' : Nat → Int} (hF : F ≤ 8) (hcol : col < 8) : ∀ (l set : Nat), set < 256 → Fz set col → dtN F (enN P fr col r) l set = dtN F (enN P fr col r') l set
  | 0, _, _, _ => rfl
  | l + 1, set, hs, hz => by
    rw [dtN_s, dtN_s]
    refine smN_c F 0 _ (fun j _ h2 h3 => ?_)
    have hne : j ≠ col := fun e => h3 (by rw [e]; exact hz)
    have hz' : Fz (set - 2 ^ j) col := by
      have := dtF ⟨set, hs⟩ ⟨j, by omega⟩ ⟨col, hcol⟩ h3 (by intro e; exact hne (by have := congrArg Fin.val e; simpa using this.symm))
      unfold Fz at *; exact this.trans hz
    show enN P fr col r l j * _ = enN P fr col r' l j * _
    rw [dt_in hF hcol l (set - 2 ^ j) (Nat.lt_of_le_of_lt (Nat.sub_le _ _) hs) hz']
    unfold enN
    rw [if_neg hne, if_neg hne]
theorem dt_lin {P F Q : Nat} {fr : List Nat} {col : Nat} {b : Nat → Int} {rd : Nat → Nat → Int} {r : Nat → Int} (hF : F ≤ 8) (hcol : col < 8) : ∀ (l set : Nat), l ≤ F → (∀ i, i < F → r i = sdN (fun d => b d * rd d i) Q) → set < 256 → pcN 10 set = l → ¬ Fz set col → dtN F (enN P fr col r) l set = sdN (fun d => b d * dtN F (enN P fr col (rd d)) l set) Q
  | 0, set, _, _, hs, hp, hz => by
    have e : set = 0 := dtZ ⟨set, hs⟩ hp
    subst e
    exact absurd (show Fz 0 col by unfold Fz; rw [Nat.zero_div]) hz
  | l + 1, set, hl, hr, hs, hp, hz => by
    rw [dtN_s]
    rw [smN_lin (g := fun c => enN P fr col r l c * dtN F (enN P fr col r) l (set - 2 ^ c)) (gd := fun d c => enN P fr col (rd d) l c * dtN F (enN P fr col (rd d)) l (set - 2 ^ c)) (b := b) (P := Q) F 0 (sgN l) (fun j _ h2 h3 => ?_)]
    · exact sdN_c Q (fun d _ => by show b d * _ = b d * _; rw [dtN_s])
    · have hp' : pcN 10 (set - 2 ^ j) = l := by
        have := dtP ⟨set, hs⟩ ⟨j, by omega⟩ h3
        simp only at this
        omega
      show enN P fr col r l j * dtN F (enN P fr col r) l (set - 2 ^ j) = sdN (fun d => b d * (enN P fr col (rd d) l j * dtN F (enN P fr col (rd d)) l (set - 2 ^ j))) Q
      by_cases q : j = col
      · subst q
        have e1 : enN P fr j r l j = sdN (fun d => b d * rd d l) Q := by unfold enN; rw [if_pos rfl]; exact hr l (by omega)
        rw [e1, Int.mul_comm, sdN_mul]
        refine sdN_c Q (fun d _ => ?_)
        show _ * (b d * rd d l) = b d * (enN P fr j (rd d) l j * _)
        rw [dt_in (r := r) (r' := rd d) hF hcol l (set - 2 ^ j) (Nat.lt_of_le_of_lt (Nat.sub_le _ _) hs) (dtC ⟨set, hs⟩ ⟨j, hcol⟩ h3).1]
        unfold enN
        rw [if_pos rfl, Int.mul_left_comm, Int.mul_comm (rd d l)]
      · have hz' : ¬ Fz (set - 2 ^ j) col := by
          have := dtF ⟨set, hs⟩ ⟨j, by omega⟩ ⟨col, hcol⟩ h3 (by intro e; exact q (by have := congrArg Fin.val e; simpa using this.symm))
          unfold Fz at *
          intro z
          exact hz (this.symm.trans z)
        rw [dt_lin hF hcol l (set - 2 ^ j) (by omega) hr (Nat.lt_of_le_of_lt (Nat.sub_le _ _) hs) hp' hz', sdN_mul]
        refine sdN_c Q (fun d _ => ?_)
        show enN P fr col r l j * (b d * _) = b d * (enN P fr col (rd d) l j * _)
        have e2 : enN P fr col r l j = enN P fr col (rd d) l j := by unfold enN; rw [if_neg q, if_neg q]
        rw [e2, Int.mul_left_comm]
/-! the free places -/
theorem frN_e (D : Nat) : ∀ (k s : Nat), frN D (k + 1) s = frN D k s ++ (if fzB D (s + k) then [s + k] else [])
  | 0, s => by
    simp only [frN, Nat.add_zero, List.nil_append]
  | k + 1, s => by
    have ih := frN_e D k (s + 1)
    rw [frN, ih, show s + (k + 1) = s + 1 + k by omega]
    conv => rhs; rw [frN]
    by_cases q : fzB D s = true
    · rw [if_pos q, if_pos q]; rfl
    · rw [if_neg q, if_neg q]
theorem frN_len (D : Nat) : ∀ (k s : Nat), (frN D k s).length ≤ k
  | 0, _ => by simp [frN]
  | k + 1, s => by
    have := frN_len D k (s + 1)
    rw [frN]
    split
    · simp; exact this
    · omega
theorem frN_lt (D : Nat) : ∀ (k s a : Nat), a < (frN D k s).length → s ≤ (frN D k s).getD a 0 ∧ (frN D k s).getD a 0 < s + k ∧ Fz D ((frN D k s).getD a 0)
  | 0, _, _, h => by simp [frN] at h
  | k + 1, s, a, h => by
    rw [frN] at h ⊢
    by_cases q : fzB D s = true
    · rw [if_pos q] at h ⊢
      cases a with
      | zero => simp only [List.getD_cons_zero]; exact ⟨by omega, by omega, fzB_t.mp q⟩
      | succ a =>
        simp only [List.getD_cons_succ]
        have := frN_lt D k (s + 1) a (by simpa using h)
        exact ⟨by omega, by omega, this.2.2⟩
    · rw [if_neg q] at h ⊢
      have := frN_lt D k (s + 1) a h
      exact ⟨by omega, by omega, this.2.2⟩
/-- how many are free below a place: below the whole many -/
theorem frN_sub (D : Nat) {p P : Nat} (hp : p < P) (hz : Fz D p) : (frN D p 0).length < (frN D P 0).length := by
  have mono : ∀ k, (frN D (p + 1) 0).length ≤ (frN D (p + 1 + k) 0).length := by
    intro k
    induction k with
    | zero => exact Nat.le_refl _
    | succ k ih =>
      rw [show p + 1 + (k + 1) = (p + 1 + k) + 1 by omega, frN_e D (p + 1 + k) 0, List.length_append]
      omega
  have h1 := mono (P - (p + 1))
  rw [show p + 1 + (P - (p + 1)) = P by omega] at h1
  have h2 : (frN D (p + 1) 0).length = (frN D p 0).length + 1 := by
    rw [frN_e D p 0, Nat.zero_add, if_pos (fzB_t.mpr hz), List.length_append]; rfl
  omega
