/-! layer 2: laths, the reference's determinants -/
theorem m_d24 {v1 v2 : Int} {K : Int → Option (Int × Mem)} {m : Mem} : ∀ (n u : Nat) (v3 : Int), u < 256 → pcN 10 u < n → Mo_determinant_L24 v1 v2 K m n v3 (u : Int) = K (v3 + (pcN 10 u : Int)) := by
  intro n
  induction n with
  | zero => intro u v3 _ h; omega
  | succ n ih =>
    intro u v3 hu hn
    rw [Mo_determinant_L24, w32_id (x := (u : Int)) (by omega) (by omega)]
    by_cases q : u = 0
    · subst q
      rw [if_pos (show ((0 : Nat) : Int) = 0 from rfl), show pcN 10 0 = 0 from rfl]
      simp
    · obtain ⟨h1, h2, h3⟩ := dtL ⟨u, hu⟩ q
      simp only at h1 h2 h3
      rw [if_neg (by omega), h1, ih _ _ h3 (by omega)]
      congr 1
      omega
def Cl (F : Nat) (v1 : Int) (col : Nat) : Prop := w32 v1 = v1 ∧ ∀ c : Nat, c < F → ((c : Int) = v1 ↔ c = col)
theorem m_d63 {P F u l col : Nat} {fr : List Nat} {r : Nat → Int} {v1 : Int} {K : Int → Mem → Option (Int × Mem)} {m : Mem} (hF : F ≤ 8) (hu : u < 256) (hl : l < F) (hc : Cl F v1 col) (e33 : m 75 33 = (F : Int)) (e84 : ∀ j : Nat, j < F → m 84 (8 * (l : Int) + j) = GN P (fr.getD l 0) (fr.getD j 0)) (e85 : m 85 (l : Int) = r l) (e86 : ∀ j : Nat, j < F → ¬ Fz u j → m 86 ((u - 2 ^ j : Nat) : Int) = dtN F (enN P fr col r) l (u - 2 ^ j)) : ∀ (n k c : Nat) (x s : Int), c + k = F → k < n → (s = 1 ∨ s = -1) → Mo_determinant_L63 v1 (l : Int) K n (u : Int) x s (c : Int) m = K ((u : Int) + 1) (st m 86 (u : Int) (x + smN u (fun c => enN P fr col r l c * dtN F (enN P fr col r) l (u - 2 ^ c)) k c s)) := by
  intro n
  induction n with
  | zero => intro k c x s _ h; omega
  | succ n ih =>
    intro k c x s hk hn hs
    rw [Mo_determinant_L63, e33, w32_id (x := (F : Int)) (by omega) (by omega), w32_id (x := (c : Int)) (by omega) (by omega)]
    cases k with
    | zero =>
      rw [if_pos (by omega), w32_id (x := (u : Int)) (by omega) (by omega), if_pos (by omega)]
      simp [smN]
    | succ k =>
      have hcF : c < F := by omega
      have hcc : (c : Int) + 1 = ((c + 1 : Nat) : Int) := by omega
      rw [if_neg (by omega), smN_s]
      by_cases z : Fz u c
      · rw [bitZ (by omega) (by omega) z, if_neg (by omega), if_pos (fzB_t.mpr z), hcc]
        exact ih k (c + 1) x s (by omega) (by omega) hs
      · have z' : ¬ fzB u c = true := fun y => z (fzB_t.mp y)
        have eb := dtB ⟨u, hu⟩ ⟨c, by omega⟩ z
        simp only at eb
        have hs' : w32 s = s := by rcases hs with e | e <;> rw [e] <;> decide
        have hsub : u - 2 ^ c < 256 := Nat.lt_of_le_of_lt (Nat.sub_le _ _) hu
        rw [bitO (by omega) (by omega) z, if_pos (by omega), if_neg z', hc.1, eb, w32_id (x := ((u - 2 ^ c : Nat) : Int)) (by omega) (by omega), hs', e86 c hcF z, w32_id (x := 8 * (l : Int) + c) (by omega) (by omega), w32_id (x := (l : Int)) (by omega) (by omega), hcc]
        by_cases y : c = col
        · have ec : (c : Int) = v1 := (hc.2 c hcF).mpr y
          rw [if_neg (fun w => w ec), if_pos (by omega), if_pos (by omega), e85, ih k (c + 1) _ (-s) (by omega) (by omega) (by omega)]
          congr 2
          have e0 : enN P fr col r l c = r l := by unfold enN; rw [if_pos y]
          rw [e0, Int.mul_assoc, Int.add_assoc]
        · have ec : ¬ (c : Int) = v1 := fun w => y ((hc.2 c hcF).mp w)
          rw [if_pos ec, if_pos (by omega), if_pos (by omega), e84 c hcF, ih k (c + 1) _ (-s) (by omega) (by omega) (by omega)]
          congr 2
          have e0 : enN P fr col r l c = GN P (fr.getD l 0) (fr.getD c 0) := by unfold enN; rw [if_neg y]
          rw [e0, Int.mul_assoc, Int.add_assoc]
theorem m_d9 {P F col : Nat} {fr : List Nat} {r : Nat → Int} {v1 : Int} (hF : F ≤ 8) (hc : Cl F v1 col) {M : Nat} (eM : M = 2 ^ F) : ∀ (n u : Nat) (m : Mem), u ≤ M → 1 ≤ u → M - u < n → m 75 33 = (F : Int) → (∀ x j : Nat, x < F → j < F → m 84 (8 * (x : Int) + j) = GN P (fr.getD x 0) (fr.getD j 0)) → (∀ x : Nat, x < F → m 85 (x : Int) = r x) → (∀ w : Nat, w < u → m 86 (w : Int) = dtN F (enN P fr col r) (pcN 10 w) w) → ∃ m', Mo_determinant_L9 v1 n (u : Int) m = some (dtN F (enN P fr col r) F (2 ^ F - 1), m') ∧ (∀ c, c ≠ 86 → m' c = m c) := by
  obtain ⟨q1, q2, q3, _⟩ := dtE ⟨F, by omega⟩
  simp only at q1 q2 q3
  have hM : M ≤ 256 := by omega
  have eSh : bShl 1 (F : Int) = (M : Int) := by rw [shlN (by omega), eM]
  have pcM : pcN 10 (M - 1) = F := by rw [eM]; exact q1
  have inM : ∀ w, w < M → pcN 10 w ≤ F := fun w hw => dtM ⟨F, by omega⟩ ⟨w, by omega⟩ (by rw [← eM]; exact hw)
  rw [← eM] at q3 ⊢
  clear eM q1 q2
  intro n
  induction n with
  | zero => intro u m _ _ h; omega
  | succ n ih =>
    intro u m hu hu1 hn e33 e84 e85 e86
    rw [Mo_determinant_L9, e33, eSh, w32_id (x := (M : Int)) (by omega) (by omega), w32_id (x := (u : Int)) (by omega) (by omega)]
    by_cases q : M ≤ u
    · rw [if_pos (by omega), w32_id (x := (M : Int) - 1) (by omega) (by omega), if_pos (by omega), show (M : Int) - 1 = ((M - 1 : Nat) : Int) by omega, e86 (M - 1) (by omega), pcM]
      exact ⟨m, rfl, fun _ _ => rfl⟩
    · have hM1 : u + 1 ≤ M := by omega
      have hM2 : M - (u + 1) < n := by omega
      have hM3 : 1 ≤ u + 1 := by omega
      have hpc := inM u (by omega)
      have hpc0 : pcN 10 u ≠ 0 := fun e => by have := dtZ ⟨u, by omega⟩ e; simp only at this; omega
      obtain ⟨l, el⟩ : ∃ l, pcN 10 u = l + 1 := ⟨pcN 10 u - 1, by omega⟩
      rw [if_neg (by omega), m_d24 FU u (-1) (by omega) (by rw [FU_eq]; omega), el, show -1 + ((l + 1 : Nat) : Int) = (l : Int) by omega]
      have esg : (if ¬ w32 (Int.tmod (w32 (l : Int)) 2) = 0 then (-1 : Int) else 1) = sgN l := by
        rw [w32_id (x := (l : Int)) (by omega) (by omega), Int.tmod_eq_emod_of_nonneg (by omega), w32_id (by omega) (by omega)]
        unfold sgN
        by_cases y : l % 2 = 0
        · rw [if_neg (by omega), if_pos y]
        · rw [if_pos (by omega), if_neg y]
      rw [esg]
      have hs : sgN l = 1 ∨ sgN l = -1 := by unfold sgN; split <;> simp
      have e := m_d63 (P := P) (F := F) (u := u) (l := l) (col := col) (fr := fr) (r := r) (v1 := v1) (K := Mo_determinant_L9 v1 n) (m := m) hF (by omega) (by omega) hc e33 (fun j hj => e84 l j (by omega) hj) (e85 l (by omega)) (fun j hj hz => by
        have h1 := dtP ⟨u, by omega⟩ ⟨j, by omega⟩ hz
        have h2 := dtC ⟨u, by omega⟩ ⟨j, by omega⟩ hz
        simp only at h1 h2
        have h3 : 0 < 2 ^ j := Nat.pow_pos (by decide)
        rw [e86 _ (by omega), show pcN 10 (u - 2 ^ j) = l by omega]) FU F 0 0 (sgN l) (by omega) (by rw [FU_eq]; omega) hs
      rw [show ((0 : Nat) : Int) = 0 from rfl, Int.zero_add, ← dtN_s F (enN P fr col r) l u] at e
      rw [show (u : Int) + 1 = ((u + 1 : Nat) : Int) by omega] at e
      obtain ⟨m', j1, j2⟩ := ih (u + 1) (st m 86 (u : Int) (dtN F (enN P fr col r) (l + 1) u)) hM1 hM3 hM2 (by rw [st_ne _ _ _ (by decide)]; exact e33) (by rw [st_ne _ _ _ (by decide)]; exact e84) (by rw [st_ne _ _ _ (by decide)]; exact e85) (fun w hw => by
        rw [st_eq]
        by_cases y : w = u
        · subst y; rw [if_pos rfl, el]
        · rw [if_neg (by omega)]; exact e86 w (by omega))
      exact ⟨m', e.trans j1, fun c hc' => by rw [j2 c hc', st_ne _ _ _ hc']⟩
theorem m_det {P D col : Nat} {b : Nat → Int} {v1 : Int} {m : Mem} (hP : P ≤ 8) (hl : LdR P D b m) (hc : Cl (fmN P D).length v1 col) : ∃ m', Mo_determinant v1 m = some (dtN (fmN P D).length (enN P (fmN P D) col (fun x => sdN (fun d => bbN D b d * rgN P (fmN P D) d x) P)) (fmN P D).length (2 ^ (fmN P D).length - 1), m') ∧ (∀ c, c ≠ 86 → m' c = m c) := by
  have hle : (fmN P D).length ≤ P := frN_len D P 0
  obtain ⟨q1, q2, q3, _⟩ := dtE ⟨(fmN P D).length, by omega⟩
  simp only at q1 q2 q3
  obtain ⟨m', j1, j2⟩ := m_d9 (P := P) (F := (fmN P D).length) (col := col) (fr := fmN P D) (r := fun x => sdN (fun d => bbN D b d * rgN P (fmN P D) d x) P) (v1 := v1) (by omega) hc (M := 2 ^ (fmN P D).length) rfl FU 1 (st m 86 0 1) (by omega) (by omega) (by rw [FU_eq]; omega) (by rw [st_ne _ _ _ (by decide)]; exact hl.1) (by rw [st_ne _ _ _ (by decide)]; exact hl.2.1) (by rw [st_ne _ _ _ (by decide)]; exact hl.2.2) (fun w hw => by
    have : w = 0 := by omega
    subst this
    rfl)
  refine ⟨m', ?_, fun c hc' => by rw [j2 c hc', st_ne _ _ _ hc']⟩
  unfold Mo_determinant
  exact j1
theorem ckD_of {P D : Nat} {L : List (List Int)} {bf : Int} {fr : List Nat} {F p : Nat} : ∀ (n d : Nat), d < n → ckD P D L bf fr F p n = true → gt2 L p (P + d) = if fzB D p then (if fzB D d then 0 else dtN F (enN P fr (frN D p 0).length (rgN P fr d)) F (2 ^ F - 1)) else (if d = p then bf else 0)
  | 0, _, h, _ => by omega
  | n + 1, d, h, hc => by
    rw [ckD, Bool.and_eq_true, decide_eq_true_eq] at hc
    by_cases q : d = n
    · subst q; exact hc.1
    · exact ckD_of n d (by omega) hc.2
theorem ckP_of {P D : Nat} {L : List (List Int)} {bf : Int} {fr : List Nat} {F : Nat} : ∀ (n p : Nat), p < n → ckP P D L bf fr F n = true → ckD P D L bf fr F p P = true
  | 0, _, h, _ => by omega
  | n + 1, p, h, hc => by
    rw [ckP, Bool.and_eq_true] at hc
    by_cases q : p = n
    · subst q; exact hc.1
    · exact ckP_of n p (by omega) hc.2
/-- what the check says of a line with places P and ducks D -/
theorem ck_use {P D : Nat} (h1 : 1 ≤ P) (h8 : P ≤ 8) (hD : D < 2 ^ P) (h2 : 2 ≤ pcN 10 D) (b : Nat → Int) : ∃ (bf : Int) (L : List (List Int)), soN P 0 1 (L0N P D) = some (bf, L) ∧ 0 < bf ∧ bf ≤ 1000 ∧ (∀ r, dtN (fmN P D).length (enN P (fmN P D) 100 r) (fmN P D).length (2 ^ (fmN P D).length - 1) = bf) ∧ (∀ p, p < P → ¬ Fz D p → sdN (fun d => b d * gt2 L p (P + d)) P = b p * bf) ∧ (∀ p, p < P → Fz D p → sdN (fun d => b d * gt2 L p (P + d)) P = dtN (fmN P D).length (enN P (fmN P D) (frN D p 0).length (fun x => sdN (fun d => bbN D b d * rgN P (fmN P D) d x) P)) (fmN P D).length (2 ^ (fmN P D).length - 1)) := by
  have hc := ck_all h1 h8 hD h2
  unfold ckN at hc
  have hle : (fmN P D).length ≤ P := frN_len D P 0
  obtain ⟨q1, q2, q3, q4⟩ := dtE ⟨(fmN P D).length, by omega⟩
  simp only at q1 q2 q3 q4
  match hs : soN P 0 1 (L0N P D), hc with
  | some (bf, L), hc =>
    simp only [Bool.and_eq_true, decide_eq_true_eq] at hc
    obtain ⟨⟨⟨c1, c2⟩, c3⟩, c4⟩ := hc
    refine ⟨bf, L, rfl, c1, c2, ?_, ?_, ?_⟩
    · intro r
      rw [c3]
      have gen : ∀ (l set : Nat), dtN (fmN P D).length (enN P (fmN P D) 100 r) l set = dtN (fmN P D).length (enN P (fmN P D) 100 (fun _ => 0)) l set := by
        intro l
        induction l with
        | zero => intro set; rfl
        | succ l ih =>
          intro set
          rw [dtN_s, dtN_s]
          refine smN_c _ 0 _ (fun j _ hj _ => ?_)
          show enN P (fmN P D) 100 r l j * _ = enN P (fmN P D) 100 (fun _ => 0) l j * _
          rw [ih]
          unfold enN
          rw [if_neg (by omega), if_neg (by omega)]
      exact gen _ _
    · intro p hp hz
      have hz' : ¬ fzB D p = true := fun y => hz (fzB_t.mp y)
      have e : ∀ d, d < P → gt2 L p (P + d) = if d = p then bf else 0 := fun d hd => by
        have := ckD_of P d hd (ckP_of P p hp c4)
        rw [if_neg hz'] at this; exact this
      rw [sdN_one (r := p) P hp (fun d hd hn => by show b d * _ = 0; rw [e d hd, if_neg hn, Int.mul_zero]), e p hp, if_pos rfl]
    · intro p hp hz
      have hlt := frN_sub D hp hz
      have hle2 : (frN D P 0).length ≤ P := frN_len D P 0
      have hz3 := q4 ⟨(frN D p 0).length, by omega⟩ hlt
      rw [dt_lin (P := P) (F := (fmN P D).length) (Q := P) (fr := fmN P D) (col := (frN D p 0).length) (b := bbN D b) (rd := fun d => rgN P (fmN P D) d) (r := fun x => sdN (fun d => bbN D b d * rgN P (fmN P D) d x) P) (by omega) (by omega) (fmN P D).length (2 ^ (fmN P D).length - 1) (Nat.le_refl _) (fun i _ => rfl) (by omega) q1 hz3]
      refine sdN_c P (fun d hd => ?_)
      have := ckD_of P d hd (ckP_of P p hp c4)
      rw [if_pos (fzB_t.mpr hz)] at this
      show b d * _ = bbN D b d * _
      rw [this]
      unfold bbN
      by_cases y : fzB D d = true
      · rw [if_pos y, if_pos y, Int.mul_zero, Int.zero_mul]
      · rw [if_neg y, if_neg y]
