/-! layer 2: the least moves, as one fold over all ways -/
def foS {α : Type} (g : Int → α → α) : Nat → Int → α → α
  | 0, _, b => b
  | n + 1, x, b => foS g n (x + 1) (g x b)
theorem foS_id {α : Type} {g : Int → α → α} {b : α} : ∀ (n : Nat) (x : Int), (∀ y, x ≤ y → y < x + n → g y b = b) → foS g n x b = b
  | 0, _, _ => rfl
  | n + 1, x, h => by
    rw [foS, h x (by omega) (by omega)]
    exact foS_id n (x + 1) (fun y a c => h y (by omega) (by omega))
theorem foS_add {α : Type} (g : Int → α → α) : ∀ (a c : Nat) (x : Int) (b : α), foS g (a + c) x b = foS g c (x + a) (foS g a x b)
  | 0, c, x, b => by
    rw [Nat.zero_add, show x + ((0 : Nat) : Int) = x by omega]; rfl
  | a + 1, c, x, b => by
    rw [show a + 1 + c = (a + c) + 1 by omega, foS, foS_add g a c, foS, show x + 1 + (a : Int) = x + ((a + 1 : Nat) : Int) by omega]
theorem foS_congr {α : Type} {g g' : Int → α → α} : ∀ (n : Nat) (x : Int) (b : α), (∀ y b, x ≤ y → y < x + n → g y b = g' y b) → foS g n x b = foS g' n x b
  | 0, _, _, _ => rfl
  | n + 1, x, b, h => by
    rw [foS, foS, h x b (by omega) (by omega)]
    exact foS_congr n (x + 1) _ (fun y b p q => h y b (by omega) (by omega))
theorem foS_mul {α : Type} (g : Int → α → α) (a : Nat) (x : Int) : ∀ (c : Nat) (s : Int) (b : α), foS g (c * a) (x + s * a) b = foS (fun y b => foS g a (x + y * a) b) c s b
  | 0, _, _ => by rw [Nat.zero_mul]; rfl
  | c + 1, s, b => by
    rw [Nat.succ_mul, Nat.add_comm, foS_add, foS, show x + s * (a : Int) + (a : Int) = x + (s + 1) * (a : Int) by rw [Int.add_mul, Int.one_mul, Int.add_assoc], foS_mul g a x c (s + 1)]
abbrev Bs := Int × Int × (Int → Int)
def lfS (T : (Int → Int) → Bs → Bs) (r : Int) : Nat → Int → (Int → Int) → Bs → Bs
  | 0, _, o, b => T o b
  | j + 1, k, o, b => foS (fun x b => lfS T r j (k + 1) (upF o k (x - r)) b) (2 * r + 1).toNat 0 b
theorem lfS_id {T : (Int → Int) → Bs → Bs} {r : Int} {b : Bs} : ∀ (j : Nat) (k : Int) (o : Int → Int), (∀ o', (∀ i, i < k → o' i = o i) → T o' b = b) → lfS T r j k o b = b
  | 0, _, o, h => h o (fun _ _ => rfl)
  | j + 1, k, o, h => by
    rw [lfS]
    refine foS_id _ _ (fun y _ _ => ?_)
    refine lfS_id j (k + 1) _ (fun o' ho => h o' (fun i hi => ?_))
    rw [ho i (by omega)]; unfold upF; rw [if_neg (by omega)]
def ovr (F P o : Int → Int) : Nat → Int → Int
  | 0 => F
  | d + 1 => upF (ovr F P o d) (P d) (F (P d) + o d)
def smS (o : Int → Int) : Nat → Int
  | 0 => 0
  | d + 1 => smS o d + iab (o d)
def mvS (o : Int → Int) : Nat → Int
  | 0 => 0
  | d + 1 => mvS o d + if o d = 0 then 0 else 1
abbrev Vl (F P o : Int → Int) (n : Nat) : Prop := ∀ k : Nat, k < n → 0 ≤ F (P k) + o k ∧ F (P k) + o k ≤ 999
noncomputable def lfT (F P : Int → Int) (eye S W : Int) (n : Nat) (o : Int → Int) (b : Bs) : Bs :=
  if Vl F P o n ∧ alU (ovr F P o n) eye S W = 0 ∧ (smS o n < b.1 ∨ (smS o n = b.1 ∧ mvS o n < b.2.1)) then (smS o n, mvS o n, fun k => if 0 ≤ k ∧ k < n then o k else 0) else b
theorem iab_0 (x : Int) : 0 ≤ iab x := by unfold iab; omega
theorem smS_c {o o' : Int → Int} : ∀ (d : Nat), (∀ i : Int, 0 ≤ i → i < d → o' i = o i) → smS o' d = smS o d
  | 0, _ => rfl
  | d + 1, h => by rw [smS, smS, smS_c d (fun i a b => h i a (by omega)), h d (by omega) (by omega)]
theorem mvS_c {o o' : Int → Int} : ∀ (d : Nat), (∀ i : Int, 0 ≤ i → i < d → o' i = o i) → mvS o' d = mvS o d
  | 0, _ => rfl
  | d + 1, h => by rw [mvS, mvS, mvS_c d (fun i a b => h i a (by omega)), h d (by omega) (by omega)]
theorem ovr_c {F P o o' : Int → Int} : ∀ (d : Nat), (∀ i : Int, 0 ≤ i → i < d → o' i = o i) → ovr F P o' d = ovr F P o d
  | 0, _ => rfl
  | d + 1, h => by rw [ovr, ovr, ovr_c d (fun i a b => h i a (by omega)), h d (by omega) (by omega)]
theorem smS_le (o : Int → Int) : ∀ (j d : Nat), smS o d ≤ smS o (d + j)
  | 0, _ => Int.le_refl _
  | j + 1, d => by
    have := smS_le o j d
    have := iab_0 (o ((d + j : Nat) : Int))
    rw [← Nat.add_assoc, smS]; omega
theorem mvS_le (o : Int → Int) : ∀ (j d : Nat), mvS o d ≤ mvS o (d + j)
  | 0, _ => Int.le_refl _
  | j + 1, d => by
    have := mvS_le o j d
    rw [← Nat.add_assoc, mvS]; split <;> omega
theorem smS_b {o : Int → Int} : ∀ (d : Nat), (∀ i : Int, 0 ≤ i → i < d → -3 ≤ o i ∧ o i ≤ 3) → 0 ≤ smS o d ∧ smS o d ≤ 3 * d
  | 0, _ => by rw [smS]; omega
  | d + 1, h => by
    have := smS_b d (fun i a b => h i a (by omega))
    have := h d (by omega) (by omega)
    rw [smS]; unfold iab; omega
theorem mvS_b (o : Int → Int) : ∀ (d : Nat), 0 ≤ mvS o d ∧ mvS o d ≤ d
  | 0 => by rw [mvS]; omega
  | d + 1 => by
    have := mvS_b o d
    rw [mvS]; split <;> omega
theorem lfT_c {F P : Int → Int} {eye S W : Int} {n : Nat} {o o' : Int → Int} (h : ∀ i : Int, 0 ≤ i → i < n → o' i = o i) (b : Bs) : lfT F P eye S W n o' b = lfT F P eye S W n o b := by
  have e : (fun k : Int => if 0 ≤ k ∧ k < n then o' k else 0) = (fun k : Int => if 0 ≤ k ∧ k < n then o k else 0) := by
    funext k
    by_cases q : 0 ≤ k ∧ k < n
    · rw [if_pos q, if_pos q, h k q.1 q.2]
    · rw [if_neg q, if_neg q]
  have v : Vl F P o' n ↔ Vl F P o n := by
    unfold Vl
    constructor
    · intro z k hk; rw [← h k (by omega) (by omega)]; exact z k hk
    · intro z k hk; rw [h k (by omega) (by omega)]; exact z k hk
  unfold lfT
  rw [smS_c n h, mvS_c n h, ovr_c n h, e]
  simp only [v]
/-- nothing better below a prefix that is not better -/
theorem lfT_no {F P : Int → Int} {eye S W : Int} {n d : Nat} {o o' : Int → Int} {b : Bs} (hd : d ≤ n) (h : ∀ i : Int, i < d → o' i = o i) (hb : b.1 < smS o d ∨ (smS o d = b.1 ∧ b.2.1 ≤ mvS o d)) : lfT F P eye S W n o' b = b := by
  obtain ⟨j, rfl⟩ : ∃ j, n = d + j := ⟨n - d, by omega⟩
  have a1 := smS_le o' j d
  have a2 := mvS_le o' j d
  rw [smS_c d (fun i _ q => h i q)] at a1
  rw [mvS_c d (fun i _ q => h i q)] at a2
  unfold lfT
  rw [if_neg (fun z => by have := z.2.2; omega)]
theorem ovr_ne {F P o : Int → Int} {q : Int} : ∀ (d : Nat), (∀ k : Int, 0 ≤ k → k < d → P k ≠ q) → ovr F P o d q = F q
  | 0, _ => rfl
  | d + 1, h => by
    rw [ovr]; unfold upF
    rw [if_neg (fun z => h d (by omega) (by omega) z.symm), ovr_ne d (fun k a b => h k a (by omega))]
theorem ovr_b {F P o : Int → Int} {S W : Int} (hF : Fb S W F) : ∀ (d : Nat), (∀ k : Int, 0 ≤ k → k < d → 0 ≤ F (P k) + o k ∧ F (P k) + o k ≤ 999) → Fb S W (ovr F P o d)
  | 0, _ => hF
  | d + 1, h => by
    intro q hq
    rw [ovr]; unfold upF
    by_cases z : q = P d
    · rw [if_pos z]; exact h d (by omega) (by omega)
    · rw [if_neg z]; exact ovr_b hF d (fun k a b => h k a (by omega)) q hq
theorem uf_ov {F P o : Int → Int} {eye f a p : Int} (d : Nat) : ∀ (j : Nat), (∀ k : Int, d ≤ k → k < d + j → ¬ Tc f a p (P k)) → ufS (ovr F P o (d + j)) eye f a p = ufS (ovr F P o d) eye f a p
  | 0, _ => rfl
  | j + 1, h => by
    rw [← Nat.add_assoc, ovr, uf_nt (h ((d + j : Nat) : Int) (by omega) (by omega))]
    exact uf_ov d j (fun k a b => h k a (by omega))
theorem ovr_cF {F G P o : Int → Int} {S W : Int} (e : ∀ q, Pt S W q → F q = G q) : ∀ (d : Nat), (∀ k : Int, 0 ≤ k → k < d → Pt S W (P k)) → ∀ q, Pt S W q → ovr F P o d q = ovr G P o d q
  | 0, _, q, hq => e q hq
  | d + 1, h, q, hq => by
    rw [ovr, ovr]; unfold upF
    rw [e _ (h d (by omega) (by omega)), ovr_cF e d (fun k a b => h k a (by omega)) q hq]
theorem lfT_F {F G P : Int → Int} {eye S W : Int} {n : Nat} (s : gSW S W) (e : ∀ q, Pt S W q → F q = G q) (hP : ∀ k : Int, 0 ≤ k → k < n → Pt S W (P k)) : lfT F P eye S W n = lfT G P eye S W n := by
  funext o b
  have v : Vl F P o n ↔ Vl G P o n := by
    unfold Vl
    constructor
    · intro z k hk; rw [← e _ (hP k (by omega) (by omega))]; exact z k hk
    · intro z k hk; rw [e _ (hP k (by omega) (by omega))]; exact z k hk
  unfold lfT
  rw [alU_c (G := ovr G P o n) s (ovr_cF e n hP)]
  simp only [v]
/-- the way of the number w -/
def vwS (wd r : Int) (n : Nat) (w : Int) : Int → Int := fun k => w / wd ^ (n - 1 - k.toNat) % wd - r
theorem vw_fold {T : (Int → Int) → Bs → Bs} {r : Int} {n : Nat} (r0 : 1 ≤ r) (hT : ∀ o o' b, (∀ i : Int, 0 ≤ i → i < n → o' i = o i) → T o' b = T o b) {wn : Nat} (ew : (wn : Int) = 2 * r + 1) : ∀ (j : Nat) (c : Int) (o : Int → Int) (b : Bs), j ≤ n → 0 ≤ c → (∀ k : Int, 0 ≤ k → k < ((n - j : Nat) : Int) → o k = c / (wn : Int) ^ (n - j - 1 - k.toNat) % (wn : Int) - r) → foS (fun w b => T (vwS wn r n w) b) (wn ^ j) (c * (wn : Int) ^ j) b = lfS T r j ((n - j : Nat) : Int) o b
  | 0, c, o, b, _, c0, ho => by
    rw [Nat.pow_zero, Int.pow_zero, Int.mul_one, lfS, foS, foS]
    exact hT _ _ _ (fun i i0 i1 => by rw [ho i i0 (by omega)]; rfl)
  | j + 1, c, o, b, hj, c0, ho => by
    rw [lfS, Nat.pow_succ, Nat.mul_comm, show c * (wn : Int) ^ (j + 1) = 0 + (c * wn) * ((wn ^ j : Nat) : Int) by
      rw [Int.natCast_pow, Int.zero_add, Int.pow_succ, Int.mul_comm ((wn : Int) ^ j), Int.mul_assoc], foS_mul]
    have key : ∀ (t : Nat) (x : Int) (b : Bs), 0 ≤ x → x + t ≤ wn → foS (fun y b => foS (fun w b => T (vwS wn r n w) b) (wn ^ j) (0 + y * ((wn ^ j : Nat) : Int)) b) t (c * wn + x) b = foS (fun x b => lfS T r j (((n - (j + 1) : Nat) : Int) + 1) (upF o ((n - (j + 1) : Nat) : Int) (x - r)) b) t x b := by
      intro t
      induction t with
      | zero => intro x b _ _; rfl
      | succ t ih =>
        intro x b x0 x1
        rw [foS, foS, show c * (wn : Int) + x + 1 = c * wn + (x + 1) by omega, ih (x + 1) _ (by omega) (by omega)]
        congr 1
        rw [Int.zero_add, Int.natCast_pow, show ((n - (j + 1) : Nat) : Int) + 1 = ((n - j : Nat) : Int) by omega]
        have cw : 0 ≤ c * (wn : Int) := Int.mul_nonneg c0 (by omega)
        have dv : (c * (wn : Int) + x) / wn = c := by
          rw [Int.add_comm, Int.add_mul_ediv_right _ _ (by omega), Int.ediv_eq_zero_of_lt x0 (by omega), Int.zero_add]
        refine vw_fold r0 hT ew j (c * wn + x) _ _ (by omega) (by omega) (fun k k0 k1 => ?_)
        unfold upF
        by_cases q : k = ((n - (j + 1) : Nat) : Int)
        · rw [if_pos q, show n - j - 1 - k.toNat = 0 by omega, Int.pow_zero, Int.ediv_one, Int.add_comm (c * (wn : Int)), Int.add_mul_emod_self_right, Int.emod_eq_of_lt x0 (by omega)]
        · rw [if_neg q, ho k k0 (by omega), show n - j - 1 - k.toNat = (n - (j + 1) - 1 - k.toNat) + 1 by omega, Int.pow_succ, Int.mul_comm ((wn : Int) ^ _), ← Int.ediv_ediv_of_nonneg (by omega), dv]
    have k2 := key wn 0 b (by omega) (by omega)
    rw [Int.add_zero] at k2
    rw [k2, show (2 * r + 1).toNat = wn by omega]
