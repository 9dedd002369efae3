/-! layer 2: laths, what the check says of matrices -/
theorem GN_b (x y : Nat) : ∀ k : Nat, -(4 * (k : Int)) ≤ gmN x y k ∧ gmN x y k ≤ 4 * (k : Int)
  | 0 => by unfold gmN; omega
  | k + 1 => by
    have ih := GN_b x y k
    have h1 : ctN (k + 1) x = -2 ∨ ctN (k + 1) x = 1 ∨ ctN (k + 1) x = 0 := by unfold ctN; split <;> (try split) <;> (try split) <;> omega
    have h2 : ctN (k + 1) y = -2 ∨ ctN (k + 1) y = 1 ∨ ctN (k + 1) y = 0 := by unfold ctN; split <;> (try split) <;> (try split) <;> omega
    unfold gmN
    rcases h1 with e | e | e <;> rcases h2 with e' | e' | e' <;> rw [e, e'] <;> omega
theorem gt2_L0 {P D r c : Nat} (hr : r < P) (hc : c < 2 * P) : gt2 (L0N P D) r c = a0N P D r c := by
  unfold gt2 L0N
  simp [List.getD_eq_getElem?_getD, hr, hc]
theorem GN_gm {P x y : Nat} (hP : P ≤ 8) (hx : x < P) (hy : y < P) : GN P x y = gmN x y (P - 2) := GN_gm' ⟨P, by omega⟩ ⟨x, by omega⟩ ⟨y, by omega⟩ hx hy
theorem a0N_b {P D r c : Nat} (hP : P ≤ 8) (hr : r < P) : -1000 ≤ a0N P D r c ∧ a0N P D r c ≤ 1000 := by
  have := GN_b r c (P - 2)
  unfold a0N
  split
  · by_cases q : c < P
    · rw [if_pos q, GN_gm hP hr q]; omega
    · rw [if_neg q]; omega
  · split <;> (try split) <;> omega
def Mt (P : Nat) (L : List (List Int)) : Prop := L.length = P ∧ ∀ r, r < P → (L.getD r []).length = 2 * P
def Mb (P : Nat) (L : List (List Int)) : Prop := ∀ r c, r < P → c < 2 * P → -1000 ≤ gt2 L r c ∧ gt2 L r c ≤ 1000
theorem Mt_L0 (P D : Nat) : Mt P (L0N P D) := by
  refine ⟨by simp [L0N], fun r hr => ?_⟩
  unfold L0N
  simp [List.getD_eq_getElem?_getD, hr]
theorem Mb_L0 {P D : Nat} (hP : P ≤ 8) : Mb P (L0N P D) := fun r c hr hc => by rw [gt2_L0 hr hc]; exact a0N_b hP hr
theorem rwN_of {pv bf f : Int} : ∀ (as bs zs : List Int), rwN pv bf f as bs = some zs → as.length = bs.length ∧ zs.length = as.length ∧ ∀ c, c < as.length → bf * zs.getD c 0 = pv * as.getD c 0 - f * bs.getD c 0 ∧ -1000 ≤ zs.getD c 0 ∧ zs.getD c 0 ≤ 1000
  | [], [], zs, h => by
    rw [rwN] at h
    cases h
    exact ⟨rfl, rfl, fun c hc => by simp at hc⟩
  | [], b :: bs, zs, h => by simp [rwN] at h
  | a :: as, [], zs, h => by simp [rwN] at h
  | a :: as, b :: bs, zs, h => by
    rw [rwN] at h
    by_cases q1 : (pv * a - f * b) % bf = 0
    · rw [if_pos q1] at h
      by_cases q2 : -1000 ≤ (pv * a - f * b) / bf
      · rw [if_pos q2] at h
        by_cases q3 : (pv * a - f * b) / bf ≤ 1000
        · rw [if_pos q3] at h
          rw [Option.map_eq_some_iff] at h
          obtain ⟨z, hz, e⟩ := h
          subst e
          obtain ⟨i1, i2, i3⟩ := rwN_of as bs z hz
          refine ⟨by simp [i1], by simp [i2], fun c hc => ?_⟩
          cases c with
          | zero =>
            simp only [List.getD_cons_zero]
            have := Int.emod_add_mul_ediv (pv * a - f * b) bf
            rw [q1] at this
            exact ⟨by omega, q2, q3⟩
          | succ c =>
            simp only [List.getD_cons_succ]
            exact i3 c (by simpa using hc)
        · rw [if_neg q3] at h; cases h
      · rw [if_neg q2] at h; cases h
    · rw [if_neg q1] at h; cases h
theorem elN_of {k : Nat} {pv bf : Int} {pr : List Int} : ∀ (rows rows' : List (List Int)) (r : Nat), elN k pv bf pr r rows = some rows' → rows'.length = rows.length ∧ ∀ i, i < rows.length → (r + i = k → rows'.getD i [] = rows.getD i []) ∧ (r + i ≠ k → rwN pv bf ((rows.getD i []).getD k 0) (rows.getD i []) pr = some (rows'.getD i []))
  | [], rows', r, h => by
    rw [elN] at h
    cases h
    exact ⟨rfl, fun i hi => by simp at hi⟩
  | row :: rs, rows', r, h => by
    rw [elN] at h
    split at h
    next x y hx hy =>
      cases h
      obtain ⟨i1, i2⟩ := elN_of rs y (r + 1) hy
      refine ⟨by simp [i1], fun i hi => ?_⟩
      cases i with
      | zero =>
        simp only [List.getD_cons_zero]
        constructor
        · intro e
          rw [if_pos (by omega)] at hx
          cases hx; rfl
        · intro e
          rw [if_neg (by omega)] at hx
          exact hx
      | succ i =>
        simp only [List.getD_cons_succ]
        have := i2 i (by simpa using hi)
        constructor
        · intro e; exact this.1 (by omega)
        · intro e; exact this.2 (by omega)
    next => cases h
theorem el_step {P k : Nat} {pv bf : Int} {L L' : List (List Int)} (hk : k < P) (ht : Mt P L) (hb : Mb P L) (h : elN k pv bf (L.getD k []) 0 L = some L') : Mt P L' ∧ Mb P L' ∧ ∀ r c, r < P → c < 2 * P → (r = k → gt2 L' r c = gt2 L r c) ∧ (r ≠ k → bf * gt2 L' r c = pv * gt2 L r c - gt2 L r k * gt2 L k c) := by
  obtain ⟨h1, h2⟩ := elN_of L L' 0 h
  have key : ∀ r, r < P → (L'.getD r []).length = 2 * P ∧ ∀ c, c < 2 * P → (-1000 ≤ gt2 L' r c ∧ gt2 L' r c ≤ 1000) ∧ (r = k → gt2 L' r c = gt2 L r c) ∧ (r ≠ k → bf * gt2 L' r c = pv * gt2 L r c - gt2 L r k * gt2 L k c) := by
    intro r hr
    have hh := h2 r (by rw [ht.1]; exact hr)
    by_cases q : r = k
    · have e := hh.1 (by omega)
      refine ⟨by rw [e]; exact ht.2 r hr, fun c hc => ⟨?_, ?_, fun z => absurd q z⟩⟩
      · unfold gt2; rw [e]; exact hb r c hr hc
      · intro _; unfold gt2; rw [e]
    · have e := rwN_of _ _ _ (hh.2 (by omega))
      refine ⟨by rw [e.2.1]; exact ht.2 r hr, fun c hc => ?_⟩
      have e3 := e.2.2 c (by rw [ht.2 r hr]; exact hc)
      exact ⟨e3.2, fun z => absurd z q, fun _ => e3.1⟩
  refine ⟨⟨by rw [h1]; exact ht.1, fun r hr => (key r hr).1⟩, fun r c hr hc => ((key r hr).2 c hc).1, fun r c hr hc => ((key r hr).2 c hc).2⟩
def sdN (f : Nat → Int) : Nat → Int
  | 0 => 0
  | n + 1 => sdN f n + f n
theorem sdN_s (f : Nat → Int) (n : Nat) : sdN f (n + 1) = sdN f n + f n := rfl
theorem sdN_c {f g : Nat → Int} : ∀ (n : Nat), (∀ d, d < n → f d = g d) → sdN f n = sdN g n
  | 0, _ => rfl
  | n + 1, h => by rw [sdN_s, sdN_s, sdN_c n (fun d hd => h d (by omega)), h n (by omega)]
theorem sdN_z {f : Nat → Int} : ∀ (n : Nat), (∀ d, d < n → f d = 0) → sdN f n = 0
  | 0, _ => rfl
  | n + 1, h => by rw [sdN_s, sdN_z n (fun d hd => h d (by omega)), h n (by omega)]; rfl
theorem sdN_one {f : Nat → Int} {r : Nat} : ∀ (n : Nat), r < n → (∀ d, d < n → d ≠ r → f d = 0) → sdN f n = f r
  | 0, h, _ => by omega
  | n + 1, h, h2 => by
    rw [sdN_s]
    by_cases q : r = n
    · subst q; rw [sdN_z r (fun d hd => h2 d (by omega) (by omega))]; omega
    · rw [sdN_one n (by omega) (fun d hd hn => h2 d (by omega) hn), h2 n (by omega) (by omega)]; omega
theorem sdN_b {f : Nat → Int} {B : Int} : ∀ (n : Nat), (∀ d, d < n → -B ≤ f d ∧ f d ≤ B) → -((n : Int) * B) ≤ sdN f n ∧ sdN f n ≤ (n : Int) * B
  | 0, _ => by unfold sdN; omega
  | n + 1, h => by
    have ih := sdN_b n (fun d hd => h d (by omega))
    have b := h n (by omega)
    have e : ((n + 1 : Nat) : Int) * B = (n : Int) * B + B := by rw [Int.natCast_add, Int.add_mul]; simp
    rw [sdN_s, e]
    omega
theorem sdN_lin {x y z : Nat → Int} {bf pv f : Int} : ∀ (n : Nat), (∀ d, d < n → bf * x d = pv * y d - f * z d) → bf * sdN x n = pv * sdN y n - f * sdN z n
  | 0, _ => by simp [sdN]
  | n + 1, h => by
    rw [sdN_s, sdN_s, sdN_s, Int.mul_add, Int.mul_add, Int.mul_add, sdN_lin n (fun d hd => h d (by omega)), h n (by omega)]
    omega
theorem mulB {a b A B : Int} (a0 : -A ≤ a) (a1 : a ≤ A) (b0 : -B ≤ b) (b1 : b ≤ B) : -(A * B) ≤ a * b ∧ a * b ≤ A * B := by
  have hA : 0 ≤ A := by omega
  have hB : 0 ≤ B := by omega
  have h1 : 0 ≤ (A - a) * (B + b) := Int.mul_nonneg (by omega) (by omega)
  have h2 : 0 ≤ (A + a) * (B - b) := Int.mul_nonneg (by omega) (by omega)
  have h3 : 0 ≤ (A - a) * (B - b) := Int.mul_nonneg (by omega) (by omega)
  have h4 : 0 ≤ (A + a) * (B + b) := Int.mul_nonneg (by omega) (by omega)
  rw [Int.sub_mul, Int.mul_add, Int.mul_add] at h1
  rw [Int.add_mul, Int.mul_sub, Int.mul_sub] at h2
  rw [Int.sub_mul, Int.mul_sub, Int.mul_sub] at h3
  rw [Int.add_mul, Int.mul_add, Int.mul_add] at h4
  omega
/-- the class's cell by a matrix of coefficients -/
def vlN (P : Nat) (b : Nat → Int) (L : List (List Int)) (r c : Nat) : Int := if c < P then gt2 L r c else sdN (fun d => b d * gt2 L r (P + d)) P
theorem vl_b {P : Nat} {b : Nat → Int} {L : List (List Int)} (hP : P ≤ 8) (hb : Mb P L) (hbb : ∀ d, d < P → 0 ≤ b d ∧ b d ≤ 999) {r c : Nat} (hr : r < P) (hc : c ≤ P) : -8000000 ≤ vlN P b L r c ∧ vlN P b L r c ≤ 8000000 := by
  unfold vlN
  by_cases q : c < P
  · rw [if_pos q]; have := hb r c hr (by omega); omega
  · rw [if_neg q]
    have := sdN_b (f := fun d => b d * gt2 L r (P + d)) (B := 999 * 1000) P (fun d hd => by
      have h1 := hbb d hd
      have h2 := hb r (P + d) hr (by omega)
      exact mulB (by omega) h1.2 h2.1 h2.2)
    have : (P : Int) ≤ 8 := by omega
    omega
theorem vl_step {P k : Nat} {b : Nat → Int} {pv bf : Int} {L L' : List (List Int)} (hk : k < P) (h : ∀ r c, r < P → c < 2 * P → (r = k → gt2 L' r c = gt2 L r c) ∧ (r ≠ k → bf * gt2 L' r c = pv * gt2 L r c - gt2 L r k * gt2 L k c)) {r c : Nat} (hr : r < P) (hc : c ≤ P) : (r = k → vlN P b L' r c = vlN P b L r c) ∧ (r ≠ k → bf * vlN P b L' r c = pv * vlN P b L r c - vlN P b L r k * vlN P b L k c) := by
  have e0 : vlN P b L r k = gt2 L r k := by unfold vlN; rw [if_pos hk]
  rw [e0]
  unfold vlN
  by_cases q : c < P
  · rw [if_pos q, if_pos q, if_pos q]; exact h r c hr (by omega)
  · rw [if_neg q, if_neg q, if_neg q]
    refine ⟨fun e => sdN_c P (fun d hd => ?_), fun e => sdN_lin P (fun d hd => ?_)⟩
    · show b d * _ = b d * _
      rw [(h r (P + d) hr (by omega)).1 e]
    · show bf * (b d * gt2 L' r (P + d)) = pv * (b d * gt2 L r (P + d)) - gt2 L r k * (b d * gt2 L k (P + d))
      have := (h r (P + d) hr (by omega)).2 e
      rw [Int.mul_left_comm, this, Int.mul_sub, Int.mul_left_comm, Int.mul_left_comm (b d)]
