/-! layer 2: the machine's bit sums as whole numbers -/
theorem bAnd_mask (x : Int) (k : Nat) (hk : k ≤ 30) : bAnd x ((2 ^ k - 1 : Nat) : Int) = x % ((2 ^ k : Nat) : Int) := by
  have hp : (2 : Nat) ^ k ≤ 2 ^ 30 := Nat.pow_le_pow_right (by decide) hk
  have hp0 : 0 < (2 : Nat) ^ k := Nat.pow_pos (by decide)
  have e30 : (2 : Nat) ^ 30 = 1073741824 := by decide
  have e32 : (2 : Nat) ^ 32 = 4294967296 := by decide
  unfold bAnd
  show ((Int32.ofInt x).toBitVec &&& (Int32.ofInt ((2 ^ k - 1 : Nat) : Int)).toBitVec).toInt = _
  rw [Int32.toBitVec_ofInt, Int32.toBitVec_ofInt]
  have n1 : (BitVec.ofInt 32 x).toNat = (x % 4294967296).toNat := by
    rw [BitVec.toNat_ofInt]; rfl
  have n2 : (BitVec.ofInt 32 ((2 ^ k - 1 : Nat) : Int)).toNat = 2 ^ k - 1 := by
    rw [BitVec.toNat_ofInt, e32]; omega
  have n3 : (BitVec.ofInt 32 x &&& BitVec.ofInt 32 ((2 ^ k - 1 : Nat) : Int)).toNat = (x % 4294967296).toNat % 2 ^ k := by
    rw [BitVec.toNat_and, n1, n2, Nat.and_two_pow_sub_one_eq_mod]
  have lt := Nat.mod_lt (x % 4294967296).toNat hp0
  rw [BitVec.toInt_eq_toNat_of_lt (by rw [n3, e32]; omega), n3]
  rw [Int.natCast_emod, Int.toNat_of_nonneg (Int.emod_nonneg _ (by decide))]
  apply Int.emod_emod_of_dvd
  have d : (2 : Nat) ^ k ∣ 2 ^ 32 := Nat.pow_dvd_pow 2 (by omega)
  rw [e32] at d
  exact Int.natCast_dvd_natCast.mpr d
theorem bAnd_1 (x : Int) : bAnd x 1 = x % 2 := bAnd_mask x 1 (by decide)
theorem bAnd_7 (x : Int) : bAnd x 7 = x % 8 := bAnd_mask x 3 (by decide)
theorem bAnd_15 (x : Int) : bAnd x 15 = x % 16 := bAnd_mask x 4 (by decide)
theorem bAnd_63 (x : Int) : bAnd x 63 = x % 64 := bAnd_mask x 6 (by decide)
theorem bAnd_255 (x : Int) : bAnd x 255 = x % 256 := bAnd_mask x 8 (by decide)
theorem bAnd_65535 (x : Int) : bAnd x 65535 = x % 65536 := bAnd_mask x 16 (by decide)
theorem amt32 : ∀ k : Fin 32, ((Int32.ofInt (k.val : Int) &&& 31).toBitVec.smod (32 : BitVec 32)).toNat = k.val := by decide +kernel
theorem bShr_eq (x : Int) (k : Nat) (hk : k < 32) : bShr x (k : Int) = w32 x / ((2 ^ k : Nat) : Int) := by
  unfold bShr
  show ((Int32.ofInt x).toBitVec.sshiftRight' ((Int32.ofInt (k : Int) &&& 31).toBitVec.smod 32)).toInt = _
  rw [BitVec.toInt_sshiftRight']
  have := amt32 ⟨k, hk⟩
  rw [this]
  show (Int32.ofInt x).toInt >>> k = _
  rw [t32, Int.shiftRight_eq_div_pow]
theorem bShr_nn {x k : Int} (h0 : 0 ≤ x) (h1 : x < 2147483648) (k0 : 0 ≤ k) (k1 : k < 32) : bShr x k = x / ((2 ^ k.toNat : Nat) : Int) := by
  have e : k = (k.toNat : Int) := by omega
  have := bShr_eq x k.toNat (by omega)
  rw [← e] at this
  rw [this, w32_id (by omega) h1]
theorem bShr_3 {x : Int} (h : w32 x = x) : bShr x 3 = x / 8 := by
  have := bShr_eq x 3 (by decide); rw [h] at this; exact this
theorem bShr_4 {x : Int} (h : w32 x = x) : bShr x 4 = x / 16 := by
  have := bShr_eq x 4 (by decide); rw [h] at this; exact this
theorem bShr_1 {x : Int} (h : w32 x = x) : bShr x 1 = x / 2 := by
  have := bShr_eq x 1 (by decide); rw [h] at this; exact this
theorem bShl1' : ∀ k : Fin 31, bShl 1 (k.val : Int) = ((2 ^ k.val : Nat) : Int) := by decide +kernel
theorem bShl1 {k : Int} (k0 : 0 ≤ k) (k1 : k < 31) : bShl 1 k = ((2 ^ k.toNat : Nat) : Int) := by
  have := bShl1' ⟨k.toNat, by omega⟩
  have e : ((k.toNat : Nat) : Int) = k := by omega
  simpa [e] using this
/-- the bits of a long -/
def kb (K p : Int) : Bool := (BitVec.ofInt 64 K).getLsbD p.toNat
theorem amt64 : ∀ k : Fin 64, (((Int32.ofInt (k.val : Int)).toInt64 &&& 63).toBitVec.smod (64 : BitVec 64)) = BitVec.ofNat 64 k.val := by decide +kernel
theorem lShl1_bv {p : Int} (p0 : 0 ≤ p) (p1 : p < 64) : (Int64.ofInt 1 <<< ((Int32.ofInt p).toInt64 &&& 63)).toBitVec = BitVec.twoPow 64 p.toNat := by
  have e : ((p.toNat : Nat) : Int) = p := by omega
  have h := amt64 ⟨p.toNat, by omega⟩
  simp only [e] at h
  show (Int64.ofInt 1).toBitVec <<< (((Int32.ofInt p).toInt64 &&& 63).toBitVec.smod 64) = _
  rw [h, BitVec.shiftLeft_eq', BitVec.toNat_ofNat, Nat.mod_eq_of_lt (by omega)]
  rfl
theorem ofInt_toInt64 (x : Int64) : Int64.ofInt x.toInt = x := by simp
theorem bv_toInt64 (x : Int64) : BitVec.ofInt 64 x.toInt = x.toBitVec := by
  have := congrArg Int64.toBitVec (ofInt_toInt64 x)
  exact this
theorem w64_zero {x : Int64} : w64 x.toInt = 0 ↔ x.toBitVec = 0#64 := by
  constructor
  · intro h
    have h1 : (Int64.ofInt x.toInt).toInt = 0 := by rw [t64]; exact h
    rw [ofInt_toInt64] at h1
    have h2 : x.toBitVec.toInt = (0#64).toInt := h1
    exact BitVec.eq_of_toInt_eq h2
  · intro h
    have h1 : x.toInt = 0 := by show x.toBitVec.toInt = 0; rw [h]; rfl
    rw [h1]; rfl
theorem bit_bv {p : Int} (p0 : 0 ≤ p) (p1 : p < 64) : BitVec.ofInt 64 (Sheet_bit p) = BitVec.twoPow 64 p.toNat := by
  unfold Sheet_bit lShl
  rw [bAnd_63, Int.emod_eq_of_lt p0 p1, bv_toInt64, lShl1_bv p0 p1]
theorem kept_kb {c : Nat} {p : Int} {m : Mem} (p0 : 0 ≤ p) (p1 : p < 64) : Sheet_isKept c p m = if kb (m c 10) p then 1 else 0 := by
  have hp : p.toNat < 64 := by omega
  unfold Sheet_isKept lAnd
  have e : (Int64.ofInt (m c 10) &&& Int64.ofInt (Sheet_bit p)).toBitVec = BitVec.ofInt 64 (m c 10) &&& BitVec.twoPow 64 p.toNat := by
    rw [Int64.toBitVec_and, Int64.toBitVec_ofInt, Int64.toBitVec_ofInt, bit_bv p0 p1]
  by_cases h : kb (m c 10) p = true
  · rw [if_pos h, if_neg]
    rw [w64_zero, e]
    intro q
    unfold kb at h
    have t2 : ((BitVec.ofInt 64 (m c 10)) &&& BitVec.twoPow 64 p.toNat).getLsbD p.toNat = false := by rw [q]; simp
    rw [BitVec.getLsbD_and, h, BitVec.getLsbD_twoPow] at t2
    simp [hp] at t2
  · rw [if_neg h, if_pos]
    rw [w64_zero, e]
    apply BitVec.eq_of_getLsbD_eq
    intro i hi
    unfold kb at h
    simp only [BitVec.getLsbD_and, BitVec.getLsbD_twoPow, BitVec.getLsbD_zero]
    by_cases q : p.toNat = i
    · subst q; simp [h]
    · simp [q]
theorem kb_set {K p q : Int} (p0 : 0 ≤ p) (p1 : p < 64) (q0 : 0 ≤ q) (q1 : q < 64) : kb (lOr K (Sheet_bit p)) q = (kb K q || decide (q = p)) := by
  unfold kb lOr
  rw [bv_toInt64, Int64.toBitVec_or, Int64.toBitVec_ofInt, Int64.toBitVec_ofInt, bit_bv p0 p1]
  have hp : p.toNat < 64 := by omega
  simp only [BitVec.getLsbD_or, BitVec.getLsbD_twoPow, hp, decide_true, Bool.true_and]
  congr 1
  by_cases h : q = p
  · subst h; simp
  · have : ¬ p.toNat = q.toNat := by omega
    simp [h, this]
theorem kb_clr {K p q : Int} (p0 : 0 ≤ p) (p1 : p < 64) (q0 : 0 ≤ q) (q1 : q < 64) : kb (lAnd K (lXor (Sheet_bit p) (-1))) q = (kb K q && !decide (q = p)) := by
  unfold kb lAnd lXor
  have hp : p.toNat < 64 := by omega
  have hq : q.toNat < 64 := by omega
  rw [bv_toInt64, Int64.toBitVec_and, Int64.toBitVec_ofInt, ofInt_toInt64, Int64.toBitVec_xor, Int64.toBitVec_ofInt, bit_bv p0 p1, Int64.toBitVec_ofInt]
  have e : BitVec.ofInt 64 (-1) = BitVec.allOnes 64 := by decide +kernel
  rw [e]
  simp only [BitVec.getLsbD_and, BitVec.getLsbD_xor, BitVec.getLsbD_twoPow, BitVec.getLsbD_allOnes, hp, hq, decide_true, Bool.true_and, Bool.xor_true]
  congr 1
  by_cases h : q = p
  · subst h; simp
  · have : ¬ p.toNat = q.toNat := by omega
    simp [h, this]
