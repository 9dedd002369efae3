/-! the walk, light: Z E G nL mem pc lv sk o: from there the machine comes to E's end for what o says, whatever o says -/
abbrev Mc : Type := Program × Launch × Env × Room × State × MethodId × Array Value × List Frame × Method × Code × Nat × Nat
abbrev Ev (ρ : Type) : Type := Mc × (Nat → Prop) × Heap × (ρ → State → Prop)
def mP (X : Mc) : Program := X.1
def mL (X : Mc) : Launch := X.2.1
def mE (X : Mc) : Env := X.2.2.1
def mR (X : Mc) : Room := X.2.2.2.1
def mS (X : Mc) : State := X.2.2.2.2.1
def mM (X : Mc) : MethodId := X.2.2.2.2.2.1
def mA (X : Mc) : Array Value := X.2.2.2.2.2.2.1
def mB (X : Mc) : List Frame := X.2.2.2.2.2.2.2.1
def mT (X : Mc) : Method := X.2.2.2.2.2.2.2.2.1
def mC (X : Mc) : Code := X.2.2.2.2.2.2.2.2.2.1
def mcl (X : Mc) : Nat := X.2.2.2.2.2.2.2.2.2.2.1
def msl (X : Mc) : Nat := X.2.2.2.2.2.2.2.2.2.2.2
def Wx (X : Mc) (H : Heap) (locs : List Loc) (Q : State → Prop) (g : JFrame) : Prop := W (mP X) (mL X) (mE X) (mR X) (mS X) (mM X) (mA X) (mB X) (mT X) (mC X) H locs (mcl X) (msl X) Q g
abbrev Lv : Type := List (Option Value)
def toA (i : Nat) : Lv → List (Nat × Value)
  | [] => []
  | none :: t => toA (i + 1) t
  | some v :: t => (i, v) :: toA (i + 1) t
theorem toA_mem : ∀ (l : Lv) (i j : Nat) (v : Value), (j, v) ∈ toA i l ↔ i ≤ j ∧ l[j - i]? = some (some v) := by
  intro l
  induction l with
  | nil => intro i j v; simp [toA]
  | cons a t ih =>
    intro i j v
    have step : j ≠ i → i ≤ j → (a :: t)[j - i]? = t[j - (i + 1)]? := by
      intro h1 h2
      obtain ⟨k, rfl⟩ : ∃ k, j = i + 1 + k := ⟨j - (i + 1), by omega⟩
      rw [show i + 1 + k - i = k + 1 by omega, show i + 1 + k - (i + 1) = k by omega, List.getElem?_cons_succ]
    cases a with
    | none =>
      rw [toA, ih]
      constructor
      · rintro ⟨h1, h2⟩; exact ⟨by omega, by rw [step (by omega) (by omega)]; exact h2⟩
      · rintro ⟨h1, h2⟩
        by_cases e : j = i
        · subst e; simp at h2
        · exact ⟨by omega, by rw [← step e h1]; exact h2⟩
    | some w =>
      rw [toA, List.mem_cons, ih]
      constructor
      · rintro (h | ⟨h1, h2⟩)
        · cases h; exact ⟨Nat.le_refl _, by simp⟩
        · exact ⟨by omega, by rw [step (by omega) (by omega)]; exact h2⟩
      · rintro ⟨h1, h2⟩
        by_cases e : j = i
        · subst e; simp at h2; exact Or.inl (by rw [h2])
        · exact Or.inr ⟨by omega, by rw [← step e h1]; exact h2⟩
def Lh (ls : Array Slot) (nL : Nat) (l : Lv) : Prop := lv_has ls nL (toA 0 l)
theorem Lh.get {ls : Array Slot} {nL : Nat} {l : Lv} (h : Lh ls nL l) {i : Nat} {v : Value} (e : l[i]? = some (some v)) : ls[i]? = some (.val v) := h.2.2 (i, v) ((toA_mem l 0 i v).mpr ⟨Nat.zero_le _, e⟩)
theorem Lh.of {ls : Array Slot} {nL : Nat} {l' : Lv} {L : List (Nat × Value)} (h : lv_has ls nL L) (e : ∀ (i : Nat) (v : Value), l'[i]? = some (some v) → (i, v) ∈ L) : Lh ls nL l' := by
  refine ⟨h.1, h.2.1, fun q hq => ?_⟩
  obtain ⟨i, v⟩ := q
  exact h.2.2 (i, v) (e i v ((toA_mem l' 0 i v).mp hq).2)
/-- an entry holds no long -/
def c1 (a : Option Value) : Bool := match a with
  | none => true
  | some v => v.category == 1
/-- after a store of a one-word value at i: what stands at other places stays, but a long just ahead -/
theorem Lh.st1 {ls : Array Slot} {nL : Nat} {l l' : Lv} {i : Nat} {v : Value} (h : lv_has ls nL ((i, v) :: (toA 0 l).filter (fun q => !(q.1 == i) && !(q.1 + 1 == i && q.2.category == 2)))) (hi : l'[i]? = some (some v)) (ho : ∀ j : Nat, j ≠ i → l'[j]? = l[j]?) (hc : ∀ j : Nat, j + 1 = i → ∀ w, l[j]? = some (some w) → w.category = 1) : Lh ls nL l' := by
  refine Lh.of h (fun j w e => ?_)
  by_cases ej : j = i
  · subst ej
    rw [hi] at e
    cases e
    exact List.mem_cons_self
  · refine List.mem_cons_of_mem _ (List.mem_filter.mpr ⟨(toA_mem l 0 j w).mpr ⟨Nat.zero_le _, by rw [Nat.sub_zero, ← ho j ej]; exact e⟩, ?_⟩)
    by_cases e2 : j + 1 = i
    · have := hc j e2 w (by rw [← ho j ej]; exact e)
      simp [ej, this]
    · simp [ej, e2]
theorem Lh.st2 {ls : Array Slot} {nL : Nat} {l l' : Lv} {i : Nat} {v : Value} (h : lv_has ls nL ((i, v) :: (toA 0 l).filter (fun q => !(q.1 == i) && (!(q.1 == i + 1) && !(q.1 + 1 == i && q.2.category == 2))))) (hi : l'[i]? = some (some v)) (hn : ∀ w, l'[i + 1]? ≠ some (some w)) (ho : ∀ j : Nat, j ≠ i → j ≠ i + 1 → l'[j]? = l[j]?) (hc : ∀ j : Nat, j + 1 = i → ∀ w, l[j]? = some (some w) → w.category = 1) : Lh ls nL l' := by
  refine Lh.of h (fun j w e => ?_)
  by_cases ej : j = i
  · subst ej
    rw [hi] at e
    cases e
    exact List.mem_cons_self
  · by_cases ek : j = i + 1
    · subst ek
      exact absurd e (hn w)
    · refine List.mem_cons_of_mem _ (List.mem_filter.mpr ⟨(toA_mem l 0 j w).mpr ⟨Nat.zero_le _, by rw [Nat.sub_zero, ← ho j ej ek]; exact e⟩, ?_⟩)
      by_cases e2 : j + 1 = i
      · have := hc j e2 w (by rw [← ho j ej ek]; exact e)
        simp [ej, ek, this]
      · simp [ej, ek, e2]
def Z {ρ : Type} (E : Ev ρ) (G : Gw) (nL : Nat) (mem : Mem) (pc : Nat) (lv : Lv) (sk : List Value) (o : Option ρ) : Prop :=
  ∀ r, o = some r → ∀ (H : Heap) (locs : List Loc) (ls : Array Slot), va_P (gD G) vwCl (wd G mem) H → va_S E.2.1 E.2.2.1 H locs → Lh ls nL lv → Wx E.1 H locs (E.2.2.2 r) (F0 (mM E.1) pc ls sk)
def tysG (G : Gw) : List (ClassId × FieldType) := [(gTY G 0, .int), (gTY G 1, .long), (gTY G 2, .byte), (gTY G 3, .object RX5), (gTY G 4, .object RX8)]
/-- what a state must say of the tables -/
def KG (G : Gw) (A : Nat → Prop) (U : State) : Prop := va_K (gD G) vwCl (tysG G) U ∧ (∀ (i : Nat) (q : String × Nat × String × Nat), strPl[i]? = some q → vk_R q.1 q.2.1 q.2.2.1 (gsa G q.2.2.2) U) ∧ vk_S nST lenST bytST (gsa G) (gsv G) A U U.heap ∧ va_Z "java/lang/String" "COMPACT_STRINGS" "Z" (.int 1) A U U.heap ∧ (∀ (i : Nat) (q : String × Nat × MethodName × String), nestPl[i]? = some q → va_Nw (.methodLinkNest q.1 q.2.1 q.2.2.1 q.2.2.2) U) ∧ va_Z "jdk/internal/util/Preconditions" "SIOOBE_FORMATTER" "Ljava/util/function/BiFunction;" (gsf G) A U U.heap ∧ (gsf G = .null ∨ ∃ t, gsf G = .ref t)
def Apart (G : Gw) (A : Nat → Prop) : Prop := (∀ i j, i < (gom G).length → j < (gom G).length → gad G i = gad G j → i = j) ∧ ∀ i, i < (gom G).length → A (gad G i)
/-- what holds all along a method's walk; h: the height of its calls -/
def Cx {ρ : Type} (E : Ev ρ) (l : Launch) (G : Gw) (own : String) (cc : ByteArray) (nL h : Nat) : Prop :=
  (mP E.1).tables.exec = Jvm.exec ∧ (mC E.1).code = cc ∧ (mC E.1).maxLocals = nL ∧ (mS E.1).vm.findClass own = some (mM E.1).cls ∧ (∀ w ∈ wt, w.before (mA E.1) (mS E.1) = true) ∧ KG G E.2.1 (mS E.1) ∧ E.2.2.1 = (mS E.1).heap ∧ Apart G E.2.1 ∧ (h ≤ (mR E.1).frames ∧ 64 * h ≤ (mR E.1).locals ∧ mcl E.1 ≤ (mR E.1).cells ∧ msl E.1 ≤ (mR E.1).slots) ∧ mL E.1 = l
theorem apart_D {G : Gw} {A : Nat → Prop} (h : Apart G A) (mem : Mem) : va_D A (wd G mem) := by
  refine ⟨fun i j p q hp hq e => ?_, fun k q hk => ?_⟩
  · unfold wd at hp hq
    rw [List.getElem?_mapIdx] at hp hq
    cases h1 : (gom G)[i]? with
    | none => rw [h1] at hp; cases hp
    | some a =>
      cases h2 : (gom G)[j]? with
      | none => rw [h2] at hq; cases hq
      | some b =>
        rw [h1] at hp; rw [h2] at hq
        cases hp; cases hq
        exact h.1 i j (List.getElem?_eq_some_iff.mp h1).1 (List.getElem?_eq_some_iff.mp h2).1 e
  · unfold wd at hk
    rw [List.getElem?_mapIdx] at hk
    cases h1 : (gom G)[k]? with
    | none => rw [h1] at hk; cases hk
    | some a =>
      rw [h1] at hk
      cases hk
      exact h.2 k (List.getElem?_eq_some_iff.mp h1).1
/-- bits of ints and longs -/
def bAnd (x y : Int) : Int := (Int32.ofInt x &&& Int32.ofInt y).toInt
def bOr (x y : Int) : Int := (Int32.ofInt x ||| Int32.ofInt y).toInt
def bXor (x y : Int) : Int := (Int32.ofInt x ^^^ Int32.ofInt y).toInt
def bShl (x y : Int) : Int := (Int32.ofInt x <<< (Int32.ofInt y &&& 31)).toInt
def bShr (x y : Int) : Int := (Int32.ofInt x >>> (Int32.ofInt y &&& 31)).toInt
def bUshr (x y : Int) : Int := ((Int32.ofInt x).toUInt32 >>> ((Int32.ofInt y).toUInt32 &&& Int32.toUInt32 31)).toInt32.toInt
def lAnd (x y : Int) : Int := (Int64.ofInt x &&& Int64.ofInt y).toInt
def lOr (x y : Int) : Int := (Int64.ofInt x ||| Int64.ofInt y).toInt
def lXor (x y : Int) : Int := (Int64.ofInt x ^^^ Int64.ofInt y).toInt
def lShl (x y : Int) : Int := (Int64.ofInt x <<< ((Int32.ofInt y).toInt64 &&& 63)).toInt
theorem vi_to (z : Int32) : vi z.toInt = .int z := by unfold vi; rw [Int32.ofInt_toInt]
theorem vl_to (z : Int64) : vl z.toInt = .long z := by unfold vl; rw [Int64.ofInt_toInt]
theorem vi_div {x y : Int} : vi (Int.tdiv (w32 x) (w32 y)) = .int (Int32.ofInt x / Int32.ofInt y) := by
  unfold vi; congr 1
  apply Int32.toInt_inj.mp
  rw [Int32.toInt_div, t32, t32, t32]; rfl
theorem vl_div {x y : Int} : vl (Int.tdiv (w64 x) (w64 y)) = .long (Int64.ofInt x / Int64.ofInt y) := by
  unfold vl; congr 1
  apply Int64.toInt_inj.mp
  rw [Int64.toInt_div, t64, t64, t64]; rfl
theorem vi_rem {x y : Int} : vi (Int.tmod (w32 x) (w32 y)) = .int (Int32.ofInt x - Int32.ofInt x / Int32.ofInt y * Int32.ofInt y) := by
  have e : Int32.ofInt x / Int32.ofInt y = Int32.ofInt (Int.tdiv (w32 x) (w32 y)) := by
    have := @vi_div x y; unfold vi at this; exact (Value.int.inj this).symm
  unfold vi; congr 1
  rw [e, ← of32 x, ← of32 y, ← Int32.ofInt_mul, ← Int32.ofInt_sub]
  congr 1
  rw [Int.tmod_def, Int.mul_comm]
theorem vl_rem {x y : Int} : vl (Int.tmod (w64 x) (w64 y)) = .long (Int64.ofInt x - Int64.ofInt x / Int64.ofInt y * Int64.ofInt y) := by
  have e : Int64.ofInt x / Int64.ofInt y = Int64.ofInt (Int.tdiv (w64 x) (w64 y)) := by
    have := @vl_div x y; unfold vl at this; exact (Value.long.inj this).symm
  unfold vl; congr 1
  rw [e, ← of64 x, ← of64 y, ← Int64.ofInt_mul, ← Int64.ofInt_sub]
  congr 1
  rw [Int.tmod_def, Int.mul_comm]
theorem ne32 {y : Int} (h : ¬ w32 y = 0) : ¬ Int32.ofInt y = 0 := fun e => h (by
  have := oe32.mp (show Int32.ofInt y = Int32.ofInt 0 from e)
  rw [this]; decide)
theorem ne64 {y : Int} (h : ¬ w64 y = 0) : ¬ Int64.ofInt y = 0 := fun e => h (by
  have := oe64.mp (show Int64.ofInt y = Int64.ofInt 0 from e)
  rw [this]; decide)
section Rows
variable {ρ : Type} {E : Ev ρ} {l : Launch} {G : Gw} {own : String} {cc : ByteArray} {nL h : Nat} {mem : Mem} {pc pc' : Nat} {lv : Lv} {sk : List Value} {o : Option ρ}
theorem z_iconst (C : Cx E l G own cc nL h) {n : Int} (d : Dc cc pc (.iconst n) 1 pc') (k : Z E G nL mem pc' lv (vi n :: sk) o) : Z E G nL mem pc lv sk o := by
  intro r hr H locs ls hP hS hl
  obtain ⟨d, rfl⟩ := d
  have q := k r hr H locs ls hP hS hl
  exact lv_iconst C.1 C.2.1 d rfl q
theorem z_bipush (C : Cx E l G own cc nL h) {n : Int} (d : Dc cc pc (.bipush n) 2 pc') (hv : (Int8.ofInt n).toInt32 = Int32.ofInt n) (k : Z E G nL mem pc' lv (vi n :: sk) o) : Z E G nL mem pc lv sk o := by
  intro r hr H locs ls hP hS hl
  obtain ⟨d, rfl⟩ := d
  have q := k r hr H locs ls hP hS hl
  exact lv_bipush C.1 C.2.1 d hv q
theorem z_sipush (C : Cx E l G own cc nL h) {n : Int} (d : Dc cc pc (.sipush n) 3 pc') (hv : (Int16.ofInt n).toInt32 = Int32.ofInt n) (k : Z E G nL mem pc' lv (vi n :: sk) o) : Z E G nL mem pc lv sk o := by
  intro r hr H locs ls hP hS hl
  obtain ⟨d, rfl⟩ := d
  have q := k r hr H locs ls hP hS hl
  exact lv_sipush C.1 C.2.1 d hv q
theorem z_lconst (C : Cx E l G own cc nL h) {n : Fin 2} {x : Int} (d : Dc cc pc (.lconst n) 1 pc') (hv : Int64.ofNat (n : Nat) = Int64.ofInt x) (k : Z E G nL mem pc' lv (vl x :: sk) o) : Z E G nL mem pc lv sk o := by
  intro r hr H locs ls hP hS hl
  obtain ⟨d, rfl⟩ := d
  have q := k r hr H locs ls hP hS hl
  exact lv_lconst C.1 C.2.1 d hv q
theorem z_ldc (C : Cx E l G own cc nL h) {ix : Nat} {x : Int} {v : Int32} (d : Dc cc pc (.ldc ix) 2 pc') (hw : Cond.constant own ix v ∈ wt) (hv : v = Int32.ofInt x) (k : Z E G nL mem pc' lv (vi x :: sk) o) : Z E G nL mem pc lv sk o := by
  intro r hr H locs ls hP hS hl
  obtain ⟨d, rfl⟩ := d
  have q := k r hr H locs ls hP hS hl
  subst hv
  exact lv_ldc C.1 C.2.1 C.2.2.2.1 (C.2.2.2.2.1 _ hw) d q
theorem z_ldcw (C : Cx E l G own cc nL h) {ix : Nat} {x : Int} {v : Int32} (d : Dc cc pc (.ldc_w ix) 3 pc') (hw : Cond.constant own ix v ∈ wt) (hv : v = Int32.ofInt x) (k : Z E G nL mem pc' lv (vi x :: sk) o) : Z E G nL mem pc lv sk o := by
  intro r hr H locs ls hP hS hl
  obtain ⟨d, rfl⟩ := d
  have q := k r hr H locs ls hP hS hl
  subst hv
  exact lv_ldcw C.1 C.2.1 C.2.2.2.1 (C.2.2.2.2.1 _ hw) d q
theorem z_ldc2 (C : Cx E l G own cc nL h) {ix : Nat} {x : Int} {v : Int64} (d : Dc cc pc (.ldc2_w ix) 3 pc') (hw : Cond.constantLong own ix v ∈ wt) (hv : v = Int64.ofInt x) (k : Z E G nL mem pc' lv (vl x :: sk) o) : Z E G nL mem pc lv sk o := by
  intro r hr H locs ls hP hS hl
  obtain ⟨d, rfl⟩ := d
  have q := k r hr H locs ls hP hS hl
  subst hv
  exact lv_ldc2 C.1 C.2.1 C.2.2.2.1 (C.2.2.2.2.1 _ hw) d q
theorem z_iadd (C : Cx E l G own cc nL h) {x y : Int} (d : Dc cc pc .iadd 1 pc') (k : Z E G nL mem pc' lv (vi (x + y) :: sk) o) : Z E G nL mem pc lv (vi y :: vi x :: sk) o := by
  intro r hr H locs ls hP hS hl
  obtain ⟨d, rfl⟩ := d
  have q := k r hr H locs ls hP hS hl
  unfold vi at q
  rw [Int32.ofInt_add] at q
  exact lv_iadd C.1 C.2.1 d q
theorem z_isub (C : Cx E l G own cc nL h) {x y : Int} (d : Dc cc pc .isub 1 pc') (k : Z E G nL mem pc' lv (vi (x - y) :: sk) o) : Z E G nL mem pc lv (vi y :: vi x :: sk) o := by
  intro r hr H locs ls hP hS hl
  obtain ⟨d, rfl⟩ := d
  have q := k r hr H locs ls hP hS hl
  unfold vi at q
  rw [Int32.ofInt_sub] at q
  exact lv_isub C.1 C.2.1 d q
theorem z_imul (C : Cx E l G own cc nL h) {x y : Int} (d : Dc cc pc .imul 1 pc') (k : Z E G nL mem pc' lv (vi (x * y) :: sk) o) : Z E G nL mem pc lv (vi y :: vi x :: sk) o := by
  intro r hr H locs ls hP hS hl
  obtain ⟨d, rfl⟩ := d
  have q := k r hr H locs ls hP hS hl
  unfold vi at q
  rw [Int32.ofInt_mul] at q
  exact lv_imul C.1 C.2.1 d q
theorem z_ladd (C : Cx E l G own cc nL h) {x y : Int} (d : Dc cc pc .ladd 1 pc') (k : Z E G nL mem pc' lv (vl (x + y) :: sk) o) : Z E G nL mem pc lv (vl y :: vl x :: sk) o := by
  intro r hr H locs ls hP hS hl
  obtain ⟨d, rfl⟩ := d
  have q := k r hr H locs ls hP hS hl
  unfold vl at q
  rw [Int64.ofInt_add] at q
  exact lv_ladd C.1 C.2.1 d q
theorem z_lsub (C : Cx E l G own cc nL h) {x y : Int} (d : Dc cc pc .lsub 1 pc') (k : Z E G nL mem pc' lv (vl (x - y) :: sk) o) : Z E G nL mem pc lv (vl y :: vl x :: sk) o := by
  intro r hr H locs ls hP hS hl
  obtain ⟨d, rfl⟩ := d
  have q := k r hr H locs ls hP hS hl
  unfold vl at q
  rw [Int64.ofInt_sub] at q
  exact lv_lsub C.1 C.2.1 d q
theorem z_lmul (C : Cx E l G own cc nL h) {x y : Int} (d : Dc cc pc .lmul 1 pc') (k : Z E G nL mem pc' lv (vl (x * y) :: sk) o) : Z E G nL mem pc lv (vl y :: vl x :: sk) o := by
  intro r hr H locs ls hP hS hl
  obtain ⟨d, rfl⟩ := d
  have q := k r hr H locs ls hP hS hl
  unfold vl at q
  rw [Int64.ofInt_mul] at q
  exact lv_lmul C.1 C.2.1 d q
theorem z_ineg (C : Cx E l G own cc nL h) {x : Int} (d : Dc cc pc .ineg 1 pc') (k : Z E G nL mem pc' lv (vi (-x) :: sk) o) : Z E G nL mem pc lv (vi x :: sk) o := by
  intro r hr H locs ls hP hS hl
  obtain ⟨d, rfl⟩ := d
  have q := k r hr H locs ls hP hS hl
  unfold vi at q
  rw [Int32.ofInt_neg] at q
  exact lv_ineg C.1 C.2.1 d q
theorem z_lneg (C : Cx E l G own cc nL h) {x : Int} (d : Dc cc pc .lneg 1 pc') (k : Z E G nL mem pc' lv (vl (-x) :: sk) o) : Z E G nL mem pc lv (vl x :: sk) o := by
  intro r hr H locs ls hP hS hl
  obtain ⟨d, rfl⟩ := d
  have q := k r hr H locs ls hP hS hl
  unfold vl at q
  rw [Int64.ofInt_neg] at q
  exact lv_lneg C.1 C.2.1 d q
theorem z_iand (C : Cx E l G own cc nL h) {x y : Int} (d : Dc cc pc .iand 1 pc') (k : Z E G nL mem pc' lv (vi (bAnd x y) :: sk) o) : Z E G nL mem pc lv (vi y :: vi x :: sk) o := by
  intro r hr H locs ls hP hS hl
  obtain ⟨d, rfl⟩ := d
  have q := k r hr H locs ls hP hS hl
  unfold bAnd at q
  rw [vi_to] at q
  exact lv_iand C.1 C.2.1 d q
theorem z_ior (C : Cx E l G own cc nL h) {x y : Int} (d : Dc cc pc .ior 1 pc') (k : Z E G nL mem pc' lv (vi (bOr x y) :: sk) o) : Z E G nL mem pc lv (vi y :: vi x :: sk) o := by
  intro r hr H locs ls hP hS hl
  obtain ⟨d, rfl⟩ := d
  have q := k r hr H locs ls hP hS hl
  unfold bOr at q
  rw [vi_to] at q
  exact lv_ior C.1 C.2.1 d q
theorem z_ixor (C : Cx E l G own cc nL h) {x y : Int} (d : Dc cc pc .ixor 1 pc') (k : Z E G nL mem pc' lv (vi (bXor x y) :: sk) o) : Z E G nL mem pc lv (vi y :: vi x :: sk) o := by
  intro r hr H locs ls hP hS hl
  obtain ⟨d, rfl⟩ := d
  have q := k r hr H locs ls hP hS hl
  unfold bXor at q
  rw [vi_to] at q
  exact lv_ixor C.1 C.2.1 d q
theorem z_ishl (C : Cx E l G own cc nL h) {x y : Int} (d : Dc cc pc .ishl 1 pc') (k : Z E G nL mem pc' lv (vi (bShl x y) :: sk) o) : Z E G nL mem pc lv (vi y :: vi x :: sk) o := by
  intro r hr H locs ls hP hS hl
  obtain ⟨d, rfl⟩ := d
  have q := k r hr H locs ls hP hS hl
  unfold bShl at q
  rw [vi_to] at q
  exact lv_ishl C.1 C.2.1 d q
theorem z_ishr (C : Cx E l G own cc nL h) {x y : Int} (d : Dc cc pc .ishr 1 pc') (k : Z E G nL mem pc' lv (vi (bShr x y) :: sk) o) : Z E G nL mem pc lv (vi y :: vi x :: sk) o := by
  intro r hr H locs ls hP hS hl
  obtain ⟨d, rfl⟩ := d
  have q := k r hr H locs ls hP hS hl
  unfold bShr at q
  rw [vi_to] at q
  exact lv_ishr C.1 C.2.1 d q
theorem z_iushr (C : Cx E l G own cc nL h) {x y : Int} (d : Dc cc pc .iushr 1 pc') (k : Z E G nL mem pc' lv (vi (bUshr x y) :: sk) o) : Z E G nL mem pc lv (vi y :: vi x :: sk) o := by
  intro r hr H locs ls hP hS hl
  obtain ⟨d, rfl⟩ := d
  have q := k r hr H locs ls hP hS hl
  unfold bUshr at q
  rw [vi_to] at q
  exact lv_iushr C.1 C.2.1 d rfl q
theorem z_land (C : Cx E l G own cc nL h) {x y : Int} (d : Dc cc pc .land 1 pc') (k : Z E G nL mem pc' lv (vl (lAnd x y) :: sk) o) : Z E G nL mem pc lv (vl y :: vl x :: sk) o := by
  intro r hr H locs ls hP hS hl
  obtain ⟨d, rfl⟩ := d
  have q := k r hr H locs ls hP hS hl
  unfold lAnd at q
  rw [vl_to] at q
  exact lv_land C.1 C.2.1 d q
theorem z_lor (C : Cx E l G own cc nL h) {x y : Int} (d : Dc cc pc .lor 1 pc') (k : Z E G nL mem pc' lv (vl (lOr x y) :: sk) o) : Z E G nL mem pc lv (vl y :: vl x :: sk) o := by
  intro r hr H locs ls hP hS hl
  obtain ⟨d, rfl⟩ := d
  have q := k r hr H locs ls hP hS hl
  unfold lOr at q
  rw [vl_to] at q
  exact lv_lor C.1 C.2.1 d q
theorem z_lxor (C : Cx E l G own cc nL h) {x y : Int} (d : Dc cc pc .lxor 1 pc') (k : Z E G nL mem pc' lv (vl (lXor x y) :: sk) o) : Z E G nL mem pc lv (vl y :: vl x :: sk) o := by
  intro r hr H locs ls hP hS hl
  obtain ⟨d, rfl⟩ := d
  have q := k r hr H locs ls hP hS hl
  unfold lXor at q
  rw [vl_to] at q
  exact lv_lxor C.1 C.2.1 d q
theorem z_lshl (C : Cx E l G own cc nL h) {x y : Int} (d : Dc cc pc .lshl 1 pc') (k : Z E G nL mem pc' lv (vl (lShl x y) :: sk) o) : Z E G nL mem pc lv (vi y :: vl x :: sk) o := by
  intro r hr H locs ls hP hS hl
  obtain ⟨d, rfl⟩ := d
  have q := k r hr H locs ls hP hS hl
  unfold lShl at q
  rw [vl_to] at q
  exact lv_lshl C.1 C.2.1 d rfl q
theorem z_i2l (C : Cx E l G own cc nL h) {x x' : Int} (d : Dc cc pc .i2l 1 pc') (hx : w32 x = x') (k : Z E G nL mem pc' lv (vl x' :: sk) o) : Z E G nL mem pc lv (vi x :: sk) o := by
  intro r hr H locs ls hP hS hl
  obtain ⟨d, rfl⟩ := d
  have q := k r hr H locs ls hP hS hl
  subst hx
  refine lv_i2l C.1 C.2.1 d ?_ q
  apply Int64.toInt_inj.mp
  rw [t64, Int32.toInt_toInt64, t32, w64_id (by have := w32_lo x; omega) (by have := w32_hi x; omega)]
theorem z_l2i (C : Cx E l G own cc nL h) {x : Int} (d : Dc cc pc .l2i 1 pc') (k : Z E G nL mem pc' lv (vi x :: sk) o) : Z E G nL mem pc lv (vl x :: sk) o := by
  intro r hr H locs ls hP hS hl
  obtain ⟨d, rfl⟩ := d
  have q := k r hr H locs ls hP hS hl
  refine lv_l2i C.1 C.2.1 d ?_ q
  exact Int64.toInt32_ofInt
theorem z_i2b (C : Cx E l G own cc nL h) {x : Int} (d : Dc cc pc .i2b 1 pc') (k : Z E G nL mem pc' lv (vi (w8 x) :: sk) o) : Z E G nL mem pc lv (vi x :: sk) o := by
  intro r hr H locs ls hP hS hl
  obtain ⟨d, rfl⟩ := d
  have q := k r hr H locs ls hP hS hl
  refine lv_i2b C.1 C.2.1 d ?_ q
  apply Int32.toInt_inj.mp
  rw [Int8.toInt_toInt32, Int32.toInt8_ofInt, Int8.toInt_ofInt, t32, w32_id] <;> unfold w8 <;> first | rfl | (have := Int.le_bmod (x := x) (m := 256) (by decide); omega) | (have := Int.bmod_lt (x := x) (m := 256) (by decide); omega)
theorem z_i2s (C : Cx E l G own cc nL h) {x : Int} (d : Dc cc pc .i2s 1 pc') (k : Z E G nL mem pc' lv (vi (w16 x) :: sk) o) : Z E G nL mem pc lv (vi x :: sk) o := by
  intro r hr H locs ls hP hS hl
  obtain ⟨d, rfl⟩ := d
  have q := k r hr H locs ls hP hS hl
  refine lv_i2s C.1 C.2.1 d ?_ q
  apply Int32.toInt_inj.mp
  rw [Int16.toInt_toInt32, Int32.toInt16_ofInt, Int16.toInt_ofInt, t32, w32_id] <;> unfold w16 <;> first | rfl | (have := Int.le_bmod (x := x) (m := 65536) (by decide); omega) | (have := Int.bmod_lt (x := x) (m := 65536) (by decide); omega)
theorem z_idiv (C : Cx E l G own cc nL h) {x y x' y' : Int} (d : Dc cc pc .idiv 1 pc') (hx : w32 x = x') (hy : w32 y = y') (hn : ¬ y' = 0) (k : Z E G nL mem pc' lv (vi (Int.tdiv x' y') :: sk) o) : Z E G nL mem pc lv (vi y :: vi x :: sk) o := by
  intro r hr H locs ls hP hS hl
  obtain ⟨d, rfl⟩ := d
  have q := k r hr H locs ls hP hS hl
  subst hx hy
  rw [vi_div] at q
  exact lv_idiv C.1 C.2.1 d (ne32 hn) q
theorem z_idivC (C : Cx E l G own cc nL h) {x y x' y' : Int} (d : Dc cc pc .idiv 1 pc') (hx : w32 x = x') (hy : w32 y = y') (k : ¬ y' = 0 → Z E G nL mem pc' lv (vi (Int.tdiv x' y') :: sk) o) : Z E G nL mem pc lv (vi y :: vi x :: sk) (if y' = 0 then none else o) := by
  intro r hr H locs ls hP hS hl
  by_cases e : y' = 0
  · rw [if_pos e] at hr; cases hr
  · rw [if_neg e] at hr
    exact z_idiv C d hx hy e (k e) r hr H locs ls hP hS hl
theorem z_irem (C : Cx E l G own cc nL h) {x y x' y' : Int} (d : Dc cc pc .irem 1 pc') (hx : w32 x = x') (hy : w32 y = y') (hn : ¬ y' = 0) (k : Z E G nL mem pc' lv (vi (Int.tmod x' y') :: sk) o) : Z E G nL mem pc lv (vi y :: vi x :: sk) o := by
  intro r hr H locs ls hP hS hl
  obtain ⟨d, rfl⟩ := d
  have q := k r hr H locs ls hP hS hl
  subst hx hy
  rw [vi_rem] at q
  exact lv_irem C.1 C.2.1 d (ne32 hn) q
theorem z_iremC (C : Cx E l G own cc nL h) {x y x' y' : Int} (d : Dc cc pc .irem 1 pc') (hx : w32 x = x') (hy : w32 y = y') (k : ¬ y' = 0 → Z E G nL mem pc' lv (vi (Int.tmod x' y') :: sk) o) : Z E G nL mem pc lv (vi y :: vi x :: sk) (if y' = 0 then none else o) := by
  intro r hr H locs ls hP hS hl
  by_cases e : y' = 0
  · rw [if_pos e] at hr; cases hr
  · rw [if_neg e] at hr
    exact z_irem C d hx hy e (k e) r hr H locs ls hP hS hl
theorem z_ldiv (C : Cx E l G own cc nL h) {x y x' y' : Int} (d : Dc cc pc .ldiv 1 pc') (hx : w64 x = x') (hy : w64 y = y') (hn : ¬ y' = 0) (k : Z E G nL mem pc' lv (vl (Int.tdiv x' y') :: sk) o) : Z E G nL mem pc lv (vl y :: vl x :: sk) o := by
  intro r hr H locs ls hP hS hl
  obtain ⟨d, rfl⟩ := d
  have q := k r hr H locs ls hP hS hl
  subst hx hy
  rw [vl_div] at q
  exact lv_ldiv C.1 C.2.1 d (ne64 hn) q
theorem z_ldivC (C : Cx E l G own cc nL h) {x y x' y' : Int} (d : Dc cc pc .ldiv 1 pc') (hx : w64 x = x') (hy : w64 y = y') (k : ¬ y' = 0 → Z E G nL mem pc' lv (vl (Int.tdiv x' y') :: sk) o) : Z E G nL mem pc lv (vl y :: vl x :: sk) (if y' = 0 then none else o) := by
  intro r hr H locs ls hP hS hl
  by_cases e : y' = 0
  · rw [if_pos e] at hr; cases hr
  · rw [if_neg e] at hr
    exact z_ldiv C d hx hy e (k e) r hr H locs ls hP hS hl
theorem z_lrem (C : Cx E l G own cc nL h) {x y x' y' : Int} (d : Dc cc pc .lrem 1 pc') (hx : w64 x = x') (hy : w64 y = y') (hn : ¬ y' = 0) (k : Z E G nL mem pc' lv (vl (Int.tmod x' y') :: sk) o) : Z E G nL mem pc lv (vl y :: vl x :: sk) o := by
  intro r hr H locs ls hP hS hl
  obtain ⟨d, rfl⟩ := d
  have q := k r hr H locs ls hP hS hl
  subst hx hy
  rw [vl_rem] at q
  exact lv_lrem C.1 C.2.1 d (ne64 hn) q
theorem z_lremC (C : Cx E l G own cc nL h) {x y x' y' : Int} (d : Dc cc pc .lrem 1 pc') (hx : w64 x = x') (hy : w64 y = y') (k : ¬ y' = 0 → Z E G nL mem pc' lv (vl (Int.tmod x' y') :: sk) o) : Z E G nL mem pc lv (vl y :: vl x :: sk) (if y' = 0 then none else o) := by
  intro r hr H locs ls hP hS hl
  by_cases e : y' = 0
  · rw [if_pos e] at hr; cases hr
  · rw [if_neg e] at hr
    exact z_lrem C d hx hy e (k e) r hr H locs ls hP hS hl
theorem z_dup (C : Cx E l G own cc nL h) {v : Value} (d : Dc cc pc .dup 1 pc') (hc : v.category = 1) (k : Z E G nL mem pc' lv (v :: v :: sk) o) : Z E G nL mem pc lv (v :: sk) o := by
  intro r hr H locs ls hP hS hl
  obtain ⟨d, rfl⟩ := d
  have q := k r hr H locs ls hP hS hl
  exact lv_dup C.1 C.2.1 d hc q
theorem z_pop (C : Cx E l G own cc nL h) {v : Value} (d : Dc cc pc .pop 1 pc') (hc : v.category = 1) (k : Z E G nL mem pc' lv sk o) : Z E G nL mem pc lv (v :: sk) o := by
  intro r hr H locs ls hP hS hl
  obtain ⟨d, rfl⟩ := d
  have q := k r hr H locs ls hP hS hl
  exact lv_pop C.1 C.2.1 d hc q
theorem z_dup2 (C : Cx E l G own cc nL h) {v u : Value} (d : Dc cc pc .dup2 1 pc') (hc : v.category = 1) (hc2 : u.category = 1) (k : Z E G nL mem pc' lv (v :: u :: v :: u :: sk) o) : Z E G nL mem pc lv (v :: u :: sk) o := by
  intro r hr H locs ls hP hS hl
  obtain ⟨d, rfl⟩ := d
  have q := k r hr H locs ls hP hS hl
  exact lv_dup2_11 C.1 C.2.1 d hc hc2 q
theorem z_goto (C : Cx E l G own cc nL h) {off : Int} {tgt : Nat} (d : Dc cc pc (.goto off) 3 pc') (ht : (pc : Int) + off = (tgt : Int)) (k : Z E G nL mem tgt lv sk o) : Z E G nL mem pc lv sk o := by
  intro r hr H locs ls hP hS hl
  obtain ⟨d, rfl⟩ := d
  exact lv_goto C.1 C.2.1 d ht (k r hr H locs ls hP hS hl)
theorem z_icmp_eq0 (C : Cx E l G own cc nL h) {x y x' y' : Int} {off : Int} {tgt : Nat} (d : Dc cc pc (.if_icmp .eq off) 3 pc') (ht : (pc : Int) + off = (tgt : Int)) (hx : w32 x = x') (hy : w32 y = y') (kt : (x' = y') → Z E G nL mem tgt lv sk o) (kf : ¬ (x' = y') → Z E G nL mem pc' lv sk o) : Z E G nL mem pc lv (vi y :: vi x :: sk) o := by
  intro r hr H locs ls hP hS hl
  obtain ⟨d, rfl⟩ := d
  subst hx hy
  exact lv_icmp_eq C.1 C.2.1 d ht (fun c => kt (oe32.mp c) r hr H locs ls hP hS hl) (fun c => kf (fun e => c (oe32.mpr e)) r hr H locs ls hP hS hl)
theorem z_icmp_eq (C : Cx E l G own cc nL h) {x y x' y' : Int} {off : Int} {tgt : Nat} {A B : Option ρ} (d : Dc cc pc (.if_icmp .eq off) 3 pc') (ht : (pc : Int) + off = (tgt : Int)) (hx : w32 x = x') (hy : w32 y = y') (kt : (x' = y') → Z E G nL mem tgt lv sk A) (kf : ¬ (x' = y') → Z E G nL mem pc' lv sk B) : Z E G nL mem pc lv (vi y :: vi x :: sk) (if (x' = y') then A else B) :=
  z_icmp_eq0 C d ht hx hy (fun c => by rw [if_pos c]; exact kt c) (fun c => by rw [if_neg c]; exact kf c)
theorem z_icmp_eqS {X Y : ρ} (C : Cx E l G own cc nL h) {x y x' y' : Int} {off : Int} {tgt : Nat} (d : Dc cc pc (.if_icmp .eq off) 3 pc') (ht : (pc : Int) + off = (tgt : Int)) (hx : w32 x = x') (hy : w32 y = y') (kt : (x' = y') → Z E G nL mem tgt lv sk (some X)) (kf : ¬ (x' = y') → Z E G nL mem pc' lv sk (some Y)) : Z E G nL mem pc lv (vi y :: vi x :: sk) (some (if (x' = y') then X else Y)) :=
  z_icmp_eq0 C d ht hx hy (fun c => by rw [if_pos c]; exact kt c) (fun c => by rw [if_neg c]; exact kf c)
theorem z_icmp_ne0 (C : Cx E l G own cc nL h) {x y x' y' : Int} {off : Int} {tgt : Nat} (d : Dc cc pc (.if_icmp .ne off) 3 pc') (ht : (pc : Int) + off = (tgt : Int)) (hx : w32 x = x') (hy : w32 y = y') (kt : (¬ x' = y') → Z E G nL mem tgt lv sk o) (kf : ¬ (¬ x' = y') → Z E G nL mem pc' lv sk o) : Z E G nL mem pc lv (vi y :: vi x :: sk) o := by
  intro r hr H locs ls hP hS hl
  obtain ⟨d, rfl⟩ := d
  subst hx hy
  exact lv_icmp_ne C.1 C.2.1 d ht (fun c => kt (fun e => c (oe32.mpr e)) r hr H locs ls hP hS hl) (fun c => kf (fun e => e (oe32.mp c)) r hr H locs ls hP hS hl)
theorem z_icmp_ne (C : Cx E l G own cc nL h) {x y x' y' : Int} {off : Int} {tgt : Nat} {A B : Option ρ} (d : Dc cc pc (.if_icmp .ne off) 3 pc') (ht : (pc : Int) + off = (tgt : Int)) (hx : w32 x = x') (hy : w32 y = y') (kt : (¬ x' = y') → Z E G nL mem tgt lv sk A) (kf : ¬ (¬ x' = y') → Z E G nL mem pc' lv sk B) : Z E G nL mem pc lv (vi y :: vi x :: sk) (if (¬ x' = y') then A else B) :=
  z_icmp_ne0 C d ht hx hy (fun c => by rw [if_pos c]; exact kt c) (fun c => by rw [if_neg c]; exact kf c)
theorem z_icmp_neS {X Y : ρ} (C : Cx E l G own cc nL h) {x y x' y' : Int} {off : Int} {tgt : Nat} (d : Dc cc pc (.if_icmp .ne off) 3 pc') (ht : (pc : Int) + off = (tgt : Int)) (hx : w32 x = x') (hy : w32 y = y') (kt : (¬ x' = y') → Z E G nL mem tgt lv sk (some X)) (kf : ¬ (¬ x' = y') → Z E G nL mem pc' lv sk (some Y)) : Z E G nL mem pc lv (vi y :: vi x :: sk) (some (if (¬ x' = y') then X else Y)) :=
  z_icmp_ne0 C d ht hx hy (fun c => by rw [if_pos c]; exact kt c) (fun c => by rw [if_neg c]; exact kf c)
theorem z_icmp_lt0 (C : Cx E l G own cc nL h) {x y x' y' : Int} {off : Int} {tgt : Nat} (d : Dc cc pc (.if_icmp .lt off) 3 pc') (ht : (pc : Int) + off = (tgt : Int)) (hx : w32 x = x') (hy : w32 y = y') (kt : (x' < y') → Z E G nL mem tgt lv sk o) (kf : ¬ (x' < y') → Z E G nL mem pc' lv sk o) : Z E G nL mem pc lv (vi y :: vi x :: sk) o := by
  intro r hr H locs ls hP hS hl
  obtain ⟨d, rfl⟩ := d
  subst hx hy
  exact lv_icmp_lt C.1 C.2.1 d ht (fun c => kt (ot32.mp c) r hr H locs ls hP hS hl) (fun c => kf (fun e => c (ot32.mpr e)) r hr H locs ls hP hS hl)
theorem z_icmp_lt (C : Cx E l G own cc nL h) {x y x' y' : Int} {off : Int} {tgt : Nat} {A B : Option ρ} (d : Dc cc pc (.if_icmp .lt off) 3 pc') (ht : (pc : Int) + off = (tgt : Int)) (hx : w32 x = x') (hy : w32 y = y') (kt : (x' < y') → Z E G nL mem tgt lv sk A) (kf : ¬ (x' < y') → Z E G nL mem pc' lv sk B) : Z E G nL mem pc lv (vi y :: vi x :: sk) (if (x' < y') then A else B) :=
  z_icmp_lt0 C d ht hx hy (fun c => by rw [if_pos c]; exact kt c) (fun c => by rw [if_neg c]; exact kf c)
theorem z_icmp_ltS {X Y : ρ} (C : Cx E l G own cc nL h) {x y x' y' : Int} {off : Int} {tgt : Nat} (d : Dc cc pc (.if_icmp .lt off) 3 pc') (ht : (pc : Int) + off = (tgt : Int)) (hx : w32 x = x') (hy : w32 y = y') (kt : (x' < y') → Z E G nL mem tgt lv sk (some X)) (kf : ¬ (x' < y') → Z E G nL mem pc' lv sk (some Y)) : Z E G nL mem pc lv (vi y :: vi x :: sk) (some (if (x' < y') then X else Y)) :=
  z_icmp_lt0 C d ht hx hy (fun c => by rw [if_pos c]; exact kt c) (fun c => by rw [if_neg c]; exact kf c)
theorem z_icmp_ge0 (C : Cx E l G own cc nL h) {x y x' y' : Int} {off : Int} {tgt : Nat} (d : Dc cc pc (.if_icmp .ge off) 3 pc') (ht : (pc : Int) + off = (tgt : Int)) (hx : w32 x = x') (hy : w32 y = y') (kt : (y' ≤ x') → Z E G nL mem tgt lv sk o) (kf : ¬ (y' ≤ x') → Z E G nL mem pc' lv sk o) : Z E G nL mem pc lv (vi y :: vi x :: sk) o := by
  intro r hr H locs ls hP hS hl
  obtain ⟨d, rfl⟩ := d
  subst hx hy
  exact lv_icmp_ge C.1 C.2.1 d ht (fun c => kt (ol32.mp c) r hr H locs ls hP hS hl) (fun c => kf (fun e => c (ol32.mpr e)) r hr H locs ls hP hS hl)
theorem z_icmp_ge (C : Cx E l G own cc nL h) {x y x' y' : Int} {off : Int} {tgt : Nat} {A B : Option ρ} (d : Dc cc pc (.if_icmp .ge off) 3 pc') (ht : (pc : Int) + off = (tgt : Int)) (hx : w32 x = x') (hy : w32 y = y') (kt : (y' ≤ x') → Z E G nL mem tgt lv sk A) (kf : ¬ (y' ≤ x') → Z E G nL mem pc' lv sk B) : Z E G nL mem pc lv (vi y :: vi x :: sk) (if (y' ≤ x') then A else B) :=
  z_icmp_ge0 C d ht hx hy (fun c => by rw [if_pos c]; exact kt c) (fun c => by rw [if_neg c]; exact kf c)
theorem z_icmp_geS {X Y : ρ} (C : Cx E l G own cc nL h) {x y x' y' : Int} {off : Int} {tgt : Nat} (d : Dc cc pc (.if_icmp .ge off) 3 pc') (ht : (pc : Int) + off = (tgt : Int)) (hx : w32 x = x') (hy : w32 y = y') (kt : (y' ≤ x') → Z E G nL mem tgt lv sk (some X)) (kf : ¬ (y' ≤ x') → Z E G nL mem pc' lv sk (some Y)) : Z E G nL mem pc lv (vi y :: vi x :: sk) (some (if (y' ≤ x') then X else Y)) :=
  z_icmp_ge0 C d ht hx hy (fun c => by rw [if_pos c]; exact kt c) (fun c => by rw [if_neg c]; exact kf c)
theorem z_icmp_gt0 (C : Cx E l G own cc nL h) {x y x' y' : Int} {off : Int} {tgt : Nat} (d : Dc cc pc (.if_icmp .gt off) 3 pc') (ht : (pc : Int) + off = (tgt : Int)) (hx : w32 x = x') (hy : w32 y = y') (kt : (y' < x') → Z E G nL mem tgt lv sk o) (kf : ¬ (y' < x') → Z E G nL mem pc' lv sk o) : Z E G nL mem pc lv (vi y :: vi x :: sk) o := by
  intro r hr H locs ls hP hS hl
  obtain ⟨d, rfl⟩ := d
  subst hx hy
  exact lv_icmp_gt C.1 C.2.1 d ht (fun c => kt (ot32.mp c) r hr H locs ls hP hS hl) (fun c => kf (fun e => c (ot32.mpr e)) r hr H locs ls hP hS hl)
theorem z_icmp_gt (C : Cx E l G own cc nL h) {x y x' y' : Int} {off : Int} {tgt : Nat} {A B : Option ρ} (d : Dc cc pc (.if_icmp .gt off) 3 pc') (ht : (pc : Int) + off = (tgt : Int)) (hx : w32 x = x') (hy : w32 y = y') (kt : (y' < x') → Z E G nL mem tgt lv sk A) (kf : ¬ (y' < x') → Z E G nL mem pc' lv sk B) : Z E G nL mem pc lv (vi y :: vi x :: sk) (if (y' < x') then A else B) :=
  z_icmp_gt0 C d ht hx hy (fun c => by rw [if_pos c]; exact kt c) (fun c => by rw [if_neg c]; exact kf c)
theorem z_icmp_gtS {X Y : ρ} (C : Cx E l G own cc nL h) {x y x' y' : Int} {off : Int} {tgt : Nat} (d : Dc cc pc (.if_icmp .gt off) 3 pc') (ht : (pc : Int) + off = (tgt : Int)) (hx : w32 x = x') (hy : w32 y = y') (kt : (y' < x') → Z E G nL mem tgt lv sk (some X)) (kf : ¬ (y' < x') → Z E G nL mem pc' lv sk (some Y)) : Z E G nL mem pc lv (vi y :: vi x :: sk) (some (if (y' < x') then X else Y)) :=
  z_icmp_gt0 C d ht hx hy (fun c => by rw [if_pos c]; exact kt c) (fun c => by rw [if_neg c]; exact kf c)
theorem z_icmp_le0 (C : Cx E l G own cc nL h) {x y x' y' : Int} {off : Int} {tgt : Nat} (d : Dc cc pc (.if_icmp .le off) 3 pc') (ht : (pc : Int) + off = (tgt : Int)) (hx : w32 x = x') (hy : w32 y = y') (kt : (x' ≤ y') → Z E G nL mem tgt lv sk o) (kf : ¬ (x' ≤ y') → Z E G nL mem pc' lv sk o) : Z E G nL mem pc lv (vi y :: vi x :: sk) o := by
  intro r hr H locs ls hP hS hl
  obtain ⟨d, rfl⟩ := d
  subst hx hy
  exact lv_icmp_le C.1 C.2.1 d ht (fun c => kt (ol32.mp c) r hr H locs ls hP hS hl) (fun c => kf (fun e => c (ol32.mpr e)) r hr H locs ls hP hS hl)
theorem z_icmp_le (C : Cx E l G own cc nL h) {x y x' y' : Int} {off : Int} {tgt : Nat} {A B : Option ρ} (d : Dc cc pc (.if_icmp .le off) 3 pc') (ht : (pc : Int) + off = (tgt : Int)) (hx : w32 x = x') (hy : w32 y = y') (kt : (x' ≤ y') → Z E G nL mem tgt lv sk A) (kf : ¬ (x' ≤ y') → Z E G nL mem pc' lv sk B) : Z E G nL mem pc lv (vi y :: vi x :: sk) (if (x' ≤ y') then A else B) :=
  z_icmp_le0 C d ht hx hy (fun c => by rw [if_pos c]; exact kt c) (fun c => by rw [if_neg c]; exact kf c)
theorem z_icmp_leS {X Y : ρ} (C : Cx E l G own cc nL h) {x y x' y' : Int} {off : Int} {tgt : Nat} (d : Dc cc pc (.if_icmp .le off) 3 pc') (ht : (pc : Int) + off = (tgt : Int)) (hx : w32 x = x') (hy : w32 y = y') (kt : (x' ≤ y') → Z E G nL mem tgt lv sk (some X)) (kf : ¬ (x' ≤ y') → Z E G nL mem pc' lv sk (some Y)) : Z E G nL mem pc lv (vi y :: vi x :: sk) (some (if (x' ≤ y') then X else Y)) :=
  z_icmp_le0 C d ht hx hy (fun c => by rw [if_pos c]; exact kt c) (fun c => by rw [if_neg c]; exact kf c)
theorem z0e {x : Int} : Int32.ofInt x = 0 ↔ w32 x = 0 := by
  have : (0 : Int32) = Int32.ofInt 0 := rfl
  rw [this, oe32]; rfl
theorem z0lt {x : Int} : Int32.ofInt x < 0 ↔ w32 x < 0 := by
  have : (0 : Int32) = Int32.ofInt 0 := rfl
  rw [this, ot32]; rfl
theorem z0ge {x : Int} : 0 ≤ Int32.ofInt x ↔ 0 ≤ w32 x := by
  have : (0 : Int32) = Int32.ofInt 0 := rfl
  rw [this, ol32]; rfl
theorem z0gt {x : Int} : 0 < Int32.ofInt x ↔ 0 < w32 x := by
  have : (0 : Int32) = Int32.ofInt 0 := rfl
  rw [this, ot32]; rfl
theorem z0le {x : Int} : Int32.ofInt x ≤ 0 ↔ w32 x ≤ 0 := by
  have : (0 : Int32) = Int32.ofInt 0 := rfl
  rw [this, ol32]; rfl
theorem lcv {x y : Int} : (lg_cmp (Int64.ofInt x) (Int64.ofInt y)).toInt = if w64 x < w64 y then -1 else if w64 x = w64 y then 0 else 1 := by
  unfold lg_cmp
  simp only [gt_iff_lt, ot64, oe64]
  by_cases h1 : w64 x < w64 y
  · have h2 : ¬ w64 y < w64 x := by omega
    have h3 : ¬ w64 x = w64 y := by omega
    simp [h1, h2, h3]
  · by_cases h3 : w64 x = w64 y
    · simp [h3]
    · have h2 : w64 y < w64 x := by omega
      simp [h1, h2, h3]
theorem lc_eq {x y : Int} : lg_cmp (Int64.ofInt x) (Int64.ofInt y) = 0 ↔ w64 x = w64 y := by
  rw [← Int32.toInt_inj, lcv, Int32.toInt_zero]; split <;> (try split) <;> simp_all <;> omega
theorem lc_ne {x y : Int} : ¬ lg_cmp (Int64.ofInt x) (Int64.ofInt y) = 0 ↔ ¬ w64 x = w64 y := not_congr lc_eq
theorem lc_lt {x y : Int} : lg_cmp (Int64.ofInt x) (Int64.ofInt y) < 0 ↔ w64 x < w64 y := by
  rw [Int32.lt_iff_toInt_lt, lcv, Int32.toInt_zero]; split <;> (try split) <;> simp_all <;> omega
theorem lc_ge {x y : Int} : 0 ≤ lg_cmp (Int64.ofInt x) (Int64.ofInt y) ↔ w64 y ≤ w64 x := by
  rw [Int32.le_iff_toInt_le, lcv, Int32.toInt_zero]; split <;> (try split) <;> simp_all <;> omega
theorem lc_gt {x y : Int} : 0 < lg_cmp (Int64.ofInt x) (Int64.ofInt y) ↔ w64 y < w64 x := by
  rw [Int32.lt_iff_toInt_lt, lcv, Int32.toInt_zero]; split <;> (try split) <;> simp_all <;> omega
theorem lc_le {x y : Int} : lg_cmp (Int64.ofInt x) (Int64.ofInt y) ≤ 0 ↔ w64 x ≤ w64 y := by
  rw [Int32.le_iff_toInt_le, lcv, Int32.toInt_zero]; split <;> (try split) <;> simp_all <;> omega
theorem z_if_eq0 (C : Cx E l G own cc nL h) {x x' : Int} {off : Int} {tgt : Nat} (d : Dc cc pc (.ifCond .eq off) 3 pc') (ht : (pc : Int) + off = (tgt : Int)) (hx : w32 x = x') (kt : (x' = 0) → Z E G nL mem tgt lv sk o) (kf : ¬ (x' = 0) → Z E G nL mem pc' lv sk o) : Z E G nL mem pc lv (vi x :: sk) o := by
  intro r hr H locs ls hP hS hl
  obtain ⟨d, rfl⟩ := d
  subst hx
  exact lv_if_eq C.1 C.2.1 d ht (fun c => kt (z0e.mp c) r hr H locs ls hP hS hl) (fun c => kf (fun e => c (z0e.mpr e)) r hr H locs ls hP hS hl)
theorem z_if_eq (C : Cx E l G own cc nL h) {x x' : Int} {off : Int} {tgt : Nat} {A B : Option ρ} (d : Dc cc pc (.ifCond .eq off) 3 pc') (ht : (pc : Int) + off = (tgt : Int)) (hx : w32 x = x') (kt : (x' = 0) → Z E G nL mem tgt lv sk A) (kf : ¬ (x' = 0) → Z E G nL mem pc' lv sk B) : Z E G nL mem pc lv (vi x :: sk) (if (x' = 0) then A else B) :=
  z_if_eq0 C d ht hx (fun c => by rw [if_pos c]; exact kt c) (fun c => by rw [if_neg c]; exact kf c)
theorem z_if_eqS {X Y : ρ} (C : Cx E l G own cc nL h) {x x' : Int} {off : Int} {tgt : Nat} (d : Dc cc pc (.ifCond .eq off) 3 pc') (ht : (pc : Int) + off = (tgt : Int)) (hx : w32 x = x') (kt : (x' = 0) → Z E G nL mem tgt lv sk (some X)) (kf : ¬ (x' = 0) → Z E G nL mem pc' lv sk (some Y)) : Z E G nL mem pc lv (vi x :: sk) (some (if (x' = 0) then X else Y)) :=
  z_if_eq0 C d ht hx (fun c => by rw [if_pos c]; exact kt c) (fun c => by rw [if_neg c]; exact kf c)
theorem z_if_ne0 (C : Cx E l G own cc nL h) {x x' : Int} {off : Int} {tgt : Nat} (d : Dc cc pc (.ifCond .ne off) 3 pc') (ht : (pc : Int) + off = (tgt : Int)) (hx : w32 x = x') (kt : (¬ x' = 0) → Z E G nL mem tgt lv sk o) (kf : ¬ (¬ x' = 0) → Z E G nL mem pc' lv sk o) : Z E G nL mem pc lv (vi x :: sk) o := by
  intro r hr H locs ls hP hS hl
  obtain ⟨d, rfl⟩ := d
  subst hx
  exact lv_if_ne C.1 C.2.1 d ht (fun c => kt (fun e => c (z0e.mpr e)) r hr H locs ls hP hS hl) (fun c => kf (fun e => e (z0e.mp c)) r hr H locs ls hP hS hl)
theorem z_if_ne (C : Cx E l G own cc nL h) {x x' : Int} {off : Int} {tgt : Nat} {A B : Option ρ} (d : Dc cc pc (.ifCond .ne off) 3 pc') (ht : (pc : Int) + off = (tgt : Int)) (hx : w32 x = x') (kt : (¬ x' = 0) → Z E G nL mem tgt lv sk A) (kf : ¬ (¬ x' = 0) → Z E G nL mem pc' lv sk B) : Z E G nL mem pc lv (vi x :: sk) (if (¬ x' = 0) then A else B) :=
  z_if_ne0 C d ht hx (fun c => by rw [if_pos c]; exact kt c) (fun c => by rw [if_neg c]; exact kf c)
theorem z_if_neS {X Y : ρ} (C : Cx E l G own cc nL h) {x x' : Int} {off : Int} {tgt : Nat} (d : Dc cc pc (.ifCond .ne off) 3 pc') (ht : (pc : Int) + off = (tgt : Int)) (hx : w32 x = x') (kt : (¬ x' = 0) → Z E G nL mem tgt lv sk (some X)) (kf : ¬ (¬ x' = 0) → Z E G nL mem pc' lv sk (some Y)) : Z E G nL mem pc lv (vi x :: sk) (some (if (¬ x' = 0) then X else Y)) :=
  z_if_ne0 C d ht hx (fun c => by rw [if_pos c]; exact kt c) (fun c => by rw [if_neg c]; exact kf c)
theorem z_if_lt0 (C : Cx E l G own cc nL h) {x x' : Int} {off : Int} {tgt : Nat} (d : Dc cc pc (.ifCond .lt off) 3 pc') (ht : (pc : Int) + off = (tgt : Int)) (hx : w32 x = x') (kt : (x' < 0) → Z E G nL mem tgt lv sk o) (kf : ¬ (x' < 0) → Z E G nL mem pc' lv sk o) : Z E G nL mem pc lv (vi x :: sk) o := by
  intro r hr H locs ls hP hS hl
  obtain ⟨d, rfl⟩ := d
  subst hx
  exact lv_if_lt C.1 C.2.1 d ht (fun c => kt (z0lt.mp c) r hr H locs ls hP hS hl) (fun c => kf (fun e => c (z0lt.mpr e)) r hr H locs ls hP hS hl)
theorem z_if_lt (C : Cx E l G own cc nL h) {x x' : Int} {off : Int} {tgt : Nat} {A B : Option ρ} (d : Dc cc pc (.ifCond .lt off) 3 pc') (ht : (pc : Int) + off = (tgt : Int)) (hx : w32 x = x') (kt : (x' < 0) → Z E G nL mem tgt lv sk A) (kf : ¬ (x' < 0) → Z E G nL mem pc' lv sk B) : Z E G nL mem pc lv (vi x :: sk) (if (x' < 0) then A else B) :=
  z_if_lt0 C d ht hx (fun c => by rw [if_pos c]; exact kt c) (fun c => by rw [if_neg c]; exact kf c)
theorem z_if_ltS {X Y : ρ} (C : Cx E l G own cc nL h) {x x' : Int} {off : Int} {tgt : Nat} (d : Dc cc pc (.ifCond .lt off) 3 pc') (ht : (pc : Int) + off = (tgt : Int)) (hx : w32 x = x') (kt : (x' < 0) → Z E G nL mem tgt lv sk (some X)) (kf : ¬ (x' < 0) → Z E G nL mem pc' lv sk (some Y)) : Z E G nL mem pc lv (vi x :: sk) (some (if (x' < 0) then X else Y)) :=
  z_if_lt0 C d ht hx (fun c => by rw [if_pos c]; exact kt c) (fun c => by rw [if_neg c]; exact kf c)
theorem z_if_ge0 (C : Cx E l G own cc nL h) {x x' : Int} {off : Int} {tgt : Nat} (d : Dc cc pc (.ifCond .ge off) 3 pc') (ht : (pc : Int) + off = (tgt : Int)) (hx : w32 x = x') (kt : (0 ≤ x') → Z E G nL mem tgt lv sk o) (kf : ¬ (0 ≤ x') → Z E G nL mem pc' lv sk o) : Z E G nL mem pc lv (vi x :: sk) o := by
  intro r hr H locs ls hP hS hl
  obtain ⟨d, rfl⟩ := d
  subst hx
  exact lv_if_ge C.1 C.2.1 d ht (fun c => kt (z0ge.mp c) r hr H locs ls hP hS hl) (fun c => kf (fun e => c (z0ge.mpr e)) r hr H locs ls hP hS hl)
theorem z_if_ge (C : Cx E l G own cc nL h) {x x' : Int} {off : Int} {tgt : Nat} {A B : Option ρ} (d : Dc cc pc (.ifCond .ge off) 3 pc') (ht : (pc : Int) + off = (tgt : Int)) (hx : w32 x = x') (kt : (0 ≤ x') → Z E G nL mem tgt lv sk A) (kf : ¬ (0 ≤ x') → Z E G nL mem pc' lv sk B) : Z E G nL mem pc lv (vi x :: sk) (if (0 ≤ x') then A else B) :=
  z_if_ge0 C d ht hx (fun c => by rw [if_pos c]; exact kt c) (fun c => by rw [if_neg c]; exact kf c)
theorem z_if_geS {X Y : ρ} (C : Cx E l G own cc nL h) {x x' : Int} {off : Int} {tgt : Nat} (d : Dc cc pc (.ifCond .ge off) 3 pc') (ht : (pc : Int) + off = (tgt : Int)) (hx : w32 x = x') (kt : (0 ≤ x') → Z E G nL mem tgt lv sk (some X)) (kf : ¬ (0 ≤ x') → Z E G nL mem pc' lv sk (some Y)) : Z E G nL mem pc lv (vi x :: sk) (some (if (0 ≤ x') then X else Y)) :=
  z_if_ge0 C d ht hx (fun c => by rw [if_pos c]; exact kt c) (fun c => by rw [if_neg c]; exact kf c)
theorem z_if_gt0 (C : Cx E l G own cc nL h) {x x' : Int} {off : Int} {tgt : Nat} (d : Dc cc pc (.ifCond .gt off) 3 pc') (ht : (pc : Int) + off = (tgt : Int)) (hx : w32 x = x') (kt : (0 < x') → Z E G nL mem tgt lv sk o) (kf : ¬ (0 < x') → Z E G nL mem pc' lv sk o) : Z E G nL mem pc lv (vi x :: sk) o := by
  intro r hr H locs ls hP hS hl
  obtain ⟨d, rfl⟩ := d
  subst hx
  exact lv_if_gt C.1 C.2.1 d ht (fun c => kt (z0gt.mp c) r hr H locs ls hP hS hl) (fun c => kf (fun e => c (z0gt.mpr e)) r hr H locs ls hP hS hl)
theorem z_if_gt (C : Cx E l G own cc nL h) {x x' : Int} {off : Int} {tgt : Nat} {A B : Option ρ} (d : Dc cc pc (.ifCond .gt off) 3 pc') (ht : (pc : Int) + off = (tgt : Int)) (hx : w32 x = x') (kt : (0 < x') → Z E G nL mem tgt lv sk A) (kf : ¬ (0 < x') → Z E G nL mem pc' lv sk B) : Z E G nL mem pc lv (vi x :: sk) (if (0 < x') then A else B) :=
  z_if_gt0 C d ht hx (fun c => by rw [if_pos c]; exact kt c) (fun c => by rw [if_neg c]; exact kf c)
theorem z_if_gtS {X Y : ρ} (C : Cx E l G own cc nL h) {x x' : Int} {off : Int} {tgt : Nat} (d : Dc cc pc (.ifCond .gt off) 3 pc') (ht : (pc : Int) + off = (tgt : Int)) (hx : w32 x = x') (kt : (0 < x') → Z E G nL mem tgt lv sk (some X)) (kf : ¬ (0 < x') → Z E G nL mem pc' lv sk (some Y)) : Z E G nL mem pc lv (vi x :: sk) (some (if (0 < x') then X else Y)) :=
  z_if_gt0 C d ht hx (fun c => by rw [if_pos c]; exact kt c) (fun c => by rw [if_neg c]; exact kf c)
theorem z_if_le0 (C : Cx E l G own cc nL h) {x x' : Int} {off : Int} {tgt : Nat} (d : Dc cc pc (.ifCond .le off) 3 pc') (ht : (pc : Int) + off = (tgt : Int)) (hx : w32 x = x') (kt : (x' ≤ 0) → Z E G nL mem tgt lv sk o) (kf : ¬ (x' ≤ 0) → Z E G nL mem pc' lv sk o) : Z E G nL mem pc lv (vi x :: sk) o := by
  intro r hr H locs ls hP hS hl
  obtain ⟨d, rfl⟩ := d
  subst hx
  exact lv_if_le C.1 C.2.1 d ht (fun c => kt (z0le.mp c) r hr H locs ls hP hS hl) (fun c => kf (fun e => c (z0le.mpr e)) r hr H locs ls hP hS hl)
theorem z_if_le (C : Cx E l G own cc nL h) {x x' : Int} {off : Int} {tgt : Nat} {A B : Option ρ} (d : Dc cc pc (.ifCond .le off) 3 pc') (ht : (pc : Int) + off = (tgt : Int)) (hx : w32 x = x') (kt : (x' ≤ 0) → Z E G nL mem tgt lv sk A) (kf : ¬ (x' ≤ 0) → Z E G nL mem pc' lv sk B) : Z E G nL mem pc lv (vi x :: sk) (if (x' ≤ 0) then A else B) :=
  z_if_le0 C d ht hx (fun c => by rw [if_pos c]; exact kt c) (fun c => by rw [if_neg c]; exact kf c)
theorem z_if_leS {X Y : ρ} (C : Cx E l G own cc nL h) {x x' : Int} {off : Int} {tgt : Nat} (d : Dc cc pc (.ifCond .le off) 3 pc') (ht : (pc : Int) + off = (tgt : Int)) (hx : w32 x = x') (kt : (x' ≤ 0) → Z E G nL mem tgt lv sk (some X)) (kf : ¬ (x' ≤ 0) → Z E G nL mem pc' lv sk (some Y)) : Z E G nL mem pc lv (vi x :: sk) (some (if (x' ≤ 0) then X else Y)) :=
  z_if_le0 C d ht hx (fun c => by rw [if_pos c]; exact kt c) (fun c => by rw [if_neg c]; exact kf c)
theorem z_lcmp_eq0 (C : Cx E l G own cc nL h) {x y x' y' : Int} {p1 : Nat} {off : Int} {tgt : Nat} (d : Dc cc pc .lcmp 1 p1) (d2 : Dc cc p1 (.ifCond .eq off) 3 pc') (ht : (p1 : Int) + off = (tgt : Int)) (hx : w64 x = x') (hy : w64 y = y') (kt : (x' = y') → Z E G nL mem tgt lv sk o) (kf : ¬ (x' = y') → Z E G nL mem pc' lv sk o) : Z E G nL mem pc lv (vl y :: vl x :: sk) o := by
  intro r hr H locs ls hP hS hl
  obtain ⟨d, rfl⟩ := d
  obtain ⟨d2, rfl⟩ := d2
  subst hx hy
  exact W.lcmp C.1 C.2.1 d (lv_if_eq C.1 C.2.1 d2 ht (fun c => kt (lc_eq.mp c) r hr H locs ls hP hS hl) (fun c => kf (fun e => c (lc_eq.mpr e)) r hr H locs ls hP hS hl))
theorem z_lcmp_eq (C : Cx E l G own cc nL h) {x y x' y' : Int} {p1 : Nat} {off : Int} {tgt : Nat} {A B : Option ρ} (d : Dc cc pc .lcmp 1 p1) (d2 : Dc cc p1 (.ifCond .eq off) 3 pc') (ht : (p1 : Int) + off = (tgt : Int)) (hx : w64 x = x') (hy : w64 y = y') (kt : (x' = y') → Z E G nL mem tgt lv sk A) (kf : ¬ (x' = y') → Z E G nL mem pc' lv sk B) : Z E G nL mem pc lv (vl y :: vl x :: sk) (if (x' = y') then A else B) :=
  z_lcmp_eq0 C d d2 ht hx hy (fun c => by rw [if_pos c]; exact kt c) (fun c => by rw [if_neg c]; exact kf c)
theorem z_lcmp_eqS {X Y : ρ} (C : Cx E l G own cc nL h) {x y x' y' : Int} {p1 : Nat} {off : Int} {tgt : Nat} (d : Dc cc pc .lcmp 1 p1) (d2 : Dc cc p1 (.ifCond .eq off) 3 pc') (ht : (p1 : Int) + off = (tgt : Int)) (hx : w64 x = x') (hy : w64 y = y') (kt : (x' = y') → Z E G nL mem tgt lv sk (some X)) (kf : ¬ (x' = y') → Z E G nL mem pc' lv sk (some Y)) : Z E G nL mem pc lv (vl y :: vl x :: sk) (some (if (x' = y') then X else Y)) :=
  z_lcmp_eq0 C d d2 ht hx hy (fun c => by rw [if_pos c]; exact kt c) (fun c => by rw [if_neg c]; exact kf c)
theorem z_lcmp_ne0 (C : Cx E l G own cc nL h) {x y x' y' : Int} {p1 : Nat} {off : Int} {tgt : Nat} (d : Dc cc pc .lcmp 1 p1) (d2 : Dc cc p1 (.ifCond .ne off) 3 pc') (ht : (p1 : Int) + off = (tgt : Int)) (hx : w64 x = x') (hy : w64 y = y') (kt : (¬ x' = y') → Z E G nL mem tgt lv sk o) (kf : ¬ (¬ x' = y') → Z E G nL mem pc' lv sk o) : Z E G nL mem pc lv (vl y :: vl x :: sk) o := by
  intro r hr H locs ls hP hS hl
  obtain ⟨d, rfl⟩ := d
  obtain ⟨d2, rfl⟩ := d2
  subst hx hy
  exact W.lcmp C.1 C.2.1 d (lv_if_ne C.1 C.2.1 d2 ht (fun c => kt (lc_ne.mp c) r hr H locs ls hP hS hl) (fun c => kf (fun e => e (lc_eq.mp c)) r hr H locs ls hP hS hl))
theorem z_lcmp_ne (C : Cx E l G own cc nL h) {x y x' y' : Int} {p1 : Nat} {off : Int} {tgt : Nat} {A B : Option ρ} (d : Dc cc pc .lcmp 1 p1) (d2 : Dc cc p1 (.ifCond .ne off) 3 pc') (ht : (p1 : Int) + off = (tgt : Int)) (hx : w64 x = x') (hy : w64 y = y') (kt : (¬ x' = y') → Z E G nL mem tgt lv sk A) (kf : ¬ (¬ x' = y') → Z E G nL mem pc' lv sk B) : Z E G nL mem pc lv (vl y :: vl x :: sk) (if (¬ x' = y') then A else B) :=
  z_lcmp_ne0 C d d2 ht hx hy (fun c => by rw [if_pos c]; exact kt c) (fun c => by rw [if_neg c]; exact kf c)
theorem z_lcmp_neS {X Y : ρ} (C : Cx E l G own cc nL h) {x y x' y' : Int} {p1 : Nat} {off : Int} {tgt : Nat} (d : Dc cc pc .lcmp 1 p1) (d2 : Dc cc p1 (.ifCond .ne off) 3 pc') (ht : (p1 : Int) + off = (tgt : Int)) (hx : w64 x = x') (hy : w64 y = y') (kt : (¬ x' = y') → Z E G nL mem tgt lv sk (some X)) (kf : ¬ (¬ x' = y') → Z E G nL mem pc' lv sk (some Y)) : Z E G nL mem pc lv (vl y :: vl x :: sk) (some (if (¬ x' = y') then X else Y)) :=
  z_lcmp_ne0 C d d2 ht hx hy (fun c => by rw [if_pos c]; exact kt c) (fun c => by rw [if_neg c]; exact kf c)
theorem z_lcmp_lt0 (C : Cx E l G own cc nL h) {x y x' y' : Int} {p1 : Nat} {off : Int} {tgt : Nat} (d : Dc cc pc .lcmp 1 p1) (d2 : Dc cc p1 (.ifCond .lt off) 3 pc') (ht : (p1 : Int) + off = (tgt : Int)) (hx : w64 x = x') (hy : w64 y = y') (kt : (x' < y') → Z E G nL mem tgt lv sk o) (kf : ¬ (x' < y') → Z E G nL mem pc' lv sk o) : Z E G nL mem pc lv (vl y :: vl x :: sk) o := by
  intro r hr H locs ls hP hS hl
  obtain ⟨d, rfl⟩ := d
  obtain ⟨d2, rfl⟩ := d2
  subst hx hy
  exact W.lcmp C.1 C.2.1 d (lv_if_lt C.1 C.2.1 d2 ht (fun c => kt (lc_lt.mp c) r hr H locs ls hP hS hl) (fun c => kf (fun e => c (lc_lt.mpr e)) r hr H locs ls hP hS hl))
theorem z_lcmp_lt (C : Cx E l G own cc nL h) {x y x' y' : Int} {p1 : Nat} {off : Int} {tgt : Nat} {A B : Option ρ} (d : Dc cc pc .lcmp 1 p1) (d2 : Dc cc p1 (.ifCond .lt off) 3 pc') (ht : (p1 : Int) + off = (tgt : Int)) (hx : w64 x = x') (hy : w64 y = y') (kt : (x' < y') → Z E G nL mem tgt lv sk A) (kf : ¬ (x' < y') → Z E G nL mem pc' lv sk B) : Z E G nL mem pc lv (vl y :: vl x :: sk) (if (x' < y') then A else B) :=
  z_lcmp_lt0 C d d2 ht hx hy (fun c => by rw [if_pos c]; exact kt c) (fun c => by rw [if_neg c]; exact kf c)
theorem z_lcmp_ltS {X Y : ρ} (C : Cx E l G own cc nL h) {x y x' y' : Int} {p1 : Nat} {off : Int} {tgt : Nat} (d : Dc cc pc .lcmp 1 p1) (d2 : Dc cc p1 (.ifCond .lt off) 3 pc') (ht : (p1 : Int) + off = (tgt : Int)) (hx : w64 x = x') (hy : w64 y = y') (kt : (x' < y') → Z E G nL mem tgt lv sk (some X)) (kf : ¬ (x' < y') → Z E G nL mem pc' lv sk (some Y)) : Z E G nL mem pc lv (vl y :: vl x :: sk) (some (if (x' < y') then X else Y)) :=
  z_lcmp_lt0 C d d2 ht hx hy (fun c => by rw [if_pos c]; exact kt c) (fun c => by rw [if_neg c]; exact kf c)
theorem z_lcmp_ge0 (C : Cx E l G own cc nL h) {x y x' y' : Int} {p1 : Nat} {off : Int} {tgt : Nat} (d : Dc cc pc .lcmp 1 p1) (d2 : Dc cc p1 (.ifCond .ge off) 3 pc') (ht : (p1 : Int) + off = (tgt : Int)) (hx : w64 x = x') (hy : w64 y = y') (kt : (y' ≤ x') → Z E G nL mem tgt lv sk o) (kf : ¬ (y' ≤ x') → Z E G nL mem pc' lv sk o) : Z E G nL mem pc lv (vl y :: vl x :: sk) o := by
  intro r hr H locs ls hP hS hl
  obtain ⟨d, rfl⟩ := d
  obtain ⟨d2, rfl⟩ := d2
  subst hx hy
  exact W.lcmp C.1 C.2.1 d (lv_if_ge C.1 C.2.1 d2 ht (fun c => kt (lc_ge.mp c) r hr H locs ls hP hS hl) (fun c => kf (fun e => c (lc_ge.mpr e)) r hr H locs ls hP hS hl))
theorem z_lcmp_ge (C : Cx E l G own cc nL h) {x y x' y' : Int} {p1 : Nat} {off : Int} {tgt : Nat} {A B : Option ρ} (d : Dc cc pc .lcmp 1 p1) (d2 : Dc cc p1 (.ifCond .ge off) 3 pc') (ht : (p1 : Int) + off = (tgt : Int)) (hx : w64 x = x') (hy : w64 y = y') (kt : (y' ≤ x') → Z E G nL mem tgt lv sk A) (kf : ¬ (y' ≤ x') → Z E G nL mem pc' lv sk B) : Z E G nL mem pc lv (vl y :: vl x :: sk) (if (y' ≤ x') then A else B) :=
  z_lcmp_ge0 C d d2 ht hx hy (fun c => by rw [if_pos c]; exact kt c) (fun c => by rw [if_neg c]; exact kf c)
theorem z_lcmp_geS {X Y : ρ} (C : Cx E l G own cc nL h) {x y x' y' : Int} {p1 : Nat} {off : Int} {tgt : Nat} (d : Dc cc pc .lcmp 1 p1) (d2 : Dc cc p1 (.ifCond .ge off) 3 pc') (ht : (p1 : Int) + off = (tgt : Int)) (hx : w64 x = x') (hy : w64 y = y') (kt : (y' ≤ x') → Z E G nL mem tgt lv sk (some X)) (kf : ¬ (y' ≤ x') → Z E G nL mem pc' lv sk (some Y)) : Z E G nL mem pc lv (vl y :: vl x :: sk) (some (if (y' ≤ x') then X else Y)) :=
  z_lcmp_ge0 C d d2 ht hx hy (fun c => by rw [if_pos c]; exact kt c) (fun c => by rw [if_neg c]; exact kf c)
theorem z_lcmp_gt0 (C : Cx E l G own cc nL h) {x y x' y' : Int} {p1 : Nat} {off : Int} {tgt : Nat} (d : Dc cc pc .lcmp 1 p1) (d2 : Dc cc p1 (.ifCond .gt off) 3 pc') (ht : (p1 : Int) + off = (tgt : Int)) (hx : w64 x = x') (hy : w64 y = y') (kt : (y' < x') → Z E G nL mem tgt lv sk o) (kf : ¬ (y' < x') → Z E G nL mem pc' lv sk o) : Z E G nL mem pc lv (vl y :: vl x :: sk) o := by
  intro r hr H locs ls hP hS hl
  obtain ⟨d, rfl⟩ := d
  obtain ⟨d2, rfl⟩ := d2
  subst hx hy
  exact W.lcmp C.1 C.2.1 d (lv_if_gt C.1 C.2.1 d2 ht (fun c => kt (lc_gt.mp c) r hr H locs ls hP hS hl) (fun c => kf (fun e => c (lc_gt.mpr e)) r hr H locs ls hP hS hl))
theorem z_lcmp_gt (C : Cx E l G own cc nL h) {x y x' y' : Int} {p1 : Nat} {off : Int} {tgt : Nat} {A B : Option ρ} (d : Dc cc pc .lcmp 1 p1) (d2 : Dc cc p1 (.ifCond .gt off) 3 pc') (ht : (p1 : Int) + off = (tgt : Int)) (hx : w64 x = x') (hy : w64 y = y') (kt : (y' < x') → Z E G nL mem tgt lv sk A) (kf : ¬ (y' < x') → Z E G nL mem pc' lv sk B) : Z E G nL mem pc lv (vl y :: vl x :: sk) (if (y' < x') then A else B) :=
  z_lcmp_gt0 C d d2 ht hx hy (fun c => by rw [if_pos c]; exact kt c) (fun c => by rw [if_neg c]; exact kf c)
theorem z_lcmp_gtS {X Y : ρ} (C : Cx E l G own cc nL h) {x y x' y' : Int} {p1 : Nat} {off : Int} {tgt : Nat} (d : Dc cc pc .lcmp 1 p1) (d2 : Dc cc p1 (.ifCond .gt off) 3 pc') (ht : (p1 : Int) + off = (tgt : Int)) (hx : w64 x = x') (hy : w64 y = y') (kt : (y' < x') → Z E G nL mem tgt lv sk (some X)) (kf : ¬ (y' < x') → Z E G nL mem pc' lv sk (some Y)) : Z E G nL mem pc lv (vl y :: vl x :: sk) (some (if (y' < x') then X else Y)) :=
  z_lcmp_gt0 C d d2 ht hx hy (fun c => by rw [if_pos c]; exact kt c) (fun c => by rw [if_neg c]; exact kf c)
theorem z_lcmp_le0 (C : Cx E l G own cc nL h) {x y x' y' : Int} {p1 : Nat} {off : Int} {tgt : Nat} (d : Dc cc pc .lcmp 1 p1) (d2 : Dc cc p1 (.ifCond .le off) 3 pc') (ht : (p1 : Int) + off = (tgt : Int)) (hx : w64 x = x') (hy : w64 y = y') (kt : (x' ≤ y') → Z E G nL mem tgt lv sk o) (kf : ¬ (x' ≤ y') → Z E G nL mem pc' lv sk o) : Z E G nL mem pc lv (vl y :: vl x :: sk) o := by
  intro r hr H locs ls hP hS hl
  obtain ⟨d, rfl⟩ := d
  obtain ⟨d2, rfl⟩ := d2
  subst hx hy
  exact W.lcmp C.1 C.2.1 d (lv_if_le C.1 C.2.1 d2 ht (fun c => kt (lc_le.mp c) r hr H locs ls hP hS hl) (fun c => kf (fun e => c (lc_le.mpr e)) r hr H locs ls hP hS hl))
theorem z_lcmp_le (C : Cx E l G own cc nL h) {x y x' y' : Int} {p1 : Nat} {off : Int} {tgt : Nat} {A B : Option ρ} (d : Dc cc pc .lcmp 1 p1) (d2 : Dc cc p1 (.ifCond .le off) 3 pc') (ht : (p1 : Int) + off = (tgt : Int)) (hx : w64 x = x') (hy : w64 y = y') (kt : (x' ≤ y') → Z E G nL mem tgt lv sk A) (kf : ¬ (x' ≤ y') → Z E G nL mem pc' lv sk B) : Z E G nL mem pc lv (vl y :: vl x :: sk) (if (x' ≤ y') then A else B) :=
  z_lcmp_le0 C d d2 ht hx hy (fun c => by rw [if_pos c]; exact kt c) (fun c => by rw [if_neg c]; exact kf c)
theorem z_lcmp_leS {X Y : ρ} (C : Cx E l G own cc nL h) {x y x' y' : Int} {p1 : Nat} {off : Int} {tgt : Nat} (d : Dc cc pc .lcmp 1 p1) (d2 : Dc cc p1 (.ifCond .le off) 3 pc') (ht : (p1 : Int) + off = (tgt : Int)) (hx : w64 x = x') (hy : w64 y = y') (kt : (x' ≤ y') → Z E G nL mem tgt lv sk (some X)) (kf : ¬ (x' ≤ y') → Z E G nL mem pc' lv sk (some Y)) : Z E G nL mem pc lv (vl y :: vl x :: sk) (some (if (x' ≤ y') then X else Y)) :=
  z_lcmp_le0 C d d2 ht hx hy (fun c => by rw [if_pos c]; exact kt c) (fun c => by rw [if_neg c]; exact kf c)
theorem z_iload_0 (C : Cx E l G own cc nL h) {t : Lv} {x : Int} (d : Dc cc pc (.iload_n 0) 1 pc') (k : Z E G nL mem pc' (some (vi x) :: t) (vi x :: sk) o) : Z E G nL mem pc (some (vi x) :: t) sk o := by
  intro r hr H locs ls hP hS hl
  obtain ⟨d, rfl⟩ := d
  exact lv_iload_n C.1 C.2.1 d rfl (hl.get (i := 0) rfl) (k r hr H locs ls hP hS hl)
theorem z_lload_0 (C : Cx E l G own cc nL h) {t : Lv} {x : Int} (d : Dc cc pc (.lload_n 0) 1 pc') (k : Z E G nL mem pc' (some (vl x) :: t) (vl x :: sk) o) : Z E G nL mem pc (some (vl x) :: t) sk o := by
  intro r hr H locs ls hP hS hl
  obtain ⟨d, rfl⟩ := d
  exact lv_lload_n C.1 C.2.1 d rfl (hl.get (i := 0) rfl) (k r hr H locs ls hP hS hl)
theorem z_aload_0 (C : Cx E l G own cc nL h) {t : Lv} {x : Nat} (d : Dc cc pc (.aload_n 0) 1 pc') (k : Z E G nL mem pc' (some (rf G x) :: t) (rf G x :: sk) o) : Z E G nL mem pc (some (rf G x) :: t) sk o := by
  intro r hr H locs ls hP hS hl
  obtain ⟨d, rfl⟩ := d
  exact lv_aload_n C.1 C.2.1 d rfl (hl.get (i := 0) rfl) (k r hr H locs ls hP hS hl)
theorem z_aloadS_0 (C : Cx E l G own cc nL h) {t : Lv} {x : Nat} (d : Dc cc pc (.aload_n 0) 1 pc') (k : Z E G nL mem pc' (some (rs G x) :: t) (rs G x :: sk) o) : Z E G nL mem pc (some (rs G x) :: t) sk o := by
  intro r hr H locs ls hP hS hl
  obtain ⟨d, rfl⟩ := d
  exact lv_aload_n C.1 C.2.1 d rfl (hl.get (i := 0) rfl) (k r hr H locs ls hP hS hl)
theorem z_istore_0 (C : Cx E l G own cc nL h) {u : Option Value} {t : Lv} {x : Int} (d : Dc cc pc (.istore_n 0) 1 pc') (hn : 0 < nL) (k : Z E G nL mem pc' (some (vi x) :: t) sk o) : Z E G nL mem pc (u :: t) (vi x :: sk) o := by
  intro r hr H locs ls hP hS hl
  obtain ⟨d, rfl⟩ := d
  refine lv_istore_n C.1 C.2.1 d rfl hl hn rfl (fun ls' hl' => k r hr H locs ls' hP hS ?_)
  refine Lh.st1 hl' rfl ?_ ?_
  · intro j hj
    match j, hj with
    | 0, hj => exact absurd rfl hj
    | j + 1, _ => rfl
  · exact by intro j hj; omega
theorem z_astore_0 (C : Cx E l G own cc nL h) {u : Option Value} {t : Lv} {x : Nat} (d : Dc cc pc (.astore_n 0) 1 pc') (hn : 0 < nL) (k : Z E G nL mem pc' (some (rf G x) :: t) sk o) : Z E G nL mem pc (u :: t) (rf G x :: sk) o := by
  intro r hr H locs ls hP hS hl
  obtain ⟨d, rfl⟩ := d
  refine lv_astore_n C.1 C.2.1 d rfl hl hn rfl (fun ls' hl' => k r hr H locs ls' hP hS ?_)
  refine Lh.st1 hl' rfl ?_ ?_
  · intro j hj
    match j, hj with
    | 0, hj => exact absurd rfl hj
    | j + 1, _ => rfl
  · exact by intro j hj; omega
theorem z_lstore_0 (C : Cx E l G own cc nL h) {u u2 : Option Value} {t : Lv} {x : Int} (d : Dc cc pc (.lstore_n 0) 1 pc') (hn : 1 < nL) (k : Z E G nL mem pc' (some (vl x) :: none :: t) sk o) : Z E G nL mem pc (u :: u2 :: t) (vl x :: sk) o := by
  intro r hr H locs ls hP hS hl
  obtain ⟨d, rfl⟩ := d
  refine lv_lstore_n C.1 C.2.1 d rfl hl hn rfl (fun ls' hl' => k r hr H locs ls' hP hS ?_)
  refine Lh.st2 hl' rfl (fun w e => by cases e) ?_ ?_
  · intro j hj hj2
    match j, hj, hj2 with
    | 0, hj, _ => exact absurd rfl hj
    | 1, _, hj => exact absurd rfl hj
    | j + 2, _, _ => rfl
  · exact by intro j hj; omega
theorem z_iinc_0 (C : Cx E l G own cc nL h) {t : Lv} {x n : Int} (d : Dc cc pc (.iinc 0 n) 3 pc') (hn : 0 < nL) (k : Z E G nL mem pc' (some (vi (x + n)) :: t) sk o) : Z E G nL mem pc (some (vi x) :: t) sk o := by
  intro r hr H locs ls hP hS hl
  obtain ⟨d, rfl⟩ := d
  obtain ⟨kk, hk⟩ := List.getElem?_of_mem ((toA_mem (some (vi x) :: t) 0 0 (vi x)).mpr ⟨Nat.zero_le _, rfl⟩)
  refine lv_iinc C.1 C.2.1 d hl (k := kk) hk (Int32.ofInt_add ..).symm hn rfl (fun ls' hl' => k r hr H locs ls' hP hS ?_)
  refine Lh.st1 hl' rfl ?_ ?_
  · intro j hj
    match j, hj with
    | 0, hj => exact absurd rfl hj
    | j + 1, _ => rfl
  · exact by intro j hj; omega
theorem z_iload_1 (C : Cx E l G own cc nL h) {a0 : Option Value} {t : Lv} {x : Int} (d : Dc cc pc (.iload_n 1) 1 pc') (k : Z E G nL mem pc' (a0 :: some (vi x) :: t) (vi x :: sk) o) : Z E G nL mem pc (a0 :: some (vi x) :: t) sk o := by
  intro r hr H locs ls hP hS hl
  obtain ⟨d, rfl⟩ := d
  exact lv_iload_n C.1 C.2.1 d rfl (hl.get (i := 1) rfl) (k r hr H locs ls hP hS hl)
theorem z_lload_1 (C : Cx E l G own cc nL h) {a0 : Option Value} {t : Lv} {x : Int} (d : Dc cc pc (.lload_n 1) 1 pc') (k : Z E G nL mem pc' (a0 :: some (vl x) :: t) (vl x :: sk) o) : Z E G nL mem pc (a0 :: some (vl x) :: t) sk o := by
  intro r hr H locs ls hP hS hl
  obtain ⟨d, rfl⟩ := d
  exact lv_lload_n C.1 C.2.1 d rfl (hl.get (i := 1) rfl) (k r hr H locs ls hP hS hl)
theorem z_aload_1 (C : Cx E l G own cc nL h) {a0 : Option Value} {t : Lv} {x : Nat} (d : Dc cc pc (.aload_n 1) 1 pc') (k : Z E G nL mem pc' (a0 :: some (rf G x) :: t) (rf G x :: sk) o) : Z E G nL mem pc (a0 :: some (rf G x) :: t) sk o := by
  intro r hr H locs ls hP hS hl
  obtain ⟨d, rfl⟩ := d
  exact lv_aload_n C.1 C.2.1 d rfl (hl.get (i := 1) rfl) (k r hr H locs ls hP hS hl)
theorem z_aloadS_1 (C : Cx E l G own cc nL h) {a0 : Option Value} {t : Lv} {x : Nat} (d : Dc cc pc (.aload_n 1) 1 pc') (k : Z E G nL mem pc' (a0 :: some (rs G x) :: t) (rs G x :: sk) o) : Z E G nL mem pc (a0 :: some (rs G x) :: t) sk o := by
  intro r hr H locs ls hP hS hl
  obtain ⟨d, rfl⟩ := d
  exact lv_aload_n C.1 C.2.1 d rfl (hl.get (i := 1) rfl) (k r hr H locs ls hP hS hl)
theorem z_istore_1 (C : Cx E l G own cc nL h) {a0 : Option Value} {u : Option Value} {t : Lv} {x : Int} (d : Dc cc pc (.istore_n 1) 1 pc') (hn : 1 < nL) (hc : c1 a0 = true) (k : Z E G nL mem pc' (a0 :: some (vi x) :: t) sk o) : Z E G nL mem pc (a0 :: u :: t) (vi x :: sk) o := by
  intro r hr H locs ls hP hS hl
  obtain ⟨d, rfl⟩ := d
  refine lv_istore_n C.1 C.2.1 d rfl hl hn rfl (fun ls' hl' => k r hr H locs ls' hP hS ?_)
  refine Lh.st1 hl' rfl ?_ ?_
  · intro j hj
    match j, hj with
    | 0, _ => rfl
    | 1, hj => exact absurd rfl hj
    | j + 2, _ => rfl
  · exact (by
    intro j hj w hw
    obtain rfl : j = 0 := by omega
    have e : a0 = some w := by simpa using hw
    rw [e] at hc
    simpa [c1] using hc)
theorem z_astore_1 (C : Cx E l G own cc nL h) {a0 : Option Value} {u : Option Value} {t : Lv} {x : Nat} (d : Dc cc pc (.astore_n 1) 1 pc') (hn : 1 < nL) (hc : c1 a0 = true) (k : Z E G nL mem pc' (a0 :: some (rf G x) :: t) sk o) : Z E G nL mem pc (a0 :: u :: t) (rf G x :: sk) o := by
  intro r hr H locs ls hP hS hl
  obtain ⟨d, rfl⟩ := d
  refine lv_astore_n C.1 C.2.1 d rfl hl hn rfl (fun ls' hl' => k r hr H locs ls' hP hS ?_)
  refine Lh.st1 hl' rfl ?_ ?_
  · intro j hj
    match j, hj with
    | 0, _ => rfl
    | 1, hj => exact absurd rfl hj
    | j + 2, _ => rfl
  · exact (by
    intro j hj w hw
    obtain rfl : j = 0 := by omega
    have e : a0 = some w := by simpa using hw
    rw [e] at hc
    simpa [c1] using hc)
theorem z_lstore_1 (C : Cx E l G own cc nL h) {a0 : Option Value} {u u2 : Option Value} {t : Lv} {x : Int} (d : Dc cc pc (.lstore_n 1) 1 pc') (hn : 2 < nL) (hc : c1 a0 = true) (k : Z E G nL mem pc' (a0 :: some (vl x) :: none :: t) sk o) : Z E G nL mem pc (a0 :: u :: u2 :: t) (vl x :: sk) o := by
  intro r hr H locs ls hP hS hl
  obtain ⟨d, rfl⟩ := d
  refine lv_lstore_n C.1 C.2.1 d rfl hl hn rfl (fun ls' hl' => k r hr H locs ls' hP hS ?_)
  refine Lh.st2 hl' rfl (fun w e => by cases e) ?_ ?_
  · intro j hj hj2
    match j, hj, hj2 with
    | 0, _, _ => rfl
    | 1, hj, _ => exact absurd rfl hj
    | 2, _, hj => exact absurd rfl hj
    | j + 3, _, _ => rfl
  · exact (by
    intro j hj w hw
    obtain rfl : j = 0 := by omega
    have e : a0 = some w := by simpa using hw
    rw [e] at hc
    simpa [c1] using hc)
theorem z_iinc_1 (C : Cx E l G own cc nL h) {a0 : Option Value} {t : Lv} {x n : Int} (d : Dc cc pc (.iinc 1 n) 3 pc') (hn : 1 < nL) (hc : c1 a0 = true) (k : Z E G nL mem pc' (a0 :: some (vi (x + n)) :: t) sk o) : Z E G nL mem pc (a0 :: some (vi x) :: t) sk o := by
  intro r hr H locs ls hP hS hl
  obtain ⟨d, rfl⟩ := d
  obtain ⟨kk, hk⟩ := List.getElem?_of_mem ((toA_mem (a0 :: some (vi x) :: t) 0 1 (vi x)).mpr ⟨Nat.zero_le _, rfl⟩)
  refine lv_iinc C.1 C.2.1 d hl (k := kk) hk (Int32.ofInt_add ..).symm hn rfl (fun ls' hl' => k r hr H locs ls' hP hS ?_)
  refine Lh.st1 hl' rfl ?_ ?_
  · intro j hj
    match j, hj with
    | 0, _ => rfl
    | 1, hj => exact absurd rfl hj
    | j + 2, _ => rfl
  · exact (by
    intro j hj w hw
    obtain rfl : j = 0 := by omega
    have e : a0 = some w := by simpa using hw
    rw [e] at hc
    simpa [c1] using hc)
theorem z_iload_2 (C : Cx E l G own cc nL h) {a0 a1 : Option Value} {t : Lv} {x : Int} (d : Dc cc pc (.iload_n 2) 1 pc') (k : Z E G nL mem pc' (a0 :: a1 :: some (vi x) :: t) (vi x :: sk) o) : Z E G nL mem pc (a0 :: a1 :: some (vi x) :: t) sk o := by
  intro r hr H locs ls hP hS hl
  obtain ⟨d, rfl⟩ := d
  exact lv_iload_n C.1 C.2.1 d rfl (hl.get (i := 2) rfl) (k r hr H locs ls hP hS hl)
theorem z_lload_2 (C : Cx E l G own cc nL h) {a0 a1 : Option Value} {t : Lv} {x : Int} (d : Dc cc pc (.lload_n 2) 1 pc') (k : Z E G nL mem pc' (a0 :: a1 :: some (vl x) :: t) (vl x :: sk) o) : Z E G nL mem pc (a0 :: a1 :: some (vl x) :: t) sk o := by
  intro r hr H locs ls hP hS hl
  obtain ⟨d, rfl⟩ := d
  exact lv_lload_n C.1 C.2.1 d rfl (hl.get (i := 2) rfl) (k r hr H locs ls hP hS hl)
theorem z_aload_2 (C : Cx E l G own cc nL h) {a0 a1 : Option Value} {t : Lv} {x : Nat} (d : Dc cc pc (.aload_n 2) 1 pc') (k : Z E G nL mem pc' (a0 :: a1 :: some (rf G x) :: t) (rf G x :: sk) o) : Z E G nL mem pc (a0 :: a1 :: some (rf G x) :: t) sk o := by
  intro r hr H locs ls hP hS hl
  obtain ⟨d, rfl⟩ := d
  exact lv_aload_n C.1 C.2.1 d rfl (hl.get (i := 2) rfl) (k r hr H locs ls hP hS hl)
theorem z_aloadS_2 (C : Cx E l G own cc nL h) {a0 a1 : Option Value} {t : Lv} {x : Nat} (d : Dc cc pc (.aload_n 2) 1 pc') (k : Z E G nL mem pc' (a0 :: a1 :: some (rs G x) :: t) (rs G x :: sk) o) : Z E G nL mem pc (a0 :: a1 :: some (rs G x) :: t) sk o := by
  intro r hr H locs ls hP hS hl
  obtain ⟨d, rfl⟩ := d
  exact lv_aload_n C.1 C.2.1 d rfl (hl.get (i := 2) rfl) (k r hr H locs ls hP hS hl)
theorem z_istore_2 (C : Cx E l G own cc nL h) {a0 a1 : Option Value} {u : Option Value} {t : Lv} {x : Int} (d : Dc cc pc (.istore_n 2) 1 pc') (hn : 2 < nL) (hc : c1 a1 = true) (k : Z E G nL mem pc' (a0 :: a1 :: some (vi x) :: t) sk o) : Z E G nL mem pc (a0 :: a1 :: u :: t) (vi x :: sk) o := by
  intro r hr H locs ls hP hS hl
  obtain ⟨d, rfl⟩ := d
  refine lv_istore_n C.1 C.2.1 d rfl hl hn rfl (fun ls' hl' => k r hr H locs ls' hP hS ?_)
  refine Lh.st1 hl' rfl ?_ ?_
  · intro j hj
    match j, hj with
    | 0, _ => rfl
    | 1, _ => rfl
    | 2, hj => exact absurd rfl hj
    | j + 3, _ => rfl
  · exact (by
    intro j hj w hw
    obtain rfl : j = 1 := by omega
    have e : a1 = some w := by simpa using hw
    rw [e] at hc
    simpa [c1] using hc)
theorem z_astore_2 (C : Cx E l G own cc nL h) {a0 a1 : Option Value} {u : Option Value} {t : Lv} {x : Nat} (d : Dc cc pc (.astore_n 2) 1 pc') (hn : 2 < nL) (hc : c1 a1 = true) (k : Z E G nL mem pc' (a0 :: a1 :: some (rf G x) :: t) sk o) : Z E G nL mem pc (a0 :: a1 :: u :: t) (rf G x :: sk) o := by
  intro r hr H locs ls hP hS hl
  obtain ⟨d, rfl⟩ := d
  refine lv_astore_n C.1 C.2.1 d rfl hl hn rfl (fun ls' hl' => k r hr H locs ls' hP hS ?_)
  refine Lh.st1 hl' rfl ?_ ?_
  · intro j hj
    match j, hj with
    | 0, _ => rfl
    | 1, _ => rfl
    | 2, hj => exact absurd rfl hj
    | j + 3, _ => rfl
  · exact (by
    intro j hj w hw
    obtain rfl : j = 1 := by omega
    have e : a1 = some w := by simpa using hw
    rw [e] at hc
    simpa [c1] using hc)
theorem z_lstore_2 (C : Cx E l G own cc nL h) {a0 a1 : Option Value} {u u2 : Option Value} {t : Lv} {x : Int} (d : Dc cc pc (.lstore_n 2) 1 pc') (hn : 3 < nL) (hc : c1 a1 = true) (k : Z E G nL mem pc' (a0 :: a1 :: some (vl x) :: none :: t) sk o) : Z E G nL mem pc (a0 :: a1 :: u :: u2 :: t) (vl x :: sk) o := by
  intro r hr H locs ls hP hS hl
  obtain ⟨d, rfl⟩ := d
  refine lv_lstore_n C.1 C.2.1 d rfl hl hn rfl (fun ls' hl' => k r hr H locs ls' hP hS ?_)
  refine Lh.st2 hl' rfl (fun w e => by cases e) ?_ ?_
  · intro j hj hj2
    match j, hj, hj2 with
    | 0, _, _ => rfl
    | 1, _, _ => rfl
    | 2, hj, _ => exact absurd rfl hj
    | 3, _, hj => exact absurd rfl hj
    | j + 4, _, _ => rfl
  · exact (by
    intro j hj w hw
    obtain rfl : j = 1 := by omega
    have e : a1 = some w := by simpa using hw
    rw [e] at hc
    simpa [c1] using hc)
theorem z_iinc_2 (C : Cx E l G own cc nL h) {a0 a1 : Option Value} {t : Lv} {x n : Int} (d : Dc cc pc (.iinc 2 n) 3 pc') (hn : 2 < nL) (hc : c1 a1 = true) (k : Z E G nL mem pc' (a0 :: a1 :: some (vi (x + n)) :: t) sk o) : Z E G nL mem pc (a0 :: a1 :: some (vi x) :: t) sk o := by
  intro r hr H locs ls hP hS hl
  obtain ⟨d, rfl⟩ := d
  obtain ⟨kk, hk⟩ := List.getElem?_of_mem ((toA_mem (a0 :: a1 :: some (vi x) :: t) 0 2 (vi x)).mpr ⟨Nat.zero_le _, rfl⟩)
  refine lv_iinc C.1 C.2.1 d hl (k := kk) hk (Int32.ofInt_add ..).symm hn rfl (fun ls' hl' => k r hr H locs ls' hP hS ?_)
  refine Lh.st1 hl' rfl ?_ ?_
  · intro j hj
    match j, hj with
    | 0, _ => rfl
    | 1, _ => rfl
    | 2, hj => exact absurd rfl hj
    | j + 3, _ => rfl
  · exact (by
    intro j hj w hw
    obtain rfl : j = 1 := by omega
    have e : a1 = some w := by simpa using hw
    rw [e] at hc
    simpa [c1] using hc)
theorem z_iload_3 (C : Cx E l G own cc nL h) {a0 a1 a2 : Option Value} {t : Lv} {x : Int} (d : Dc cc pc (.iload_n 3) 1 pc') (k : Z E G nL mem pc' (a0 :: a1 :: a2 :: some (vi x) :: t) (vi x :: sk) o) : Z E G nL mem pc (a0 :: a1 :: a2 :: some (vi x) :: t) sk o := by
  intro r hr H locs ls hP hS hl
  obtain ⟨d, rfl⟩ := d
  exact lv_iload_n C.1 C.2.1 d rfl (hl.get (i := 3) rfl) (k r hr H locs ls hP hS hl)
theorem z_lload_3 (C : Cx E l G own cc nL h) {a0 a1 a2 : Option Value} {t : Lv} {x : Int} (d : Dc cc pc (.lload_n 3) 1 pc') (k : Z E G nL mem pc' (a0 :: a1 :: a2 :: some (vl x) :: t) (vl x :: sk) o) : Z E G nL mem pc (a0 :: a1 :: a2 :: some (vl x) :: t) sk o := by
  intro r hr H locs ls hP hS hl
  obtain ⟨d, rfl⟩ := d
  exact lv_lload_n C.1 C.2.1 d rfl (hl.get (i := 3) rfl) (k r hr H locs ls hP hS hl)
theorem z_aload_3 (C : Cx E l G own cc nL h) {a0 a1 a2 : Option Value} {t : Lv} {x : Nat} (d : Dc cc pc (.aload_n 3) 1 pc') (k : Z E G nL mem pc' (a0 :: a1 :: a2 :: some (rf G x) :: t) (rf G x :: sk) o) : Z E G nL mem pc (a0 :: a1 :: a2 :: some (rf G x) :: t) sk o := by
  intro r hr H locs ls hP hS hl
  obtain ⟨d, rfl⟩ := d
  exact lv_aload_n C.1 C.2.1 d rfl (hl.get (i := 3) rfl) (k r hr H locs ls hP hS hl)
theorem z_aloadS_3 (C : Cx E l G own cc nL h) {a0 a1 a2 : Option Value} {t : Lv} {x : Nat} (d : Dc cc pc (.aload_n 3) 1 pc') (k : Z E G nL mem pc' (a0 :: a1 :: a2 :: some (rs G x) :: t) (rs G x :: sk) o) : Z E G nL mem pc (a0 :: a1 :: a2 :: some (rs G x) :: t) sk o := by
  intro r hr H locs ls hP hS hl
  obtain ⟨d, rfl⟩ := d
  exact lv_aload_n C.1 C.2.1 d rfl (hl.get (i := 3) rfl) (k r hr H locs ls hP hS hl)
theorem z_istore_3 (C : Cx E l G own cc nL h) {a0 a1 a2 : Option Value} {u : Option Value} {t : Lv} {x : Int} (d : Dc cc pc (.istore_n 3) 1 pc') (hn : 3 < nL) (hc : c1 a2 = true) (k : Z E G nL mem pc' (a0 :: a1 :: a2 :: some (vi x) :: t) sk o) : Z E G nL mem pc (a0 :: a1 :: a2 :: u :: t) (vi x :: sk) o := by
  intro r hr H locs ls hP hS hl
  obtain ⟨d, rfl⟩ := d
  refine lv_istore_n C.1 C.2.1 d rfl hl hn rfl (fun ls' hl' => k r hr H locs ls' hP hS ?_)
  refine Lh.st1 hl' rfl ?_ ?_
  · intro j hj
    match j, hj with
    | 0, _ => rfl
    | 1, _ => rfl
    | 2, _ => rfl
    | 3, hj => exact absurd rfl hj
    | j + 4, _ => rfl
  · exact (by
    intro j hj w hw
    obtain rfl : j = 2 := by omega
    have e : a2 = some w := by simpa using hw
    rw [e] at hc
    simpa [c1] using hc)
theorem z_astore_3 (C : Cx E l G own cc nL h) {a0 a1 a2 : Option Value} {u : Option Value} {t : Lv} {x : Nat} (d : Dc cc pc (.astore_n 3) 1 pc') (hn : 3 < nL) (hc : c1 a2 = true) (k : Z E G nL mem pc' (a0 :: a1 :: a2 :: some (rf G x) :: t) sk o) : Z E G nL mem pc (a0 :: a1 :: a2 :: u :: t) (rf G x :: sk) o := by
  intro r hr H locs ls hP hS hl
  obtain ⟨d, rfl⟩ := d
  refine lv_astore_n C.1 C.2.1 d rfl hl hn rfl (fun ls' hl' => k r hr H locs ls' hP hS ?_)
  refine Lh.st1 hl' rfl ?_ ?_
  · intro j hj
    match j, hj with
    | 0, _ => rfl
    | 1, _ => rfl
    | 2, _ => rfl
    | 3, hj => exact absurd rfl hj
    | j + 4, _ => rfl
  · exact (by
    intro j hj w hw
    obtain rfl : j = 2 := by omega
    have e : a2 = some w := by simpa using hw
    rw [e] at hc
    simpa [c1] using hc)
theorem z_lstore_3 (C : Cx E l G own cc nL h) {a0 a1 a2 : Option Value} {u u2 : Option Value} {t : Lv} {x : Int} (d : Dc cc pc (.lstore_n 3) 1 pc') (hn : 4 < nL) (hc : c1 a2 = true) (k : Z E G nL mem pc' (a0 :: a1 :: a2 :: some (vl x) :: none :: t) sk o) : Z E G nL mem pc (a0 :: a1 :: a2 :: u :: u2 :: t) (vl x :: sk) o := by
  intro r hr H locs ls hP hS hl
  obtain ⟨d, rfl⟩ := d
  refine lv_lstore_n C.1 C.2.1 d rfl hl hn rfl (fun ls' hl' => k r hr H locs ls' hP hS ?_)
  refine Lh.st2 hl' rfl (fun w e => by cases e) ?_ ?_
  · intro j hj hj2
    match j, hj, hj2 with
    | 0, _, _ => rfl
    | 1, _, _ => rfl
    | 2, _, _ => rfl
    | 3, hj, _ => exact absurd rfl hj
    | 4, _, hj => exact absurd rfl hj
    | j + 5, _, _ => rfl
  · exact (by
    intro j hj w hw
    obtain rfl : j = 2 := by omega
    have e : a2 = some w := by simpa using hw
    rw [e] at hc
    simpa [c1] using hc)
theorem z_iinc_3 (C : Cx E l G own cc nL h) {a0 a1 a2 : Option Value} {t : Lv} {x n : Int} (d : Dc cc pc (.iinc 3 n) 3 pc') (hn : 3 < nL) (hc : c1 a2 = true) (k : Z E G nL mem pc' (a0 :: a1 :: a2 :: some (vi (x + n)) :: t) sk o) : Z E G nL mem pc (a0 :: a1 :: a2 :: some (vi x) :: t) sk o := by
  intro r hr H locs ls hP hS hl
  obtain ⟨d, rfl⟩ := d
  obtain ⟨kk, hk⟩ := List.getElem?_of_mem ((toA_mem (a0 :: a1 :: a2 :: some (vi x) :: t) 0 3 (vi x)).mpr ⟨Nat.zero_le _, rfl⟩)
  refine lv_iinc C.1 C.2.1 d hl (k := kk) hk (Int32.ofInt_add ..).symm hn rfl (fun ls' hl' => k r hr H locs ls' hP hS ?_)
  refine Lh.st1 hl' rfl ?_ ?_
  · intro j hj
    match j, hj with
    | 0, _ => rfl
    | 1, _ => rfl
    | 2, _ => rfl
    | 3, hj => exact absurd rfl hj
    | j + 4, _ => rfl
  · exact (by
    intro j hj w hw
    obtain rfl : j = 2 := by omega
    have e : a2 = some w := by simpa using hw
    rw [e] at hc
    simpa [c1] using hc)
theorem z_iload_4 (C : Cx E l G own cc nL h) {a0 a1 a2 a3 : Option Value} {t : Lv} {x : Int} (d : Dc cc pc (.iload 4) 2 pc') (k : Z E G nL mem pc' (a0 :: a1 :: a2 :: a3 :: some (vi x) :: t) (vi x :: sk) o) : Z E G nL mem pc (a0 :: a1 :: a2 :: a3 :: some (vi x) :: t) sk o := by
  intro r hr H locs ls hP hS hl
  obtain ⟨d, rfl⟩ := d
  exact lv_iload C.1 C.2.1 d (hl.get (i := 4) rfl) (k r hr H locs ls hP hS hl)
theorem z_lload_4 (C : Cx E l G own cc nL h) {a0 a1 a2 a3 : Option Value} {t : Lv} {x : Int} (d : Dc cc pc (.lload 4) 2 pc') (k : Z E G nL mem pc' (a0 :: a1 :: a2 :: a3 :: some (vl x) :: t) (vl x :: sk) o) : Z E G nL mem pc (a0 :: a1 :: a2 :: a3 :: some (vl x) :: t) sk o := by
  intro r hr H locs ls hP hS hl
  obtain ⟨d, rfl⟩ := d
  exact lv_lload C.1 C.2.1 d (hl.get (i := 4) rfl) (k r hr H locs ls hP hS hl)
theorem z_aload_4 (C : Cx E l G own cc nL h) {a0 a1 a2 a3 : Option Value} {t : Lv} {x : Nat} (d : Dc cc pc (.aload 4) 2 pc') (k : Z E G nL mem pc' (a0 :: a1 :: a2 :: a3 :: some (rf G x) :: t) (rf G x :: sk) o) : Z E G nL mem pc (a0 :: a1 :: a2 :: a3 :: some (rf G x) :: t) sk o := by
  intro r hr H locs ls hP hS hl
  obtain ⟨d, rfl⟩ := d
  exact lv_aload C.1 C.2.1 d (hl.get (i := 4) rfl) (k r hr H locs ls hP hS hl)
theorem z_aloadS_4 (C : Cx E l G own cc nL h) {a0 a1 a2 a3 : Option Value} {t : Lv} {x : Nat} (d : Dc cc pc (.aload 4) 2 pc') (k : Z E G nL mem pc' (a0 :: a1 :: a2 :: a3 :: some (rs G x) :: t) (rs G x :: sk) o) : Z E G nL mem pc (a0 :: a1 :: a2 :: a3 :: some (rs G x) :: t) sk o := by
  intro r hr H locs ls hP hS hl
  obtain ⟨d, rfl⟩ := d
  exact lv_aload C.1 C.2.1 d (hl.get (i := 4) rfl) (k r hr H locs ls hP hS hl)
theorem z_istore_4 (C : Cx E l G own cc nL h) {a0 a1 a2 a3 : Option Value} {u : Option Value} {t : Lv} {x : Int} (d : Dc cc pc (.istore 4) 2 pc') (hn : 4 < nL) (hc : c1 a3 = true) (k : Z E G nL mem pc' (a0 :: a1 :: a2 :: a3 :: some (vi x) :: t) sk o) : Z E G nL mem pc (a0 :: a1 :: a2 :: a3 :: u :: t) (vi x :: sk) o := by
  intro r hr H locs ls hP hS hl
  obtain ⟨d, rfl⟩ := d
  refine lv_istore C.1 C.2.1 d hl hn rfl (fun ls' hl' => k r hr H locs ls' hP hS ?_)
  refine Lh.st1 hl' rfl ?_ ?_
  · intro j hj
    match j, hj with
    | 0, _ => rfl
    | 1, _ => rfl
    | 2, _ => rfl
    | 3, _ => rfl
    | 4, hj => exact absurd rfl hj
    | j + 5, _ => rfl
  · exact (by
    intro j hj w hw
    obtain rfl : j = 3 := by omega
    have e : a3 = some w := by simpa using hw
    rw [e] at hc
    simpa [c1] using hc)
theorem z_astore_4 (C : Cx E l G own cc nL h) {a0 a1 a2 a3 : Option Value} {u : Option Value} {t : Lv} {x : Nat} (d : Dc cc pc (.astore 4) 2 pc') (hn : 4 < nL) (hc : c1 a3 = true) (k : Z E G nL mem pc' (a0 :: a1 :: a2 :: a3 :: some (rf G x) :: t) sk o) : Z E G nL mem pc (a0 :: a1 :: a2 :: a3 :: u :: t) (rf G x :: sk) o := by
  intro r hr H locs ls hP hS hl
  obtain ⟨d, rfl⟩ := d
  refine lv_astore C.1 C.2.1 d hl hn rfl (fun ls' hl' => k r hr H locs ls' hP hS ?_)
  refine Lh.st1 hl' rfl ?_ ?_
  · intro j hj
    match j, hj with
    | 0, _ => rfl
    | 1, _ => rfl
    | 2, _ => rfl
    | 3, _ => rfl
    | 4, hj => exact absurd rfl hj
    | j + 5, _ => rfl
  · exact (by
    intro j hj w hw
    obtain rfl : j = 3 := by omega
    have e : a3 = some w := by simpa using hw
    rw [e] at hc
    simpa [c1] using hc)
theorem z_lstore_4 (C : Cx E l G own cc nL h) {a0 a1 a2 a3 : Option Value} {u u2 : Option Value} {t : Lv} {x : Int} (d : Dc cc pc (.lstore 4) 2 pc') (hn : 5 < nL) (hc : c1 a3 = true) (k : Z E G nL mem pc' (a0 :: a1 :: a2 :: a3 :: some (vl x) :: none :: t) sk o) : Z E G nL mem pc (a0 :: a1 :: a2 :: a3 :: u :: u2 :: t) (vl x :: sk) o := by
  intro r hr H locs ls hP hS hl
  obtain ⟨d, rfl⟩ := d
  refine lv_lstore C.1 C.2.1 d hl hn rfl (fun ls' hl' => k r hr H locs ls' hP hS ?_)
  refine Lh.st2 hl' rfl (fun w e => by cases e) ?_ ?_
  · intro j hj hj2
    match j, hj, hj2 with
    | 0, _, _ => rfl
    | 1, _, _ => rfl
    | 2, _, _ => rfl
    | 3, _, _ => rfl
    | 4, hj, _ => exact absurd rfl hj
    | 5, _, hj => exact absurd rfl hj
    | j + 6, _, _ => rfl
  · exact (by
    intro j hj w hw
    obtain rfl : j = 3 := by omega
    have e : a3 = some w := by simpa using hw
    rw [e] at hc
    simpa [c1] using hc)
theorem z_iinc_4 (C : Cx E l G own cc nL h) {a0 a1 a2 a3 : Option Value} {t : Lv} {x n : Int} (d : Dc cc pc (.iinc 4 n) 3 pc') (hn : 4 < nL) (hc : c1 a3 = true) (k : Z E G nL mem pc' (a0 :: a1 :: a2 :: a3 :: some (vi (x + n)) :: t) sk o) : Z E G nL mem pc (a0 :: a1 :: a2 :: a3 :: some (vi x) :: t) sk o := by
  intro r hr H locs ls hP hS hl
  obtain ⟨d, rfl⟩ := d
  obtain ⟨kk, hk⟩ := List.getElem?_of_mem ((toA_mem (a0 :: a1 :: a2 :: a3 :: some (vi x) :: t) 0 4 (vi x)).mpr ⟨Nat.zero_le _, rfl⟩)
  refine lv_iinc C.1 C.2.1 d hl (k := kk) hk (Int32.ofInt_add ..).symm hn rfl (fun ls' hl' => k r hr H locs ls' hP hS ?_)
  refine Lh.st1 hl' rfl ?_ ?_
  · intro j hj
    match j, hj with
    | 0, _ => rfl
    | 1, _ => rfl
    | 2, _ => rfl
    | 3, _ => rfl
    | 4, hj => exact absurd rfl hj
    | j + 5, _ => rfl
  · exact (by
    intro j hj w hw
    obtain rfl : j = 3 := by omega
    have e : a3 = some w := by simpa using hw
    rw [e] at hc
    simpa [c1] using hc)
theorem z_iload_5 (C : Cx E l G own cc nL h) {a0 a1 a2 a3 a4 : Option Value} {t : Lv} {x : Int} (d : Dc cc pc (.iload 5) 2 pc') (k : Z E G nL mem pc' (a0 :: a1 :: a2 :: a3 :: a4 :: some (vi x) :: t) (vi x :: sk) o) : Z E G nL mem pc (a0 :: a1 :: a2 :: a3 :: a4 :: some (vi x) :: t) sk o := by
  intro r hr H locs ls hP hS hl
  obtain ⟨d, rfl⟩ := d
  exact lv_iload C.1 C.2.1 d (hl.get (i := 5) rfl) (k r hr H locs ls hP hS hl)
theorem z_lload_5 (C : Cx E l G own cc nL h) {a0 a1 a2 a3 a4 : Option Value} {t : Lv} {x : Int} (d : Dc cc pc (.lload 5) 2 pc') (k : Z E G nL mem pc' (a0 :: a1 :: a2 :: a3 :: a4 :: some (vl x) :: t) (vl x :: sk) o) : Z E G nL mem pc (a0 :: a1 :: a2 :: a3 :: a4 :: some (vl x) :: t) sk o := by
  intro r hr H locs ls hP hS hl
  obtain ⟨d, rfl⟩ := d
  exact lv_lload C.1 C.2.1 d (hl.get (i := 5) rfl) (k r hr H locs ls hP hS hl)
theorem z_aload_5 (C : Cx E l G own cc nL h) {a0 a1 a2 a3 a4 : Option Value} {t : Lv} {x : Nat} (d : Dc cc pc (.aload 5) 2 pc') (k : Z E G nL mem pc' (a0 :: a1 :: a2 :: a3 :: a4 :: some (rf G x) :: t) (rf G x :: sk) o) : Z E G nL mem pc (a0 :: a1 :: a2 :: a3 :: a4 :: some (rf G x) :: t) sk o := by
  intro r hr H locs ls hP hS hl
  obtain ⟨d, rfl⟩ := d
  exact lv_aload C.1 C.2.1 d (hl.get (i := 5) rfl) (k r hr H locs ls hP hS hl)
theorem z_aloadS_5 (C : Cx E l G own cc nL h) {a0 a1 a2 a3 a4 : Option Value} {t : Lv} {x : Nat} (d : Dc cc pc (.aload 5) 2 pc') (k : Z E G nL mem pc' (a0 :: a1 :: a2 :: a3 :: a4 :: some (rs G x) :: t) (rs G x :: sk) o) : Z E G nL mem pc (a0 :: a1 :: a2 :: a3 :: a4 :: some (rs G x) :: t) sk o := by
  intro r hr H locs ls hP hS hl
  obtain ⟨d, rfl⟩ := d
  exact lv_aload C.1 C.2.1 d (hl.get (i := 5) rfl) (k r hr H locs ls hP hS hl)
theorem z_istore_5 (C : Cx E l G own cc nL h) {a0 a1 a2 a3 a4 : Option Value} {u : Option Value} {t : Lv} {x : Int} (d : Dc cc pc (.istore 5) 2 pc') (hn : 5 < nL) (hc : c1 a4 = true) (k : Z E G nL mem pc' (a0 :: a1 :: a2 :: a3 :: a4 :: some (vi x) :: t) sk o) : Z E G nL mem pc (a0 :: a1 :: a2 :: a3 :: a4 :: u :: t) (vi x :: sk) o := by
  intro r hr H locs ls hP hS hl
  obtain ⟨d, rfl⟩ := d
  refine lv_istore C.1 C.2.1 d hl hn rfl (fun ls' hl' => k r hr H locs ls' hP hS ?_)
  refine Lh.st1 hl' rfl ?_ ?_
  · intro j hj
    match j, hj with
    | 0, _ => rfl
    | 1, _ => rfl
    | 2, _ => rfl
    | 3, _ => rfl
    | 4, _ => rfl
    | 5, hj => exact absurd rfl hj
    | j + 6, _ => rfl
  · exact (by
    intro j hj w hw
    obtain rfl : j = 4 := by omega
    have e : a4 = some w := by simpa using hw
    rw [e] at hc
    simpa [c1] using hc)
theorem z_astore_5 (C : Cx E l G own cc nL h) {a0 a1 a2 a3 a4 : Option Value} {u : Option Value} {t : Lv} {x : Nat} (d : Dc cc pc (.astore 5) 2 pc') (hn : 5 < nL) (hc : c1 a4 = true) (k : Z E G nL mem pc' (a0 :: a1 :: a2 :: a3 :: a4 :: some (rf G x) :: t) sk o) : Z E G nL mem pc (a0 :: a1 :: a2 :: a3 :: a4 :: u :: t) (rf G x :: sk) o := by
  intro r hr H locs ls hP hS hl
  obtain ⟨d, rfl⟩ := d
  refine lv_astore C.1 C.2.1 d hl hn rfl (fun ls' hl' => k r hr H locs ls' hP hS ?_)
  refine Lh.st1 hl' rfl ?_ ?_
  · intro j hj
    match j, hj with
    | 0, _ => rfl
    | 1, _ => rfl
    | 2, _ => rfl
    | 3, _ => rfl
    | 4, _ => rfl
    | 5, hj => exact absurd rfl hj
    | j + 6, _ => rfl
  · exact (by
    intro j hj w hw
    obtain rfl : j = 4 := by omega
    have e : a4 = some w := by simpa using hw
    rw [e] at hc
    simpa [c1] using hc)
theorem z_lstore_5 (C : Cx E l G own cc nL h) {a0 a1 a2 a3 a4 : Option Value} {u u2 : Option Value} {t : Lv} {x : Int} (d : Dc cc pc (.lstore 5) 2 pc') (hn : 6 < nL) (hc : c1 a4 = true) (k : Z E G nL mem pc' (a0 :: a1 :: a2 :: a3 :: a4 :: some (vl x) :: none :: t) sk o) : Z E G nL mem pc (a0 :: a1 :: a2 :: a3 :: a4 :: u :: u2 :: t) (vl x :: sk) o := by
  intro r hr H locs ls hP hS hl
  obtain ⟨d, rfl⟩ := d
  refine lv_lstore C.1 C.2.1 d hl hn rfl (fun ls' hl' => k r hr H locs ls' hP hS ?_)
  refine Lh.st2 hl' rfl (fun w e => by cases e) ?_ ?_
  · intro j hj hj2
    match j, hj, hj2 with
    | 0, _, _ => rfl
    | 1, _, _ => rfl
    | 2, _, _ => rfl
    | 3, _, _ => rfl
    | 4, _, _ => rfl
    | 5, hj, _ => exact absurd rfl hj
    | 6, _, hj => exact absurd rfl hj
    | j + 7, _, _ => rfl
  · exact (by
    intro j hj w hw
    obtain rfl : j = 4 := by omega
    have e : a4 = some w := by simpa using hw
    rw [e] at hc
    simpa [c1] using hc)
theorem z_iinc_5 (C : Cx E l G own cc nL h) {a0 a1 a2 a3 a4 : Option Value} {t : Lv} {x n : Int} (d : Dc cc pc (.iinc 5 n) 3 pc') (hn : 5 < nL) (hc : c1 a4 = true) (k : Z E G nL mem pc' (a0 :: a1 :: a2 :: a3 :: a4 :: some (vi (x + n)) :: t) sk o) : Z E G nL mem pc (a0 :: a1 :: a2 :: a3 :: a4 :: some (vi x) :: t) sk o := by
  intro r hr H locs ls hP hS hl
  obtain ⟨d, rfl⟩ := d
  obtain ⟨kk, hk⟩ := List.getElem?_of_mem ((toA_mem (a0 :: a1 :: a2 :: a3 :: a4 :: some (vi x) :: t) 0 5 (vi x)).mpr ⟨Nat.zero_le _, rfl⟩)
  refine lv_iinc C.1 C.2.1 d hl (k := kk) hk (Int32.ofInt_add ..).symm hn rfl (fun ls' hl' => k r hr H locs ls' hP hS ?_)
  refine Lh.st1 hl' rfl ?_ ?_
  · intro j hj
    match j, hj with
    | 0, _ => rfl
    | 1, _ => rfl
    | 2, _ => rfl
    | 3, _ => rfl
    | 4, _ => rfl
    | 5, hj => exact absurd rfl hj
    | j + 6, _ => rfl
  · exact (by
    intro j hj w hw
    obtain rfl : j = 4 := by omega
    have e : a4 = some w := by simpa using hw
    rw [e] at hc
    simpa [c1] using hc)
theorem z_iload_6 (C : Cx E l G own cc nL h) {a0 a1 a2 a3 a4 a5 : Option Value} {t : Lv} {x : Int} (d : Dc cc pc (.iload 6) 2 pc') (k : Z E G nL mem pc' (a0 :: a1 :: a2 :: a3 :: a4 :: a5 :: some (vi x) :: t) (vi x :: sk) o) : Z E G nL mem pc (a0 :: a1 :: a2 :: a3 :: a4 :: a5 :: some (vi x) :: t) sk o := by
  intro r hr H locs ls hP hS hl
  obtain ⟨d, rfl⟩ := d
  exact lv_iload C.1 C.2.1 d (hl.get (i := 6) rfl) (k r hr H locs ls hP hS hl)
theorem z_lload_6 (C : Cx E l G own cc nL h) {a0 a1 a2 a3 a4 a5 : Option Value} {t : Lv} {x : Int} (d : Dc cc pc (.lload 6) 2 pc') (k : Z E G nL mem pc' (a0 :: a1 :: a2 :: a3 :: a4 :: a5 :: some (vl x) :: t) (vl x :: sk) o) : Z E G nL mem pc (a0 :: a1 :: a2 :: a3 :: a4 :: a5 :: some (vl x) :: t) sk o := by
  intro r hr H locs ls hP hS hl
  obtain ⟨d, rfl⟩ := d
  exact lv_lload C.1 C.2.1 d (hl.get (i := 6) rfl) (k r hr H locs ls hP hS hl)
theorem z_aload_6 (C : Cx E l G own cc nL h) {a0 a1 a2 a3 a4 a5 : Option Value} {t : Lv} {x : Nat} (d : Dc cc pc (.aload 6) 2 pc') (k : Z E G nL mem pc' (a0 :: a1 :: a2 :: a3 :: a4 :: a5 :: some (rf G x) :: t) (rf G x :: sk) o) : Z E G nL mem pc (a0 :: a1 :: a2 :: a3 :: a4 :: a5 :: some (rf G x) :: t) sk o := by
  intro r hr H locs ls hP hS hl
  obtain ⟨d, rfl⟩ := d
  exact lv_aload C.1 C.2.1 d (hl.get (i := 6) rfl) (k r hr H locs ls hP hS hl)
theorem z_aloadS_6 (C : Cx E l G own cc nL h) {a0 a1 a2 a3 a4 a5 : Option Value} {t : Lv} {x : Nat} (d : Dc cc pc (.aload 6) 2 pc') (k : Z E G nL mem pc' (a0 :: a1 :: a2 :: a3 :: a4 :: a5 :: some (rs G x) :: t) (rs G x :: sk) o) : Z E G nL mem pc (a0 :: a1 :: a2 :: a3 :: a4 :: a5 :: some (rs G x) :: t) sk o := by
  intro r hr H locs ls hP hS hl
  obtain ⟨d, rfl⟩ := d
  exact lv_aload C.1 C.2.1 d (hl.get (i := 6) rfl) (k r hr H locs ls hP hS hl)
theorem z_istore_6 (C : Cx E l G own cc nL h) {a0 a1 a2 a3 a4 a5 : Option Value} {u : Option Value} {t : Lv} {x : Int} (d : Dc cc pc (.istore 6) 2 pc') (hn : 6 < nL) (hc : c1 a5 = true) (k : Z E G nL mem pc' (a0 :: a1 :: a2 :: a3 :: a4 :: a5 :: some (vi x) :: t) sk o) : Z E G nL mem pc (a0 :: a1 :: a2 :: a3 :: a4 :: a5 :: u :: t) (vi x :: sk) o := by
  intro r hr H locs ls hP hS hl
  obtain ⟨d, rfl⟩ := d
  refine lv_istore C.1 C.2.1 d hl hn rfl (fun ls' hl' => k r hr H locs ls' hP hS ?_)
  refine Lh.st1 hl' rfl ?_ ?_
  · intro j hj
    match j, hj with
    | 0, _ => rfl
    | 1, _ => rfl
    | 2, _ => rfl
    | 3, _ => rfl
    | 4, _ => rfl
    | 5, _ => rfl
    | 6, hj => exact absurd rfl hj
    | j + 7, _ => rfl
  · exact (by
    intro j hj w hw
    obtain rfl : j = 5 := by omega
    have e : a5 = some w := by simpa using hw
    rw [e] at hc
    simpa [c1] using hc)
theorem z_astore_6 (C : Cx E l G own cc nL h) {a0 a1 a2 a3 a4 a5 : Option Value} {u : Option Value} {t : Lv} {x : Nat} (d : Dc cc pc (.astore 6) 2 pc') (hn : 6 < nL) (hc : c1 a5 = true) (k : Z E G nL mem pc' (a0 :: a1 :: a2 :: a3 :: a4 :: a5 :: some (rf G x) :: t) sk o) : Z E G nL mem pc (a0 :: a1 :: a2 :: a3 :: a4 :: a5 :: u :: t) (rf G x :: sk) o := by
  intro r hr H locs ls hP hS hl
  obtain ⟨d, rfl⟩ := d
  refine lv_astore C.1 C.2.1 d hl hn rfl (fun ls' hl' => k r hr H locs ls' hP hS ?_)
  refine Lh.st1 hl' rfl ?_ ?_
  · intro j hj
    match j, hj with
    | 0, _ => rfl
    | 1, _ => rfl
    | 2, _ => rfl
    | 3, _ => rfl
    | 4, _ => rfl
    | 5, _ => rfl
    | 6, hj => exact absurd rfl hj
    | j + 7, _ => rfl
  · exact (by
    intro j hj w hw
    obtain rfl : j = 5 := by omega
    have e : a5 = some w := by simpa using hw
    rw [e] at hc
    simpa [c1] using hc)
theorem z_lstore_6 (C : Cx E l G own cc nL h) {a0 a1 a2 a3 a4 a5 : Option Value} {u u2 : Option Value} {t : Lv} {x : Int} (d : Dc cc pc (.lstore 6) 2 pc') (hn : 7 < nL) (hc : c1 a5 = true) (k : Z E G nL mem pc' (a0 :: a1 :: a2 :: a3 :: a4 :: a5 :: some (vl x) :: none :: t) sk o) : Z E G nL mem pc (a0 :: a1 :: a2 :: a3 :: a4 :: a5 :: u :: u2 :: t) (vl x :: sk) o := by
  intro r hr H locs ls hP hS hl
  obtain ⟨d, rfl⟩ := d
  refine lv_lstore C.1 C.2.1 d hl hn rfl (fun ls' hl' => k r hr H locs ls' hP hS ?_)
  refine Lh.st2 hl' rfl (fun w e => by cases e) ?_ ?_
  · intro j hj hj2
    match j, hj, hj2 with
    | 0, _, _ => rfl
    | 1, _, _ => rfl
    | 2, _, _ => rfl
    | 3, _, _ => rfl
    | 4, _, _ => rfl
    | 5, _, _ => rfl
    | 6, hj, _ => exact absurd rfl hj
    | 7, _, hj => exact absurd rfl hj
    | j + 8, _, _ => rfl
  · exact (by
    intro j hj w hw
    obtain rfl : j = 5 := by omega
    have e : a5 = some w := by simpa using hw
    rw [e] at hc
    simpa [c1] using hc)
theorem z_iinc_6 (C : Cx E l G own cc nL h) {a0 a1 a2 a3 a4 a5 : Option Value} {t : Lv} {x n : Int} (d : Dc cc pc (.iinc 6 n) 3 pc') (hn : 6 < nL) (hc : c1 a5 = true) (k : Z E G nL mem pc' (a0 :: a1 :: a2 :: a3 :: a4 :: a5 :: some (vi (x + n)) :: t) sk o) : Z E G nL mem pc (a0 :: a1 :: a2 :: a3 :: a4 :: a5 :: some (vi x) :: t) sk o := by
  intro r hr H locs ls hP hS hl
  obtain ⟨d, rfl⟩ := d
  obtain ⟨kk, hk⟩ := List.getElem?_of_mem ((toA_mem (a0 :: a1 :: a2 :: a3 :: a4 :: a5 :: some (vi x) :: t) 0 6 (vi x)).mpr ⟨Nat.zero_le _, rfl⟩)
  refine lv_iinc C.1 C.2.1 d hl (k := kk) hk (Int32.ofInt_add ..).symm hn rfl (fun ls' hl' => k r hr H locs ls' hP hS ?_)
  refine Lh.st1 hl' rfl ?_ ?_
  · intro j hj
    match j, hj with
    | 0, _ => rfl
    | 1, _ => rfl
    | 2, _ => rfl
    | 3, _ => rfl
    | 4, _ => rfl
    | 5, _ => rfl
    | 6, hj => exact absurd rfl hj
    | j + 7, _ => rfl
  · exact (by
    intro j hj w hw
    obtain rfl : j = 5 := by omega
    have e : a5 = some w := by simpa using hw
    rw [e] at hc
    simpa [c1] using hc)
theorem z_iload_7 (C : Cx E l G own cc nL h) {a0 a1 a2 a3 a4 a5 a6 : Option Value} {t : Lv} {x : Int} (d : Dc cc pc (.iload 7) 2 pc') (k : Z E G nL mem pc' (a0 :: a1 :: a2 :: a3 :: a4 :: a5 :: a6 :: some (vi x) :: t) (vi x :: sk) o) : Z E G nL mem pc (a0 :: a1 :: a2 :: a3 :: a4 :: a5 :: a6 :: some (vi x) :: t) sk o := by
  intro r hr H locs ls hP hS hl
  obtain ⟨d, rfl⟩ := d
  exact lv_iload C.1 C.2.1 d (hl.get (i := 7) rfl) (k r hr H locs ls hP hS hl)
theorem z_lload_7 (C : Cx E l G own cc nL h) {a0 a1 a2 a3 a4 a5 a6 : Option Value} {t : Lv} {x : Int} (d : Dc cc pc (.lload 7) 2 pc') (k : Z E G nL mem pc' (a0 :: a1 :: a2 :: a3 :: a4 :: a5 :: a6 :: some (vl x) :: t) (vl x :: sk) o) : Z E G nL mem pc (a0 :: a1 :: a2 :: a3 :: a4 :: a5 :: a6 :: some (vl x) :: t) sk o := by
  intro r hr H locs ls hP hS hl
  obtain ⟨d, rfl⟩ := d
  exact lv_lload C.1 C.2.1 d (hl.get (i := 7) rfl) (k r hr H locs ls hP hS hl)
theorem z_aload_7 (C : Cx E l G own cc nL h) {a0 a1 a2 a3 a4 a5 a6 : Option Value} {t : Lv} {x : Nat} (d : Dc cc pc (.aload 7) 2 pc') (k : Z E G nL mem pc' (a0 :: a1 :: a2 :: a3 :: a4 :: a5 :: a6 :: some (rf G x) :: t) (rf G x :: sk) o) : Z E G nL mem pc (a0 :: a1 :: a2 :: a3 :: a4 :: a5 :: a6 :: some (rf G x) :: t) sk o := by
  intro r hr H locs ls hP hS hl
  obtain ⟨d, rfl⟩ := d
  exact lv_aload C.1 C.2.1 d (hl.get (i := 7) rfl) (k r hr H locs ls hP hS hl)
theorem z_aloadS_7 (C : Cx E l G own cc nL h) {a0 a1 a2 a3 a4 a5 a6 : Option Value} {t : Lv} {x : Nat} (d : Dc cc pc (.aload 7) 2 pc') (k : Z E G nL mem pc' (a0 :: a1 :: a2 :: a3 :: a4 :: a5 :: a6 :: some (rs G x) :: t) (rs G x :: sk) o) : Z E G nL mem pc (a0 :: a1 :: a2 :: a3 :: a4 :: a5 :: a6 :: some (rs G x) :: t) sk o := by
  intro r hr H locs ls hP hS hl
  obtain ⟨d, rfl⟩ := d
  exact lv_aload C.1 C.2.1 d (hl.get (i := 7) rfl) (k r hr H locs ls hP hS hl)
theorem z_istore_7 (C : Cx E l G own cc nL h) {a0 a1 a2 a3 a4 a5 a6 : Option Value} {u : Option Value} {t : Lv} {x : Int} (d : Dc cc pc (.istore 7) 2 pc') (hn : 7 < nL) (hc : c1 a6 = true) (k : Z E G nL mem pc' (a0 :: a1 :: a2 :: a3 :: a4 :: a5 :: a6 :: some (vi x) :: t) sk o) : Z E G nL mem pc (a0 :: a1 :: a2 :: a3 :: a4 :: a5 :: a6 :: u :: t) (vi x :: sk) o := by
  intro r hr H locs ls hP hS hl
  obtain ⟨d, rfl⟩ := d
  refine lv_istore C.1 C.2.1 d hl hn rfl (fun ls' hl' => k r hr H locs ls' hP hS ?_)
  refine Lh.st1 hl' rfl ?_ ?_
  · intro j hj
    match j, hj with
    | 0, _ => rfl
    | 1, _ => rfl
    | 2, _ => rfl
    | 3, _ => rfl
    | 4, _ => rfl
    | 5, _ => rfl
    | 6, _ => rfl
    | 7, hj => exact absurd rfl hj
    | j + 8, _ => rfl
  · exact (by
    intro j hj w hw
    obtain rfl : j = 6 := by omega
    have e : a6 = some w := by simpa using hw
    rw [e] at hc
    simpa [c1] using hc)
theorem z_astore_7 (C : Cx E l G own cc nL h) {a0 a1 a2 a3 a4 a5 a6 : Option Value} {u : Option Value} {t : Lv} {x : Nat} (d : Dc cc pc (.astore 7) 2 pc') (hn : 7 < nL) (hc : c1 a6 = true) (k : Z E G nL mem pc' (a0 :: a1 :: a2 :: a3 :: a4 :: a5 :: a6 :: some (rf G x) :: t) sk o) : Z E G nL mem pc (a0 :: a1 :: a2 :: a3 :: a4 :: a5 :: a6 :: u :: t) (rf G x :: sk) o := by
  intro r hr H locs ls hP hS hl
  obtain ⟨d, rfl⟩ := d
  refine lv_astore C.1 C.2.1 d hl hn rfl (fun ls' hl' => k r hr H locs ls' hP hS ?_)
  refine Lh.st1 hl' rfl ?_ ?_
  · intro j hj
    match j, hj with
    | 0, _ => rfl
    | 1, _ => rfl
    | 2, _ => rfl
    | 3, _ => rfl
    | 4, _ => rfl
    | 5, _ => rfl
    | 6, _ => rfl
    | 7, hj => exact absurd rfl hj
    | j + 8, _ => rfl
  · exact (by
    intro j hj w hw
    obtain rfl : j = 6 := by omega
    have e : a6 = some w := by simpa using hw
    rw [e] at hc
    simpa [c1] using hc)
theorem z_lstore_7 (C : Cx E l G own cc nL h) {a0 a1 a2 a3 a4 a5 a6 : Option Value} {u u2 : Option Value} {t : Lv} {x : Int} (d : Dc cc pc (.lstore 7) 2 pc') (hn : 8 < nL) (hc : c1 a6 = true) (k : Z E G nL mem pc' (a0 :: a1 :: a2 :: a3 :: a4 :: a5 :: a6 :: some (vl x) :: none :: t) sk o) : Z E G nL mem pc (a0 :: a1 :: a2 :: a3 :: a4 :: a5 :: a6 :: u :: u2 :: t) (vl x :: sk) o := by
  intro r hr H locs ls hP hS hl
  obtain ⟨d, rfl⟩ := d
  refine lv_lstore C.1 C.2.1 d hl hn rfl (fun ls' hl' => k r hr H locs ls' hP hS ?_)
  refine Lh.st2 hl' rfl (fun w e => by cases e) ?_ ?_
  · intro j hj hj2
    match j, hj, hj2 with
    | 0, _, _ => rfl
    | 1, _, _ => rfl
    | 2, _, _ => rfl
    | 3, _, _ => rfl
    | 4, _, _ => rfl
    | 5, _, _ => rfl
    | 6, _, _ => rfl
    | 7, hj, _ => exact absurd rfl hj
    | 8, _, hj => exact absurd rfl hj
    | j + 9, _, _ => rfl
  · exact (by
    intro j hj w hw
    obtain rfl : j = 6 := by omega
    have e : a6 = some w := by simpa using hw
    rw [e] at hc
    simpa [c1] using hc)
theorem z_iinc_7 (C : Cx E l G own cc nL h) {a0 a1 a2 a3 a4 a5 a6 : Option Value} {t : Lv} {x n : Int} (d : Dc cc pc (.iinc 7 n) 3 pc') (hn : 7 < nL) (hc : c1 a6 = true) (k : Z E G nL mem pc' (a0 :: a1 :: a2 :: a3 :: a4 :: a5 :: a6 :: some (vi (x + n)) :: t) sk o) : Z E G nL mem pc (a0 :: a1 :: a2 :: a3 :: a4 :: a5 :: a6 :: some (vi x) :: t) sk o := by
  intro r hr H locs ls hP hS hl
  obtain ⟨d, rfl⟩ := d
  obtain ⟨kk, hk⟩ := List.getElem?_of_mem ((toA_mem (a0 :: a1 :: a2 :: a3 :: a4 :: a5 :: a6 :: some (vi x) :: t) 0 7 (vi x)).mpr ⟨Nat.zero_le _, rfl⟩)
  refine lv_iinc C.1 C.2.1 d hl (k := kk) hk (Int32.ofInt_add ..).symm hn rfl (fun ls' hl' => k r hr H locs ls' hP hS ?_)
  refine Lh.st1 hl' rfl ?_ ?_
  · intro j hj
    match j, hj with
    | 0, _ => rfl
    | 1, _ => rfl
    | 2, _ => rfl
    | 3, _ => rfl
    | 4, _ => rfl
    | 5, _ => rfl
    | 6, _ => rfl
    | 7, hj => exact absurd rfl hj
    | j + 8, _ => rfl
  · exact (by
    intro j hj w hw
    obtain rfl : j = 6 := by omega
    have e : a6 = some w := by simpa using hw
    rw [e] at hc
    simpa [c1] using hc)
theorem z_iload_8 (C : Cx E l G own cc nL h) {a0 a1 a2 a3 a4 a5 a6 a7 : Option Value} {t : Lv} {x : Int} (d : Dc cc pc (.iload 8) 2 pc') (k : Z E G nL mem pc' (a0 :: a1 :: a2 :: a3 :: a4 :: a5 :: a6 :: a7 :: some (vi x) :: t) (vi x :: sk) o) : Z E G nL mem pc (a0 :: a1 :: a2 :: a3 :: a4 :: a5 :: a6 :: a7 :: some (vi x) :: t) sk o := by
  intro r hr H locs ls hP hS hl
  obtain ⟨d, rfl⟩ := d
  exact lv_iload C.1 C.2.1 d (hl.get (i := 8) rfl) (k r hr H locs ls hP hS hl)
theorem z_lload_8 (C : Cx E l G own cc nL h) {a0 a1 a2 a3 a4 a5 a6 a7 : Option Value} {t : Lv} {x : Int} (d : Dc cc pc (.lload 8) 2 pc') (k : Z E G nL mem pc' (a0 :: a1 :: a2 :: a3 :: a4 :: a5 :: a6 :: a7 :: some (vl x) :: t) (vl x :: sk) o) : Z E G nL mem pc (a0 :: a1 :: a2 :: a3 :: a4 :: a5 :: a6 :: a7 :: some (vl x) :: t) sk o := by
  intro r hr H locs ls hP hS hl
  obtain ⟨d, rfl⟩ := d
  exact lv_lload C.1 C.2.1 d (hl.get (i := 8) rfl) (k r hr H locs ls hP hS hl)
theorem z_aload_8 (C : Cx E l G own cc nL h) {a0 a1 a2 a3 a4 a5 a6 a7 : Option Value} {t : Lv} {x : Nat} (d : Dc cc pc (.aload 8) 2 pc') (k : Z E G nL mem pc' (a0 :: a1 :: a2 :: a3 :: a4 :: a5 :: a6 :: a7 :: some (rf G x) :: t) (rf G x :: sk) o) : Z E G nL mem pc (a0 :: a1 :: a2 :: a3 :: a4 :: a5 :: a6 :: a7 :: some (rf G x) :: t) sk o := by
  intro r hr H locs ls hP hS hl
  obtain ⟨d, rfl⟩ := d
  exact lv_aload C.1 C.2.1 d (hl.get (i := 8) rfl) (k r hr H locs ls hP hS hl)
theorem z_aloadS_8 (C : Cx E l G own cc nL h) {a0 a1 a2 a3 a4 a5 a6 a7 : Option Value} {t : Lv} {x : Nat} (d : Dc cc pc (.aload 8) 2 pc') (k : Z E G nL mem pc' (a0 :: a1 :: a2 :: a3 :: a4 :: a5 :: a6 :: a7 :: some (rs G x) :: t) (rs G x :: sk) o) : Z E G nL mem pc (a0 :: a1 :: a2 :: a3 :: a4 :: a5 :: a6 :: a7 :: some (rs G x) :: t) sk o := by
  intro r hr H locs ls hP hS hl
  obtain ⟨d, rfl⟩ := d
  exact lv_aload C.1 C.2.1 d (hl.get (i := 8) rfl) (k r hr H locs ls hP hS hl)
theorem z_istore_8 (C : Cx E l G own cc nL h) {a0 a1 a2 a3 a4 a5 a6 a7 : Option Value} {u : Option Value} {t : Lv} {x : Int} (d : Dc cc pc (.istore 8) 2 pc') (hn : 8 < nL) (hc : c1 a7 = true) (k : Z E G nL mem pc' (a0 :: a1 :: a2 :: a3 :: a4 :: a5 :: a6 :: a7 :: some (vi x) :: t) sk o) : Z E G nL mem pc (a0 :: a1 :: a2 :: a3 :: a4 :: a5 :: a6 :: a7 :: u :: t) (vi x :: sk) o := by
  intro r hr H locs ls hP hS hl
  obtain ⟨d, rfl⟩ := d
  refine lv_istore C.1 C.2.1 d hl hn rfl (fun ls' hl' => k r hr H locs ls' hP hS ?_)
  refine Lh.st1 hl' rfl ?_ ?_
  · intro j hj
    match j, hj with
    | 0, _ => rfl
    | 1, _ => rfl
    | 2, _ => rfl
    | 3, _ => rfl
    | 4, _ => rfl
    | 5, _ => rfl
    | 6, _ => rfl
    | 7, _ => rfl
    | 8, hj => exact absurd rfl hj
    | j + 9, _ => rfl
  · exact (by
    intro j hj w hw
    obtain rfl : j = 7 := by omega
    have e : a7 = some w := by simpa using hw
    rw [e] at hc
    simpa [c1] using hc)
theorem z_astore_8 (C : Cx E l G own cc nL h) {a0 a1 a2 a3 a4 a5 a6 a7 : Option Value} {u : Option Value} {t : Lv} {x : Nat} (d : Dc cc pc (.astore 8) 2 pc') (hn : 8 < nL) (hc : c1 a7 = true) (k : Z E G nL mem pc' (a0 :: a1 :: a2 :: a3 :: a4 :: a5 :: a6 :: a7 :: some (rf G x) :: t) sk o) : Z E G nL mem pc (a0 :: a1 :: a2 :: a3 :: a4 :: a5 :: a6 :: a7 :: u :: t) (rf G x :: sk) o := by
  intro r hr H locs ls hP hS hl
  obtain ⟨d, rfl⟩ := d
  refine lv_astore C.1 C.2.1 d hl hn rfl (fun ls' hl' => k r hr H locs ls' hP hS ?_)
  refine Lh.st1 hl' rfl ?_ ?_
  · intro j hj
    match j, hj with
    | 0, _ => rfl
    | 1, _ => rfl
    | 2, _ => rfl
    | 3, _ => rfl
    | 4, _ => rfl
    | 5, _ => rfl
    | 6, _ => rfl
    | 7, _ => rfl
    | 8, hj => exact absurd rfl hj
    | j + 9, _ => rfl
  · exact (by
    intro j hj w hw
    obtain rfl : j = 7 := by omega
    have e : a7 = some w := by simpa using hw
    rw [e] at hc
    simpa [c1] using hc)
theorem z_lstore_8 (C : Cx E l G own cc nL h) {a0 a1 a2 a3 a4 a5 a6 a7 : Option Value} {u u2 : Option Value} {t : Lv} {x : Int} (d : Dc cc pc (.lstore 8) 2 pc') (hn : 9 < nL) (hc : c1 a7 = true) (k : Z E G nL mem pc' (a0 :: a1 :: a2 :: a3 :: a4 :: a5 :: a6 :: a7 :: some (vl x) :: none :: t) sk o) : Z E G nL mem pc (a0 :: a1 :: a2 :: a3 :: a4 :: a5 :: a6 :: a7 :: u :: u2 :: t) (vl x :: sk) o := by
  intro r hr H locs ls hP hS hl
  obtain ⟨d, rfl⟩ := d
  refine lv_lstore C.1 C.2.1 d hl hn rfl (fun ls' hl' => k r hr H locs ls' hP hS ?_)
  refine Lh.st2 hl' rfl (fun w e => by cases e) ?_ ?_
  · intro j hj hj2
    match j, hj, hj2 with
    | 0, _, _ => rfl
    | 1, _, _ => rfl
    | 2, _, _ => rfl
    | 3, _, _ => rfl
    | 4, _, _ => rfl
    | 5, _, _ => rfl
    | 6, _, _ => rfl
    | 7, _, _ => rfl
    | 8, hj, _ => exact absurd rfl hj
    | 9, _, hj => exact absurd rfl hj
    | j + 10, _, _ => rfl
  · exact (by
    intro j hj w hw
    obtain rfl : j = 7 := by omega
    have e : a7 = some w := by simpa using hw
    rw [e] at hc
    simpa [c1] using hc)
theorem z_iinc_8 (C : Cx E l G own cc nL h) {a0 a1 a2 a3 a4 a5 a6 a7 : Option Value} {t : Lv} {x n : Int} (d : Dc cc pc (.iinc 8 n) 3 pc') (hn : 8 < nL) (hc : c1 a7 = true) (k : Z E G nL mem pc' (a0 :: a1 :: a2 :: a3 :: a4 :: a5 :: a6 :: a7 :: some (vi (x + n)) :: t) sk o) : Z E G nL mem pc (a0 :: a1 :: a2 :: a3 :: a4 :: a5 :: a6 :: a7 :: some (vi x) :: t) sk o := by
  intro r hr H locs ls hP hS hl
  obtain ⟨d, rfl⟩ := d
  obtain ⟨kk, hk⟩ := List.getElem?_of_mem ((toA_mem (a0 :: a1 :: a2 :: a3 :: a4 :: a5 :: a6 :: a7 :: some (vi x) :: t) 0 8 (vi x)).mpr ⟨Nat.zero_le _, rfl⟩)
  refine lv_iinc C.1 C.2.1 d hl (k := kk) hk (Int32.ofInt_add ..).symm hn rfl (fun ls' hl' => k r hr H locs ls' hP hS ?_)
  refine Lh.st1 hl' rfl ?_ ?_
  · intro j hj
    match j, hj with
    | 0, _ => rfl
    | 1, _ => rfl
    | 2, _ => rfl
    | 3, _ => rfl
    | 4, _ => rfl
    | 5, _ => rfl
    | 6, _ => rfl
    | 7, _ => rfl
    | 8, hj => exact absurd rfl hj
    | j + 9, _ => rfl
  · exact (by
    intro j hj w hw
    obtain rfl : j = 7 := by omega
    have e : a7 = some w := by simpa using hw
    rw [e] at hc
    simpa [c1] using hc)
theorem z_iload_9 (C : Cx E l G own cc nL h) {a0 a1 a2 a3 a4 a5 a6 a7 a8 : Option Value} {t : Lv} {x : Int} (d : Dc cc pc (.iload 9) 2 pc') (k : Z E G nL mem pc' (a0 :: a1 :: a2 :: a3 :: a4 :: a5 :: a6 :: a7 :: a8 :: some (vi x) :: t) (vi x :: sk) o) : Z E G nL mem pc (a0 :: a1 :: a2 :: a3 :: a4 :: a5 :: a6 :: a7 :: a8 :: some (vi x) :: t) sk o := by
  intro r hr H locs ls hP hS hl
  obtain ⟨d, rfl⟩ := d
  exact lv_iload C.1 C.2.1 d (hl.get (i := 9) rfl) (k r hr H locs ls hP hS hl)
theorem z_lload_9 (C : Cx E l G own cc nL h) {a0 a1 a2 a3 a4 a5 a6 a7 a8 : Option Value} {t : Lv} {x : Int} (d : Dc cc pc (.lload 9) 2 pc') (k : Z E G nL mem pc' (a0 :: a1 :: a2 :: a3 :: a4 :: a5 :: a6 :: a7 :: a8 :: some (vl x) :: t) (vl x :: sk) o) : Z E G nL mem pc (a0 :: a1 :: a2 :: a3 :: a4 :: a5 :: a6 :: a7 :: a8 :: some (vl x) :: t) sk o := by
  intro r hr H locs ls hP hS hl
  obtain ⟨d, rfl⟩ := d
  exact lv_lload C.1 C.2.1 d (hl.get (i := 9) rfl) (k r hr H locs ls hP hS hl)
theorem z_aload_9 (C : Cx E l G own cc nL h) {a0 a1 a2 a3 a4 a5 a6 a7 a8 : Option Value} {t : Lv} {x : Nat} (d : Dc cc pc (.aload 9) 2 pc') (k : Z E G nL mem pc' (a0 :: a1 :: a2 :: a3 :: a4 :: a5 :: a6 :: a7 :: a8 :: some (rf G x) :: t) (rf G x :: sk) o) : Z E G nL mem pc (a0 :: a1 :: a2 :: a3 :: a4 :: a5 :: a6 :: a7 :: a8 :: some (rf G x) :: t) sk o := by
  intro r hr H locs ls hP hS hl
  obtain ⟨d, rfl⟩ := d
  exact lv_aload C.1 C.2.1 d (hl.get (i := 9) rfl) (k r hr H locs ls hP hS hl)
theorem z_aloadS_9 (C : Cx E l G own cc nL h) {a0 a1 a2 a3 a4 a5 a6 a7 a8 : Option Value} {t : Lv} {x : Nat} (d : Dc cc pc (.aload 9) 2 pc') (k : Z E G nL mem pc' (a0 :: a1 :: a2 :: a3 :: a4 :: a5 :: a6 :: a7 :: a8 :: some (rs G x) :: t) (rs G x :: sk) o) : Z E G nL mem pc (a0 :: a1 :: a2 :: a3 :: a4 :: a5 :: a6 :: a7 :: a8 :: some (rs G x) :: t) sk o := by
  intro r hr H locs ls hP hS hl
  obtain ⟨d, rfl⟩ := d
  exact lv_aload C.1 C.2.1 d (hl.get (i := 9) rfl) (k r hr H locs ls hP hS hl)
theorem z_istore_9 (C : Cx E l G own cc nL h) {a0 a1 a2 a3 a4 a5 a6 a7 a8 : Option Value} {u : Option Value} {t : Lv} {x : Int} (d : Dc cc pc (.istore 9) 2 pc') (hn : 9 < nL) (hc : c1 a8 = true) (k : Z E G nL mem pc' (a0 :: a1 :: a2 :: a3 :: a4 :: a5 :: a6 :: a7 :: a8 :: some (vi x) :: t) sk o) : Z E G nL mem pc (a0 :: a1 :: a2 :: a3 :: a4 :: a5 :: a6 :: a7 :: a8 :: u :: t) (vi x :: sk) o := by
  intro r hr H locs ls hP hS hl
  obtain ⟨d, rfl⟩ := d
  refine lv_istore C.1 C.2.1 d hl hn rfl (fun ls' hl' => k r hr H locs ls' hP hS ?_)
  refine Lh.st1 hl' rfl ?_ ?_
  · intro j hj
    match j, hj with
    | 0, _ => rfl
    | 1, _ => rfl
    | 2, _ => rfl
    | 3, _ => rfl
    | 4, _ => rfl
    | 5, _ => rfl
    | 6, _ => rfl
    | 7, _ => rfl
    | 8, _ => rfl
    | 9, hj => exact absurd rfl hj
    | j + 10, _ => rfl
  · exact (by
    intro j hj w hw
    obtain rfl : j = 8 := by omega
    have e : a8 = some w := by simpa using hw
    rw [e] at hc
    simpa [c1] using hc)
theorem z_astore_9 (C : Cx E l G own cc nL h) {a0 a1 a2 a3 a4 a5 a6 a7 a8 : Option Value} {u : Option Value} {t : Lv} {x : Nat} (d : Dc cc pc (.astore 9) 2 pc') (hn : 9 < nL) (hc : c1 a8 = true) (k : Z E G nL mem pc' (a0 :: a1 :: a2 :: a3 :: a4 :: a5 :: a6 :: a7 :: a8 :: some (rf G x) :: t) sk o) : Z E G nL mem pc (a0 :: a1 :: a2 :: a3 :: a4 :: a5 :: a6 :: a7 :: a8 :: u :: t) (rf G x :: sk) o := by
  intro r hr H locs ls hP hS hl
  obtain ⟨d, rfl⟩ := d
  refine lv_astore C.1 C.2.1 d hl hn rfl (fun ls' hl' => k r hr H locs ls' hP hS ?_)
  refine Lh.st1 hl' rfl ?_ ?_
  · intro j hj
    match j, hj with
    | 0, _ => rfl
    | 1, _ => rfl
    | 2, _ => rfl
    | 3, _ => rfl
    | 4, _ => rfl
    | 5, _ => rfl
    | 6, _ => rfl
    | 7, _ => rfl
    | 8, _ => rfl
    | 9, hj => exact absurd rfl hj
    | j + 10, _ => rfl
  · exact (by
    intro j hj w hw
    obtain rfl : j = 8 := by omega
    have e : a8 = some w := by simpa using hw
    rw [e] at hc
    simpa [c1] using hc)
theorem z_lstore_9 (C : Cx E l G own cc nL h) {a0 a1 a2 a3 a4 a5 a6 a7 a8 : Option Value} {u u2 : Option Value} {t : Lv} {x : Int} (d : Dc cc pc (.lstore 9) 2 pc') (hn : 10 < nL) (hc : c1 a8 = true) (k : Z E G nL mem pc' (a0 :: a1 :: a2 :: a3 :: a4 :: a5 :: a6 :: a7 :: a8 :: some (vl x) :: none :: t) sk o) : Z E G nL mem pc (a0 :: a1 :: a2 :: a3 :: a4 :: a5 :: a6 :: a7 :: a8 :: u :: u2 :: t) (vl x :: sk) o := by
  intro r hr H locs ls hP hS hl
  obtain ⟨d, rfl⟩ := d
  refine lv_lstore C.1 C.2.1 d hl hn rfl (fun ls' hl' => k r hr H locs ls' hP hS ?_)
  refine Lh.st2 hl' rfl (fun w e => by cases e) ?_ ?_
  · intro j hj hj2
    match j, hj, hj2 with
    | 0, _, _ => rfl
    | 1, _, _ => rfl
    | 2, _, _ => rfl
    | 3, _, _ => rfl
    | 4, _, _ => rfl
    | 5, _, _ => rfl
    | 6, _, _ => rfl
    | 7, _, _ => rfl
    | 8, _, _ => rfl
    | 9, hj, _ => exact absurd rfl hj
    | 10, _, hj => exact absurd rfl hj
    | j + 11, _, _ => rfl
  · exact (by
    intro j hj w hw
    obtain rfl : j = 8 := by omega
    have e : a8 = some w := by simpa using hw
    rw [e] at hc
    simpa [c1] using hc)
theorem z_iinc_9 (C : Cx E l G own cc nL h) {a0 a1 a2 a3 a4 a5 a6 a7 a8 : Option Value} {t : Lv} {x n : Int} (d : Dc cc pc (.iinc 9 n) 3 pc') (hn : 9 < nL) (hc : c1 a8 = true) (k : Z E G nL mem pc' (a0 :: a1 :: a2 :: a3 :: a4 :: a5 :: a6 :: a7 :: a8 :: some (vi (x + n)) :: t) sk o) : Z E G nL mem pc (a0 :: a1 :: a2 :: a3 :: a4 :: a5 :: a6 :: a7 :: a8 :: some (vi x) :: t) sk o := by
  intro r hr H locs ls hP hS hl
  obtain ⟨d, rfl⟩ := d
  obtain ⟨kk, hk⟩ := List.getElem?_of_mem ((toA_mem (a0 :: a1 :: a2 :: a3 :: a4 :: a5 :: a6 :: a7 :: a8 :: some (vi x) :: t) 0 9 (vi x)).mpr ⟨Nat.zero_le _, rfl⟩)
  refine lv_iinc C.1 C.2.1 d hl (k := kk) hk (Int32.ofInt_add ..).symm hn rfl (fun ls' hl' => k r hr H locs ls' hP hS ?_)
  refine Lh.st1 hl' rfl ?_ ?_
  · intro j hj
    match j, hj with
    | 0, _ => rfl
    | 1, _ => rfl
    | 2, _ => rfl
    | 3, _ => rfl
    | 4, _ => rfl
    | 5, _ => rfl
    | 6, _ => rfl
    | 7, _ => rfl
    | 8, _ => rfl
    | 9, hj => exact absurd rfl hj
    | j + 10, _ => rfl
  · exact (by
    intro j hj w hw
    obtain rfl : j = 8 := by omega
    have e : a8 = some w := by simpa using hw
    rw [e] at hc
    simpa [c1] using hc)
theorem z_iload_10 (C : Cx E l G own cc nL h) {a0 a1 a2 a3 a4 a5 a6 a7 a8 a9 : Option Value} {t : Lv} {x : Int} (d : Dc cc pc (.iload 10) 2 pc') (k : Z E G nL mem pc' (a0 :: a1 :: a2 :: a3 :: a4 :: a5 :: a6 :: a7 :: a8 :: a9 :: some (vi x) :: t) (vi x :: sk) o) : Z E G nL mem pc (a0 :: a1 :: a2 :: a3 :: a4 :: a5 :: a6 :: a7 :: a8 :: a9 :: some (vi x) :: t) sk o := by
  intro r hr H locs ls hP hS hl
  obtain ⟨d, rfl⟩ := d
  exact lv_iload C.1 C.2.1 d (hl.get (i := 10) rfl) (k r hr H locs ls hP hS hl)
theorem z_lload_10 (C : Cx E l G own cc nL h) {a0 a1 a2 a3 a4 a5 a6 a7 a8 a9 : Option Value} {t : Lv} {x : Int} (d : Dc cc pc (.lload 10) 2 pc') (k : Z E G nL mem pc' (a0 :: a1 :: a2 :: a3 :: a4 :: a5 :: a6 :: a7 :: a8 :: a9 :: some (vl x) :: t) (vl x :: sk) o) : Z E G nL mem pc (a0 :: a1 :: a2 :: a3 :: a4 :: a5 :: a6 :: a7 :: a8 :: a9 :: some (vl x) :: t) sk o := by
  intro r hr H locs ls hP hS hl
  obtain ⟨d, rfl⟩ := d
  exact lv_lload C.1 C.2.1 d (hl.get (i := 10) rfl) (k r hr H locs ls hP hS hl)
theorem z_aload_10 (C : Cx E l G own cc nL h) {a0 a1 a2 a3 a4 a5 a6 a7 a8 a9 : Option Value} {t : Lv} {x : Nat} (d : Dc cc pc (.aload 10) 2 pc') (k : Z E G nL mem pc' (a0 :: a1 :: a2 :: a3 :: a4 :: a5 :: a6 :: a7 :: a8 :: a9 :: some (rf G x) :: t) (rf G x :: sk) o) : Z E G nL mem pc (a0 :: a1 :: a2 :: a3 :: a4 :: a5 :: a6 :: a7 :: a8 :: a9 :: some (rf G x) :: t) sk o := by
  intro r hr H locs ls hP hS hl
  obtain ⟨d, rfl⟩ := d
  exact lv_aload C.1 C.2.1 d (hl.get (i := 10) rfl) (k r hr H locs ls hP hS hl)
theorem z_aloadS_10 (C : Cx E l G own cc nL h) {a0 a1 a2 a3 a4 a5 a6 a7 a8 a9 : Option Value} {t : Lv} {x : Nat} (d : Dc cc pc (.aload 10) 2 pc') (k : Z E G nL mem pc' (a0 :: a1 :: a2 :: a3 :: a4 :: a5 :: a6 :: a7 :: a8 :: a9 :: some (rs G x) :: t) (rs G x :: sk) o) : Z E G nL mem pc (a0 :: a1 :: a2 :: a3 :: a4 :: a5 :: a6 :: a7 :: a8 :: a9 :: some (rs G x) :: t) sk o := by
  intro r hr H locs ls hP hS hl
  obtain ⟨d, rfl⟩ := d
  exact lv_aload C.1 C.2.1 d (hl.get (i := 10) rfl) (k r hr H locs ls hP hS hl)
theorem z_istore_10 (C : Cx E l G own cc nL h) {a0 a1 a2 a3 a4 a5 a6 a7 a8 a9 : Option Value} {u : Option Value} {t : Lv} {x : Int} (d : Dc cc pc (.istore 10) 2 pc') (hn : 10 < nL) (hc : c1 a9 = true) (k : Z E G nL mem pc' (a0 :: a1 :: a2 :: a3 :: a4 :: a5 :: a6 :: a7 :: a8 :: a9 :: some (vi x) :: t) sk o) : Z E G nL mem pc (a0 :: a1 :: a2 :: a3 :: a4 :: a5 :: a6 :: a7 :: a8 :: a9 :: u :: t) (vi x :: sk) o := by
  intro r hr H locs ls hP hS hl
  obtain ⟨d, rfl⟩ := d
  refine lv_istore C.1 C.2.1 d hl hn rfl (fun ls' hl' => k r hr H locs ls' hP hS ?_)
  refine Lh.st1 hl' rfl ?_ ?_
  · intro j hj
    match j, hj with
    | 0, _ => rfl
    | 1, _ => rfl
    | 2, _ => rfl
    | 3, _ => rfl
    | 4, _ => rfl
    | 5, _ => rfl
    | 6, _ => rfl
    | 7, _ => rfl
    | 8, _ => rfl
    | 9, _ => rfl
    | 10, hj => exact absurd rfl hj
    | j + 11, _ => rfl
  · exact (by
    intro j hj w hw
    obtain rfl : j = 9 := by omega
    have e : a9 = some w := by simpa using hw
    rw [e] at hc
    simpa [c1] using hc)
theorem z_astore_10 (C : Cx E l G own cc nL h) {a0 a1 a2 a3 a4 a5 a6 a7 a8 a9 : Option Value} {u : Option Value} {t : Lv} {x : Nat} (d : Dc cc pc (.astore 10) 2 pc') (hn : 10 < nL) (hc : c1 a9 = true) (k : Z E G nL mem pc' (a0 :: a1 :: a2 :: a3 :: a4 :: a5 :: a6 :: a7 :: a8 :: a9 :: some (rf G x) :: t) sk o) : Z E G nL mem pc (a0 :: a1 :: a2 :: a3 :: a4 :: a5 :: a6 :: a7 :: a8 :: a9 :: u :: t) (rf G x :: sk) o := by
  intro r hr H locs ls hP hS hl
  obtain ⟨d, rfl⟩ := d
  refine lv_astore C.1 C.2.1 d hl hn rfl (fun ls' hl' => k r hr H locs ls' hP hS ?_)
  refine Lh.st1 hl' rfl ?_ ?_
  · intro j hj
    match j, hj with
    | 0, _ => rfl
    | 1, _ => rfl
    | 2, _ => rfl
    | 3, _ => rfl
    | 4, _ => rfl
    | 5, _ => rfl
    | 6, _ => rfl
    | 7, _ => rfl
    | 8, _ => rfl
    | 9, _ => rfl
    | 10, hj => exact absurd rfl hj
    | j + 11, _ => rfl
  · exact (by
    intro j hj w hw
    obtain rfl : j = 9 := by omega
    have e : a9 = some w := by simpa using hw
    rw [e] at hc
    simpa [c1] using hc)
theorem z_lstore_10 (C : Cx E l G own cc nL h) {a0 a1 a2 a3 a4 a5 a6 a7 a8 a9 : Option Value} {u u2 : Option Value} {t : Lv} {x : Int} (d : Dc cc pc (.lstore 10) 2 pc') (hn : 11 < nL) (hc : c1 a9 = true) (k : Z E G nL mem pc' (a0 :: a1 :: a2 :: a3 :: a4 :: a5 :: a6 :: a7 :: a8 :: a9 :: some (vl x) :: none :: t) sk o) : Z E G nL mem pc (a0 :: a1 :: a2 :: a3 :: a4 :: a5 :: a6 :: a7 :: a8 :: a9 :: u :: u2 :: t) (vl x :: sk) o := by
  intro r hr H locs ls hP hS hl
  obtain ⟨d, rfl⟩ := d
  refine lv_lstore C.1 C.2.1 d hl hn rfl (fun ls' hl' => k r hr H locs ls' hP hS ?_)
  refine Lh.st2 hl' rfl (fun w e => by cases e) ?_ ?_
  · intro j hj hj2
    match j, hj, hj2 with
    | 0, _, _ => rfl
    | 1, _, _ => rfl
    | 2, _, _ => rfl
    | 3, _, _ => rfl
    | 4, _, _ => rfl
    | 5, _, _ => rfl
    | 6, _, _ => rfl
    | 7, _, _ => rfl
    | 8, _, _ => rfl
    | 9, _, _ => rfl
    | 10, hj, _ => exact absurd rfl hj
    | 11, _, hj => exact absurd rfl hj
    | j + 12, _, _ => rfl
  · exact (by
    intro j hj w hw
    obtain rfl : j = 9 := by omega
    have e : a9 = some w := by simpa using hw
    rw [e] at hc
    simpa [c1] using hc)
theorem z_iinc_10 (C : Cx E l G own cc nL h) {a0 a1 a2 a3 a4 a5 a6 a7 a8 a9 : Option Value} {t : Lv} {x n : Int} (d : Dc cc pc (.iinc 10 n) 3 pc') (hn : 10 < nL) (hc : c1 a9 = true) (k : Z E G nL mem pc' (a0 :: a1 :: a2 :: a3 :: a4 :: a5 :: a6 :: a7 :: a8 :: a9 :: some (vi (x + n)) :: t) sk o) : Z E G nL mem pc (a0 :: a1 :: a2 :: a3 :: a4 :: a5 :: a6 :: a7 :: a8 :: a9 :: some (vi x) :: t) sk o := by
  intro r hr H locs ls hP hS hl
  obtain ⟨d, rfl⟩ := d
  obtain ⟨kk, hk⟩ := List.getElem?_of_mem ((toA_mem (a0 :: a1 :: a2 :: a3 :: a4 :: a5 :: a6 :: a7 :: a8 :: a9 :: some (vi x) :: t) 0 10 (vi x)).mpr ⟨Nat.zero_le _, rfl⟩)
  refine lv_iinc C.1 C.2.1 d hl (k := kk) hk (Int32.ofInt_add ..).symm hn rfl (fun ls' hl' => k r hr H locs ls' hP hS ?_)
  refine Lh.st1 hl' rfl ?_ ?_
  · intro j hj
    match j, hj with
    | 0, _ => rfl
    | 1, _ => rfl
    | 2, _ => rfl
    | 3, _ => rfl
    | 4, _ => rfl
    | 5, _ => rfl
    | 6, _ => rfl
    | 7, _ => rfl
    | 8, _ => rfl
    | 9, _ => rfl
    | 10, hj => exact absurd rfl hj
    | j + 11, _ => rfl
  · exact (by
    intro j hj w hw
    obtain rfl : j = 9 := by omega
    have e : a9 = some w := by simpa using hw
    rw [e] at hc
    simpa [c1] using hc)
theorem z_iload_11 (C : Cx E l G own cc nL h) {a0 a1 a2 a3 a4 a5 a6 a7 a8 a9 a10 : Option Value} {t : Lv} {x : Int} (d : Dc cc pc (.iload 11) 2 pc') (k : Z E G nL mem pc' (a0 :: a1 :: a2 :: a3 :: a4 :: a5 :: a6 :: a7 :: a8 :: a9 :: a10 :: some (vi x) :: t) (vi x :: sk) o) : Z E G nL mem pc (a0 :: a1 :: a2 :: a3 :: a4 :: a5 :: a6 :: a7 :: a8 :: a9 :: a10 :: some (vi x) :: t) sk o := by
  intro r hr H locs ls hP hS hl
  obtain ⟨d, rfl⟩ := d
  exact lv_iload C.1 C.2.1 d (hl.get (i := 11) rfl) (k r hr H locs ls hP hS hl)
theorem z_lload_11 (C : Cx E l G own cc nL h) {a0 a1 a2 a3 a4 a5 a6 a7 a8 a9 a10 : Option Value} {t : Lv} {x : Int} (d : Dc cc pc (.lload 11) 2 pc') (k : Z E G nL mem pc' (a0 :: a1 :: a2 :: a3 :: a4 :: a5 :: a6 :: a7 :: a8 :: a9 :: a10 :: some (vl x) :: t) (vl x :: sk) o) : Z E G nL mem pc (a0 :: a1 :: a2 :: a3 :: a4 :: a5 :: a6 :: a7 :: a8 :: a9 :: a10 :: some (vl x) :: t) sk o := by
  intro r hr H locs ls hP hS hl
  obtain ⟨d, rfl⟩ := d
  exact lv_lload C.1 C.2.1 d (hl.get (i := 11) rfl) (k r hr H locs ls hP hS hl)
theorem z_aload_11 (C : Cx E l G own cc nL h) {a0 a1 a2 a3 a4 a5 a6 a7 a8 a9 a10 : Option Value} {t : Lv} {x : Nat} (d : Dc cc pc (.aload 11) 2 pc') (k : Z E G nL mem pc' (a0 :: a1 :: a2 :: a3 :: a4 :: a5 :: a6 :: a7 :: a8 :: a9 :: a10 :: some (rf G x) :: t) (rf G x :: sk) o) : Z E G nL mem pc (a0 :: a1 :: a2 :: a3 :: a4 :: a5 :: a6 :: a7 :: a8 :: a9 :: a10 :: some (rf G x) :: t) sk o := by
  intro r hr H locs ls hP hS hl
  obtain ⟨d, rfl⟩ := d
  exact lv_aload C.1 C.2.1 d (hl.get (i := 11) rfl) (k r hr H locs ls hP hS hl)
theorem z_aloadS_11 (C : Cx E l G own cc nL h) {a0 a1 a2 a3 a4 a5 a6 a7 a8 a9 a10 : Option Value} {t : Lv} {x : Nat} (d : Dc cc pc (.aload 11) 2 pc') (k : Z E G nL mem pc' (a0 :: a1 :: a2 :: a3 :: a4 :: a5 :: a6 :: a7 :: a8 :: a9 :: a10 :: some (rs G x) :: t) (rs G x :: sk) o) : Z E G nL mem pc (a0 :: a1 :: a2 :: a3 :: a4 :: a5 :: a6 :: a7 :: a8 :: a9 :: a10 :: some (rs G x) :: t) sk o := by
  intro r hr H locs ls hP hS hl
  obtain ⟨d, rfl⟩ := d
  exact lv_aload C.1 C.2.1 d (hl.get (i := 11) rfl) (k r hr H locs ls hP hS hl)
theorem z_istore_11 (C : Cx E l G own cc nL h) {a0 a1 a2 a3 a4 a5 a6 a7 a8 a9 a10 : Option Value} {u : Option Value} {t : Lv} {x : Int} (d : Dc cc pc (.istore 11) 2 pc') (hn : 11 < nL) (hc : c1 a10 = true) (k : Z E G nL mem pc' (a0 :: a1 :: a2 :: a3 :: a4 :: a5 :: a6 :: a7 :: a8 :: a9 :: a10 :: some (vi x) :: t) sk o) : Z E G nL mem pc (a0 :: a1 :: a2 :: a3 :: a4 :: a5 :: a6 :: a7 :: a8 :: a9 :: a10 :: u :: t) (vi x :: sk) o := by
  intro r hr H locs ls hP hS hl
  obtain ⟨d, rfl⟩ := d
  refine lv_istore C.1 C.2.1 d hl hn rfl (fun ls' hl' => k r hr H locs ls' hP hS ?_)
  refine Lh.st1 hl' rfl ?_ ?_
  · intro j hj
    match j, hj with
    | 0, _ => rfl
    | 1, _ => rfl
    | 2, _ => rfl
    | 3, _ => rfl
    | 4, _ => rfl
    | 5, _ => rfl
    | 6, _ => rfl
    | 7, _ => rfl
    | 8, _ => rfl
    | 9, _ => rfl
    | 10, _ => rfl
    | 11, hj => exact absurd rfl hj
    | j + 12, _ => rfl
  · exact (by
    intro j hj w hw
    obtain rfl : j = 10 := by omega
    have e : a10 = some w := by simpa using hw
    rw [e] at hc
    simpa [c1] using hc)
theorem z_astore_11 (C : Cx E l G own cc nL h) {a0 a1 a2 a3 a4 a5 a6 a7 a8 a9 a10 : Option Value} {u : Option Value} {t : Lv} {x : Nat} (d : Dc cc pc (.astore 11) 2 pc') (hn : 11 < nL) (hc : c1 a10 = true) (k : Z E G nL mem pc' (a0 :: a1 :: a2 :: a3 :: a4 :: a5 :: a6 :: a7 :: a8 :: a9 :: a10 :: some (rf G x) :: t) sk o) : Z E G nL mem pc (a0 :: a1 :: a2 :: a3 :: a4 :: a5 :: a6 :: a7 :: a8 :: a9 :: a10 :: u :: t) (rf G x :: sk) o := by
  intro r hr H locs ls hP hS hl
  obtain ⟨d, rfl⟩ := d
  refine lv_astore C.1 C.2.1 d hl hn rfl (fun ls' hl' => k r hr H locs ls' hP hS ?_)
  refine Lh.st1 hl' rfl ?_ ?_
  · intro j hj
    match j, hj with
    | 0, _ => rfl
    | 1, _ => rfl
    | 2, _ => rfl
    | 3, _ => rfl
    | 4, _ => rfl
    | 5, _ => rfl
    | 6, _ => rfl
    | 7, _ => rfl
    | 8, _ => rfl
    | 9, _ => rfl
    | 10, _ => rfl
    | 11, hj => exact absurd rfl hj
    | j + 12, _ => rfl
  · exact (by
    intro j hj w hw
    obtain rfl : j = 10 := by omega
    have e : a10 = some w := by simpa using hw
    rw [e] at hc
    simpa [c1] using hc)
theorem z_lstore_11 (C : Cx E l G own cc nL h) {a0 a1 a2 a3 a4 a5 a6 a7 a8 a9 a10 : Option Value} {u u2 : Option Value} {t : Lv} {x : Int} (d : Dc cc pc (.lstore 11) 2 pc') (hn : 12 < nL) (hc : c1 a10 = true) (k : Z E G nL mem pc' (a0 :: a1 :: a2 :: a3 :: a4 :: a5 :: a6 :: a7 :: a8 :: a9 :: a10 :: some (vl x) :: none :: t) sk o) : Z E G nL mem pc (a0 :: a1 :: a2 :: a3 :: a4 :: a5 :: a6 :: a7 :: a8 :: a9 :: a10 :: u :: u2 :: t) (vl x :: sk) o := by
  intro r hr H locs ls hP hS hl
  obtain ⟨d, rfl⟩ := d
  refine lv_lstore C.1 C.2.1 d hl hn rfl (fun ls' hl' => k r hr H locs ls' hP hS ?_)
  refine Lh.st2 hl' rfl (fun w e => by cases e) ?_ ?_
  · intro j hj hj2
    match j, hj, hj2 with
    | 0, _, _ => rfl
    | 1, _, _ => rfl
    | 2, _, _ => rfl
    | 3, _, _ => rfl
    | 4, _, _ => rfl
    | 5, _, _ => rfl
    | 6, _, _ => rfl
    | 7, _, _ => rfl
    | 8, _, _ => rfl
    | 9, _, _ => rfl
    | 10, _, _ => rfl
    | 11, hj, _ => exact absurd rfl hj
    | 12, _, hj => exact absurd rfl hj
    | j + 13, _, _ => rfl
  · exact (by
    intro j hj w hw
    obtain rfl : j = 10 := by omega
    have e : a10 = some w := by simpa using hw
    rw [e] at hc
    simpa [c1] using hc)
theorem z_iinc_11 (C : Cx E l G own cc nL h) {a0 a1 a2 a3 a4 a5 a6 a7 a8 a9 a10 : Option Value} {t : Lv} {x n : Int} (d : Dc cc pc (.iinc 11 n) 3 pc') (hn : 11 < nL) (hc : c1 a10 = true) (k : Z E G nL mem pc' (a0 :: a1 :: a2 :: a3 :: a4 :: a5 :: a6 :: a7 :: a8 :: a9 :: a10 :: some (vi (x + n)) :: t) sk o) : Z E G nL mem pc (a0 :: a1 :: a2 :: a3 :: a4 :: a5 :: a6 :: a7 :: a8 :: a9 :: a10 :: some (vi x) :: t) sk o := by
  intro r hr H locs ls hP hS hl
  obtain ⟨d, rfl⟩ := d
  obtain ⟨kk, hk⟩ := List.getElem?_of_mem ((toA_mem (a0 :: a1 :: a2 :: a3 :: a4 :: a5 :: a6 :: a7 :: a8 :: a9 :: a10 :: some (vi x) :: t) 0 11 (vi x)).mpr ⟨Nat.zero_le _, rfl⟩)
  refine lv_iinc C.1 C.2.1 d hl (k := kk) hk (Int32.ofInt_add ..).symm hn rfl (fun ls' hl' => k r hr H locs ls' hP hS ?_)
  refine Lh.st1 hl' rfl ?_ ?_
  · intro j hj
    match j, hj with
    | 0, _ => rfl
    | 1, _ => rfl
    | 2, _ => rfl
    | 3, _ => rfl
    | 4, _ => rfl
    | 5, _ => rfl
    | 6, _ => rfl
    | 7, _ => rfl
    | 8, _ => rfl
    | 9, _ => rfl
    | 10, _ => rfl
    | 11, hj => exact absurd rfl hj
    | j + 12, _ => rfl
  · exact (by
    intro j hj w hw
    obtain rfl : j = 10 := by omega
    have e : a10 = some w := by simpa using hw
    rw [e] at hc
    simpa [c1] using hc)
theorem z_iload_12 (C : Cx E l G own cc nL h) {a0 a1 a2 a3 a4 a5 a6 a7 a8 a9 a10 a11 : Option Value} {t : Lv} {x : Int} (d : Dc cc pc (.iload 12) 2 pc') (k : Z E G nL mem pc' (a0 :: a1 :: a2 :: a3 :: a4 :: a5 :: a6 :: a7 :: a8 :: a9 :: a10 :: a11 :: some (vi x) :: t) (vi x :: sk) o) : Z E G nL mem pc (a0 :: a1 :: a2 :: a3 :: a4 :: a5 :: a6 :: a7 :: a8 :: a9 :: a10 :: a11 :: some (vi x) :: t) sk o := by
  intro r hr H locs ls hP hS hl
  obtain ⟨d, rfl⟩ := d
  exact lv_iload C.1 C.2.1 d (hl.get (i := 12) rfl) (k r hr H locs ls hP hS hl)
theorem z_lload_12 (C : Cx E l G own cc nL h) {a0 a1 a2 a3 a4 a5 a6 a7 a8 a9 a10 a11 : Option Value} {t : Lv} {x : Int} (d : Dc cc pc (.lload 12) 2 pc') (k : Z E G nL mem pc' (a0 :: a1 :: a2 :: a3 :: a4 :: a5 :: a6 :: a7 :: a8 :: a9 :: a10 :: a11 :: some (vl x) :: t) (vl x :: sk) o) : Z E G nL mem pc (a0 :: a1 :: a2 :: a3 :: a4 :: a5 :: a6 :: a7 :: a8 :: a9 :: a10 :: a11 :: some (vl x) :: t) sk o := by
  intro r hr H locs ls hP hS hl
  obtain ⟨d, rfl⟩ := d
  exact lv_lload C.1 C.2.1 d (hl.get (i := 12) rfl) (k r hr H locs ls hP hS hl)
theorem z_aload_12 (C : Cx E l G own cc nL h) {a0 a1 a2 a3 a4 a5 a6 a7 a8 a9 a10 a11 : Option Value} {t : Lv} {x : Nat} (d : Dc cc pc (.aload 12) 2 pc') (k : Z E G nL mem pc' (a0 :: a1 :: a2 :: a3 :: a4 :: a5 :: a6 :: a7 :: a8 :: a9 :: a10 :: a11 :: some (rf G x) :: t) (rf G x :: sk) o) : Z E G nL mem pc (a0 :: a1 :: a2 :: a3 :: a4 :: a5 :: a6 :: a7 :: a8 :: a9 :: a10 :: a11 :: some (rf G x) :: t) sk o := by
  intro r hr H locs ls hP hS hl
  obtain ⟨d, rfl⟩ := d
  exact lv_aload C.1 C.2.1 d (hl.get (i := 12) rfl) (k r hr H locs ls hP hS hl)
theorem z_aloadS_12 (C : Cx E l G own cc nL h) {a0 a1 a2 a3 a4 a5 a6 a7 a8 a9 a10 a11 : Option Value} {t : Lv} {x : Nat} (d : Dc cc pc (.aload 12) 2 pc') (k : Z E G nL mem pc' (a0 :: a1 :: a2 :: a3 :: a4 :: a5 :: a6 :: a7 :: a8 :: a9 :: a10 :: a11 :: some (rs G x) :: t) (rs G x :: sk) o) : Z E G nL mem pc (a0 :: a1 :: a2 :: a3 :: a4 :: a5 :: a6 :: a7 :: a8 :: a9 :: a10 :: a11 :: some (rs G x) :: t) sk o := by
  intro r hr H locs ls hP hS hl
  obtain ⟨d, rfl⟩ := d
  exact lv_aload C.1 C.2.1 d (hl.get (i := 12) rfl) (k r hr H locs ls hP hS hl)
theorem z_istore_12 (C : Cx E l G own cc nL h) {a0 a1 a2 a3 a4 a5 a6 a7 a8 a9 a10 a11 : Option Value} {u : Option Value} {t : Lv} {x : Int} (d : Dc cc pc (.istore 12) 2 pc') (hn : 12 < nL) (hc : c1 a11 = true) (k : Z E G nL mem pc' (a0 :: a1 :: a2 :: a3 :: a4 :: a5 :: a6 :: a7 :: a8 :: a9 :: a10 :: a11 :: some (vi x) :: t) sk o) : Z E G nL mem pc (a0 :: a1 :: a2 :: a3 :: a4 :: a5 :: a6 :: a7 :: a8 :: a9 :: a10 :: a11 :: u :: t) (vi x :: sk) o := by
  intro r hr H locs ls hP hS hl
  obtain ⟨d, rfl⟩ := d
  refine lv_istore C.1 C.2.1 d hl hn rfl (fun ls' hl' => k r hr H locs ls' hP hS ?_)
  refine Lh.st1 hl' rfl ?_ ?_
  · intro j hj
    match j, hj with
    | 0, _ => rfl
    | 1, _ => rfl
    | 2, _ => rfl
    | 3, _ => rfl
    | 4, _ => rfl
    | 5, _ => rfl
    | 6, _ => rfl
    | 7, _ => rfl
    | 8, _ => rfl
    | 9, _ => rfl
    | 10, _ => rfl
    | 11, _ => rfl
    | 12, hj => exact absurd rfl hj
    | j + 13, _ => rfl
  · exact (by
    intro j hj w hw
    obtain rfl : j = 11 := by omega
    have e : a11 = some w := by simpa using hw
    rw [e] at hc
    simpa [c1] using hc)
theorem z_astore_12 (C : Cx E l G own cc nL h) {a0 a1 a2 a3 a4 a5 a6 a7 a8 a9 a10 a11 : Option Value} {u : Option Value} {t : Lv} {x : Nat} (d : Dc cc pc (.astore 12) 2 pc') (hn : 12 < nL) (hc : c1 a11 = true) (k : Z E G nL mem pc' (a0 :: a1 :: a2 :: a3 :: a4 :: a5 :: a6 :: a7 :: a8 :: a9 :: a10 :: a11 :: some (rf G x) :: t) sk o) : Z E G nL mem pc (a0 :: a1 :: a2 :: a3 :: a4 :: a5 :: a6 :: a7 :: a8 :: a9 :: a10 :: a11 :: u :: t) (rf G x :: sk) o := by
  intro r hr H locs ls hP hS hl
  obtain ⟨d, rfl⟩ := d
  refine lv_astore C.1 C.2.1 d hl hn rfl (fun ls' hl' => k r hr H locs ls' hP hS ?_)
  refine Lh.st1 hl' rfl ?_ ?_
  · intro j hj
    match j, hj with
    | 0, _ => rfl
    | 1, _ => rfl
    | 2, _ => rfl
    | 3, _ => rfl
    | 4, _ => rfl
    | 5, _ => rfl
    | 6, _ => rfl
    | 7, _ => rfl
    | 8, _ => rfl
    | 9, _ => rfl
    | 10, _ => rfl
    | 11, _ => rfl
    | 12, hj => exact absurd rfl hj
    | j + 13, _ => rfl
  · exact (by
    intro j hj w hw
    obtain rfl : j = 11 := by omega
    have e : a11 = some w := by simpa using hw
    rw [e] at hc
    simpa [c1] using hc)
theorem z_lstore_12 (C : Cx E l G own cc nL h) {a0 a1 a2 a3 a4 a5 a6 a7 a8 a9 a10 a11 : Option Value} {u u2 : Option Value} {t : Lv} {x : Int} (d : Dc cc pc (.lstore 12) 2 pc') (hn : 13 < nL) (hc : c1 a11 = true) (k : Z E G nL mem pc' (a0 :: a1 :: a2 :: a3 :: a4 :: a5 :: a6 :: a7 :: a8 :: a9 :: a10 :: a11 :: some (vl x) :: none :: t) sk o) : Z E G nL mem pc (a0 :: a1 :: a2 :: a3 :: a4 :: a5 :: a6 :: a7 :: a8 :: a9 :: a10 :: a11 :: u :: u2 :: t) (vl x :: sk) o := by
  intro r hr H locs ls hP hS hl
  obtain ⟨d, rfl⟩ := d
  refine lv_lstore C.1 C.2.1 d hl hn rfl (fun ls' hl' => k r hr H locs ls' hP hS ?_)
  refine Lh.st2 hl' rfl (fun w e => by cases e) ?_ ?_
  · intro j hj hj2
    match j, hj, hj2 with
    | 0, _, _ => rfl
    | 1, _, _ => rfl
    | 2, _, _ => rfl
    | 3, _, _ => rfl
    | 4, _, _ => rfl
    | 5, _, _ => rfl
    | 6, _, _ => rfl
    | 7, _, _ => rfl
    | 8, _, _ => rfl
    | 9, _, _ => rfl
    | 10, _, _ => rfl
    | 11, _, _ => rfl
    | 12, hj, _ => exact absurd rfl hj
    | 13, _, hj => exact absurd rfl hj
    | j + 14, _, _ => rfl
  · exact (by
    intro j hj w hw
    obtain rfl : j = 11 := by omega
    have e : a11 = some w := by simpa using hw
    rw [e] at hc
    simpa [c1] using hc)
theorem z_iinc_12 (C : Cx E l G own cc nL h) {a0 a1 a2 a3 a4 a5 a6 a7 a8 a9 a10 a11 : Option Value} {t : Lv} {x n : Int} (d : Dc cc pc (.iinc 12 n) 3 pc') (hn : 12 < nL) (hc : c1 a11 = true) (k : Z E G nL mem pc' (a0 :: a1 :: a2 :: a3 :: a4 :: a5 :: a6 :: a7 :: a8 :: a9 :: a10 :: a11 :: some (vi (x + n)) :: t) sk o) : Z E G nL mem pc (a0 :: a1 :: a2 :: a3 :: a4 :: a5 :: a6 :: a7 :: a8 :: a9 :: a10 :: a11 :: some (vi x) :: t) sk o := by
  intro r hr H locs ls hP hS hl
  obtain ⟨d, rfl⟩ := d
  obtain ⟨kk, hk⟩ := List.getElem?_of_mem ((toA_mem (a0 :: a1 :: a2 :: a3 :: a4 :: a5 :: a6 :: a7 :: a8 :: a9 :: a10 :: a11 :: some (vi x) :: t) 0 12 (vi x)).mpr ⟨Nat.zero_le _, rfl⟩)
  refine lv_iinc C.1 C.2.1 d hl (k := kk) hk (Int32.ofInt_add ..).symm hn rfl (fun ls' hl' => k r hr H locs ls' hP hS ?_)
  refine Lh.st1 hl' rfl ?_ ?_
  · intro j hj
    match j, hj with
    | 0, _ => rfl
    | 1, _ => rfl
    | 2, _ => rfl
    | 3, _ => rfl
    | 4, _ => rfl
    | 5, _ => rfl
    | 6, _ => rfl
    | 7, _ => rfl
    | 8, _ => rfl
    | 9, _ => rfl
    | 10, _ => rfl
    | 11, _ => rfl
    | 12, hj => exact absurd rfl hj
    | j + 13, _ => rfl
  · exact (by
    intro j hj w hw
    obtain rfl : j = 11 := by omega
    have e : a11 = some w := by simpa using hw
    rw [e] at hc
    simpa [c1] using hc)
theorem z_iload_13 (C : Cx E l G own cc nL h) {a0 a1 a2 a3 a4 a5 a6 a7 a8 a9 a10 a11 a12 : Option Value} {t : Lv} {x : Int} (d : Dc cc pc (.iload 13) 2 pc') (k : Z E G nL mem pc' (a0 :: a1 :: a2 :: a3 :: a4 :: a5 :: a6 :: a7 :: a8 :: a9 :: a10 :: a11 :: a12 :: some (vi x) :: t) (vi x :: sk) o) : Z E G nL mem pc (a0 :: a1 :: a2 :: a3 :: a4 :: a5 :: a6 :: a7 :: a8 :: a9 :: a10 :: a11 :: a12 :: some (vi x) :: t) sk o := by
  intro r hr H locs ls hP hS hl
  obtain ⟨d, rfl⟩ := d
  exact lv_iload C.1 C.2.1 d (hl.get (i := 13) rfl) (k r hr H locs ls hP hS hl)
theorem z_lload_13 (C : Cx E l G own cc nL h) {a0 a1 a2 a3 a4 a5 a6 a7 a8 a9 a10 a11 a12 : Option Value} {t : Lv} {x : Int} (d : Dc cc pc (.lload 13) 2 pc') (k : Z E G nL mem pc' (a0 :: a1 :: a2 :: a3 :: a4 :: a5 :: a6 :: a7 :: a8 :: a9 :: a10 :: a11 :: a12 :: some (vl x) :: t) (vl x :: sk) o) : Z E G nL mem pc (a0 :: a1 :: a2 :: a3 :: a4 :: a5 :: a6 :: a7 :: a8 :: a9 :: a10 :: a11 :: a12 :: some (vl x) :: t) sk o := by
  intro r hr H locs ls hP hS hl
  obtain ⟨d, rfl⟩ := d
  exact lv_lload C.1 C.2.1 d (hl.get (i := 13) rfl) (k r hr H locs ls hP hS hl)
theorem z_aload_13 (C : Cx E l G own cc nL h) {a0 a1 a2 a3 a4 a5 a6 a7 a8 a9 a10 a11 a12 : Option Value} {t : Lv} {x : Nat} (d : Dc cc pc (.aload 13) 2 pc') (k : Z E G nL mem pc' (a0 :: a1 :: a2 :: a3 :: a4 :: a5 :: a6 :: a7 :: a8 :: a9 :: a10 :: a11 :: a12 :: some (rf G x) :: t) (rf G x :: sk) o) : Z E G nL mem pc (a0 :: a1 :: a2 :: a3 :: a4 :: a5 :: a6 :: a7 :: a8 :: a9 :: a10 :: a11 :: a12 :: some (rf G x) :: t) sk o := by
  intro r hr H locs ls hP hS hl
  obtain ⟨d, rfl⟩ := d
  exact lv_aload C.1 C.2.1 d (hl.get (i := 13) rfl) (k r hr H locs ls hP hS hl)
theorem z_aloadS_13 (C : Cx E l G own cc nL h) {a0 a1 a2 a3 a4 a5 a6 a7 a8 a9 a10 a11 a12 : Option Value} {t : Lv} {x : Nat} (d : Dc cc pc (.aload 13) 2 pc') (k : Z E G nL mem pc' (a0 :: a1 :: a2 :: a3 :: a4 :: a5 :: a6 :: a7 :: a8 :: a9 :: a10 :: a11 :: a12 :: some (rs G x) :: t) (rs G x :: sk) o) : Z E G nL mem pc (a0 :: a1 :: a2 :: a3 :: a4 :: a5 :: a6 :: a7 :: a8 :: a9 :: a10 :: a11 :: a12 :: some (rs G x) :: t) sk o := by
  intro r hr H locs ls hP hS hl
  obtain ⟨d, rfl⟩ := d
  exact lv_aload C.1 C.2.1 d (hl.get (i := 13) rfl) (k r hr H locs ls hP hS hl)
theorem z_istore_13 (C : Cx E l G own cc nL h) {a0 a1 a2 a3 a4 a5 a6 a7 a8 a9 a10 a11 a12 : Option Value} {u : Option Value} {t : Lv} {x : Int} (d : Dc cc pc (.istore 13) 2 pc') (hn : 13 < nL) (hc : c1 a12 = true) (k : Z E G nL mem pc' (a0 :: a1 :: a2 :: a3 :: a4 :: a5 :: a6 :: a7 :: a8 :: a9 :: a10 :: a11 :: a12 :: some (vi x) :: t) sk o) : Z E G nL mem pc (a0 :: a1 :: a2 :: a3 :: a4 :: a5 :: a6 :: a7 :: a8 :: a9 :: a10 :: a11 :: a12 :: u :: t) (vi x :: sk) o := by
  intro r hr H locs ls hP hS hl
  obtain ⟨d, rfl⟩ := d
  refine lv_istore C.1 C.2.1 d hl hn rfl (fun ls' hl' => k r hr H locs ls' hP hS ?_)
  refine Lh.st1 hl' rfl ?_ ?_
  · intro j hj
    match j, hj with
    | 0, _ => rfl
    | 1, _ => rfl
    | 2, _ => rfl
    | 3, _ => rfl
    | 4, _ => rfl
    | 5, _ => rfl
    | 6, _ => rfl
    | 7, _ => rfl
    | 8, _ => rfl
    | 9, _ => rfl
    | 10, _ => rfl
    | 11, _ => rfl
    | 12, _ => rfl
    | 13, hj => exact absurd rfl hj
    | j + 14, _ => rfl
  · exact (by
    intro j hj w hw
    obtain rfl : j = 12 := by omega
    have e : a12 = some w := by simpa using hw
    rw [e] at hc
    simpa [c1] using hc)
theorem z_astore_13 (C : Cx E l G own cc nL h) {a0 a1 a2 a3 a4 a5 a6 a7 a8 a9 a10 a11 a12 : Option Value} {u : Option Value} {t : Lv} {x : Nat} (d : Dc cc pc (.astore 13) 2 pc') (hn : 13 < nL) (hc : c1 a12 = true) (k : Z E G nL mem pc' (a0 :: a1 :: a2 :: a3 :: a4 :: a5 :: a6 :: a7 :: a8 :: a9 :: a10 :: a11 :: a12 :: some (rf G x) :: t) sk o) : Z E G nL mem pc (a0 :: a1 :: a2 :: a3 :: a4 :: a5 :: a6 :: a7 :: a8 :: a9 :: a10 :: a11 :: a12 :: u :: t) (rf G x :: sk) o := by
  intro r hr H locs ls hP hS hl
  obtain ⟨d, rfl⟩ := d
  refine lv_astore C.1 C.2.1 d hl hn rfl (fun ls' hl' => k r hr H locs ls' hP hS ?_)
  refine Lh.st1 hl' rfl ?_ ?_
  · intro j hj
    match j, hj with
    | 0, _ => rfl
    | 1, _ => rfl
    | 2, _ => rfl
    | 3, _ => rfl
    | 4, _ => rfl
    | 5, _ => rfl
    | 6, _ => rfl
    | 7, _ => rfl
    | 8, _ => rfl
    | 9, _ => rfl
    | 10, _ => rfl
    | 11, _ => rfl
    | 12, _ => rfl
    | 13, hj => exact absurd rfl hj
    | j + 14, _ => rfl
  · exact (by
    intro j hj w hw
    obtain rfl : j = 12 := by omega
    have e : a12 = some w := by simpa using hw
    rw [e] at hc
    simpa [c1] using hc)
theorem z_lstore_13 (C : Cx E l G own cc nL h) {a0 a1 a2 a3 a4 a5 a6 a7 a8 a9 a10 a11 a12 : Option Value} {u u2 : Option Value} {t : Lv} {x : Int} (d : Dc cc pc (.lstore 13) 2 pc') (hn : 14 < nL) (hc : c1 a12 = true) (k : Z E G nL mem pc' (a0 :: a1 :: a2 :: a3 :: a4 :: a5 :: a6 :: a7 :: a8 :: a9 :: a10 :: a11 :: a12 :: some (vl x) :: none :: t) sk o) : Z E G nL mem pc (a0 :: a1 :: a2 :: a3 :: a4 :: a5 :: a6 :: a7 :: a8 :: a9 :: a10 :: a11 :: a12 :: u :: u2 :: t) (vl x :: sk) o := by
  intro r hr H locs ls hP hS hl
  obtain ⟨d, rfl⟩ := d
  refine lv_lstore C.1 C.2.1 d hl hn rfl (fun ls' hl' => k r hr H locs ls' hP hS ?_)
  refine Lh.st2 hl' rfl (fun w e => by cases e) ?_ ?_
  · intro j hj hj2
    match j, hj, hj2 with
    | 0, _, _ => rfl
    | 1, _, _ => rfl
    | 2, _, _ => rfl
    | 3, _, _ => rfl
    | 4, _, _ => rfl
    | 5, _, _ => rfl
    | 6, _, _ => rfl
    | 7, _, _ => rfl
    | 8, _, _ => rfl
    | 9, _, _ => rfl
    | 10, _, _ => rfl
    | 11, _, _ => rfl
    | 12, _, _ => rfl
    | 13, hj, _ => exact absurd rfl hj
    | 14, _, hj => exact absurd rfl hj
    | j + 15, _, _ => rfl
  · exact (by
    intro j hj w hw
    obtain rfl : j = 12 := by omega
    have e : a12 = some w := by simpa using hw
    rw [e] at hc
    simpa [c1] using hc)
theorem z_iinc_13 (C : Cx E l G own cc nL h) {a0 a1 a2 a3 a4 a5 a6 a7 a8 a9 a10 a11 a12 : Option Value} {t : Lv} {x n : Int} (d : Dc cc pc (.iinc 13 n) 3 pc') (hn : 13 < nL) (hc : c1 a12 = true) (k : Z E G nL mem pc' (a0 :: a1 :: a2 :: a3 :: a4 :: a5 :: a6 :: a7 :: a8 :: a9 :: a10 :: a11 :: a12 :: some (vi (x + n)) :: t) sk o) : Z E G nL mem pc (a0 :: a1 :: a2 :: a3 :: a4 :: a5 :: a6 :: a7 :: a8 :: a9 :: a10 :: a11 :: a12 :: some (vi x) :: t) sk o := by
  intro r hr H locs ls hP hS hl
  obtain ⟨d, rfl⟩ := d
  obtain ⟨kk, hk⟩ := List.getElem?_of_mem ((toA_mem (a0 :: a1 :: a2 :: a3 :: a4 :: a5 :: a6 :: a7 :: a8 :: a9 :: a10 :: a11 :: a12 :: some (vi x) :: t) 0 13 (vi x)).mpr ⟨Nat.zero_le _, rfl⟩)
  refine lv_iinc C.1 C.2.1 d hl (k := kk) hk (Int32.ofInt_add ..).symm hn rfl (fun ls' hl' => k r hr H locs ls' hP hS ?_)
  refine Lh.st1 hl' rfl ?_ ?_
  · intro j hj
    match j, hj with
    | 0, _ => rfl
    | 1, _ => rfl
    | 2, _ => rfl
    | 3, _ => rfl
    | 4, _ => rfl
    | 5, _ => rfl
    | 6, _ => rfl
    | 7, _ => rfl
    | 8, _ => rfl
    | 9, _ => rfl
    | 10, _ => rfl
    | 11, _ => rfl
    | 12, _ => rfl
    | 13, hj => exact absurd rfl hj
    | j + 14, _ => rfl
  · exact (by
    intro j hj w hw
    obtain rfl : j = 12 := by omega
    have e : a12 = some w := by simpa using hw
    rw [e] at hc
    simpa [c1] using hc)
theorem z_iload_14 (C : Cx E l G own cc nL h) {a0 a1 a2 a3 a4 a5 a6 a7 a8 a9 a10 a11 a12 a13 : Option Value} {t : Lv} {x : Int} (d : Dc cc pc (.iload 14) 2 pc') (k : Z E G nL mem pc' (a0 :: a1 :: a2 :: a3 :: a4 :: a5 :: a6 :: a7 :: a8 :: a9 :: a10 :: a11 :: a12 :: a13 :: some (vi x) :: t) (vi x :: sk) o) : Z E G nL mem pc (a0 :: a1 :: a2 :: a3 :: a4 :: a5 :: a6 :: a7 :: a8 :: a9 :: a10 :: a11 :: a12 :: a13 :: some (vi x) :: t) sk o := by
  intro r hr H locs ls hP hS hl
  obtain ⟨d, rfl⟩ := d
  exact lv_iload C.1 C.2.1 d (hl.get (i := 14) rfl) (k r hr H locs ls hP hS hl)
theorem z_lload_14 (C : Cx E l G own cc nL h) {a0 a1 a2 a3 a4 a5 a6 a7 a8 a9 a10 a11 a12 a13 : Option Value} {t : Lv} {x : Int} (d : Dc cc pc (.lload 14) 2 pc') (k : Z E G nL mem pc' (a0 :: a1 :: a2 :: a3 :: a4 :: a5 :: a6 :: a7 :: a8 :: a9 :: a10 :: a11 :: a12 :: a13 :: some (vl x) :: t) (vl x :: sk) o) : Z E G nL mem pc (a0 :: a1 :: a2 :: a3 :: a4 :: a5 :: a6 :: a7 :: a8 :: a9 :: a10 :: a11 :: a12 :: a13 :: some (vl x) :: t) sk o := by
  intro r hr H locs ls hP hS hl
  obtain ⟨d, rfl⟩ := d
  exact lv_lload C.1 C.2.1 d (hl.get (i := 14) rfl) (k r hr H locs ls hP hS hl)
theorem z_aload_14 (C : Cx E l G own cc nL h) {a0 a1 a2 a3 a4 a5 a6 a7 a8 a9 a10 a11 a12 a13 : Option Value} {t : Lv} {x : Nat} (d : Dc cc pc (.aload 14) 2 pc') (k : Z E G nL mem pc' (a0 :: a1 :: a2 :: a3 :: a4 :: a5 :: a6 :: a7 :: a8 :: a9 :: a10 :: a11 :: a12 :: a13 :: some (rf G x) :: t) (rf G x :: sk) o) : Z E G nL mem pc (a0 :: a1 :: a2 :: a3 :: a4 :: a5 :: a6 :: a7 :: a8 :: a9 :: a10 :: a11 :: a12 :: a13 :: some (rf G x) :: t) sk o := by
  intro r hr H locs ls hP hS hl
  obtain ⟨d, rfl⟩ := d
  exact lv_aload C.1 C.2.1 d (hl.get (i := 14) rfl) (k r hr H locs ls hP hS hl)
theorem z_aloadS_14 (C : Cx E l G own cc nL h) {a0 a1 a2 a3 a4 a5 a6 a7 a8 a9 a10 a11 a12 a13 : Option Value} {t : Lv} {x : Nat} (d : Dc cc pc (.aload 14) 2 pc') (k : Z E G nL mem pc' (a0 :: a1 :: a2 :: a3 :: a4 :: a5 :: a6 :: a7 :: a8 :: a9 :: a10 :: a11 :: a12 :: a13 :: some (rs G x) :: t) (rs G x :: sk) o) : Z E G nL mem pc (a0 :: a1 :: a2 :: a3 :: a4 :: a5 :: a6 :: a7 :: a8 :: a9 :: a10 :: a11 :: a12 :: a13 :: some (rs G x) :: t) sk o := by
  intro r hr H locs ls hP hS hl
  obtain ⟨d, rfl⟩ := d
  exact lv_aload C.1 C.2.1 d (hl.get (i := 14) rfl) (k r hr H locs ls hP hS hl)
theorem z_istore_14 (C : Cx E l G own cc nL h) {a0 a1 a2 a3 a4 a5 a6 a7 a8 a9 a10 a11 a12 a13 : Option Value} {u : Option Value} {t : Lv} {x : Int} (d : Dc cc pc (.istore 14) 2 pc') (hn : 14 < nL) (hc : c1 a13 = true) (k : Z E G nL mem pc' (a0 :: a1 :: a2 :: a3 :: a4 :: a5 :: a6 :: a7 :: a8 :: a9 :: a10 :: a11 :: a12 :: a13 :: some (vi x) :: t) sk o) : Z E G nL mem pc (a0 :: a1 :: a2 :: a3 :: a4 :: a5 :: a6 :: a7 :: a8 :: a9 :: a10 :: a11 :: a12 :: a13 :: u :: t) (vi x :: sk) o := by
  intro r hr H locs ls hP hS hl
  obtain ⟨d, rfl⟩ := d
  refine lv_istore C.1 C.2.1 d hl hn rfl (fun ls' hl' => k r hr H locs ls' hP hS ?_)
  refine Lh.st1 hl' rfl ?_ ?_
  · intro j hj
    match j, hj with
    | 0, _ => rfl
    | 1, _ => rfl
    | 2, _ => rfl
    | 3, _ => rfl
    | 4, _ => rfl
    | 5, _ => rfl
    | 6, _ => rfl
    | 7, _ => rfl
    | 8, _ => rfl
    | 9, _ => rfl
    | 10, _ => rfl
    | 11, _ => rfl
    | 12, _ => rfl
    | 13, _ => rfl
    | 14, hj => exact absurd rfl hj
    | j + 15, _ => rfl
  · exact (by
    intro j hj w hw
    obtain rfl : j = 13 := by omega
    have e : a13 = some w := by simpa using hw
    rw [e] at hc
    simpa [c1] using hc)
theorem z_astore_14 (C : Cx E l G own cc nL h) {a0 a1 a2 a3 a4 a5 a6 a7 a8 a9 a10 a11 a12 a13 : Option Value} {u : Option Value} {t : Lv} {x : Nat} (d : Dc cc pc (.astore 14) 2 pc') (hn : 14 < nL) (hc : c1 a13 = true) (k : Z E G nL mem pc' (a0 :: a1 :: a2 :: a3 :: a4 :: a5 :: a6 :: a7 :: a8 :: a9 :: a10 :: a11 :: a12 :: a13 :: some (rf G x) :: t) sk o) : Z E G nL mem pc (a0 :: a1 :: a2 :: a3 :: a4 :: a5 :: a6 :: a7 :: a8 :: a9 :: a10 :: a11 :: a12 :: a13 :: u :: t) (rf G x :: sk) o := by
  intro r hr H locs ls hP hS hl
  obtain ⟨d, rfl⟩ := d
  refine lv_astore C.1 C.2.1 d hl hn rfl (fun ls' hl' => k r hr H locs ls' hP hS ?_)
  refine Lh.st1 hl' rfl ?_ ?_
  · intro j hj
    match j, hj with
    | 0, _ => rfl
    | 1, _ => rfl
    | 2, _ => rfl
    | 3, _ => rfl
    | 4, _ => rfl
    | 5, _ => rfl
    | 6, _ => rfl
    | 7, _ => rfl
    | 8, _ => rfl
    | 9, _ => rfl
    | 10, _ => rfl
    | 11, _ => rfl
    | 12, _ => rfl
    | 13, _ => rfl
    | 14, hj => exact absurd rfl hj
    | j + 15, _ => rfl
  · exact (by
    intro j hj w hw
    obtain rfl : j = 13 := by omega
    have e : a13 = some w := by simpa using hw
    rw [e] at hc
    simpa [c1] using hc)
theorem z_lstore_14 (C : Cx E l G own cc nL h) {a0 a1 a2 a3 a4 a5 a6 a7 a8 a9 a10 a11 a12 a13 : Option Value} {u u2 : Option Value} {t : Lv} {x : Int} (d : Dc cc pc (.lstore 14) 2 pc') (hn : 15 < nL) (hc : c1 a13 = true) (k : Z E G nL mem pc' (a0 :: a1 :: a2 :: a3 :: a4 :: a5 :: a6 :: a7 :: a8 :: a9 :: a10 :: a11 :: a12 :: a13 :: some (vl x) :: none :: t) sk o) : Z E G nL mem pc (a0 :: a1 :: a2 :: a3 :: a4 :: a5 :: a6 :: a7 :: a8 :: a9 :: a10 :: a11 :: a12 :: a13 :: u :: u2 :: t) (vl x :: sk) o := by
  intro r hr H locs ls hP hS hl
  obtain ⟨d, rfl⟩ := d
  refine lv_lstore C.1 C.2.1 d hl hn rfl (fun ls' hl' => k r hr H locs ls' hP hS ?_)
  refine Lh.st2 hl' rfl (fun w e => by cases e) ?_ ?_
  · intro j hj hj2
    match j, hj, hj2 with
    | 0, _, _ => rfl
    | 1, _, _ => rfl
    | 2, _, _ => rfl
    | 3, _, _ => rfl
    | 4, _, _ => rfl
    | 5, _, _ => rfl
    | 6, _, _ => rfl
    | 7, _, _ => rfl
    | 8, _, _ => rfl
    | 9, _, _ => rfl
    | 10, _, _ => rfl
    | 11, _, _ => rfl
    | 12, _, _ => rfl
    | 13, _, _ => rfl
    | 14, hj, _ => exact absurd rfl hj
    | 15, _, hj => exact absurd rfl hj
    | j + 16, _, _ => rfl
  · exact (by
    intro j hj w hw
    obtain rfl : j = 13 := by omega
    have e : a13 = some w := by simpa using hw
    rw [e] at hc
    simpa [c1] using hc)
theorem z_iinc_14 (C : Cx E l G own cc nL h) {a0 a1 a2 a3 a4 a5 a6 a7 a8 a9 a10 a11 a12 a13 : Option Value} {t : Lv} {x n : Int} (d : Dc cc pc (.iinc 14 n) 3 pc') (hn : 14 < nL) (hc : c1 a13 = true) (k : Z E G nL mem pc' (a0 :: a1 :: a2 :: a3 :: a4 :: a5 :: a6 :: a7 :: a8 :: a9 :: a10 :: a11 :: a12 :: a13 :: some (vi (x + n)) :: t) sk o) : Z E G nL mem pc (a0 :: a1 :: a2 :: a3 :: a4 :: a5 :: a6 :: a7 :: a8 :: a9 :: a10 :: a11 :: a12 :: a13 :: some (vi x) :: t) sk o := by
  intro r hr H locs ls hP hS hl
  obtain ⟨d, rfl⟩ := d
  obtain ⟨kk, hk⟩ := List.getElem?_of_mem ((toA_mem (a0 :: a1 :: a2 :: a3 :: a4 :: a5 :: a6 :: a7 :: a8 :: a9 :: a10 :: a11 :: a12 :: a13 :: some (vi x) :: t) 0 14 (vi x)).mpr ⟨Nat.zero_le _, rfl⟩)
  refine lv_iinc C.1 C.2.1 d hl (k := kk) hk (Int32.ofInt_add ..).symm hn rfl (fun ls' hl' => k r hr H locs ls' hP hS ?_)
  refine Lh.st1 hl' rfl ?_ ?_
  · intro j hj
    match j, hj with
    | 0, _ => rfl
    | 1, _ => rfl
    | 2, _ => rfl
    | 3, _ => rfl
    | 4, _ => rfl
    | 5, _ => rfl
    | 6, _ => rfl
    | 7, _ => rfl
    | 8, _ => rfl
    | 9, _ => rfl
    | 10, _ => rfl
    | 11, _ => rfl
    | 12, _ => rfl
    | 13, _ => rfl
    | 14, hj => exact absurd rfl hj
    | j + 15, _ => rfl
  · exact (by
    intro j hj w hw
    obtain rfl : j = 13 := by omega
    have e : a13 = some w := by simpa using hw
    rw [e] at hc
    simpa [c1] using hc)
theorem z_iload_15 (C : Cx E l G own cc nL h) {a0 a1 a2 a3 a4 a5 a6 a7 a8 a9 a10 a11 a12 a13 a14 : Option Value} {t : Lv} {x : Int} (d : Dc cc pc (.iload 15) 2 pc') (k : Z E G nL mem pc' (a0 :: a1 :: a2 :: a3 :: a4 :: a5 :: a6 :: a7 :: a8 :: a9 :: a10 :: a11 :: a12 :: a13 :: a14 :: some (vi x) :: t) (vi x :: sk) o) : Z E G nL mem pc (a0 :: a1 :: a2 :: a3 :: a4 :: a5 :: a6 :: a7 :: a8 :: a9 :: a10 :: a11 :: a12 :: a13 :: a14 :: some (vi x) :: t) sk o := by
  intro r hr H locs ls hP hS hl
  obtain ⟨d, rfl⟩ := d
  exact lv_iload C.1 C.2.1 d (hl.get (i := 15) rfl) (k r hr H locs ls hP hS hl)
theorem z_lload_15 (C : Cx E l G own cc nL h) {a0 a1 a2 a3 a4 a5 a6 a7 a8 a9 a10 a11 a12 a13 a14 : Option Value} {t : Lv} {x : Int} (d : Dc cc pc (.lload 15) 2 pc') (k : Z E G nL mem pc' (a0 :: a1 :: a2 :: a3 :: a4 :: a5 :: a6 :: a7 :: a8 :: a9 :: a10 :: a11 :: a12 :: a13 :: a14 :: some (vl x) :: t) (vl x :: sk) o) : Z E G nL mem pc (a0 :: a1 :: a2 :: a3 :: a4 :: a5 :: a6 :: a7 :: a8 :: a9 :: a10 :: a11 :: a12 :: a13 :: a14 :: some (vl x) :: t) sk o := by
  intro r hr H locs ls hP hS hl
  obtain ⟨d, rfl⟩ := d
  exact lv_lload C.1 C.2.1 d (hl.get (i := 15) rfl) (k r hr H locs ls hP hS hl)
theorem z_aload_15 (C : Cx E l G own cc nL h) {a0 a1 a2 a3 a4 a5 a6 a7 a8 a9 a10 a11 a12 a13 a14 : Option Value} {t : Lv} {x : Nat} (d : Dc cc pc (.aload 15) 2 pc') (k : Z E G nL mem pc' (a0 :: a1 :: a2 :: a3 :: a4 :: a5 :: a6 :: a7 :: a8 :: a9 :: a10 :: a11 :: a12 :: a13 :: a14 :: some (rf G x) :: t) (rf G x :: sk) o) : Z E G nL mem pc (a0 :: a1 :: a2 :: a3 :: a4 :: a5 :: a6 :: a7 :: a8 :: a9 :: a10 :: a11 :: a12 :: a13 :: a14 :: some (rf G x) :: t) sk o := by
  intro r hr H locs ls hP hS hl
  obtain ⟨d, rfl⟩ := d
  exact lv_aload C.1 C.2.1 d (hl.get (i := 15) rfl) (k r hr H locs ls hP hS hl)
theorem z_aloadS_15 (C : Cx E l G own cc nL h) {a0 a1 a2 a3 a4 a5 a6 a7 a8 a9 a10 a11 a12 a13 a14 : Option Value} {t : Lv} {x : Nat} (d : Dc cc pc (.aload 15) 2 pc') (k : Z E G nL mem pc' (a0 :: a1 :: a2 :: a3 :: a4 :: a5 :: a6 :: a7 :: a8 :: a9 :: a10 :: a11 :: a12 :: a13 :: a14 :: some (rs G x) :: t) (rs G x :: sk) o) : Z E G nL mem pc (a0 :: a1 :: a2 :: a3 :: a4 :: a5 :: a6 :: a7 :: a8 :: a9 :: a10 :: a11 :: a12 :: a13 :: a14 :: some (rs G x) :: t) sk o := by
  intro r hr H locs ls hP hS hl
  obtain ⟨d, rfl⟩ := d
  exact lv_aload C.1 C.2.1 d (hl.get (i := 15) rfl) (k r hr H locs ls hP hS hl)
theorem z_istore_15 (C : Cx E l G own cc nL h) {a0 a1 a2 a3 a4 a5 a6 a7 a8 a9 a10 a11 a12 a13 a14 : Option Value} {u : Option Value} {t : Lv} {x : Int} (d : Dc cc pc (.istore 15) 2 pc') (hn : 15 < nL) (hc : c1 a14 = true) (k : Z E G nL mem pc' (a0 :: a1 :: a2 :: a3 :: a4 :: a5 :: a6 :: a7 :: a8 :: a9 :: a10 :: a11 :: a12 :: a13 :: a14 :: some (vi x) :: t) sk o) : Z E G nL mem pc (a0 :: a1 :: a2 :: a3 :: a4 :: a5 :: a6 :: a7 :: a8 :: a9 :: a10 :: a11 :: a12 :: a13 :: a14 :: u :: t) (vi x :: sk) o := by
  intro r hr H locs ls hP hS hl
  obtain ⟨d, rfl⟩ := d
  refine lv_istore C.1 C.2.1 d hl hn rfl (fun ls' hl' => k r hr H locs ls' hP hS ?_)
  refine Lh.st1 hl' rfl ?_ ?_
  · intro j hj
    match j, hj with
    | 0, _ => rfl
    | 1, _ => rfl
    | 2, _ => rfl
    | 3, _ => rfl
    | 4, _ => rfl
    | 5, _ => rfl
    | 6, _ => rfl
    | 7, _ => rfl
    | 8, _ => rfl
    | 9, _ => rfl
    | 10, _ => rfl
    | 11, _ => rfl
    | 12, _ => rfl
    | 13, _ => rfl
    | 14, _ => rfl
    | 15, hj => exact absurd rfl hj
    | j + 16, _ => rfl
  · exact (by
    intro j hj w hw
    obtain rfl : j = 14 := by omega
    have e : a14 = some w := by simpa using hw
    rw [e] at hc
    simpa [c1] using hc)
theorem z_astore_15 (C : Cx E l G own cc nL h) {a0 a1 a2 a3 a4 a5 a6 a7 a8 a9 a10 a11 a12 a13 a14 : Option Value} {u : Option Value} {t : Lv} {x : Nat} (d : Dc cc pc (.astore 15) 2 pc') (hn : 15 < nL) (hc : c1 a14 = true) (k : Z E G nL mem pc' (a0 :: a1 :: a2 :: a3 :: a4 :: a5 :: a6 :: a7 :: a8 :: a9 :: a10 :: a11 :: a12 :: a13 :: a14 :: some (rf G x) :: t) sk o) : Z E G nL mem pc (a0 :: a1 :: a2 :: a3 :: a4 :: a5 :: a6 :: a7 :: a8 :: a9 :: a10 :: a11 :: a12 :: a13 :: a14 :: u :: t) (rf G x :: sk) o := by
  intro r hr H locs ls hP hS hl
  obtain ⟨d, rfl⟩ := d
  refine lv_astore C.1 C.2.1 d hl hn rfl (fun ls' hl' => k r hr H locs ls' hP hS ?_)
  refine Lh.st1 hl' rfl ?_ ?_
  · intro j hj
    match j, hj with
    | 0, _ => rfl
    | 1, _ => rfl
    | 2, _ => rfl
    | 3, _ => rfl
    | 4, _ => rfl
    | 5, _ => rfl
    | 6, _ => rfl
    | 7, _ => rfl
    | 8, _ => rfl
    | 9, _ => rfl
    | 10, _ => rfl
    | 11, _ => rfl
    | 12, _ => rfl
    | 13, _ => rfl
    | 14, _ => rfl
    | 15, hj => exact absurd rfl hj
    | j + 16, _ => rfl
  · exact (by
    intro j hj w hw
    obtain rfl : j = 14 := by omega
    have e : a14 = some w := by simpa using hw
    rw [e] at hc
    simpa [c1] using hc)
theorem z_lstore_15 (C : Cx E l G own cc nL h) {a0 a1 a2 a3 a4 a5 a6 a7 a8 a9 a10 a11 a12 a13 a14 : Option Value} {u u2 : Option Value} {t : Lv} {x : Int} (d : Dc cc pc (.lstore 15) 2 pc') (hn : 16 < nL) (hc : c1 a14 = true) (k : Z E G nL mem pc' (a0 :: a1 :: a2 :: a3 :: a4 :: a5 :: a6 :: a7 :: a8 :: a9 :: a10 :: a11 :: a12 :: a13 :: a14 :: some (vl x) :: none :: t) sk o) : Z E G nL mem pc (a0 :: a1 :: a2 :: a3 :: a4 :: a5 :: a6 :: a7 :: a8 :: a9 :: a10 :: a11 :: a12 :: a13 :: a14 :: u :: u2 :: t) (vl x :: sk) o := by
  intro r hr H locs ls hP hS hl
  obtain ⟨d, rfl⟩ := d
  refine lv_lstore C.1 C.2.1 d hl hn rfl (fun ls' hl' => k r hr H locs ls' hP hS ?_)
  refine Lh.st2 hl' rfl (fun w e => by cases e) ?_ ?_
  · intro j hj hj2
    match j, hj, hj2 with
    | 0, _, _ => rfl
    | 1, _, _ => rfl
    | 2, _, _ => rfl
    | 3, _, _ => rfl
    | 4, _, _ => rfl
    | 5, _, _ => rfl
    | 6, _, _ => rfl
    | 7, _, _ => rfl
    | 8, _, _ => rfl
    | 9, _, _ => rfl
    | 10, _, _ => rfl
    | 11, _, _ => rfl
    | 12, _, _ => rfl
    | 13, _, _ => rfl
    | 14, _, _ => rfl
    | 15, hj, _ => exact absurd rfl hj
    | 16, _, hj => exact absurd rfl hj
    | j + 17, _, _ => rfl
  · exact (by
    intro j hj w hw
    obtain rfl : j = 14 := by omega
    have e : a14 = some w := by simpa using hw
    rw [e] at hc
    simpa [c1] using hc)
theorem z_iinc_15 (C : Cx E l G own cc nL h) {a0 a1 a2 a3 a4 a5 a6 a7 a8 a9 a10 a11 a12 a13 a14 : Option Value} {t : Lv} {x n : Int} (d : Dc cc pc (.iinc 15 n) 3 pc') (hn : 15 < nL) (hc : c1 a14 = true) (k : Z E G nL mem pc' (a0 :: a1 :: a2 :: a3 :: a4 :: a5 :: a6 :: a7 :: a8 :: a9 :: a10 :: a11 :: a12 :: a13 :: a14 :: some (vi (x + n)) :: t) sk o) : Z E G nL mem pc (a0 :: a1 :: a2 :: a3 :: a4 :: a5 :: a6 :: a7 :: a8 :: a9 :: a10 :: a11 :: a12 :: a13 :: a14 :: some (vi x) :: t) sk o := by
  intro r hr H locs ls hP hS hl
  obtain ⟨d, rfl⟩ := d
  obtain ⟨kk, hk⟩ := List.getElem?_of_mem ((toA_mem (a0 :: a1 :: a2 :: a3 :: a4 :: a5 :: a6 :: a7 :: a8 :: a9 :: a10 :: a11 :: a12 :: a13 :: a14 :: some (vi x) :: t) 0 15 (vi x)).mpr ⟨Nat.zero_le _, rfl⟩)
  refine lv_iinc C.1 C.2.1 d hl (k := kk) hk (Int32.ofInt_add ..).symm hn rfl (fun ls' hl' => k r hr H locs ls' hP hS ?_)
  refine Lh.st1 hl' rfl ?_ ?_
  · intro j hj
    match j, hj with
    | 0, _ => rfl
    | 1, _ => rfl
    | 2, _ => rfl
    | 3, _ => rfl
    | 4, _ => rfl
    | 5, _ => rfl
    | 6, _ => rfl
    | 7, _ => rfl
    | 8, _ => rfl
    | 9, _ => rfl
    | 10, _ => rfl
    | 11, _ => rfl
    | 12, _ => rfl
    | 13, _ => rfl
    | 14, _ => rfl
    | 15, hj => exact absurd rfl hj
    | j + 16, _ => rfl
  · exact (by
    intro j hj w hw
    obtain rfl : j = 14 := by omega
    have e : a14 = some w := by simpa using hw
    rw [e] at hc
    simpa [c1] using hc)
theorem z_iload_16 (C : Cx E l G own cc nL h) {a0 a1 a2 a3 a4 a5 a6 a7 a8 a9 a10 a11 a12 a13 a14 a15 : Option Value} {t : Lv} {x : Int} (d : Dc cc pc (.iload 16) 2 pc') (k : Z E G nL mem pc' (a0 :: a1 :: a2 :: a3 :: a4 :: a5 :: a6 :: a7 :: a8 :: a9 :: a10 :: a11 :: a12 :: a13 :: a14 :: a15 :: some (vi x) :: t) (vi x :: sk) o) : Z E G nL mem pc (a0 :: a1 :: a2 :: a3 :: a4 :: a5 :: a6 :: a7 :: a8 :: a9 :: a10 :: a11 :: a12 :: a13 :: a14 :: a15 :: some (vi x) :: t) sk o := by
  intro r hr H locs ls hP hS hl
  obtain ⟨d, rfl⟩ := d
  exact lv_iload C.1 C.2.1 d (hl.get (i := 16) rfl) (k r hr H locs ls hP hS hl)
theorem z_lload_16 (C : Cx E l G own cc nL h) {a0 a1 a2 a3 a4 a5 a6 a7 a8 a9 a10 a11 a12 a13 a14 a15 : Option Value} {t : Lv} {x : Int} (d : Dc cc pc (.lload 16) 2 pc') (k : Z E G nL mem pc' (a0 :: a1 :: a2 :: a3 :: a4 :: a5 :: a6 :: a7 :: a8 :: a9 :: a10 :: a11 :: a12 :: a13 :: a14 :: a15 :: some (vl x) :: t) (vl x :: sk) o) : Z E G nL mem pc (a0 :: a1 :: a2 :: a3 :: a4 :: a5 :: a6 :: a7 :: a8 :: a9 :: a10 :: a11 :: a12 :: a13 :: a14 :: a15 :: some (vl x) :: t) sk o := by
  intro r hr H locs ls hP hS hl
  obtain ⟨d, rfl⟩ := d
  exact lv_lload C.1 C.2.1 d (hl.get (i := 16) rfl) (k r hr H locs ls hP hS hl)
theorem z_aload_16 (C : Cx E l G own cc nL h) {a0 a1 a2 a3 a4 a5 a6 a7 a8 a9 a10 a11 a12 a13 a14 a15 : Option Value} {t : Lv} {x : Nat} (d : Dc cc pc (.aload 16) 2 pc') (k : Z E G nL mem pc' (a0 :: a1 :: a2 :: a3 :: a4 :: a5 :: a6 :: a7 :: a8 :: a9 :: a10 :: a11 :: a12 :: a13 :: a14 :: a15 :: some (rf G x) :: t) (rf G x :: sk) o) : Z E G nL mem pc (a0 :: a1 :: a2 :: a3 :: a4 :: a5 :: a6 :: a7 :: a8 :: a9 :: a10 :: a11 :: a12 :: a13 :: a14 :: a15 :: some (rf G x) :: t) sk o := by
  intro r hr H locs ls hP hS hl
  obtain ⟨d, rfl⟩ := d
  exact lv_aload C.1 C.2.1 d (hl.get (i := 16) rfl) (k r hr H locs ls hP hS hl)
theorem z_aloadS_16 (C : Cx E l G own cc nL h) {a0 a1 a2 a3 a4 a5 a6 a7 a8 a9 a10 a11 a12 a13 a14 a15 : Option Value} {t : Lv} {x : Nat} (d : Dc cc pc (.aload 16) 2 pc') (k : Z E G nL mem pc' (a0 :: a1 :: a2 :: a3 :: a4 :: a5 :: a6 :: a7 :: a8 :: a9 :: a10 :: a11 :: a12 :: a13 :: a14 :: a15 :: some (rs G x) :: t) (rs G x :: sk) o) : Z E G nL mem pc (a0 :: a1 :: a2 :: a3 :: a4 :: a5 :: a6 :: a7 :: a8 :: a9 :: a10 :: a11 :: a12 :: a13 :: a14 :: a15 :: some (rs G x) :: t) sk o := by
  intro r hr H locs ls hP hS hl
  obtain ⟨d, rfl⟩ := d
  exact lv_aload C.1 C.2.1 d (hl.get (i := 16) rfl) (k r hr H locs ls hP hS hl)
theorem z_istore_16 (C : Cx E l G own cc nL h) {a0 a1 a2 a3 a4 a5 a6 a7 a8 a9 a10 a11 a12 a13 a14 a15 : Option Value} {u : Option Value} {t : Lv} {x : Int} (d : Dc cc pc (.istore 16) 2 pc') (hn : 16 < nL) (hc : c1 a15 = true) (k : Z E G nL mem pc' (a0 :: a1 :: a2 :: a3 :: a4 :: a5 :: a6 :: a7 :: a8 :: a9 :: a10 :: a11 :: a12 :: a13 :: a14 :: a15 :: some (vi x) :: t) sk o) : Z E G nL mem pc (a0 :: a1 :: a2 :: a3 :: a4 :: a5 :: a6 :: a7 :: a8 :: a9 :: a10 :: a11 :: a12 :: a13 :: a14 :: a15 :: u :: t) (vi x :: sk) o := by
  intro r hr H locs ls hP hS hl
  obtain ⟨d, rfl⟩ := d
  refine lv_istore C.1 C.2.1 d hl hn rfl (fun ls' hl' => k r hr H locs ls' hP hS ?_)
  refine Lh.st1 hl' rfl ?_ ?_
  · intro j hj
    match j, hj with
    | 0, _ => rfl
    | 1, _ => rfl
    | 2, _ => rfl
    | 3, _ => rfl
    | 4, _ => rfl
    | 5, _ => rfl
    | 6, _ => rfl
    | 7, _ => rfl
    | 8, _ => rfl
    | 9, _ => rfl
    | 10, _ => rfl
    | 11, _ => rfl
    | 12, _ => rfl
    | 13, _ => rfl
    | 14, _ => rfl
    | 15, _ => rfl
    | 16, hj => exact absurd rfl hj
    | j + 17, _ => rfl
  · exact (by
    intro j hj w hw
    obtain rfl : j = 15 := by omega
    have e : a15 = some w := by simpa using hw
    rw [e] at hc
    simpa [c1] using hc)
theorem z_astore_16 (C : Cx E l G own cc nL h) {a0 a1 a2 a3 a4 a5 a6 a7 a8 a9 a10 a11 a12 a13 a14 a15 : Option Value} {u : Option Value} {t : Lv} {x : Nat} (d : Dc cc pc (.astore 16) 2 pc') (hn : 16 < nL) (hc : c1 a15 = true) (k : Z E G nL mem pc' (a0 :: a1 :: a2 :: a3 :: a4 :: a5 :: a6 :: a7 :: a8 :: a9 :: a10 :: a11 :: a12 :: a13 :: a14 :: a15 :: some (rf G x) :: t) sk o) : Z E G nL mem pc (a0 :: a1 :: a2 :: a3 :: a4 :: a5 :: a6 :: a7 :: a8 :: a9 :: a10 :: a11 :: a12 :: a13 :: a14 :: a15 :: u :: t) (rf G x :: sk) o := by
  intro r hr H locs ls hP hS hl
  obtain ⟨d, rfl⟩ := d
  refine lv_astore C.1 C.2.1 d hl hn rfl (fun ls' hl' => k r hr H locs ls' hP hS ?_)
  refine Lh.st1 hl' rfl ?_ ?_
  · intro j hj
    match j, hj with
    | 0, _ => rfl
    | 1, _ => rfl
    | 2, _ => rfl
    | 3, _ => rfl
    | 4, _ => rfl
    | 5, _ => rfl
    | 6, _ => rfl
    | 7, _ => rfl
    | 8, _ => rfl
    | 9, _ => rfl
    | 10, _ => rfl
    | 11, _ => rfl
    | 12, _ => rfl
    | 13, _ => rfl
    | 14, _ => rfl
    | 15, _ => rfl
    | 16, hj => exact absurd rfl hj
    | j + 17, _ => rfl
  · exact (by
    intro j hj w hw
    obtain rfl : j = 15 := by omega
    have e : a15 = some w := by simpa using hw
    rw [e] at hc
    simpa [c1] using hc)
theorem z_lstore_16 (C : Cx E l G own cc nL h) {a0 a1 a2 a3 a4 a5 a6 a7 a8 a9 a10 a11 a12 a13 a14 a15 : Option Value} {u u2 : Option Value} {t : Lv} {x : Int} (d : Dc cc pc (.lstore 16) 2 pc') (hn : 17 < nL) (hc : c1 a15 = true) (k : Z E G nL mem pc' (a0 :: a1 :: a2 :: a3 :: a4 :: a5 :: a6 :: a7 :: a8 :: a9 :: a10 :: a11 :: a12 :: a13 :: a14 :: a15 :: some (vl x) :: none :: t) sk o) : Z E G nL mem pc (a0 :: a1 :: a2 :: a3 :: a4 :: a5 :: a6 :: a7 :: a8 :: a9 :: a10 :: a11 :: a12 :: a13 :: a14 :: a15 :: u :: u2 :: t) (vl x :: sk) o := by
  intro r hr H locs ls hP hS hl
  obtain ⟨d, rfl⟩ := d
  refine lv_lstore C.1 C.2.1 d hl hn rfl (fun ls' hl' => k r hr H locs ls' hP hS ?_)
  refine Lh.st2 hl' rfl (fun w e => by cases e) ?_ ?_
  · intro j hj hj2
    match j, hj, hj2 with
    | 0, _, _ => rfl
    | 1, _, _ => rfl
    | 2, _, _ => rfl
    | 3, _, _ => rfl
    | 4, _, _ => rfl
    | 5, _, _ => rfl
    | 6, _, _ => rfl
    | 7, _, _ => rfl
    | 8, _, _ => rfl
    | 9, _, _ => rfl
    | 10, _, _ => rfl
    | 11, _, _ => rfl
    | 12, _, _ => rfl
    | 13, _, _ => rfl
    | 14, _, _ => rfl
    | 15, _, _ => rfl
    | 16, hj, _ => exact absurd rfl hj
    | 17, _, hj => exact absurd rfl hj
    | j + 18, _, _ => rfl
  · exact (by
    intro j hj w hw
    obtain rfl : j = 15 := by omega
    have e : a15 = some w := by simpa using hw
    rw [e] at hc
    simpa [c1] using hc)
theorem z_iinc_16 (C : Cx E l G own cc nL h) {a0 a1 a2 a3 a4 a5 a6 a7 a8 a9 a10 a11 a12 a13 a14 a15 : Option Value} {t : Lv} {x n : Int} (d : Dc cc pc (.iinc 16 n) 3 pc') (hn : 16 < nL) (hc : c1 a15 = true) (k : Z E G nL mem pc' (a0 :: a1 :: a2 :: a3 :: a4 :: a5 :: a6 :: a7 :: a8 :: a9 :: a10 :: a11 :: a12 :: a13 :: a14 :: a15 :: some (vi (x + n)) :: t) sk o) : Z E G nL mem pc (a0 :: a1 :: a2 :: a3 :: a4 :: a5 :: a6 :: a7 :: a8 :: a9 :: a10 :: a11 :: a12 :: a13 :: a14 :: a15 :: some (vi x) :: t) sk o := by
  intro r hr H locs ls hP hS hl
  obtain ⟨d, rfl⟩ := d
  obtain ⟨kk, hk⟩ := List.getElem?_of_mem ((toA_mem (a0 :: a1 :: a2 :: a3 :: a4 :: a5 :: a6 :: a7 :: a8 :: a9 :: a10 :: a11 :: a12 :: a13 :: a14 :: a15 :: some (vi x) :: t) 0 16 (vi x)).mpr ⟨Nat.zero_le _, rfl⟩)
  refine lv_iinc C.1 C.2.1 d hl (k := kk) hk (Int32.ofInt_add ..).symm hn rfl (fun ls' hl' => k r hr H locs ls' hP hS ?_)
  refine Lh.st1 hl' rfl ?_ ?_
  · intro j hj
    match j, hj with
    | 0, _ => rfl
    | 1, _ => rfl
    | 2, _ => rfl
    | 3, _ => rfl
    | 4, _ => rfl
    | 5, _ => rfl
    | 6, _ => rfl
    | 7, _ => rfl
    | 8, _ => rfl
    | 9, _ => rfl
    | 10, _ => rfl
    | 11, _ => rfl
    | 12, _ => rfl
    | 13, _ => rfl
    | 14, _ => rfl
    | 15, _ => rfl
    | 16, hj => exact absurd rfl hj
    | j + 17, _ => rfl
  · exact (by
    intro j hj w hw
    obtain rfl : j = 15 := by omega
    have e : a15 = some w := by simpa using hw
    rw [e] at hc
    simpa [c1] using hc)
end Rows
