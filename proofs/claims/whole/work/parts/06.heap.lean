/-! rows of the heap -/
def FL (own : String) (ix ci k : Nat) : Prop := ∃ (C : String) (T : u_T) (N : Nat), vwCl[ci]? = some (C, T, N) ∧ k < N ∧ (T k).1 = C ∧ Cond.fieldLink own ix C (T k).2.1 (T k).2.2.1 ∈ wt ∧ ∀ w ∈ u_ws C T N, w ∈ wt
/-- what the tables say of a class's fields, for writing one -/
def CF (ci : Nat) : Prop := ∃ (C : String) (T : u_T) (N : Nat) (ty : Nat → FieldType), vwCl[ci]? = some (C, T, N) ∧ (∀ k, k < N → parseFieldDescriptor (T k).2.2.1 = some (ty k)) ∧ ∀ a, a < N → ∀ b, b < N → a ≠ b → (T a).2.1 ≠ (T b).2.1
/-- a field that may be written, of a type -/
def FT (ci k : Nat) (t : FieldType) : Prop := ∃ (C : String) (T : u_T) (N : Nat), vwCl[ci]? = some (C, T, N) ∧ (T k).2.2.2 = false ∧ parseFieldDescriptor (T k).2.2.1 = some t
section Heap
variable {ρ : Type} {E : Ev ρ} {l : Launch} {G : Gw} {own : String} {cc : ByteArray} {nL h : Nat} {mem : Mem} {pc pc' : Nat} {lv : Lv} {sk : List Value} {o : Option ρ}
theorem z_getV (C : Cx E l G own cc nL h) {ci k ix c : Nat} {ks : List (Nat ⊕ Nat)} {kd : Nat ⊕ Nat} (d : Dc cc pc (.getfield ix) 3 pc') (f : FL own ix ci k) (hs : (gom G)[c]? = some (.inr (ci, ks))) (hk : ks[k]? = some kd) (kk : Z E G nL mem pc' lv (fldV (gad G) kd (mem c k) :: sk) o) : Z E G nL mem pc lv (rf G c :: sk) o := by
  intro r hr H locs ls hP hS hl
  obtain ⟨d, rfl⟩ := d
  obtain ⟨Cn, T, N, f1, f2, f3, f4, f5⟩ := f
  refine va_get (T := T) (N := N) (C := Cn) (ref := Cn) C.1 C.2.1 C.2.2.2.2.1 f5 C.2.2.2.1 C.2.2.2.2.2.1.1 hP c (wd_get hs) f1 k f2 (C.2.2.2.2.1 _ f4) (fun x h => by rw [f3] at h; exact h) (v := fldV (gad G) kd (mem c k)) ?_ d (kk r hr H locs ls hP hS hl)
  rw [List.getElem?_mapIdx, hk]; rfl
theorem z_getI (C : Cx E l G own cc nL h) {ci k ix c : Nat} {ki : Int} {ks : List (Nat ⊕ Nat)} (d : Dc cc pc (.getfield ix) 3 pc') (f : FL own ix ci k) (hs : (gom G)[c]? = some (.inr (ci, ks))) (hk : ks[k]? = some (.inr 0)) (hi : (k : Int) = ki) (kk : Z E G nL mem pc' lv (vi (mem c ki) :: sk) o) : Z E G nL mem pc lv (rf G c :: sk) o := by subst hi; exact z_getV C d f hs hk kk
theorem z_getL (C : Cx E l G own cc nL h) {ci k ix c : Nat} {ki : Int} {ks : List (Nat ⊕ Nat)} (d : Dc cc pc (.getfield ix) 3 pc') (f : FL own ix ci k) (hs : (gom G)[c]? = some (.inr (ci, ks))) (hk : ks[k]? = some (.inr 1)) (hi : (k : Int) = ki) (kk : Z E G nL mem pc' lv (vl (mem c ki) :: sk) o) : Z E G nL mem pc lv (rf G c :: sk) o := by subst hi; exact z_getV C d f hs hk kk
theorem z_getR (C : Cx E l G own cc nL h) {ci k ix c t : Nat} {ks : List (Nat ⊕ Nat)} (d : Dc cc pc (.getfield ix) 3 pc') (f : FL own ix ci k) (hs : (gom G)[c]? = some (.inr (ci, ks))) (hk : ks[k]? = some (.inl t)) (kk : Z E G nL mem pc' lv (rf G t :: sk) o) : Z E G nL mem pc lv (rf G c :: sk) o := z_getV C d f hs hk kk
theorem fld_set {ad : Nat → Nat} {ks : List (Nat ⊕ Nat)} {k : Nat} {kd : Nat ⊕ Nat} (row : Int → Int) (x : Int) (hk : ks[k]? = some kd) : (ks.mapIdx (fun j kd => fldV ad kd (row j))).set k (fldV ad kd x) = ks.mapIdx (fun j kd => fldV ad kd ((fun i : Int => if i = (k : Int) then x else row i) j)) := by
  apply List.ext_getElem?
  intro i
  rw [List.getElem?_set, List.getElem?_mapIdx, List.getElem?_mapIdx, List.length_mapIdx]
  by_cases hi : k = i
  · subst hi
    have hl : k < ks.length := (List.getElem?_eq_some_iff.mp hk).1
    rw [if_pos rfl, if_pos hl, hk]
    simp
  · rw [if_neg hi]
    have : ¬ (i : Int) = (k : Int) := fun e => hi (by omega)
    simp [this]
theorem z_putV (C : Cx E l G own cc nL h) {ci k ix c : Nat} {ks : List (Nat ⊕ Nat)} {kd : Nat ⊕ Nat} {t : FieldType} {x : Int} (d : Dc cc pc (.putfield ix) 3 pc') (f : FL own ix ci k) (cf : CF ci) (ft : FT ci k t) (hs : (gom G)[c]? = some (.inr (ci, ks))) (hk : ks[k]? = some kd) (hn : narrow t (fldV (gad G) kd x) = fldV (gad G) kd x) (hf : fits t (fldV (gad G) kd x) = true) (kk : Z E G nL (st mem c k x) pc' lv sk o) : Z E G nL mem pc lv (fldV (gad G) kd x :: rf G c :: sk) o := by
  intro r hr H locs ls hP hS hl
  obtain ⟨d, rfl⟩ := d
  obtain ⟨Cn, T, N, f1, f2, f3, f4, f5⟩ := f
  obtain ⟨C2, T2, N2, ty, g1, g2, g3⟩ := cf
  obtain ⟨C3, T3, N3, e1, e2, e3⟩ := ft
  have q1 := Option.some.inj (f1.symm.trans g1)
  have q2 := Option.some.inj (f1.symm.trans e1)
  obtain ⟨rfl, rfl, rfl⟩ : Cn = C2 ∧ T = T2 ∧ N = N2 := by
    simp only [Prod.mk.injEq] at q1; exact q1
  obtain ⟨rfl, rfl, rfl⟩ : Cn = C3 ∧ T = T3 ∧ N = N3 := by
    simp only [Prod.mk.injEq] at q2; exact q2
  refine va_put (T := T) (N := N) (C := Cn) (ref := Cn) (A := E.2.1) (H0 := E.2.2.1) C.1 C.2.1 C.2.2.2.2.1 f5 ty g2 g3 C.2.2.2.1 C.2.2.2.2.2.1.1 hP (apart_D C.2.2.2.2.2.2.2.1 mem) hS c (wd_get hs) f1 k f2 (C.2.2.2.2.1 _ f4) (fun x h => by rw [f3] at h; exact h) e2 (ty := t) (v := fldV (gad G) kd x) e3 hn hf ?_ d (fun H1 locs1 hP1 hD1 hS1 => ?_)
  · rw [List.length_mapIdx]; exact (List.getElem?_eq_some_iff.mp hk).1
  · refine kk r hr H1 locs1 ls ?_ hS1 hl
    rw [st_row, ← wd_set hs]
    rw [fld_set (mem c) x hk] at hP1
    exact hP1
theorem z_putI (C : Cx E l G own cc nL h) {ci k ix c : Nat} {ki : Int} {ks : List (Nat ⊕ Nat)} {x : Int} (d : Dc cc pc (.putfield ix) 3 pc') (f : FL own ix ci k) (cf : CF ci) (ft : FT ci k .int) (hs : (gom G)[c]? = some (.inr (ci, ks))) (hk : ks[k]? = some (.inr 0)) (hi : (k : Int) = ki) (kk : Z E G nL (st mem c ki x) pc' lv sk o) : Z E G nL mem pc lv (vi x :: rf G c :: sk) o := by subst hi; exact z_putV (kd := .inr 0) C d f cf ft hs hk rfl rfl kk
theorem z_putL (C : Cx E l G own cc nL h) {ci k ix c : Nat} {ki : Int} {ks : List (Nat ⊕ Nat)} {x : Int} (d : Dc cc pc (.putfield ix) 3 pc') (f : FL own ix ci k) (cf : CF ci) (ft : FT ci k .long) (hs : (gom G)[c]? = some (.inr (ci, ks))) (hk : ks[k]? = some (.inr 1)) (hi : (k : Int) = ki) (kk : Z E G nL (st mem c ki x) pc' lv sk o) : Z E G nL mem pc lv (vl x :: rf G c :: sk) o := by subst hi; exact z_putV (kd := .inr 1) C d f cf ft hs hk rfl rfl kk
theorem z_putZ (C : Cx E l G own cc nL h) {ci k ix c : Nat} {ki : Int} {ks : List (Nat ⊕ Nat)} {x : Int} (d : Dc cc pc (.putfield ix) 3 pc') (f : FL own ix ci k) (cf : CF ci) (ft : FT ci k .boolean) (hs : (gom G)[c]? = some (.inr (ci, ks))) (hk : ks[k]? = some (.inr 0)) (hb : x = 0 ∨ x = 1) (hi : (k : Int) = ki) (kk : Z E G nL (st mem c ki x) pc' lv sk o) : Z E G nL mem pc lv (vi x :: rf G c :: sk) o := by
  subst hi
  refine z_putV (kd := .inr 0) C d f cf ft hs hk ?_ ?_ kk <;> rcases hb with rfl | rfl <;> rfl
/-! arrays -/
theorem ix_in {x x' : Int} {n : Nat} (hx : w32 x = x') (h0 : 0 ≤ x') (h1 : x' < n) : vp_in (Int32.ofInt x) n := by
  rw [vp_in_iff, t32, hx]; exact ⟨h0, h1⟩
theorem ix_nat {x x' : Int} (hx : w32 x = x') (h0 : 0 ≤ x') : (((Int32.ofInt x).toNatClampNeg : Nat) : Int) = x' := by
  show (((Int32.ofInt x).toInt.toNat : Nat) : Int) = x'
  rw [t32, hx]; omega
theorem arr0 {ad : Nat → Nat} {rs : List Nat} {row : Int → Int} : arrV' ad 0 rs row = .inl (fun j => Int32.ofInt (row j)) := rfl
theorem arr1 {ad : Nat → Nat} {rs : List Nat} {row : Int → Int} : arrV' ad 1 rs row = .inr (.inl (fun j => Int64.ofInt (row j))) := rfl
theorem arr2 {ad : Nat → Nat} {rs : List Nat} {row : Int → Int} : arrV' ad 2 rs row = .inl (fun j => Int32.ofInt (row j)) := rfl
theorem z_iald (C : Cx E l G own cc nL h) {c n : Nat} {q : List Nat} {x x' : Int} (d : Dc cc pc .iaload 1 pc') (hs : (gom G)[c]? = some (.inl (0, n, q))) (hx : w32 x = x') {ni : Int} (hi : (n : Int) = ni) (h0 : 0 ≤ x') (h1 : x' < ni) (kk : Z E G nL mem pc' lv (vi (mem c x') :: sk) o) : Z E G nL mem pc lv (vi x :: rf G c :: sk) o := by
  subst hi
  intro r hr H locs ls hP hS hl
  obtain ⟨d, rfl⟩ := d
  have e := kk r hr H locs ls hP hS hl
  rw [← ix_nat hx h0] at e
  exact va_iald C.1 C.2.1 C.2.2.2.2.2.1.1 hP c 0 (wd_get hs) rfl (ix_in hx h0 h1) d e
theorem z_bald (C : Cx E l G own cc nL h) {c n : Nat} {q : List Nat} {x x' : Int} (d : Dc cc pc .baload 1 pc') (hs : (gom G)[c]? = some (.inl (2, n, q))) (hx : w32 x = x') {ni : Int} (hi : (n : Int) = ni) (h0 : 0 ≤ x') (h1 : x' < ni) (kk : Z E G nL mem pc' lv (vi (mem c x') :: sk) o) : Z E G nL mem pc lv (vi x :: rf G c :: sk) o := by
  subst hi
  intro r hr H locs ls hP hS hl
  obtain ⟨d, rfl⟩ := d
  have e := kk r hr H locs ls hP hS hl
  rw [← ix_nat hx h0] at e
  exact va_bald C.1 C.2.1 C.2.2.2.2.2.1.1 hP c 2 (wd_get hs) rfl (ix_in hx h0 h1) d e
theorem z_lald (C : Cx E l G own cc nL h) {c n : Nat} {q : List Nat} {x x' : Int} (d : Dc cc pc .laload 1 pc') (hs : (gom G)[c]? = some (.inl (1, n, q))) (hx : w32 x = x') {ni : Int} (hi : (n : Int) = ni) (h0 : 0 ≤ x') (h1 : x' < ni) (kk : Z E G nL mem pc' lv (vl (mem c x') :: sk) o) : Z E G nL mem pc lv (vi x :: rf G c :: sk) o := by
  subst hi
  intro r hr H locs ls hP hS hl
  obtain ⟨d, rfl⟩ := d
  have e := kk r hr H locs ls hP hS hl
  rw [← ix_nat hx h0] at e
  exact va_lald C.1 C.2.1 C.2.2.2.2.2.1.1 hP c 1 (wd_get hs) rfl (ix_in hx h0 h1) d e
theorem z_aald (C : Cx E l G own cc nL h) {c n t u : Nat} {q : List Nat} {Cn : String} {x x' : Int} (d : Dc cc pc .aaload 1 pc') (hs : (gom G)[c]? = some (.inl (t, n, q))) (ht : 3 ≤ t) (hty : (tysG G)[t]? = some (gTY G t, .object Cn)) (hx : w32 x = x') {ni : Int} (hi : (n : Int) = ni) (h0 : 0 ≤ x') (h1 : x' < ni) (hu : q[x'.toNat]? = some u) (kk : Z E G nL mem pc' lv (rf G u :: sk) o) : Z E G nL mem pc lv (vi x :: rf G c :: sk) o := by
  subst hi
  intro r hr H locs ls hP hS hl
  obtain ⟨d, rfl⟩ := d
  have e := kk r hr H locs ls hP hS hl
  have ea : cellE (gad G) (gTY G) (.inl (t, n, q)) (mem c) = .inl (gTY G t, n, .inr (.inr (.inr (.inr (fun j => q[j]?.map (gad G)))))) := by
    show (Sum.inl (gTY G t, n, arrV' (gad G) t q (mem c)) : va_E) = _
    unfold arrV'
    rw [if_neg (show ¬ t = 1 by omega), if_neg (show ¬ t ≤ 2 by omega)]
  have hw := wd_get (mem := mem) hs
  rw [ea] at hw
  refine va_aldq C.1 C.2.1 C.2.2.2.2.2.1.1 hP c t hw hty (ix_in hx h0 h1) d ?_
  have en : (Int32.ofInt x).toNatClampNeg = x'.toNat := by have := ix_nat hx h0; omega
  rw [en, hu]
  exact e
theorem upd_eq {row : Int → Int} {x x' v : Int} (hx : w32 x = x') (h0 : 0 ≤ x') : upd (fun (j : Nat) => Int32.ofInt (row j)) (Int32.ofInt x).toNatClampNeg (Int32.ofInt v) = fun (j : Nat) => Int32.ofInt ((fun i : Int => if i = x' then v else row i) (j : Int)) := by
  funext j
  have := ix_nat hx h0
  unfold upd
  by_cases e : j = (Int32.ofInt x).toNatClampNeg
  · have e2 : (j : Int) = x' := by rw [e]; exact this
    simp [e2]
    omega
  · have e2 : ¬ (j : Int) = x' := by rw [← this]; omega
    simp [e, e2]
theorem updL_eq {row : Int → Int} {x x' v : Int} (hx : w32 x = x') (h0 : 0 ≤ x') : vp_updL (fun (j : Nat) => Int64.ofInt (row j)) (Int32.ofInt x).toNatClampNeg (Int64.ofInt v) = fun (j : Nat) => Int64.ofInt ((fun i : Int => if i = x' then v else row i) (j : Int)) := by
  funext j
  have := ix_nat hx h0
  unfold vp_updL
  by_cases e : j = (Int32.ofInt x).toNatClampNeg
  · have e2 : (j : Int) = x' := by rw [e]; exact this
    simp [e2]
    omega
  · have e2 : ¬ (j : Int) = x' := by rw [← this]; omega
    simp [e, e2]
theorem z_iast (C : Cx E l G own cc nL h) {c n : Nat} {q : List Nat} {x x' v : Int} (d : Dc cc pc .iastore 1 pc') (hs : (gom G)[c]? = some (.inl (0, n, q))) (hx : w32 x = x') {ni : Int} (hi : (n : Int) = ni) (h0 : 0 ≤ x') (h1 : x' < ni) (kk : Z E G nL (st mem c x' v) pc' lv sk o) : Z E G nL mem pc lv (vi v :: vi x :: rf G c :: sk) o := by
  subst hi
  intro r hr H locs ls hP hS hl
  obtain ⟨d, rfl⟩ := d
  refine va_iast (A := E.2.1) (H0 := E.2.2.1) C.1 C.2.1 C.2.2.2.2.2.1.1 hP (apart_D C.2.2.2.2.2.2.2.1 mem) hS c 0 (wd_get hs) rfl (ix_in hx h0 h1) d (fun H1 locs1 hP1 hD1 hS1 => kk r hr H1 locs1 ls ?_ hS1 hl)
  rw [st_row, ← wd_set hs]
  rw [upd_eq hx h0] at hP1
  exact hP1
theorem z_last (C : Cx E l G own cc nL h) {c n : Nat} {q : List Nat} {x x' v : Int} (d : Dc cc pc .lastore 1 pc') (hs : (gom G)[c]? = some (.inl (1, n, q))) (hx : w32 x = x') {ni : Int} (hi : (n : Int) = ni) (h0 : 0 ≤ x') (h1 : x' < ni) (kk : Z E G nL (st mem c x' v) pc' lv sk o) : Z E G nL mem pc lv (vl v :: vi x :: rf G c :: sk) o := by
  subst hi
  intro r hr H locs ls hP hS hl
  obtain ⟨d, rfl⟩ := d
  refine va_last (A := E.2.1) (H0 := E.2.2.1) C.1 C.2.1 C.2.2.2.2.2.1.1 hP (apart_D C.2.2.2.2.2.2.2.1 mem) hS c 1 (wd_get hs) rfl (ix_in hx h0 h1) d (fun H1 locs1 hP1 hD1 hS1 => kk r hr H1 locs1 ls ?_ hS1 hl)
  rw [st_row, ← wd_set hs]
  rw [updL_eq hx h0] at hP1
  exact hP1
theorem nar8 (v : Int) : vp_nar .byte (Int32.ofInt v) = Int32.ofInt (w8 v) := by
  rw [vp_nar_byte]
  apply Int32.toInt_inj.mp
  rw [Int8.toInt_toInt32, Int32.toInt8_ofInt, Int8.toInt_ofInt, t32, w32_id] <;> unfold w8 <;> first | rfl | (have := Int.le_bmod (x := v) (m := 256) (by decide); omega) | (have := Int.bmod_lt (x := v) (m := 256) (by decide); omega)
theorem z_bast (C : Cx E l G own cc nL h) {c n : Nat} {q : List Nat} {x x' v : Int} (d : Dc cc pc .bastore 1 pc') (hs : (gom G)[c]? = some (.inl (2, n, q))) (hx : w32 x = x') {ni : Int} (hi : (n : Int) = ni) (h0 : 0 ≤ x') (h1 : x' < ni) (kk : Z E G nL (st mem c x' (w8 v)) pc' lv sk o) : Z E G nL mem pc lv (vi v :: vi x :: rf G c :: sk) o := by
  subst hi
  intro r hr H locs ls hP hS hl
  obtain ⟨d, rfl⟩ := d
  refine va_bast (A := E.2.1) (H0 := E.2.2.1) C.1 C.2.1 C.2.2.2.2.2.1.1 hP (apart_D C.2.2.2.2.2.2.2.1 mem) hS c 2 (wd_get hs) rfl (ix_in hx h0 h1) d (fun H1 locs1 hP1 hD1 hS1 => kk r hr H1 locs1 ls ?_ hS1 hl)
  rw [st_row, ← wd_set hs]
  rw [nar8, upd_eq hx h0] at hP1
  exact hP1
theorem z_alen (C : Cx E l G own cc nL h) {c t n : Nat} {q : List Nat} {ty : FieldType} (d : Dc cc pc .arraylength 1 pc') (hs : (gom G)[c]? = some (.inl (t, n, q))) (hty : (tysG G)[t]? = some (gTY G t, ty)) {ni : Int} (hi : (n : Int) = ni) (kk : Z E G nL mem pc' lv (vi ni :: sk) o) : Z E G nL mem pc lv (rf G c :: sk) o := by
  subst hi
  intro r hr H locs ls hP hS hl
  obtain ⟨d, rfl⟩ := d
  exact va_alen C.1 C.2.1 C.2.2.2.2.2.1.1 hP c t (wd_get hs) hty (v := Int32.ofInt (n : Int)) rfl d (kk r hr H locs ls hP hS hl)
theorem z_ifnull (C : Cx E l G own cc nL h) {c : Nat} {off : Int} (d : Dc cc pc (.ifnull off) 3 pc') (kk : Z E G nL mem pc' lv sk o) : Z E G nL mem pc lv (rf G c :: sk) o := by
  intro r hr H locs ls hP hS hl
  obtain ⟨d, rfl⟩ := d
  exact lv_ifnull C.1 C.2.1 d (kk r hr H locs ls hP hS hl)
/-! checked in o -/
theorem z_chk {c : Prop} [Decidable c] (k : c → Z E G nL mem pc lv sk o) : Z E G nL mem pc lv sk (if c then o else none) := by
  intro r hr
  by_cases e : c
  · rw [if_pos e] at hr; exact k e r hr
  · rw [if_neg e] at hr; cases hr
theorem z_ite {c : Prop} [Decidable c] {A B : Option ρ} (kt : c → Z E G nL mem pc lv sk A) (kf : ¬ c → Z E G nL mem pc lv sk B) : Z E G nL mem pc lv sk (if c then A else B) := by
  by_cases e : c
  · rw [if_pos e]; exact kt e
  · rw [if_neg e]; exact kf e
theorem z_iteS {c : Prop} [Decidable c] {X Y : ρ} (kt : c → Z E G nL mem pc lv sk (some X)) (kf : ¬ c → Z E G nL mem pc lv sk (some Y)) : Z E G nL mem pc lv sk (some (if c then X else Y)) := by
  by_cases e : c
  · rw [if_pos e]; exact kt e
  · rw [if_neg e]; exact kf e
theorem z_none : Z E G nL mem pc lv sk none := fun _ h => by cases h
theorem z_eqs {lv' : Lv} {sk' : List Value} (k : Z E G nL mem pc lv' sk' o) (h1 : lv = lv') (h2 : sk = sk') : Z E G nL mem pc lv sk o := by subst h1 h2; exact k
/-- fewer listed locals -/
def subl : Lv → Lv → Prop
  | _, [] => True
  | [], b :: u => b = none ∧ subl [] u
  | a :: t, b :: u => (b = none ∨ a = b) ∧ subl t u
theorem subl_get : ∀ (l l' : Lv), subl l l' → ∀ (i : Nat) (v : Value), l'[i]? = some (some v) → l[i]? = some (some v) := by
  intro l l'
  induction l' generalizing l with
  | nil => intro _ i v h; simp at h
  | cons b u ih =>
    intro h i v hv
    cases l with
    | nil =>
      obtain ⟨h1, h2⟩ := h
      cases i with
      | zero => rw [h1] at hv; simp at hv
      | succ i => have := ih [] h2 i v (by simpa using hv); simp at this
    | cons a t =>
      obtain ⟨h1, h2⟩ := h
      cases i with
      | zero =>
        rcases h1 with h1 | h1
        · rw [h1] at hv; simp at hv
        · rw [h1]; exact hv
      | succ i => simpa using ih t h2 i v (by simpa using hv)
theorem z_weak {lv' : Lv} (k : Z E G nL mem pc lv' sk o) (hs : subl lv lv') : Z E G nL mem pc lv sk o := by
  intro r hr H locs ls hP hS hl
  exact k r hr H locs ls hP hS ⟨hl.1, hl.2.1, fun q hq => hl.2.2 q (by
    obtain ⟨i, v⟩ := q
    have h1 := (toA_mem lv' 0 i v).mp hq
    exact (toA_mem lv 0 i v).mpr ⟨h1.1, subl_get _ _ hs _ _ h1.2⟩)⟩
/-- equal stacks, entry by entry -/
def eqsk : List Value → List Value → Prop
  | [], [] => True
  | a :: t, b :: u => a = b ∧ eqsk t u
  | _, _ => False
theorem eqsk_eq : ∀ (l l' : List Value), eqsk l l' → l = l' := by
  intro l
  induction l with
  | nil => intro l' h; cases l' with
    | nil => rfl
    | cons b u => exact absurd h (by simp [eqsk])
  | cons a t ih => intro l' h; cases l' with
    | nil => exact absurd h (by simp [eqsk])
    | cons b u => obtain ⟨h1, h2⟩ := h; rw [h1, ih u h2]
theorem z_meet {lv' : Lv} {sk' : List Value} (k : Z E G nL mem pc lv' sk' o) (hs : subl lv lv') (hk : eqsk sk sk') : Z E G nL mem pc lv sk o := by
  rw [eqsk_eq _ _ hk]; exact z_weak k hs
theorem z_fold {mem2 : Mem} {pc2 : Nat} {lv2 : Lv} {sk2 : List Value} (tree : Z E G nL mem2 pc2 lv2 sk2 o → Z E G nL mem pc lv sk o) (tail : Z E G nL mem2 pc2 lv2 sk2 o) : Z E G nL mem pc lv sk o := tree tail
/-- a name for a part of the answer's text -/
def ltM (e : Mem) (B : Mem → Option ρ) : Option ρ := B e
def ltI (e : Int) (B : Int → Option ρ) : Option ρ := B e
theorem z_ltM {e : Mem} {B : Mem → Option ρ} (k : ∀ m, Z E G nL m pc lv sk (B m)) : Z E G nL e pc lv sk (ltM e B) := k e
theorem z_ltI {e : Int} {B : Int → Option ρ} (k : ∀ v, Z E G nL mem pc lv (vi v :: sk) (B v)) : Z E G nL mem pc lv (vi e :: sk) (ltI e B) := k e
theorem z_ltL {e : Int} {B : Int → Option ρ} (k : ∀ v, Z E G nL mem pc lv (vl v :: sk) (B v)) : Z E G nL mem pc lv (vl e :: sk) (ltI e B) := k e
theorem w32_b {x : Int} (h : x = 0 ∨ x = 1) : w32 x = x := by rcases h with rfl | rfl <;> decide
theorem ite_b {c : Prop} [Decidable c] {x y : Int} (h1 : x = 0 ∨ x = 1) (h2 : y = 0 ∨ y = 1) : (if c then x else y) = 0 ∨ (if c then x else y) = 1 := by
  by_cases e : c
  · rw [if_pos e]; exact h1
  · rw [if_neg e]; exact h2
/-! switches -/
theorem z_tswIn (C : Cx E l G own cc nL h) {dflt lo hi off x : Int} {offs : Array Int} {n tgt : Nat} {x' : Int} (d : Dc cc pc (.tableswitch dflt lo hi offs) n pc') (hx : w32 x = x') (h1 : ¬ x' < lo) (h2 : ¬ hi < x') (ho : offs[(x' - lo).toNat]? = some off) (ht : (pc : Int) + off = (tgt : Int)) (k : Z E G nL mem tgt lv sk o) : Z E G nL mem pc lv (vi x :: sk) o := by
  intro r hr H locs ls hP hS hl
  obtain ⟨d, rfl⟩ := d
  have e : (Int32.ofInt x).toInt = x' := by rw [t32, hx]
  exact lv_tableIn C.1 C.2.1 d (by rw [e]; exact h1) (by rw [e]; exact h2) (by rw [e]; exact ho) ht (k r hr H locs ls hP hS hl)
theorem z_tswOut (C : Cx E l G own cc nL h) {dflt lo hi x : Int} {offs : Array Int} {n tgt : Nat} {x' : Int} (d : Dc cc pc (.tableswitch dflt lo hi offs) n pc') (hx : w32 x = x') (h1 : x' < lo ∨ hi < x') (ht : (pc : Int) + dflt = (tgt : Int)) (k : Z E G nL mem tgt lv sk o) : Z E G nL mem pc lv (vi x :: sk) o := by
  intro r hr H locs ls hP hS hl
  obtain ⟨d, rfl⟩ := d
  have e : (Int32.ofInt x).toInt = x' := by rw [t32, hx]
  exact lv_tableOut C.1 C.2.1 d (by rw [e]; exact h1) ht (k r hr H locs ls hP hS hl)
end Heap
