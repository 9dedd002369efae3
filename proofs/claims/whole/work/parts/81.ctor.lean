/-! makers: worlds that grow -/
def nestC : List (String × Nat × MethodName × String) := [("FairLines", 15, ⟨"FairLines$Trays", "<init>", "()V"⟩, "FairLines"), ("FairLines", 22, ⟨"FairLines$Tape", "<init>", "()V"⟩, "FairLines"), ("FairLines", 36, ⟨"FairLines$Way", "<init>", "()V"⟩, "FairLines"), ("FairLines$WayReader", 11, ⟨"FairLines$Way", "<init>", "()V"⟩, "FairLines"), ("FairLines", 59, ⟨"FairLines$Rounds", "<init>", "()V"⟩, "FairLines"), ("FairLines", 66, ⟨"FairLines$Lath", "<init>", "()V"⟩, "FairLines"), ("FairLines", 73, ⟨"FairLines$Mender", "<init>", "()V"⟩, "FairLines"), ("FairLines", 80, ⟨"FairLines$Runner", "<init>", "()V"⟩, "FairLines"), ("FairLines", 87, ⟨"FairLines$Yard", "<init>", "()V"⟩, "FairLines")]
def NST (U : State) : Prop := (∀ (i : Nat) (q : String × Nat × MethodName × String), nestC[i]? = some q → va_Nw (.methodLinkNest q.1 q.2.1 q.2.2.1 q.2.2.2) U) ∧ va_AO RX5 U ∧ va_AO RX8 U
def RMc (h k n : Nat) : Room := { frames := h, cells := k, slots := n, locals := 64 * h }
def PK (G : Gw) (ws : va_W) (sz : Nat) (U : State) : Prop := U.heap.size = sz ∧ va_P (gD G) vwCl ws U.heap ∧ va_D (fun _ => True) ws ∧ KG G (va_A ws sz) U ∧ NST U
def QK (G : Gw) (ws : va_W) (sz : Nat) (Post : va_W → Prop) : Array Value → State → Outcome → State → Prop := fun _ s0 oc t => oc = .returned none ∧ (∃ w1, Post w1 ∧ va_P (gD G) vwCl w1 t.heap ∧ va_D (va_A ws sz) w1) ∧ va_F (va_A ws sz) s0 t
/-- a maker's contract -/
def KT (l : Launch) (G : Gw) (y : MethodName) (cc : ByteArray) (maxL h k n : Nat) (vs : List Value) (ws : va_W) (Post : va_W → Prop) : Prop :=
  ∀ sz, Met l y (.code y cc maxL none :: wt) (RMc h k n) (va_Pc vs (PK G ws sz)) (QK G ws sz Post) k n (va_A ws sz)
theorem blindK {G : Gw} {ws : va_W} {sz : Nat} {vs : List Value} : FrameBlind (va_Pc vs (PK G ws sz)) := by
  intro a U g mk q
  obtain ⟨q0, q1, q2, q3, ⟨k1, k2, k3, k4, k6, k5, k7⟩, n1, n2, n3⟩ := q
  have hv : (U.calling g mk a).vm = U.vm := rfl
  have hal : U.vm.Alike (U.calling g mk a).vm := Vm.Alike.refl U.vm
  exact ⟨q0, q1, q2, q3, ⟨va_K.moved hal k1, fun i q h => (k2 i q h).same hv, k3.moved hal, k4.moved hal, fun i q h => (k6 i q h).same rfl hv.symm, k5.moved hal, k7⟩, fun i q h => (n1 i q h).same rfl hv.symm, n2.moved hal, n3.moved hal⟩
theorem nd_of : ∀ l : List Nat, l.Nodup → va_nd l = true
  | [], _ => rfl
  | a :: l, h => by
    have h2 := List.nodup_cons.mp h
    unfold va_nd
    rw [nd_of l h2.2]
    simp [h2.1]
theorem joinA {A0 : Nat → Prop} {D : va_G} {cl : List vw_C} {wr wc w1 : va_W} {H H1 : Heap} (hP : va_P D cl (wr ++ wc) H) (hD : va_D A0 (wr ++ wc)) (hk : ∀ q : Nat, q < H.size → ¬ va_A wc H.size q → H1[q]? = H[q]?) (hF : ∀ q, va_A wc H.size q → A0 q) (hP1 : va_P D cl w1 H1) (hD1 : va_D (va_A wc H.size) w1) : va_P D cl (wr ++ w1) H1 ∧ va_D A0 (wr ++ w1) := by
  have e1 : ((List.range wc.length).map (fun i => wr.length + i)).map (fun i => (wr ++ wc)[i]?) = wc.map some := by
    apply List.ext_getElem?
    intro i
    simp only [List.getElem?_map]
    by_cases h : i < wc.length
    · rw [List.getElem?_range h]
      simp [h]
    · have h2 : wc.length ≤ i := by omega
      simp [h2]
  have e2 : (List.range wr.length).map (fun i => (wr ++ wc)[i]?) = wr.map some := by
    apply List.ext_getElem?
    intro i
    simp only [List.getElem?_map]
    by_cases h : i < wr.length
    · rw [List.getElem?_range h]
      simp [h, List.getElem?_append_left h]
    · have h2 : wr.length ≤ i := by omega
      simp [h2]
  refine va_join (wc := wc) (wr := wr) hP hD _ _ e1 e2 ?_ ?_ hk hF hP1 hD1
  · exact nd_of _ List.nodup_range
  · intro i hi hc
    have h1 := List.mem_range.mp hi
    obtain ⟨j, hj, e⟩ := List.mem_map.mp hc
    omega

/-- the walk of a maker: the world is a list -/
def Y (E : Ev Unit) (G : Gw) (nL : Nat) (ws : va_W) (k n pc : Nat) (lv : Lv) (sk : List Value) : Prop :=
  ∀ (H : Heap) (locs : List Loc) (ls : Array Slot), va_P (gD G) vwCl ws H → va_D E.2.1 ws → va_S E.2.1 E.2.2.1 H locs → Lh ls nL lv → W (mP E.1) (mL E.1) (mE E.1) (mR E.1) (mS E.1) (mM E.1) (mA E.1) (mB E.1) (mT E.1) (mC E.1) H locs k n (E.2.2.2 ()) (F0 (mM E.1) pc ls sk)
def Cy (E : Ev Unit) (l : Launch) (G : Gw) (own : String) (cc : ByteArray) (nL h rk rn : Nat) : Prop :=
  (mP E.1).tables.exec = Jvm.exec ∧ (mC E.1).code = cc ∧ (mC E.1).maxLocals = nL ∧ (mS E.1).vm.findClass own = some (mM E.1).cls ∧ (∀ w ∈ wt, w.before (mA E.1) (mS E.1) = true) ∧ KG G E.2.1 (mS E.1) ∧ E.2.2.1 = (mS E.1).heap ∧ (∀ q, (mS E.1).heap.size ≤ q → E.2.1 q) ∧ (h ≤ (mR E.1).frames ∧ 64 * h ≤ (mR E.1).locals ∧ rk ≤ (mR E.1).cells ∧ rn ≤ (mR E.1).slots) ∧ mL E.1 = l ∧ (own ≠ R_law → (mT E.1).name = "<init>") ∧ NST (mS E.1)
section Yrows
variable {E : Ev Unit} {l : Launch} {G : Gw} {own : String} {cc : ByteArray} {nL h rk rn : Nat} {ws wr : va_W} {k n pc pc' : Nat} {lv : Lv} {sk : List Value}
theorem y_ald0 (C : Cy E l G own cc nL h rk rn) {x : Nat} {t : Lv} (d : Dc cc pc (.aload_n 0) 1 pc') (kk : Y E G nL ws k n pc' (some (.ref x) :: t) (.ref x :: sk)) : Y E G nL ws k n pc (some (.ref x) :: t) sk := by
  intro H locs ls hP hD hS hl
  obtain ⟨d, rfl⟩ := d
  exact lv_aload_n C.1 C.2.1 d rfl (hl.get (i := 0) rfl) (kk H locs ls hP hD hS hl)
theorem y_ald1 (C : Cy E l G own cc nL h rk rn) {a : Option Value} {x : Nat} {t : Lv} (d : Dc cc pc (.aload_n 1) 1 pc') (kk : Y E G nL ws k n pc' (a :: some (.ref x) :: t) (.ref x :: sk)) : Y E G nL ws k n pc (a :: some (.ref x) :: t) sk := by
  intro H locs ls hP hD hS hl
  obtain ⟨d, rfl⟩ := d
  exact lv_aload_n C.1 C.2.1 d rfl (hl.get (i := 1) rfl) (kk H locs ls hP hD hS hl)
theorem y_iconst (C : Cy E l G own cc nL h rk rn) {x : Int} (d : Dc cc pc (.iconst x) 1 pc') (kk : Y E G nL ws k n pc' lv (vi x :: sk)) : Y E G nL ws k n pc lv sk := by
  intro H locs ls hP hD hS hl
  obtain ⟨d, rfl⟩ := d
  exact lv_iconst C.1 C.2.1 d rfl (kk H locs ls hP hD hS hl)
theorem y_bipush (C : Cy E l G own cc nL h rk rn) {x : Int} (d : Dc cc pc (.bipush x) 2 pc') (hv : (Int8.ofInt x).toInt32 = Int32.ofInt x) (kk : Y E G nL ws k n pc' lv (vi x :: sk)) : Y E G nL ws k n pc lv sk := by
  intro H locs ls hP hD hS hl
  obtain ⟨d, rfl⟩ := d
  exact lv_bipush C.1 C.2.1 d hv (kk H locs ls hP hD hS hl)
theorem y_sipush (C : Cy E l G own cc nL h rk rn) {x : Int} (d : Dc cc pc (.sipush x) 3 pc') (hv : (Int16.ofInt x).toInt32 = Int32.ofInt x) (kk : Y E G nL ws k n pc' lv (vi x :: sk)) : Y E G nL ws k n pc lv sk := by
  intro H locs ls hP hD hS hl
  obtain ⟨d, rfl⟩ := d
  exact lv_sipush C.1 C.2.1 d hv (kk H locs ls hP hD hS hl)
theorem y_lconst (C : Cy E l G own cc nL h rk rn) {i : Fin 2} {x : Int} (d : Dc cc pc (.lconst i) 1 pc') (hv : Int64.ofNat (i : Nat) = Int64.ofInt x) (kk : Y E G nL ws k n pc' lv (vl x :: sk)) : Y E G nL ws k n pc lv sk := by
  intro H locs ls hP hD hS hl
  obtain ⟨d, rfl⟩ := d
  exact lv_lconst C.1 C.2.1 d hv (kk H locs ls hP hD hS hl)
theorem y_dup (C : Cy E l G own cc nL h rk rn) {v : Value} (d : Dc cc pc .dup 1 pc') (hc : v.category = 1) (kk : Y E G nL ws k n pc' lv (v :: v :: sk)) : Y E G nL ws k n pc lv (v :: sk) := by
  intro H locs ls hP hD hS hl
  obtain ⟨d, rfl⟩ := d
  exact lv_dup C.1 C.2.1 d hc (kk H locs ls hP hD hS hl)
theorem y_obj (C : Cy E l G own cc nL h rk rn) {ix a : Nat} (hw : Cond.methodLink own ix Lib.objectInit ∈ wt) (hi : Cond.instanceMethod Lib.objectInit ∈ wt) (hc : Cond.code Lib.objectInit ⟨#[0xb1]⟩ 1 none ∈ wt) (hh : 0 < h) (hsk : (sk.map fun v => v.category).sum ≤ 8) (d : Dc cc pc (.invokespecial ix) 3 pc') (kk : Y E G nL ws k n pc' lv sk) : Y E G nL ws k n pc lv (.ref a :: sk) := by
  intro H locs ls hP hD hS hl
  obtain ⟨d, rfl⟩ := d
  have hR := C.2.2.2.2.2.2.2.2.1
  refine W.objInit C.1 C.2.1 C.2.2.2.1 (C.2.2.2.2.1 _ hw) (C.2.2.2.2.1 _ hi) (C.2.2.2.2.1 _ hc) rfl (hl.1.trans C.2.2.1.symm) rfl d (by omega) ?_ (kk H locs ls hP hD hS hl)
  have := lv_room (m := mM E.1) (pc := pc) (ls := ls) (rest := .ref a :: sk) hsk
  omega
/-- a field of the first cell is written -/
theorem y_putH (C : Cy E l G own cc nL h rk rn) (ho : own ≠ R_law) {ci j ix h0 : Nat} {fs fs' : List Value} {v : Value} {t : FieldType} (d : Dc cc pc (.putfield ix) 3 pc') (f : FL own ix ci j) (cf : CF ci) (ft : ∃ (Cn : String) (T : u_T) (N : Nat), vwCl[ci]? = some (Cn, T, N) ∧ (T j).1 = own ∧ parseFieldDescriptor (T j).2.2.1 = some t) (hn : narrow t v = v) (hf : fits t v = true) (hl0 : j < fs.length) (he : fs.set j v = fs') (kk : Y E G nL ((h0, .inr (ci, fs')) :: wr) k n pc' lv sk) : Y E G nL ((h0, .inr (ci, fs)) :: wr) k n pc lv (v :: .ref h0 :: sk) := by
  intro H locs ls hP hD hS hl
  obtain ⟨d, rfl⟩ := d
  subst he
  obtain ⟨Cn, T, N, f1, f2, f3, f4, f5⟩ := f
  obtain ⟨C2, T2, N2, ty, g1, g2, g3⟩ := cf
  obtain ⟨C3, T3, N3, e1, e2, e3⟩ := ft
  have q1 := Option.some.inj (f1.symm.trans g1)
  have q2 := Option.some.inj (f1.symm.trans e1)
  obtain ⟨rfl, rfl, rfl⟩ : Cn = C2 ∧ T = T2 ∧ N = N2 := by simp only [Prod.mk.injEq] at q1; exact q1
  obtain ⟨rfl, rfl, rfl⟩ : Cn = C3 ∧ T = T3 ∧ N = N3 := by simp only [Prod.mk.injEq] at q2; exact q2
  by_cases hfin : (T j).2.2.2 = true
  · exact va_putF (T := T) (N := N) (C := Cn) (ref := Cn) C.1 C.2.1 C.2.2.2.2.1 f5 ty g2 g3 C.2.2.2.1 C.2.2.2.2.2.1.1 hP hD hS 0 rfl f1 j f2 (C.2.2.2.2.1 _ f4) (fun x h => by rw [f3] at h; exact h) hfin (C.2.2.2.2.2.2.2.2.2.2.1 ho) e2 e3 hn hf hl0 d (fun H1 locs1 hP1 hD1 hS1 => kk H1 locs1 ls hP1 hD1 hS1 hl)
  · have hfin : (T j).2.2.2 = false := by simpa using hfin
    exact va_put (T := T) (N := N) (C := Cn) (ref := Cn) C.1 C.2.1 C.2.2.2.2.1 f5 ty g2 g3 C.2.2.2.1 C.2.2.2.2.2.1.1 hP hD hS 0 rfl f1 j f2 (C.2.2.2.2.1 _ f4) (fun x h => by rw [f3] at h; exact h) hfin e3 hn hf hl0 d (fun H1 locs1 hP1 hD1 hS1 => kk H1 locs1 ls hP1 hD1 hS1 hl)
theorem y_getH (C : Cy E l G own cc nL h rk rn) {ci j ix h0 : Nat} {fs : List Value} {v : Value} (d : Dc cc pc (.getfield ix) 3 pc') (f : FL own ix ci j) (hv : fs[j]? = some v) (kk : Y E G nL ((h0, .inr (ci, fs)) :: wr) k n pc' lv (v :: sk)) : Y E G nL ((h0, .inr (ci, fs)) :: wr) k n pc lv (.ref h0 :: sk) := by
  intro H locs ls hP hD hS hl
  obtain ⟨d, rfl⟩ := d
  obtain ⟨Cn, T, N, f1, f2, f3, f4, f5⟩ := f
  exact va_get (T := T) (N := N) (C := Cn) (ref := Cn) C.1 C.2.1 C.2.2.2.2.1 f5 C.2.2.2.1 C.2.2.2.2.2.1.1 hP 0 rfl f1 j f2 (C.2.2.2.2.1 _ f4) (fun x h => by rw [f3] at h; exact h) hv d (kk H locs ls hP hD hS hl)
theorem y_new (C : Cy E l G own cc nL h rk rn) {ci ix N : Nat} {Cn : String} {T : u_T} {ty : Nat → FieldType} {fs : List Value} (d : Dc cc pc (.new ix) 3 pc') (hw : Cond.classLink own ix Cn ∈ wt) (hi : Cond.instantiable Cn N ∈ wt) (hin : Cond.initialized Cn ∈ wt) (hc : vwCl[ci]? = some (Cn, T, N)) (hls : ∀ w ∈ u_ws Cn T N, w ∈ wt) (hty : ∀ k, k < N → parseFieldDescriptor (T k).2.2.1 = some (ty k)) (hfs : ∀ j, j < N → defaultValue (ty j) = vp_V fs j) (h1 : k + 1 ≤ rk) (h2 : n + N ≤ rn) (kk : ∀ q, Y E G nL (ws ++ [(q, .inr (ci, fs))]) (k + 1) (n + N) pc' lv (.ref q :: sk)) : Y E G nL ws k n pc lv sk := by
  intro H locs ls hP hD hS hl
  obtain ⟨d, rfl⟩ := d
  have hR := C.2.2.2.2.2.2.2.2.1
  have hA : ∀ q, E.2.2.1.size ≤ q → E.2.1 q := by rw [C.2.2.2.2.2.2.1]; exact C.2.2.2.2.2.2.2.1
  exact va_new (T := T) (N := N) (C := Cn) C.1 C.2.1 C.2.2.2.2.1 hls ty hty C.2.2.2.1 (C.2.2.2.2.1 _ hw) (C.2.2.2.2.1 _ hi) (C.2.2.2.2.1 _ hin) C.2.2.2.2.2.1.1 hP hD hS hA hc hfs (by omega) (by omega) d (fun q H1 hP1 hD1 hS1 => kk q H1 locs ls hP1 hD1 hS1 hl)
theorem y_newa (C : Cy E l G own cc nL h rk rn) {at0 : ArrayType} {ty : FieldType} {t N : Nat} {x x' : Int} {a0 : vp_A} (d : Dc cc pc (.newarray at0) 2 pc') (hw : Cond.arrayClass ty ∈ wt) (hty : newarray.typeOf at0 = ty) (htt : (tysG G)[t]? = some (gTY G t, ty)) (hnr : ∀ Cn, ty ≠ .object Cn) (ha : ∀ cA : ClassId, vp_cell cA a0 = arrV cA N (fun _ => defaultValue ty)) (hx : w32 x = x') (hN : x' = (N : Int)) (hb : N * componentBytes ty ≤ 536870912) (h1 : k + 1 ≤ rk) (h2 : n + N ≤ rn) (kk : ∀ q, Y E G nL (ws ++ [(q, .inl (gTY G t, a0))]) (k + 1) (n + N) pc' lv (.ref q :: sk)) : Y E G nL ws k n pc lv (vi x :: sk) := by
  intro H locs ls hP hD hS hl
  obtain ⟨d, rfl⟩ := d
  have hR := C.2.2.2.2.2.2.2.2.1
  have hA : ∀ q, E.2.2.1.size ≤ q → E.2.1 q := by rw [C.2.2.2.2.2.2.1]; exact C.2.2.2.2.2.2.2.1
  have hK := C.2.2.2.2.2.1.1
  have h0 : ¬ Int32.ofInt x < 0 := fun q => by rw [z0lt, hx] at q; omega
  have en : (Int32.ofInt x).toNatClampNeg = N := by have := ix_nat hx (by omega); omega
  refine va_newa C.1 C.2.1 (by rw [hty]; exact C.2.2.2.2.1 _ hw) hty hK hP hD hS hA ha h0 en hb (by omega) (by omega) d (fun q cA H1 hK1 hP1 hD1 hS1 => ?_)
  have e : cA = gTY G t := by
    have r1 := (hK1.2 (tysG G).length (cA, ty) (by simp)).2
    have r2 := (hK.2 t _ htt).2
    have u : ∀ c : ClassId, va_RA (mS E.1) c ty → (mS E.1).vm.findClass ("[" ++ ty.toString) = some c := by
      intro c r
      cases ty with
      | object Cn => exact absurd rfl (hnr Cn)
      | _ => exact r
    exact Option.some.inj ((u _ r1).symm.trans (u _ r2))
  subst e
  exact kk q H1 locs ls hP1 hD1 hS1 hl
theorem y_newq (C : Cy E l G own cc nL h rk rn) {ix t N : Nat} {x x' : Int} {Cn : String} (d : Dc cc pc (.anewarray ix) 3 pc') (hw : Cond.classLink own ix Cn ∈ wt) (hao : va_AO Cn (mS E.1)) (htt : (tysG G)[t]? = some (gTY G t, .object Cn)) (hx : w32 x = x') (hN : x' = (N : Int)) (hb : N * 4 ≤ 536870912) (h1 : k + 1 ≤ rk) (h2 : n + N ≤ rn) (kk : ∀ q, Y E G nL (ws ++ [(q, .inl (gTY G t, N, .inr (.inr (.inr (.inr (fun _ => none))))))]) (k + 1) (n + N) pc' lv (.ref q :: sk)) : Y E G nL ws k n pc lv (vi x :: sk) := by
  intro H locs ls hP hD hS hl
  obtain ⟨d, rfl⟩ := d
  have hR := C.2.2.2.2.2.2.2.2.1
  have hA : ∀ q, E.2.2.1.size ≤ q → E.2.1 q := by rw [C.2.2.2.2.2.2.1]; exact C.2.2.2.2.2.2.2.1
  have hK := C.2.2.2.2.2.1.1
  have h0 : ¬ Int32.ofInt x < 0 := fun q => by rw [z0lt, hx] at q; omega
  have en : (Int32.ofInt x).toNatClampNeg = N := by have := ix_nat hx (by omega); omega
  refine va_newq C.1 C.2.1 C.2.2.2.1 (C.2.2.2.2.1 _ hw) hao hK hP hD hS hA h0 en hb (by omega) (by omega) d (fun q cA H1 hK1 hP1 hD1 hS1 => ?_)
  have e : cA = gTY G t := by
    obtain ⟨k1, c1, -, -, -, r1⟩ := (hK1.2 (tysG G).length (cA, .object Cn) (by simp)).2
    obtain ⟨k2, c2, -, -, -, r2⟩ := (hK.2 t _ htt).2
    exact Option.some.inj (r1.symm.trans r2)
  subst e
  exact kk q H1 locs ls hP1 hD1 hS1 hl
/-- the last cell, an int array, is written -/
theorem y_iastL (C : Cy E l G own cc nL h rk rn) {r N : Nat} {f f' : Nat → Int32} {x x' v : Int} (d : Dc cc pc .iastore 1 pc') (hx : w32 x = x') (h0 : 0 ≤ x') (h1 : x' < N) (hf : upd f x'.toNat (Int32.ofInt v) = f') (kk : Y E G nL (ws ++ [(r, .inl (gTY G 0, N, .inl f'))]) k n pc' lv sk) : Y E G nL (ws ++ [(r, .inl (gTY G 0, N, .inl f))]) k n pc lv (vi v :: vi x :: .ref r :: sk) := by
  intro H locs ls hP hD hS hl
  obtain ⟨d, rfl⟩ := d
  subst hf
  have en : (Int32.ofInt x).toNatClampNeg = x'.toNat := by have := ix_nat hx h0; omega
  refine va_iast C.1 C.2.1 C.2.2.2.2.2.1.1 hP hD hS ws.length 0 (f := f) (cA := gTY G 0) (n := N) (a := r) (by simp) rfl (ix_in hx h0 h1) d (fun H1 locs1 hP1 hD1 hS1 => kk H1 locs1 ls ?_ ?_ hS1 hl)
  · rw [en] at hP1; simpa [List.set_append] using hP1
  · rw [en] at hD1; simpa [List.set_append] using hD1
/-- a cell in the midst, an array of references, is written -/
theorem y_aast (C : Cy E l G own cc nL h rk rn) {r N t q ci : Nat} {vs : List Value} {f f' : Nat → Option Nat} {x x' : Int} {wb : va_W} {rc : vw_C} (d : Dc cc pc .aastore 1 pc') (htt : (tysG G)[t]? = some (gTY G t, .object rc.1)) (hc : vwCl[ci]? = some rc) (hq : (q, .inr (ci, vs)) ∈ ws ++ (r, .inl (gTY G t, N, .inr (.inr (.inr (.inr f))))) :: wb) (hx : w32 x = x') (h0 : 0 ≤ x') (h1 : x' < N) (hf : va_up f x'.toNat (some q) = f') (kk : Y E G nL (ws ++ (r, .inl (gTY G t, N, .inr (.inr (.inr (.inr f'))))) :: wb) k n pc' lv sk) : Y E G nL (ws ++ (r, .inl (gTY G t, N, .inr (.inr (.inr (.inr f))))) :: wb) k n pc lv (.ref q :: vi x :: .ref r :: sk) := by
  intro H locs ls hP hD hS hl
  obtain ⟨d, rfl⟩ := d
  subst hf
  have en : (Int32.ofInt x).toNatClampNeg = x'.toNat := by have := ix_nat hx h0; omega
  obtain ⟨jq, hjq⟩ := List.getElem?_of_mem hq
  refine va_astq C.1 C.2.1 C.2.2.2.2.2.1.1 hP hD hS ws.length t jq ci (f := f) (cA := gTY G t) (n := N) (a := r) (by simp) htt hjq hc (ix_in hx h0 h1) d (fun H1 locs1 hP1 hD1 hS1 => kk H1 locs1 ls ?_ ?_ hS1 hl)
  · rw [en] at hP1; simpa [List.set_append] using hP1
  · rw [en] at hD1; simpa [List.set_append] using hD1
theorem y_eq {ws' : va_W} (e : ws = ws') (kk : Y E G nL ws' k n pc lv sk) : Y E G nL ws k n pc lv sk := by rw [e]; exact kk
theorem y_wide {k' n' : Nat} (h1 : k ≤ k') (h2 : n ≤ n') (kk : Y E G nL ws k' n' pc lv sk) : Y E G nL ws k n pc lv sk := by
  intro H locs ls hP hD hS hl
  exact W.widen h1 h2 (kk H locs ls hP hD hS hl)
end Yrows
