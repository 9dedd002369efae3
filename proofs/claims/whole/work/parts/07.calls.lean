/-! contracts, calls, ends -/
def RM (h : Nat) : Room := { frames := h, cells := 0, slots := 0, locals := 64 * h }
def Aw (G : Gw) : Nat → Prop := fun q => ∃ c, c < (gom G).length ∧ q = gad G c
def ApartP (G : Gw) : Prop := ∀ i j, i < (gom G).length → j < (gom G).length → gad G i = gad G j → i = j
def QC (G : Gw) (v : Option Value) (mem' : Mem) : Array Value → State → Outcome → State → Prop := fun _ s0 oc t => oc = .returned v ∧ va_P (gD G) vwCl (wd G mem') t.heap ∧ va_F (Aw G) s0 t
def PCt (G : Gw) (mem : Mem) (U : State) : Prop := va_P (gD G) vwCl (wd G mem) U.heap ∧ KG G (Aw G) U ∧ ApartP G
/-- a method's contract: called with vs over mem it gives v, and leaves mem' -/
def CT (l : Launch) (G : Gw) (y : MethodName) (cc : ByteArray) (maxL : Nat) (ret : Option FieldType) (h : Nat) (vs : List Value) (mem : Mem) (v : Option Value) (mem' : Mem) : Prop :=
  Met l y (.code y cc maxL ret :: wt) (RM h) (va_Pc vs (PCt G mem)) (QC G v mem') 0 0 (Aw G)
def MF (y : MethodName) (cc : ByteArray) (maxL : Nat) (ret : Option FieldType) (n : Nat) : Prop := Cond.code y cc maxL ret ∈ wt ∧ Cond.initialized y.cls ∈ wt ∧ (y.cls ≠ "java/lang/invoke/MethodHandle" ∧ y.cls ≠ "java/lang/invoke/VarHandle" ∧ (parseMethodDescriptor y.desc).map (fun d => d.parameters.length) = some n) ∧ plainFor y = true ∧ maxL ≤ 45
def MV (y : MethodName) : Prop := Cond.instanceMethod y ∈ wt ∧ Cond.selects y.cls y y ∈ wt
theorem tblgood : ∀ w ∈ wt, (w.onTables && w.keeps) = true ∨ ∃ ty, w = .arrayClass ty := fun w hw => good_of_word (List.mem_filter.mp hw).2
theorem goodC {y : MethodName} {cc : ByteArray} {maxL : Nat} {ret : Option FieldType} (h : Cond.code y cc maxL ret ∈ wt) : GoodIn wt (.code y cc maxL ret :: wt) := by
  intro w hw
  rcases List.mem_cons.mp hw with e | hw
  · subst e; exact ⟨h, tblgood _ h⟩
  · exact ⟨hw, tblgood _ hw⟩
theorem goodV {own : String} {ix n : Nat} {y : MethodName} {cc : ByteArray} {maxL : Nat} {ret : Option FieldType} (mf : MF y cc maxL ret n) (mv : MV y) (hl : Cond.methodLink own ix y ∈ wt) : GoodIn wt (wsV own ix y.cls y (.code y cc maxL ret :: wt)) := by
  intro w hw
  unfold wsV at hw
  rcases List.mem_append.mp hw with h | h
  · have : w ∈ wt := by
      simp only [List.mem_cons, List.not_mem_nil, or_false] at h
      rcases h with rfl | rfl | rfl | rfl
      · exact hl
      · exact mv.1
      · exact mv.2
      · exact mf.2.1
    exact ⟨this, tblgood _ this⟩
  · exact goodC mf.1 w h
theorem goodS {own : String} {ix n : Nat} {y : MethodName} {cc : ByteArray} {maxL : Nat} {ret : Option FieldType} (mf : MF y cc maxL ret n) (ms : Cond.static y ∈ wt) (hl : Cond.methodLink own ix y ∈ wt) : GoodIn wt (va_wsS own ix y (.code y cc maxL ret :: wt)) := by
  intro w hw
  unfold va_wsS at hw
  rcases List.mem_append.mp hw with h | h
  · have : w ∈ wt := by
      simp only [List.mem_cons, List.not_mem_nil, or_false] at h
      rcases h with rfl | rfl | rfl
      · exact hl
      · exact ms
      · exact mf.2.1
    exact ⟨this, tblgood _ this⟩
  · exact goodC mf.1 w h
theorem va_Z.kept' {C n d : String} {v : Value} {A : Nat → Prop} {U : State} {H H1 : Heap} (h : va_Z C n d v A U H) (hq : ∀ a : Nat, a < H.size → ¬ A a → H1[a]? = H[a]?) : va_Z C n d v A U H1 := h.kept hq
theorem KG.to {G : Gw} {A : Nat → Prop} {s U : State} {H : Heap} {locs : List Loc} (k : KG G A s) (hS : va_S A s.heap H locs) (hU : U.heap = H) (hW : s.WarmedH U.vm) (hA : ∀ q, Aw G q → A q) : KG G (Aw G) U := by
  obtain ⟨k1, k2, k3, k4, k6, k5, k7⟩ := k
  have hq : ∀ a : Nat, a < s.heap.size → ¬ A a → H[a]? = s.heap[a]? := fun a h1 h2 => hS.2.1 a h1 h2
  refine ⟨va_K.moved hW.alike k1, fun i q h => (k2 i q h).warm hW, ?_, ?_, fun i q h => (k6 i q h).warmM hW, ?_, k7⟩
  · rw [hU]; exact ((k3.kept hq).moved hW.alike).narrow hA
  · rw [hU]; exact ((k4.kept hq).moved hW.alike).narrow hA
  · rw [hU]; exact ((k5.kept hq).moved hW.alike).narrow hA
section Calls
variable {ρ : Type} {E : Ev ρ} {l : Launch} {G : Gw} {own : String} {cc : ByteArray} {nL h : Nat} {mem : Mem} {pc pc' : Nat} {lv : Lv} {sk : List Value} {o : Option ρ}
theorem Cx.aw (C : Cx E l G own cc nL h) : ∀ q, Aw G q → E.2.1 q := fun q ⟨c, hc, e⟩ => by rw [e]; exact C.2.2.2.2.2.2.2.1.2 c hc
theorem Cx.pre (C : Cx E l G own cc nL h) {H : Heap} {locs : List Loc} {vs : List Value} (hP : va_P (gD G) vwCl (wd G mem) H) (hS : va_S E.2.1 E.2.2.1 H locs) : ∀ U : State, U.heap = H → (mS E.1).WarmedH U.vm → va_Pc vs (PCt G mem) vs.toArray U := by
  intro U hU hW
  refine ⟨rfl, by rw [hU]; exact hP, ?_, C.2.2.2.2.2.2.2.1.1⟩
  have hS' := hS
  rw [C.2.2.2.2.2.2.1] at hS'
  exact KG.to C.2.2.2.2.2.1 hS' hU hW C.aw
theorem blind {vs : List Value} : FrameBlind (va_Pc vs (PCt G mem)) := by
  intro a U g mk q
  obtain ⟨q0, q1, ⟨k1, k2, k3, k4, k6, k5, k7⟩, q3⟩ := q
  have hv : (U.calling g mk a).vm = U.vm := rfl
  have hal : U.vm.Alike (U.calling g mk a).vm := Vm.Alike.refl U.vm
  refine ⟨q0, q1, ⟨va_K.moved hal k1, fun i q h => (k2 i q h).same hv, ?_, ?_, fun i q h => (k6 i q h).same rfl hv.symm, ?_, k7⟩, q3⟩
  · exact k3.moved hal
  · exact k4.moved hal
  · exact k5.moved hal
/-- behind a call -/
theorem after {v : Option Value} {mem' : Mem} {H : Heap} {locs : List Loc} {ls : Array Slot} {g0 : List Value} {r : ρ} {a : Array Value} (C : Cx E l G own cc nL h) (hr : va_Run (mP E.1) (mL E.1) (mE E.1) (mR E.1) (mS E.1) (mM E.1) (mA E.1) (mB E.1) (mT E.1) (mC E.1) H locs (mcl E.1) (msl E.1) 0 0 (F0 (mM E.1) pc ls g0) sk (QC G v mem' a) (Aw G)) (hS : va_S E.2.1 E.2.2.1 H locs) (hl : Lh ls nL lv) (ho : o = some r) (k : Z E G nL mem' (pc + 3) lv (v.toList ++ sk) o) : Wx E.1 H locs (E.2.2.2 r) (F0 (mM E.1) pc ls g0) := by
  intro T hT X
  obtain ⟨v1, st0, t, T', L, h0, X', hL, e1, e2, ⟨hv, hP1, hz, hk⟩, st1⟩ := hr T hT X
  cases hv
  rw [h0] at hz hk
  have hS1 : va_S E.2.1 E.2.2.1 T'.heap (locs ++ L) := by
    refine ⟨Nat.le_trans hS.1 (by rw [e1]; exact hz), fun q h1 h2 => ?_, fun q hq => ?_⟩
    · rw [e1, hk q (Nat.lt_of_lt_of_le h1 hS.1) (fun z => h2 (C.aw q z))]; exact hS.2.1 q h1 h2
    · rcases List.mem_append.mp hq with h | h
      · exact hS.2.2 q h
      · exact C.aw _ (hL q h)
  obtain ⟨t2, a1, b1⟩ := k r ho T'.heap (locs ++ L) ls (by rw [e1]; exact hP1) hS1 hl T' rfl X'
  exact ⟨t2, st1 t2 a1, b1⟩
theorem room (C : Cx E l G own cc nL h) {h' maxL : Nat} (hh : h' < h) (hm : maxL ≤ 45) : (RM h').frames + 1 ≤ (mR E.1).frames ∧ 8 + (maxL + 11) + (RM h').locals ≤ (mR E.1).locals := by
  have := C.2.2.2.2.2.2.2.2.1
  constructor
  · show h' + 1 ≤ _; omega
  · show 8 + (maxL + 11) + 64 * h' ≤ _; omega
theorem fix (C : Cx E l G own cc nL h) : CallFix (mP E.1) (mM E.1) (mC E.1) cc nL (mS E.1) (mA E.1) wt own := ⟨C.1, C.2.1, C.2.2.1, C.2.2.2.1, C.2.2.2.2.1⟩
theorem z_callV (C : Cx E l G own cc nL h) {y : MethodName} {bc : ByteArray} {maxL h' n c ci ix N : Nat} {ret : Option FieldType} {T : u_T} {ks : List (Nat ⊕ Nat)} {As sk0 : List Value} {v : Option Value} {mem' : Mem} (d : Dc cc pc (.invokevirtual ix) 3 pc') (mf : MF y bc maxL ret n) (mv : MV y) (ml : Cond.methodLink own ix y ∈ wt) (hs : (gom G)[c]? = some (.inr (ci, ks))) (hc : vwCl[ci]? = some (y.cls, T, N)) (hn : As.length = n) (hst : sk0 = As.reverse ++ rf G c :: sk) (hw : (sk.map fun v => v.category).sum ≤ 8) (hh : h' < h) (ct : CT l G y bc maxL ret h' (rf G c :: As) mem v mem') (k : Z E G nL mem' pc' lv (v.toList ++ sk) o) : Z E G nL mem pc lv sk0 o := by
  intro r hr H locs ls hP hS hl
  obtain ⟨d, rfl⟩ := d
  subst hst
  have hl0 := C.2.2.2.2.2.2.2.2.2
  have ct' : CT (mL E.1) G y bc maxL ret h' (rf G c :: As) mem v mem' := by rw [hl0]; exact ct
  have run := va_runV (H := H) (locs := locs) (cells := mcl E.1) (slots := msl E.1) (e := mE E.1) (below := mB E.1) (meth := mT E.1) (fix C) ct' (cwV n C.2.2.2.2.1 (goodV mf mv ml) rfl rfl rfl ⟨rfl, mf.2.2.1⟩ (room C hh mf.2.2.2.2)) ⟨blind, va_recv C.2.2.2.2.2.1.1 hP hc (wd_get hs), C.pre hP hS⟩ (g := F0 (mM E.1) pc ls (As.reverse ++ rf G c :: sk)) (rest := sk) rfl hn hl.1 rfl (lv_room hw) d ⟨C.2.2.2.2.2.2.2.2.1.2.2.1, C.2.2.2.2.2.2.2.2.1.2.2.2⟩
  exact after C run hS hl hr k
theorem z_callS (C : Cx E l G own cc nL h) {y : MethodName} {bc : ByteArray} {maxL h' n ix : Nat} {ret : Option FieldType} {As sk0 : List Value} {v : Option Value} {mem' : Mem} (d : Dc cc pc (.invokestatic ix) 3 pc') (mf : MF y bc maxL ret n) (ms : Cond.static y ∈ wt) (ml : Cond.methodLink own ix y ∈ wt) (hn : As.length = n) (hst : sk0 = As.reverse ++ sk) (hw : (sk.map fun v => v.category).sum ≤ 8) (hh : h' < h) (ct : CT l G y bc maxL ret h' As mem v mem') (k : Z E G nL mem' pc' lv (v.toList ++ sk) o) : Z E G nL mem pc lv sk0 o := by
  intro r hr H locs ls hP hS hl
  obtain ⟨d, rfl⟩ := d
  subst hst
  have hl0 := C.2.2.2.2.2.2.2.2.2
  have ct' : CT (mL E.1) G y bc maxL ret h' As mem v mem' := by rw [hl0]; exact ct
  have run := va_runS (H := H) (locs := locs) (cells := mcl E.1) (slots := msl E.1) (e := mE E.1) (below := mB E.1) (meth := mT E.1) (fix C) ct' (va_cwS n C.2.2.2.2.1 (goodS mf ms ml) rfl rfl rfl mf.2.2.1 (room C hh mf.2.2.2.2)) ⟨blind, C.pre hP hS⟩ (g := F0 (mM E.1) pc ls (As.reverse ++ sk)) (rest := sk) rfl hn hl.1 rfl (lv_room hw) d ⟨C.2.2.2.2.2.2.2.2.1.2.2.1, C.2.2.2.2.2.2.2.2.1.2.2.2⟩
  exact after C run hS hl hr k
theorem z_callN (C : Cx E l G own cc nL h) {y : MethodName} {bc : ByteArray} {maxL h' n ix : Nat} {host : String} {ret : Option FieldType} {As sk0 : List Value} {v : Option Value} {mem' : Mem} (d : Dc cc pc (.invokestatic ix) 3 pc') (mf : MF y bc maxL ret n) (ms : Cond.static y ∈ wt) {i : Nat} (ml : nestPl[i]? = some (own, ix, y, host)) (hn : As.length = n) (hst : sk0 = As.reverse ++ sk) (hw : (sk.map fun v => v.category).sum ≤ 8) (hh : h' < h) (ct : CT l G y bc maxL ret h' As mem v mem') (k : Z E G nL mem' pc' lv (v.toList ++ sk) o) : Z E G nL mem pc lv sk0 o := by
  intro r hr H locs ls hP hS hl
  obtain ⟨d, rfl⟩ := d
  subst hst
  have hl0 := C.2.2.2.2.2.2.2.2.2
  have ct' : CT (mL E.1) G y bc maxL ret h' As mem v mem' := by rw [hl0]; exact ct
  have run := va_runSN (H := H) (locs := locs) (cells := mcl E.1) (slots := msl E.1) (e := mE E.1) (below := mB E.1) (meth := mT E.1) (fix C) ct' ⟨va_cnB n C.2.2.2.2.1 (goodC mf.1) rfl rfl rfl (C.2.2.2.2.2.1.2.2.2.2.1 i _ ml) (C.2.2.2.2.1 _ mf.2.1) mf.2.2.1 (room C hh mf.2.2.2.2), C.2.2.2.2.1 _ ms, trivial⟩ ⟨blind, C.pre hP hS⟩ (g := F0 (mM E.1) pc ls (As.reverse ++ sk)) (rest := sk) rfl hn hl.1 rfl (lv_room hw) d ⟨C.2.2.2.2.2.2.2.2.1.2.2.1, C.2.2.2.2.2.2.2.2.1.2.2.2⟩
  exact after C run hS hl hr k
theorem z_cVi0 (C : Cx E l G own cc nL h) {y : MethodName} {bc : ByteArray} {maxL h' c ci ix N : Nat} {ret : Option FieldType} {T : u_T} {ks : List (Nat ⊕ Nat)}  {x : Int} {mem' : Mem} (d : Dc cc pc (.invokevirtual ix) 3 pc') (mf : MF y bc maxL ret 0) (mv : MV y) (ml : Cond.methodLink own ix y ∈ wt) (hs : (gom G)[c]? = some (.inr (ci, ks))) (hc : vwCl[ci]? = some (y.cls, T, N)) (hw : (sk.map fun v => v.category).sum ≤ 8) (hh : h' < h) (ct : CT l G y bc maxL ret h' (rf G c :: []) mem (some (vi x)) mem') (k : Z E G nL mem' pc' lv (vi x :: sk) o) : Z E G nL mem pc lv (rf G c :: sk) o := z_callV C d mf mv ml hs hc rfl rfl hw hh ct k
theorem z_cSi0 (C : Cx E l G own cc nL h) {y : MethodName} {bc : ByteArray} {maxL h' ix : Nat} {ret : Option FieldType}  {x : Int} {mem' : Mem} (d : Dc cc pc (.invokestatic ix) 3 pc') (mf : MF y bc maxL ret 0) (ms : Cond.static y ∈ wt) (ml : Cond.methodLink own ix y ∈ wt) (hw : (sk.map fun v => v.category).sum ≤ 8) (hh : h' < h) (ct : CT l G y bc maxL ret h' [] mem (some (vi x)) mem') (k : Z E G nL mem' pc' lv (vi x :: sk) o) : Z E G nL mem pc lv (sk) o := z_callS C d mf ms ml rfl rfl hw hh ct k
theorem z_cVi1 (C : Cx E l G own cc nL h) {y : MethodName} {bc : ByteArray} {maxL h' c ci ix N : Nat} {ret : Option FieldType} {T : u_T} {ks : List (Nat ⊕ Nat)} {a0 : Value} {x : Int} {mem' : Mem} (d : Dc cc pc (.invokevirtual ix) 3 pc') (mf : MF y bc maxL ret 1) (mv : MV y) (ml : Cond.methodLink own ix y ∈ wt) (hs : (gom G)[c]? = some (.inr (ci, ks))) (hc : vwCl[ci]? = some (y.cls, T, N)) (hw : (sk.map fun v => v.category).sum ≤ 8) (hh : h' < h) (ct : CT l G y bc maxL ret h' (rf G c :: [a0]) mem (some (vi x)) mem') (k : Z E G nL mem' pc' lv (vi x :: sk) o) : Z E G nL mem pc lv (a0 :: rf G c :: sk) o := z_callV C d mf mv ml hs hc rfl rfl hw hh ct k
theorem z_cSi1 (C : Cx E l G own cc nL h) {y : MethodName} {bc : ByteArray} {maxL h' ix : Nat} {ret : Option FieldType} {a0 : Value} {x : Int} {mem' : Mem} (d : Dc cc pc (.invokestatic ix) 3 pc') (mf : MF y bc maxL ret 1) (ms : Cond.static y ∈ wt) (ml : Cond.methodLink own ix y ∈ wt) (hw : (sk.map fun v => v.category).sum ≤ 8) (hh : h' < h) (ct : CT l G y bc maxL ret h' [a0] mem (some (vi x)) mem') (k : Z E G nL mem' pc' lv (vi x :: sk) o) : Z E G nL mem pc lv (a0 :: sk) o := z_callS C d mf ms ml rfl rfl hw hh ct k
theorem z_cVi2 (C : Cx E l G own cc nL h) {y : MethodName} {bc : ByteArray} {maxL h' c ci ix N : Nat} {ret : Option FieldType} {T : u_T} {ks : List (Nat ⊕ Nat)} {a0 a1 : Value} {x : Int} {mem' : Mem} (d : Dc cc pc (.invokevirtual ix) 3 pc') (mf : MF y bc maxL ret 2) (mv : MV y) (ml : Cond.methodLink own ix y ∈ wt) (hs : (gom G)[c]? = some (.inr (ci, ks))) (hc : vwCl[ci]? = some (y.cls, T, N)) (hw : (sk.map fun v => v.category).sum ≤ 8) (hh : h' < h) (ct : CT l G y bc maxL ret h' (rf G c :: [a0, a1]) mem (some (vi x)) mem') (k : Z E G nL mem' pc' lv (vi x :: sk) o) : Z E G nL mem pc lv (a1 :: a0 :: rf G c :: sk) o := z_callV C d mf mv ml hs hc rfl rfl hw hh ct k
theorem z_cSi2 (C : Cx E l G own cc nL h) {y : MethodName} {bc : ByteArray} {maxL h' ix : Nat} {ret : Option FieldType} {a0 a1 : Value} {x : Int} {mem' : Mem} (d : Dc cc pc (.invokestatic ix) 3 pc') (mf : MF y bc maxL ret 2) (ms : Cond.static y ∈ wt) (ml : Cond.methodLink own ix y ∈ wt) (hw : (sk.map fun v => v.category).sum ≤ 8) (hh : h' < h) (ct : CT l G y bc maxL ret h' [a0, a1] mem (some (vi x)) mem') (k : Z E G nL mem' pc' lv (vi x :: sk) o) : Z E G nL mem pc lv (a1 :: a0 :: sk) o := z_callS C d mf ms ml rfl rfl hw hh ct k
theorem z_cVi3 (C : Cx E l G own cc nL h) {y : MethodName} {bc : ByteArray} {maxL h' c ci ix N : Nat} {ret : Option FieldType} {T : u_T} {ks : List (Nat ⊕ Nat)} {a0 a1 a2 : Value} {x : Int} {mem' : Mem} (d : Dc cc pc (.invokevirtual ix) 3 pc') (mf : MF y bc maxL ret 3) (mv : MV y) (ml : Cond.methodLink own ix y ∈ wt) (hs : (gom G)[c]? = some (.inr (ci, ks))) (hc : vwCl[ci]? = some (y.cls, T, N)) (hw : (sk.map fun v => v.category).sum ≤ 8) (hh : h' < h) (ct : CT l G y bc maxL ret h' (rf G c :: [a0, a1, a2]) mem (some (vi x)) mem') (k : Z E G nL mem' pc' lv (vi x :: sk) o) : Z E G nL mem pc lv (a2 :: a1 :: a0 :: rf G c :: sk) o := z_callV C d mf mv ml hs hc rfl rfl hw hh ct k
theorem z_cSi3 (C : Cx E l G own cc nL h) {y : MethodName} {bc : ByteArray} {maxL h' ix : Nat} {ret : Option FieldType} {a0 a1 a2 : Value} {x : Int} {mem' : Mem} (d : Dc cc pc (.invokestatic ix) 3 pc') (mf : MF y bc maxL ret 3) (ms : Cond.static y ∈ wt) (ml : Cond.methodLink own ix y ∈ wt) (hw : (sk.map fun v => v.category).sum ≤ 8) (hh : h' < h) (ct : CT l G y bc maxL ret h' [a0, a1, a2] mem (some (vi x)) mem') (k : Z E G nL mem' pc' lv (vi x :: sk) o) : Z E G nL mem pc lv (a2 :: a1 :: a0 :: sk) o := z_callS C d mf ms ml rfl rfl hw hh ct k
theorem z_cNi3 (C : Cx E l G own cc nL h) {y : MethodName} {bc : ByteArray} {maxL h' ix : Nat} {host : String} {ret : Option FieldType} {a0 a1 a2 : Value} {x : Int} {mem' : Mem} (d : Dc cc pc (.invokestatic ix) 3 pc') (mf : MF y bc maxL ret 3) (ms : Cond.static y ∈ wt) {i : Nat} (ml : nestPl[i]? = some (own, ix, y, host)) (hw : (sk.map fun v => v.category).sum ≤ 8) (hh : h' < h) (ct : CT l G y bc maxL ret h' [a0, a1, a2] mem (some (vi x)) mem') (k : Z E G nL mem' pc' lv (vi x :: sk) o) : Z E G nL mem pc lv (a2 :: a1 :: a0 :: sk) o := z_callN C d mf ms ml rfl rfl hw hh ct k
theorem z_cVi4 (C : Cx E l G own cc nL h) {y : MethodName} {bc : ByteArray} {maxL h' c ci ix N : Nat} {ret : Option FieldType} {T : u_T} {ks : List (Nat ⊕ Nat)} {a0 a1 a2 a3 : Value} {x : Int} {mem' : Mem} (d : Dc cc pc (.invokevirtual ix) 3 pc') (mf : MF y bc maxL ret 4) (mv : MV y) (ml : Cond.methodLink own ix y ∈ wt) (hs : (gom G)[c]? = some (.inr (ci, ks))) (hc : vwCl[ci]? = some (y.cls, T, N)) (hw : (sk.map fun v => v.category).sum ≤ 8) (hh : h' < h) (ct : CT l G y bc maxL ret h' (rf G c :: [a0, a1, a2, a3]) mem (some (vi x)) mem') (k : Z E G nL mem' pc' lv (vi x :: sk) o) : Z E G nL mem pc lv (a3 :: a2 :: a1 :: a0 :: rf G c :: sk) o := z_callV C d mf mv ml hs hc rfl rfl hw hh ct k
theorem z_cSi4 (C : Cx E l G own cc nL h) {y : MethodName} {bc : ByteArray} {maxL h' ix : Nat} {ret : Option FieldType} {a0 a1 a2 a3 : Value} {x : Int} {mem' : Mem} (d : Dc cc pc (.invokestatic ix) 3 pc') (mf : MF y bc maxL ret 4) (ms : Cond.static y ∈ wt) (ml : Cond.methodLink own ix y ∈ wt) (hw : (sk.map fun v => v.category).sum ≤ 8) (hh : h' < h) (ct : CT l G y bc maxL ret h' [a0, a1, a2, a3] mem (some (vi x)) mem') (k : Z E G nL mem' pc' lv (vi x :: sk) o) : Z E G nL mem pc lv (a3 :: a2 :: a1 :: a0 :: sk) o := z_callS C d mf ms ml rfl rfl hw hh ct k
theorem z_cVi5 (C : Cx E l G own cc nL h) {y : MethodName} {bc : ByteArray} {maxL h' c ci ix N : Nat} {ret : Option FieldType} {T : u_T} {ks : List (Nat ⊕ Nat)} {a0 a1 a2 a3 a4 : Value} {x : Int} {mem' : Mem} (d : Dc cc pc (.invokevirtual ix) 3 pc') (mf : MF y bc maxL ret 5) (mv : MV y) (ml : Cond.methodLink own ix y ∈ wt) (hs : (gom G)[c]? = some (.inr (ci, ks))) (hc : vwCl[ci]? = some (y.cls, T, N)) (hw : (sk.map fun v => v.category).sum ≤ 8) (hh : h' < h) (ct : CT l G y bc maxL ret h' (rf G c :: [a0, a1, a2, a3, a4]) mem (some (vi x)) mem') (k : Z E G nL mem' pc' lv (vi x :: sk) o) : Z E G nL mem pc lv (a4 :: a3 :: a2 :: a1 :: a0 :: rf G c :: sk) o := z_callV C d mf mv ml hs hc rfl rfl hw hh ct k
theorem z_cSi5 (C : Cx E l G own cc nL h) {y : MethodName} {bc : ByteArray} {maxL h' ix : Nat} {ret : Option FieldType} {a0 a1 a2 a3 a4 : Value} {x : Int} {mem' : Mem} (d : Dc cc pc (.invokestatic ix) 3 pc') (mf : MF y bc maxL ret 5) (ms : Cond.static y ∈ wt) (ml : Cond.methodLink own ix y ∈ wt) (hw : (sk.map fun v => v.category).sum ≤ 8) (hh : h' < h) (ct : CT l G y bc maxL ret h' [a0, a1, a2, a3, a4] mem (some (vi x)) mem') (k : Z E G nL mem' pc' lv (vi x :: sk) o) : Z E G nL mem pc lv (a4 :: a3 :: a2 :: a1 :: a0 :: sk) o := z_callS C d mf ms ml rfl rfl hw hh ct k
theorem z_cVi6 (C : Cx E l G own cc nL h) {y : MethodName} {bc : ByteArray} {maxL h' c ci ix N : Nat} {ret : Option FieldType} {T : u_T} {ks : List (Nat ⊕ Nat)} {a0 a1 a2 a3 a4 a5 : Value} {x : Int} {mem' : Mem} (d : Dc cc pc (.invokevirtual ix) 3 pc') (mf : MF y bc maxL ret 6) (mv : MV y) (ml : Cond.methodLink own ix y ∈ wt) (hs : (gom G)[c]? = some (.inr (ci, ks))) (hc : vwCl[ci]? = some (y.cls, T, N)) (hw : (sk.map fun v => v.category).sum ≤ 8) (hh : h' < h) (ct : CT l G y bc maxL ret h' (rf G c :: [a0, a1, a2, a3, a4, a5]) mem (some (vi x)) mem') (k : Z E G nL mem' pc' lv (vi x :: sk) o) : Z E G nL mem pc lv (a5 :: a4 :: a3 :: a2 :: a1 :: a0 :: rf G c :: sk) o := z_callV C d mf mv ml hs hc rfl rfl hw hh ct k
theorem z_cSi6 (C : Cx E l G own cc nL h) {y : MethodName} {bc : ByteArray} {maxL h' ix : Nat} {ret : Option FieldType} {a0 a1 a2 a3 a4 a5 : Value} {x : Int} {mem' : Mem} (d : Dc cc pc (.invokestatic ix) 3 pc') (mf : MF y bc maxL ret 6) (ms : Cond.static y ∈ wt) (ml : Cond.methodLink own ix y ∈ wt) (hw : (sk.map fun v => v.category).sum ≤ 8) (hh : h' < h) (ct : CT l G y bc maxL ret h' [a0, a1, a2, a3, a4, a5] mem (some (vi x)) mem') (k : Z E G nL mem' pc' lv (vi x :: sk) o) : Z E G nL mem pc lv (a5 :: a4 :: a3 :: a2 :: a1 :: a0 :: sk) o := z_callS C d mf ms ml rfl rfl hw hh ct k
theorem z_cVi7 (C : Cx E l G own cc nL h) {y : MethodName} {bc : ByteArray} {maxL h' c ci ix N : Nat} {ret : Option FieldType} {T : u_T} {ks : List (Nat ⊕ Nat)} {a0 a1 a2 a3 a4 a5 a6 : Value} {x : Int} {mem' : Mem} (d : Dc cc pc (.invokevirtual ix) 3 pc') (mf : MF y bc maxL ret 7) (mv : MV y) (ml : Cond.methodLink own ix y ∈ wt) (hs : (gom G)[c]? = some (.inr (ci, ks))) (hc : vwCl[ci]? = some (y.cls, T, N)) (hw : (sk.map fun v => v.category).sum ≤ 8) (hh : h' < h) (ct : CT l G y bc maxL ret h' (rf G c :: [a0, a1, a2, a3, a4, a5, a6]) mem (some (vi x)) mem') (k : Z E G nL mem' pc' lv (vi x :: sk) o) : Z E G nL mem pc lv (a6 :: a5 :: a4 :: a3 :: a2 :: a1 :: a0 :: rf G c :: sk) o := z_callV C d mf mv ml hs hc rfl rfl hw hh ct k
theorem z_cSi7 (C : Cx E l G own cc nL h) {y : MethodName} {bc : ByteArray} {maxL h' ix : Nat} {ret : Option FieldType} {a0 a1 a2 a3 a4 a5 a6 : Value} {x : Int} {mem' : Mem} (d : Dc cc pc (.invokestatic ix) 3 pc') (mf : MF y bc maxL ret 7) (ms : Cond.static y ∈ wt) (ml : Cond.methodLink own ix y ∈ wt) (hw : (sk.map fun v => v.category).sum ≤ 8) (hh : h' < h) (ct : CT l G y bc maxL ret h' [a0, a1, a2, a3, a4, a5, a6] mem (some (vi x)) mem') (k : Z E G nL mem' pc' lv (vi x :: sk) o) : Z E G nL mem pc lv (a6 :: a5 :: a4 :: a3 :: a2 :: a1 :: a0 :: sk) o := z_callS C d mf ms ml rfl rfl hw hh ct k
theorem z_cVl0 (C : Cx E l G own cc nL h) {y : MethodName} {bc : ByteArray} {maxL h' c ci ix N : Nat} {ret : Option FieldType} {T : u_T} {ks : List (Nat ⊕ Nat)}  {x : Int} {mem' : Mem} (d : Dc cc pc (.invokevirtual ix) 3 pc') (mf : MF y bc maxL ret 0) (mv : MV y) (ml : Cond.methodLink own ix y ∈ wt) (hs : (gom G)[c]? = some (.inr (ci, ks))) (hc : vwCl[ci]? = some (y.cls, T, N)) (hw : (sk.map fun v => v.category).sum ≤ 8) (hh : h' < h) (ct : CT l G y bc maxL ret h' (rf G c :: []) mem (some (vl x)) mem') (k : Z E G nL mem' pc' lv (vl x :: sk) o) : Z E G nL mem pc lv (rf G c :: sk) o := z_callV C d mf mv ml hs hc rfl rfl hw hh ct k
theorem z_cSl0 (C : Cx E l G own cc nL h) {y : MethodName} {bc : ByteArray} {maxL h' ix : Nat} {ret : Option FieldType}  {x : Int} {mem' : Mem} (d : Dc cc pc (.invokestatic ix) 3 pc') (mf : MF y bc maxL ret 0) (ms : Cond.static y ∈ wt) (ml : Cond.methodLink own ix y ∈ wt) (hw : (sk.map fun v => v.category).sum ≤ 8) (hh : h' < h) (ct : CT l G y bc maxL ret h' [] mem (some (vl x)) mem') (k : Z E G nL mem' pc' lv (vl x :: sk) o) : Z E G nL mem pc lv (sk) o := z_callS C d mf ms ml rfl rfl hw hh ct k
theorem z_cVl1 (C : Cx E l G own cc nL h) {y : MethodName} {bc : ByteArray} {maxL h' c ci ix N : Nat} {ret : Option FieldType} {T : u_T} {ks : List (Nat ⊕ Nat)} {a0 : Value} {x : Int} {mem' : Mem} (d : Dc cc pc (.invokevirtual ix) 3 pc') (mf : MF y bc maxL ret 1) (mv : MV y) (ml : Cond.methodLink own ix y ∈ wt) (hs : (gom G)[c]? = some (.inr (ci, ks))) (hc : vwCl[ci]? = some (y.cls, T, N)) (hw : (sk.map fun v => v.category).sum ≤ 8) (hh : h' < h) (ct : CT l G y bc maxL ret h' (rf G c :: [a0]) mem (some (vl x)) mem') (k : Z E G nL mem' pc' lv (vl x :: sk) o) : Z E G nL mem pc lv (a0 :: rf G c :: sk) o := z_callV C d mf mv ml hs hc rfl rfl hw hh ct k
theorem z_cSl1 (C : Cx E l G own cc nL h) {y : MethodName} {bc : ByteArray} {maxL h' ix : Nat} {ret : Option FieldType} {a0 : Value} {x : Int} {mem' : Mem} (d : Dc cc pc (.invokestatic ix) 3 pc') (mf : MF y bc maxL ret 1) (ms : Cond.static y ∈ wt) (ml : Cond.methodLink own ix y ∈ wt) (hw : (sk.map fun v => v.category).sum ≤ 8) (hh : h' < h) (ct : CT l G y bc maxL ret h' [a0] mem (some (vl x)) mem') (k : Z E G nL mem' pc' lv (vl x :: sk) o) : Z E G nL mem pc lv (a0 :: sk) o := z_callS C d mf ms ml rfl rfl hw hh ct k
theorem z_cVl2 (C : Cx E l G own cc nL h) {y : MethodName} {bc : ByteArray} {maxL h' c ci ix N : Nat} {ret : Option FieldType} {T : u_T} {ks : List (Nat ⊕ Nat)} {a0 a1 : Value} {x : Int} {mem' : Mem} (d : Dc cc pc (.invokevirtual ix) 3 pc') (mf : MF y bc maxL ret 2) (mv : MV y) (ml : Cond.methodLink own ix y ∈ wt) (hs : (gom G)[c]? = some (.inr (ci, ks))) (hc : vwCl[ci]? = some (y.cls, T, N)) (hw : (sk.map fun v => v.category).sum ≤ 8) (hh : h' < h) (ct : CT l G y bc maxL ret h' (rf G c :: [a0, a1]) mem (some (vl x)) mem') (k : Z E G nL mem' pc' lv (vl x :: sk) o) : Z E G nL mem pc lv (a1 :: a0 :: rf G c :: sk) o := z_callV C d mf mv ml hs hc rfl rfl hw hh ct k
theorem z_cSl2 (C : Cx E l G own cc nL h) {y : MethodName} {bc : ByteArray} {maxL h' ix : Nat} {ret : Option FieldType} {a0 a1 : Value} {x : Int} {mem' : Mem} (d : Dc cc pc (.invokestatic ix) 3 pc') (mf : MF y bc maxL ret 2) (ms : Cond.static y ∈ wt) (ml : Cond.methodLink own ix y ∈ wt) (hw : (sk.map fun v => v.category).sum ≤ 8) (hh : h' < h) (ct : CT l G y bc maxL ret h' [a0, a1] mem (some (vl x)) mem') (k : Z E G nL mem' pc' lv (vl x :: sk) o) : Z E G nL mem pc lv (a1 :: a0 :: sk) o := z_callS C d mf ms ml rfl rfl hw hh ct k
theorem z_cVl3 (C : Cx E l G own cc nL h) {y : MethodName} {bc : ByteArray} {maxL h' c ci ix N : Nat} {ret : Option FieldType} {T : u_T} {ks : List (Nat ⊕ Nat)} {a0 a1 a2 : Value} {x : Int} {mem' : Mem} (d : Dc cc pc (.invokevirtual ix) 3 pc') (mf : MF y bc maxL ret 3) (mv : MV y) (ml : Cond.methodLink own ix y ∈ wt) (hs : (gom G)[c]? = some (.inr (ci, ks))) (hc : vwCl[ci]? = some (y.cls, T, N)) (hw : (sk.map fun v => v.category).sum ≤ 8) (hh : h' < h) (ct : CT l G y bc maxL ret h' (rf G c :: [a0, a1, a2]) mem (some (vl x)) mem') (k : Z E G nL mem' pc' lv (vl x :: sk) o) : Z E G nL mem pc lv (a2 :: a1 :: a0 :: rf G c :: sk) o := z_callV C d mf mv ml hs hc rfl rfl hw hh ct k
theorem z_cSl3 (C : Cx E l G own cc nL h) {y : MethodName} {bc : ByteArray} {maxL h' ix : Nat} {ret : Option FieldType} {a0 a1 a2 : Value} {x : Int} {mem' : Mem} (d : Dc cc pc (.invokestatic ix) 3 pc') (mf : MF y bc maxL ret 3) (ms : Cond.static y ∈ wt) (ml : Cond.methodLink own ix y ∈ wt) (hw : (sk.map fun v => v.category).sum ≤ 8) (hh : h' < h) (ct : CT l G y bc maxL ret h' [a0, a1, a2] mem (some (vl x)) mem') (k : Z E G nL mem' pc' lv (vl x :: sk) o) : Z E G nL mem pc lv (a2 :: a1 :: a0 :: sk) o := z_callS C d mf ms ml rfl rfl hw hh ct k
theorem z_cNl3 (C : Cx E l G own cc nL h) {y : MethodName} {bc : ByteArray} {maxL h' ix : Nat} {host : String} {ret : Option FieldType} {a0 a1 a2 : Value} {x : Int} {mem' : Mem} (d : Dc cc pc (.invokestatic ix) 3 pc') (mf : MF y bc maxL ret 3) (ms : Cond.static y ∈ wt) {i : Nat} (ml : nestPl[i]? = some (own, ix, y, host)) (hw : (sk.map fun v => v.category).sum ≤ 8) (hh : h' < h) (ct : CT l G y bc maxL ret h' [a0, a1, a2] mem (some (vl x)) mem') (k : Z E G nL mem' pc' lv (vl x :: sk) o) : Z E G nL mem pc lv (a2 :: a1 :: a0 :: sk) o := z_callN C d mf ms ml rfl rfl hw hh ct k
theorem z_cVl4 (C : Cx E l G own cc nL h) {y : MethodName} {bc : ByteArray} {maxL h' c ci ix N : Nat} {ret : Option FieldType} {T : u_T} {ks : List (Nat ⊕ Nat)} {a0 a1 a2 a3 : Value} {x : Int} {mem' : Mem} (d : Dc cc pc (.invokevirtual ix) 3 pc') (mf : MF y bc maxL ret 4) (mv : MV y) (ml : Cond.methodLink own ix y ∈ wt) (hs : (gom G)[c]? = some (.inr (ci, ks))) (hc : vwCl[ci]? = some (y.cls, T, N)) (hw : (sk.map fun v => v.category).sum ≤ 8) (hh : h' < h) (ct : CT l G y bc maxL ret h' (rf G c :: [a0, a1, a2, a3]) mem (some (vl x)) mem') (k : Z E G nL mem' pc' lv (vl x :: sk) o) : Z E G nL mem pc lv (a3 :: a2 :: a1 :: a0 :: rf G c :: sk) o := z_callV C d mf mv ml hs hc rfl rfl hw hh ct k
theorem z_cSl4 (C : Cx E l G own cc nL h) {y : MethodName} {bc : ByteArray} {maxL h' ix : Nat} {ret : Option FieldType} {a0 a1 a2 a3 : Value} {x : Int} {mem' : Mem} (d : Dc cc pc (.invokestatic ix) 3 pc') (mf : MF y bc maxL ret 4) (ms : Cond.static y ∈ wt) (ml : Cond.methodLink own ix y ∈ wt) (hw : (sk.map fun v => v.category).sum ≤ 8) (hh : h' < h) (ct : CT l G y bc maxL ret h' [a0, a1, a2, a3] mem (some (vl x)) mem') (k : Z E G nL mem' pc' lv (vl x :: sk) o) : Z E G nL mem pc lv (a3 :: a2 :: a1 :: a0 :: sk) o := z_callS C d mf ms ml rfl rfl hw hh ct k
theorem z_cVl5 (C : Cx E l G own cc nL h) {y : MethodName} {bc : ByteArray} {maxL h' c ci ix N : Nat} {ret : Option FieldType} {T : u_T} {ks : List (Nat ⊕ Nat)} {a0 a1 a2 a3 a4 : Value} {x : Int} {mem' : Mem} (d : Dc cc pc (.invokevirtual ix) 3 pc') (mf : MF y bc maxL ret 5) (mv : MV y) (ml : Cond.methodLink own ix y ∈ wt) (hs : (gom G)[c]? = some (.inr (ci, ks))) (hc : vwCl[ci]? = some (y.cls, T, N)) (hw : (sk.map fun v => v.category).sum ≤ 8) (hh : h' < h) (ct : CT l G y bc maxL ret h' (rf G c :: [a0, a1, a2, a3, a4]) mem (some (vl x)) mem') (k : Z E G nL mem' pc' lv (vl x :: sk) o) : Z E G nL mem pc lv (a4 :: a3 :: a2 :: a1 :: a0 :: rf G c :: sk) o := z_callV C d mf mv ml hs hc rfl rfl hw hh ct k
theorem z_cSl5 (C : Cx E l G own cc nL h) {y : MethodName} {bc : ByteArray} {maxL h' ix : Nat} {ret : Option FieldType} {a0 a1 a2 a3 a4 : Value} {x : Int} {mem' : Mem} (d : Dc cc pc (.invokestatic ix) 3 pc') (mf : MF y bc maxL ret 5) (ms : Cond.static y ∈ wt) (ml : Cond.methodLink own ix y ∈ wt) (hw : (sk.map fun v => v.category).sum ≤ 8) (hh : h' < h) (ct : CT l G y bc maxL ret h' [a0, a1, a2, a3, a4] mem (some (vl x)) mem') (k : Z E G nL mem' pc' lv (vl x :: sk) o) : Z E G nL mem pc lv (a4 :: a3 :: a2 :: a1 :: a0 :: sk) o := z_callS C d mf ms ml rfl rfl hw hh ct k
theorem z_cVl6 (C : Cx E l G own cc nL h) {y : MethodName} {bc : ByteArray} {maxL h' c ci ix N : Nat} {ret : Option FieldType} {T : u_T} {ks : List (Nat ⊕ Nat)} {a0 a1 a2 a3 a4 a5 : Value} {x : Int} {mem' : Mem} (d : Dc cc pc (.invokevirtual ix) 3 pc') (mf : MF y bc maxL ret 6) (mv : MV y) (ml : Cond.methodLink own ix y ∈ wt) (hs : (gom G)[c]? = some (.inr (ci, ks))) (hc : vwCl[ci]? = some (y.cls, T, N)) (hw : (sk.map fun v => v.category).sum ≤ 8) (hh : h' < h) (ct : CT l G y bc maxL ret h' (rf G c :: [a0, a1, a2, a3, a4, a5]) mem (some (vl x)) mem') (k : Z E G nL mem' pc' lv (vl x :: sk) o) : Z E G nL mem pc lv (a5 :: a4 :: a3 :: a2 :: a1 :: a0 :: rf G c :: sk) o := z_callV C d mf mv ml hs hc rfl rfl hw hh ct k
theorem z_cSl6 (C : Cx E l G own cc nL h) {y : MethodName} {bc : ByteArray} {maxL h' ix : Nat} {ret : Option FieldType} {a0 a1 a2 a3 a4 a5 : Value} {x : Int} {mem' : Mem} (d : Dc cc pc (.invokestatic ix) 3 pc') (mf : MF y bc maxL ret 6) (ms : Cond.static y ∈ wt) (ml : Cond.methodLink own ix y ∈ wt) (hw : (sk.map fun v => v.category).sum ≤ 8) (hh : h' < h) (ct : CT l G y bc maxL ret h' [a0, a1, a2, a3, a4, a5] mem (some (vl x)) mem') (k : Z E G nL mem' pc' lv (vl x :: sk) o) : Z E G nL mem pc lv (a5 :: a4 :: a3 :: a2 :: a1 :: a0 :: sk) o := z_callS C d mf ms ml rfl rfl hw hh ct k
theorem z_cVl7 (C : Cx E l G own cc nL h) {y : MethodName} {bc : ByteArray} {maxL h' c ci ix N : Nat} {ret : Option FieldType} {T : u_T} {ks : List (Nat ⊕ Nat)} {a0 a1 a2 a3 a4 a5 a6 : Value} {x : Int} {mem' : Mem} (d : Dc cc pc (.invokevirtual ix) 3 pc') (mf : MF y bc maxL ret 7) (mv : MV y) (ml : Cond.methodLink own ix y ∈ wt) (hs : (gom G)[c]? = some (.inr (ci, ks))) (hc : vwCl[ci]? = some (y.cls, T, N)) (hw : (sk.map fun v => v.category).sum ≤ 8) (hh : h' < h) (ct : CT l G y bc maxL ret h' (rf G c :: [a0, a1, a2, a3, a4, a5, a6]) mem (some (vl x)) mem') (k : Z E G nL mem' pc' lv (vl x :: sk) o) : Z E G nL mem pc lv (a6 :: a5 :: a4 :: a3 :: a2 :: a1 :: a0 :: rf G c :: sk) o := z_callV C d mf mv ml hs hc rfl rfl hw hh ct k
theorem z_cSl7 (C : Cx E l G own cc nL h) {y : MethodName} {bc : ByteArray} {maxL h' ix : Nat} {ret : Option FieldType} {a0 a1 a2 a3 a4 a5 a6 : Value} {x : Int} {mem' : Mem} (d : Dc cc pc (.invokestatic ix) 3 pc') (mf : MF y bc maxL ret 7) (ms : Cond.static y ∈ wt) (ml : Cond.methodLink own ix y ∈ wt) (hw : (sk.map fun v => v.category).sum ≤ 8) (hh : h' < h) (ct : CT l G y bc maxL ret h' [a0, a1, a2, a3, a4, a5, a6] mem (some (vl x)) mem') (k : Z E G nL mem' pc' lv (vl x :: sk) o) : Z E G nL mem pc lv (a6 :: a5 :: a4 :: a3 :: a2 :: a1 :: a0 :: sk) o := z_callS C d mf ms ml rfl rfl hw hh ct k
theorem z_cVv0 (C : Cx E l G own cc nL h) {y : MethodName} {bc : ByteArray} {maxL h' c ci ix N : Nat} {ret : Option FieldType} {T : u_T} {ks : List (Nat ⊕ Nat)}   {mem' : Mem} (d : Dc cc pc (.invokevirtual ix) 3 pc') (mf : MF y bc maxL ret 0) (mv : MV y) (ml : Cond.methodLink own ix y ∈ wt) (hs : (gom G)[c]? = some (.inr (ci, ks))) (hc : vwCl[ci]? = some (y.cls, T, N)) (hw : (sk.map fun v => v.category).sum ≤ 8) (hh : h' < h) (ct : CT l G y bc maxL ret h' (rf G c :: []) mem (none) mem') (k : Z E G nL mem' pc' lv (sk) o) : Z E G nL mem pc lv (rf G c :: sk) o := z_callV C d mf mv ml hs hc rfl rfl hw hh ct k
theorem z_cSv0 (C : Cx E l G own cc nL h) {y : MethodName} {bc : ByteArray} {maxL h' ix : Nat} {ret : Option FieldType}   {mem' : Mem} (d : Dc cc pc (.invokestatic ix) 3 pc') (mf : MF y bc maxL ret 0) (ms : Cond.static y ∈ wt) (ml : Cond.methodLink own ix y ∈ wt) (hw : (sk.map fun v => v.category).sum ≤ 8) (hh : h' < h) (ct : CT l G y bc maxL ret h' [] mem (none) mem') (k : Z E G nL mem' pc' lv (sk) o) : Z E G nL mem pc lv (sk) o := z_callS C d mf ms ml rfl rfl hw hh ct k
theorem z_cVv1 (C : Cx E l G own cc nL h) {y : MethodName} {bc : ByteArray} {maxL h' c ci ix N : Nat} {ret : Option FieldType} {T : u_T} {ks : List (Nat ⊕ Nat)} {a0 : Value}  {mem' : Mem} (d : Dc cc pc (.invokevirtual ix) 3 pc') (mf : MF y bc maxL ret 1) (mv : MV y) (ml : Cond.methodLink own ix y ∈ wt) (hs : (gom G)[c]? = some (.inr (ci, ks))) (hc : vwCl[ci]? = some (y.cls, T, N)) (hw : (sk.map fun v => v.category).sum ≤ 8) (hh : h' < h) (ct : CT l G y bc maxL ret h' (rf G c :: [a0]) mem (none) mem') (k : Z E G nL mem' pc' lv (sk) o) : Z E G nL mem pc lv (a0 :: rf G c :: sk) o := z_callV C d mf mv ml hs hc rfl rfl hw hh ct k
theorem z_cSv1 (C : Cx E l G own cc nL h) {y : MethodName} {bc : ByteArray} {maxL h' ix : Nat} {ret : Option FieldType} {a0 : Value}  {mem' : Mem} (d : Dc cc pc (.invokestatic ix) 3 pc') (mf : MF y bc maxL ret 1) (ms : Cond.static y ∈ wt) (ml : Cond.methodLink own ix y ∈ wt) (hw : (sk.map fun v => v.category).sum ≤ 8) (hh : h' < h) (ct : CT l G y bc maxL ret h' [a0] mem (none) mem') (k : Z E G nL mem' pc' lv (sk) o) : Z E G nL mem pc lv (a0 :: sk) o := z_callS C d mf ms ml rfl rfl hw hh ct k
theorem z_cVv2 (C : Cx E l G own cc nL h) {y : MethodName} {bc : ByteArray} {maxL h' c ci ix N : Nat} {ret : Option FieldType} {T : u_T} {ks : List (Nat ⊕ Nat)} {a0 a1 : Value}  {mem' : Mem} (d : Dc cc pc (.invokevirtual ix) 3 pc') (mf : MF y bc maxL ret 2) (mv : MV y) (ml : Cond.methodLink own ix y ∈ wt) (hs : (gom G)[c]? = some (.inr (ci, ks))) (hc : vwCl[ci]? = some (y.cls, T, N)) (hw : (sk.map fun v => v.category).sum ≤ 8) (hh : h' < h) (ct : CT l G y bc maxL ret h' (rf G c :: [a0, a1]) mem (none) mem') (k : Z E G nL mem' pc' lv (sk) o) : Z E G nL mem pc lv (a1 :: a0 :: rf G c :: sk) o := z_callV C d mf mv ml hs hc rfl rfl hw hh ct k
theorem z_cSv2 (C : Cx E l G own cc nL h) {y : MethodName} {bc : ByteArray} {maxL h' ix : Nat} {ret : Option FieldType} {a0 a1 : Value}  {mem' : Mem} (d : Dc cc pc (.invokestatic ix) 3 pc') (mf : MF y bc maxL ret 2) (ms : Cond.static y ∈ wt) (ml : Cond.methodLink own ix y ∈ wt) (hw : (sk.map fun v => v.category).sum ≤ 8) (hh : h' < h) (ct : CT l G y bc maxL ret h' [a0, a1] mem (none) mem') (k : Z E G nL mem' pc' lv (sk) o) : Z E G nL mem pc lv (a1 :: a0 :: sk) o := z_callS C d mf ms ml rfl rfl hw hh ct k
theorem z_cVv3 (C : Cx E l G own cc nL h) {y : MethodName} {bc : ByteArray} {maxL h' c ci ix N : Nat} {ret : Option FieldType} {T : u_T} {ks : List (Nat ⊕ Nat)} {a0 a1 a2 : Value}  {mem' : Mem} (d : Dc cc pc (.invokevirtual ix) 3 pc') (mf : MF y bc maxL ret 3) (mv : MV y) (ml : Cond.methodLink own ix y ∈ wt) (hs : (gom G)[c]? = some (.inr (ci, ks))) (hc : vwCl[ci]? = some (y.cls, T, N)) (hw : (sk.map fun v => v.category).sum ≤ 8) (hh : h' < h) (ct : CT l G y bc maxL ret h' (rf G c :: [a0, a1, a2]) mem (none) mem') (k : Z E G nL mem' pc' lv (sk) o) : Z E G nL mem pc lv (a2 :: a1 :: a0 :: rf G c :: sk) o := z_callV C d mf mv ml hs hc rfl rfl hw hh ct k
theorem z_cSv3 (C : Cx E l G own cc nL h) {y : MethodName} {bc : ByteArray} {maxL h' ix : Nat} {ret : Option FieldType} {a0 a1 a2 : Value}  {mem' : Mem} (d : Dc cc pc (.invokestatic ix) 3 pc') (mf : MF y bc maxL ret 3) (ms : Cond.static y ∈ wt) (ml : Cond.methodLink own ix y ∈ wt) (hw : (sk.map fun v => v.category).sum ≤ 8) (hh : h' < h) (ct : CT l G y bc maxL ret h' [a0, a1, a2] mem (none) mem') (k : Z E G nL mem' pc' lv (sk) o) : Z E G nL mem pc lv (a2 :: a1 :: a0 :: sk) o := z_callS C d mf ms ml rfl rfl hw hh ct k
theorem z_cNv3 (C : Cx E l G own cc nL h) {y : MethodName} {bc : ByteArray} {maxL h' ix : Nat} {host : String} {ret : Option FieldType} {a0 a1 a2 : Value}  {mem' : Mem} (d : Dc cc pc (.invokestatic ix) 3 pc') (mf : MF y bc maxL ret 3) (ms : Cond.static y ∈ wt) {i : Nat} (ml : nestPl[i]? = some (own, ix, y, host)) (hw : (sk.map fun v => v.category).sum ≤ 8) (hh : h' < h) (ct : CT l G y bc maxL ret h' [a0, a1, a2] mem (none) mem') (k : Z E G nL mem' pc' lv (sk) o) : Z E G nL mem pc lv (a2 :: a1 :: a0 :: sk) o := z_callN C d mf ms ml rfl rfl hw hh ct k
theorem z_cVv4 (C : Cx E l G own cc nL h) {y : MethodName} {bc : ByteArray} {maxL h' c ci ix N : Nat} {ret : Option FieldType} {T : u_T} {ks : List (Nat ⊕ Nat)} {a0 a1 a2 a3 : Value}  {mem' : Mem} (d : Dc cc pc (.invokevirtual ix) 3 pc') (mf : MF y bc maxL ret 4) (mv : MV y) (ml : Cond.methodLink own ix y ∈ wt) (hs : (gom G)[c]? = some (.inr (ci, ks))) (hc : vwCl[ci]? = some (y.cls, T, N)) (hw : (sk.map fun v => v.category).sum ≤ 8) (hh : h' < h) (ct : CT l G y bc maxL ret h' (rf G c :: [a0, a1, a2, a3]) mem (none) mem') (k : Z E G nL mem' pc' lv (sk) o) : Z E G nL mem pc lv (a3 :: a2 :: a1 :: a0 :: rf G c :: sk) o := z_callV C d mf mv ml hs hc rfl rfl hw hh ct k
theorem z_cSv4 (C : Cx E l G own cc nL h) {y : MethodName} {bc : ByteArray} {maxL h' ix : Nat} {ret : Option FieldType} {a0 a1 a2 a3 : Value}  {mem' : Mem} (d : Dc cc pc (.invokestatic ix) 3 pc') (mf : MF y bc maxL ret 4) (ms : Cond.static y ∈ wt) (ml : Cond.methodLink own ix y ∈ wt) (hw : (sk.map fun v => v.category).sum ≤ 8) (hh : h' < h) (ct : CT l G y bc maxL ret h' [a0, a1, a2, a3] mem (none) mem') (k : Z E G nL mem' pc' lv (sk) o) : Z E G nL mem pc lv (a3 :: a2 :: a1 :: a0 :: sk) o := z_callS C d mf ms ml rfl rfl hw hh ct k
theorem z_cVv5 (C : Cx E l G own cc nL h) {y : MethodName} {bc : ByteArray} {maxL h' c ci ix N : Nat} {ret : Option FieldType} {T : u_T} {ks : List (Nat ⊕ Nat)} {a0 a1 a2 a3 a4 : Value}  {mem' : Mem} (d : Dc cc pc (.invokevirtual ix) 3 pc') (mf : MF y bc maxL ret 5) (mv : MV y) (ml : Cond.methodLink own ix y ∈ wt) (hs : (gom G)[c]? = some (.inr (ci, ks))) (hc : vwCl[ci]? = some (y.cls, T, N)) (hw : (sk.map fun v => v.category).sum ≤ 8) (hh : h' < h) (ct : CT l G y bc maxL ret h' (rf G c :: [a0, a1, a2, a3, a4]) mem (none) mem') (k : Z E G nL mem' pc' lv (sk) o) : Z E G nL mem pc lv (a4 :: a3 :: a2 :: a1 :: a0 :: rf G c :: sk) o := z_callV C d mf mv ml hs hc rfl rfl hw hh ct k
theorem z_cSv5 (C : Cx E l G own cc nL h) {y : MethodName} {bc : ByteArray} {maxL h' ix : Nat} {ret : Option FieldType} {a0 a1 a2 a3 a4 : Value}  {mem' : Mem} (d : Dc cc pc (.invokestatic ix) 3 pc') (mf : MF y bc maxL ret 5) (ms : Cond.static y ∈ wt) (ml : Cond.methodLink own ix y ∈ wt) (hw : (sk.map fun v => v.category).sum ≤ 8) (hh : h' < h) (ct : CT l G y bc maxL ret h' [a0, a1, a2, a3, a4] mem (none) mem') (k : Z E G nL mem' pc' lv (sk) o) : Z E G nL mem pc lv (a4 :: a3 :: a2 :: a1 :: a0 :: sk) o := z_callS C d mf ms ml rfl rfl hw hh ct k
theorem z_cVv6 (C : Cx E l G own cc nL h) {y : MethodName} {bc : ByteArray} {maxL h' c ci ix N : Nat} {ret : Option FieldType} {T : u_T} {ks : List (Nat ⊕ Nat)} {a0 a1 a2 a3 a4 a5 : Value}  {mem' : Mem} (d : Dc cc pc (.invokevirtual ix) 3 pc') (mf : MF y bc maxL ret 6) (mv : MV y) (ml : Cond.methodLink own ix y ∈ wt) (hs : (gom G)[c]? = some (.inr (ci, ks))) (hc : vwCl[ci]? = some (y.cls, T, N)) (hw : (sk.map fun v => v.category).sum ≤ 8) (hh : h' < h) (ct : CT l G y bc maxL ret h' (rf G c :: [a0, a1, a2, a3, a4, a5]) mem (none) mem') (k : Z E G nL mem' pc' lv (sk) o) : Z E G nL mem pc lv (a5 :: a4 :: a3 :: a2 :: a1 :: a0 :: rf G c :: sk) o := z_callV C d mf mv ml hs hc rfl rfl hw hh ct k
theorem z_cSv6 (C : Cx E l G own cc nL h) {y : MethodName} {bc : ByteArray} {maxL h' ix : Nat} {ret : Option FieldType} {a0 a1 a2 a3 a4 a5 : Value}  {mem' : Mem} (d : Dc cc pc (.invokestatic ix) 3 pc') (mf : MF y bc maxL ret 6) (ms : Cond.static y ∈ wt) (ml : Cond.methodLink own ix y ∈ wt) (hw : (sk.map fun v => v.category).sum ≤ 8) (hh : h' < h) (ct : CT l G y bc maxL ret h' [a0, a1, a2, a3, a4, a5] mem (none) mem') (k : Z E G nL mem' pc' lv (sk) o) : Z E G nL mem pc lv (a5 :: a4 :: a3 :: a2 :: a1 :: a0 :: sk) o := z_callS C d mf ms ml rfl rfl hw hh ct k
theorem z_cVv7 (C : Cx E l G own cc nL h) {y : MethodName} {bc : ByteArray} {maxL h' c ci ix N : Nat} {ret : Option FieldType} {T : u_T} {ks : List (Nat ⊕ Nat)} {a0 a1 a2 a3 a4 a5 a6 : Value}  {mem' : Mem} (d : Dc cc pc (.invokevirtual ix) 3 pc') (mf : MF y bc maxL ret 7) (mv : MV y) (ml : Cond.methodLink own ix y ∈ wt) (hs : (gom G)[c]? = some (.inr (ci, ks))) (hc : vwCl[ci]? = some (y.cls, T, N)) (hw : (sk.map fun v => v.category).sum ≤ 8) (hh : h' < h) (ct : CT l G y bc maxL ret h' (rf G c :: [a0, a1, a2, a3, a4, a5, a6]) mem (none) mem') (k : Z E G nL mem' pc' lv (sk) o) : Z E G nL mem pc lv (a6 :: a5 :: a4 :: a3 :: a2 :: a1 :: a0 :: rf G c :: sk) o := z_callV C d mf mv ml hs hc rfl rfl hw hh ct k
theorem z_cSv7 (C : Cx E l G own cc nL h) {y : MethodName} {bc : ByteArray} {maxL h' ix : Nat} {ret : Option FieldType} {a0 a1 a2 a3 a4 a5 a6 : Value}  {mem' : Mem} (d : Dc cc pc (.invokestatic ix) 3 pc') (mf : MF y bc maxL ret 7) (ms : Cond.static y ∈ wt) (ml : Cond.methodLink own ix y ∈ wt) (hw : (sk.map fun v => v.category).sum ≤ 8) (hh : h' < h) (ct : CT l G y bc maxL ret h' [a0, a1, a2, a3, a4, a5, a6] mem (none) mem') (k : Z E G nL mem' pc' lv (sk) o) : Z E G nL mem pc lv (a6 :: a5 :: a4 :: a3 :: a2 :: a1 :: a0 :: sk) o := z_callS C d mf ms ml rfl rfl hw hh ct k
/-! answers of calls, in o -/
def bE (F : Option (Int × Mem)) (K : Int → Mem → Option ρ) : Option ρ := match F with
  | none => none
  | some q => K q.1 q.2
def bP (F : Option Int) (K : Int → Option ρ) : Option ρ := match F with
  | none => none
  | some q => K q
def bV (F : Option Mem) (K : Mem → Option ρ) : Option ρ := match F with
  | none => none
  | some q => K q
theorem z_bE {F : Option (Int × Mem)} {K : Int → Mem → Option ρ} (k : ∀ x m', F = some (x, m') → Z E G nL mem pc lv sk (K x m')) : Z E G nL mem pc lv sk (bE F K) := by
  cases F with
  | none => exact z_none
  | some q => obtain ⟨x, m'⟩ := q; exact k x m' rfl
theorem z_bP {F : Option Int} {K : Int → Option ρ} (k : ∀ x, F = some x → Z E G nL mem pc lv sk (K x)) : Z E G nL mem pc lv sk (bP F K) := by
  cases F with
  | none => exact z_none
  | some q => exact k q rfl
theorem z_bV {F : Option Mem} {K : Mem → Option ρ} (k : ∀ m', F = some m' → Z E G nL mem pc lv sk (K m')) : Z E G nL mem pc lv sk (bV F K) := by
  cases F with
  | none => exact z_none
  | some q => exact k q rfl
/-! a method's end -/
def Rx (E : Ev ρ) (G : Gw) (ret : Option FieldType) (vof : ρ → Option Value) (mof : ρ → Mem) : Prop := (mT E.1).sig.returnType = ret ∧ (mT E.1).locks = false ∧ E.2.1 = Aw G ∧ E.2.2.1 = (mS E.1).heap ∧ ∀ r, E.2.2.2 r = MQ (mB E.1) (QC G (vof r) (mof r)) (mA E.1) (mS E.1) (mcl E.1) (msl E.1) (Aw G)
variable {ret : Option FieldType} {vof : ρ → Option Value} {mof : ρ → Mem} {r0 : ρ}
theorem z_iret (C : Cx E l G own cc nL h) (R : Rx E G (some .int) vof mof) {x : Int} (d : Dc cc pc .ireturn 1 pc') (hv : vof r0 = some (vi x)) (hm : mof r0 = mem) : Z E G nL mem pc lv [vi x] (some r0) := by
  intro r hr H locs ls hP hS hl
  cases hr
  obtain ⟨r1, r2, r3, r4, r5⟩ := R
  rw [r5, hv, hm]
  rw [r3, r4] at hS
  exact W.iret C.1 C.2.1 r1 (fun t ht hW => ⟨rfl, by rw [ht]; exact hP, hS.F ht⟩) hS.2.2 d.1 r2
theorem z_lret (C : Cx E l G own cc nL h) (R : Rx E G (some .long) vof mof) {x : Int} (d : Dc cc pc .lreturn 1 pc') (hv : vof r0 = some (vl x)) (hm : mof r0 = mem) : Z E G nL mem pc lv [vl x] (some r0) := by
  intro r hr H locs ls hP hS hl
  cases hr
  obtain ⟨r1, r2, r3, r4, r5⟩ := R
  rw [r5, hv, hm]
  rw [r3, r4] at hS
  exact W.lret C.1 C.2.1 r1 (fun t ht hW => ⟨rfl, by rw [ht]; exact hP, hS.F ht⟩) hS.2.2 d.1 r2
theorem z_vret (C : Cx E l G own cc nL h) (R : Rx E G none vof mof) (d : Dc cc pc .return_ 1 pc') (hv : vof r0 = none) (hm : mof r0 = mem) : Z E G nL mem pc lv [] (some r0) := by
  intro r hr H locs ls hP hS hl
  cases hr
  obtain ⟨r1, r2, r3, r4, r5⟩ := R
  rw [r5, hv, hm]
  rw [r3, r4] at hS
  exact W.vret C.1 C.2.1 r1 (fun t ht hW => ⟨rfl, by rw [ht]; exact hP, hS.F ht⟩) hS.2.2 d.1 r2
theorem z_zret (C : Cx E l G own cc nL h) (R : Rx E G (some .boolean) vof mof) {x : Int} (d : Dc cc pc .ireturn 1 pc') (hb : x = 0 ∨ x = 1) (hv : vof r0 = some (vi x)) (hm : mof r0 = mem) : Z E G nL mem pc lv [vi x] (some r0) := by
  intro r hr H locs ls hP hS hl
  cases hr
  obtain ⟨r1, r2, r3, r4, r5⟩ := R
  rw [r5, hv, hm]
  rw [r3, r4] at hS
  refine W.zret C.1 C.2.1 r1 ?_ (fun t ht hW => ⟨rfl, by rw [ht]; exact hP, hS.F ht⟩) hS.2.2 d.1 r2
  rcases hb with rfl | rfl <;> rfl
theorem bit0 (x : Int) : Int32.ofInt x &&& 1 = Int32.ofInt (x % 2) := by
  apply Int32.toInt_inj.mp
  have e : (Int32.ofInt x &&& 1).toInt = (Int32.ofInt x).toInt % 2 := by
    have h1 : ∀ z : BitVec 32, (z &&& 1#32).toInt = z.toInt % 2 := by
      intro z
      have h2 : (z &&& 1#32).toNat = z.toNat % 2 := by
        rw [BitVec.toNat_and]; exact Nat.and_one_is_mod z.toNat
      have h3 : z.toNat % 2 < 2 := Nat.mod_lt _ (by decide)
      rw [BitVec.toInt_eq_toNat_cond, h2, if_pos (by omega), BitVec.toInt_eq_toNat_cond]
      split <;> omega
    exact h1 _
  rw [e, t32, t32]
  have h4 : w32 (x % 2) = x % 2 := w32_id (by omega) (by omega)
  rw [h4]
  unfold w32 Int.bmod
  dsimp only
  split <;> omega
theorem W.zretN {p : Program} {l : Launch} {e : Env} {R : Room} {s : State} {m : MethodId} {args : Array Value} {below : List Frame} {meth : Method} {c : Code} {H : Heap} {locs : List Loc} {cells slots : Nat} {cc : ByteArray} {Qc : Array Value → State → Outcome → State → Prop} {free : Addr → Prop} {v u : Int32} {ty : FieldType} (hexec : p.tables.exec = Jvm.exec) (hb : c.code = cc) (hr : meth.sig.returnType = some ty) (hn : narrow ty (.int v) = .int u)
    (hq : ∀ t : State, t.heap = H → s.WarmedH t.vm → Qc args s (.returned (some (.int u))) t) (hf : ∀ q ∈ locs, free q.base)
    {pc : Nat} {ls : Array Slot} (hdg : decode cc pc = .ok (.ireturn, 1)) (hlocks : meth.locks = false) : W p l e R s m args below meth c H locs cells slots (MQ below Qc args s cells slots free) (F0 m pc ls [.int v]) := by
  intro T hT X
  obtain ⟨fs, hret, hrun, hended, hW, hframe⟩ := X.leave (v := some (.int u)) (fun h => by rw [hr] at h; cases h)
  have hmeth' : T.vm.method? m = some meth := X.method'
  refine ⟨T.setFrames fs, ?_, .returned (some (.int u)), hrun, hended, hq _ hT hW, locs, ⟨⟨_, rfl⟩, hW, hframe⟩, hf⟩
  jvm_step X.here [X.here.top, hexec, hb, hdg, hmeth', hr, hn]
  (try refine ⟨rfl, ?_⟩); (try refine ⟨rfl, ?_⟩)
  first | (intro acts; rw [hret _ acts rfl rfl rfl]) | rw [hret _ _ rfl rfl rfl]
  exact Steps.refl _
theorem z_zretN (C : Cx E l G own cc nL h) (R : Rx E G (some .boolean) vof mof) {x : Int} (d : Dc cc pc .ireturn 1 pc') (hv : vof r0 = some (vi (x % 2))) (hm : mof r0 = mem) : Z E G nL mem pc lv [vi x] (some r0) := by
  intro r hr H locs ls hP hS hl
  cases hr
  obtain ⟨r1, r2, r3, r4, r5⟩ := R
  rw [r5, hv, hm]
  rw [r3, r4] at hS
  exact W.zretN (ty := .boolean) (u := Int32.ofInt (x % 2)) C.1 C.2.1 r1 (by show Value.int (Int32.ofInt x &&& 1) = _; rw [bit0]) (fun t ht hW => ⟨rfl, by rw [ht]; exact hP, hS.F ht⟩) hS.2.2 d.1 r2
theorem ofWF {l : Launch} {y : MethodName} {ws ws' : List Cond} {rm : Room} {Pc : Array Value → State → Prop} {Qc : Array Value → State → Outcome → State → Prop} {mc ms : Nat} {free : Addr → Prop} {cc : ByteArray} {maxL : Nat} {ret : Option FieldType}
    (hy : plainFor y = true) (hw : ws = Cond.code y cc maxL ret :: ws')
    (body : ∀ p e s m args below meth c s₁, BodyLoose p l y (headSpec ws rm) cc maxL ret e s m args below meth c s₁ → c.maxLocals = maxL → Pc args s →
      W p l e (headSpec ws rm).room s m args below meth c s.heap [] 0 0 (MQ below Qc args s mc ms free) (entryFrame m args maxL)) : Met l y ws rm Pc Qc mc ms free := by
  refine MetFree.of_bodySF (code := cc) (maxLocals := maxL) (ret := ret) hy ?_ ?_
  · intro args s m h hn
    obtain ⟨meth, c, h1, h2, h3, h4, h5, h6, -, -⟩ := Cond.code_spec hn (atoms_spec (ws := ws) h _ (by rw [hw]; exact List.mem_cons_self))
    exact ⟨meth, c, h1, h2, h3, h4, h5, h6⟩
  · intro p e s m args below meth c s₁ B hml hP _
    have hh0 : s₁.heap = s.heap := by rw [B.state]; rfl
    obtain ⟨t, a1, o, b1, b2, b3⟩ := body p e s m args below meth c s₁ B hml hP s₁ hh0 (Stand.of_body B)
    exact ⟨t, o, a1, b1, b2, ⟨b3.1, b3.2⟩⟩
/-- from the walk to the contract -/
theorem enter {y : MethodName} {maxL n : Nat} {vs : List Value} {lv0 : Lv} {r : ρ} (mf : MF y cc maxL ret n) (hwn : y.cls = own) (hlv : toA 0 lv0 = lv_args 0 vs) (hsz : (lg_sl vs).length ≤ maxL) (body : ∀ E : Ev ρ, Cx E l G own cc maxL h → Rx E G ret vof mof → Z E G maxL mem 0 lv0 [] o) (ho : o = some r) : CT l G y cc maxL ret h vs mem (vof r) (mof r) := by
  subst hwn
  refine ofWF (cc := cc) (maxL := maxL) (ret := ret) mf.2.2.2.1 rfl ?_
  intro p e s m args below meth c s₁ B hml hv
  obtain ⟨rfl, hP, hK, hap⟩ := hv
  have hts0 := atoms_spec (ws := Cond.code y cc maxL ret :: wt) B.pre
  have hown : s.vm.findClass y.cls = some m.cls := findClass_of_methodNamed B.named
  let X : Mc := (p, l, e, (headSpec (Cond.code y cc maxL ret :: wt) (RM h)).room, s, m, vs.toArray, below, meth, c, 0, 0)
  let E : Ev ρ := (X, Aw G, s.heap, fun r => MQ below (QC G (vof r) (mof r)) vs.toArray s 0 0 (Aw G))
  have C : Cx E l G y.cls cc maxL h := ⟨B.exec, B.bytes, hml, hown, fun w hw => hts0 w (List.mem_cons_of_mem _ hw), hK, rfl, ⟨hap, fun i hi => ⟨i, hi, rfl⟩⟩, ⟨Nat.le_refl _, Nat.le_refl _, Nat.le_refl _, Nat.le_refl _⟩, rfl⟩
  have R : Rx E G ret vof mof := ⟨B.returns, B.notSynchronized, rfl, rfl, fun _ => rfl⟩
  rw [lg_entry_eq]
  have hl := lv_entry vs (n := maxL) hsz
  exact body E C R r ho s.heap [] _ hP va_S.rf (show lv_has _ _ _ by rw [hlv]; exact hl)
/-! arraycopy -/
theorem z_acI (C : Cx E l G own cc nL h) {c0 c1 n0 n1 ix : Nat} {q0 q1 : List Nat} {sp dp n sp' dp' n' : Int} (d : Dc cc pc (.invokestatic ix) 3 pc') (ml : Cond.methodLink own ix arraycopyName ∈ wt) (h1 : (gom G)[c0]? = some (.inl (0, n0, q0))) (h2 : (gom G)[c1]? = some (.inl (0, n1, q1))) (hsp : w32 sp = sp') (hdp : w32 dp = dp') (hn : w32 n = n') (a1 : 0 ≤ sp') (a2 : 0 ≤ dp') (a3 : 0 ≤ n') (a4 : sp' + n' ≤ n0) (a5 : dp' + n' ≤ n1) (hw : (sk.map fun v => v.category).sum ≤ 8) (hh : 1 < h) (k : Z E G nL (cpy mem c0 sp' c1 dp' n') pc' lv sk o) : Z E G nL mem pc lv (vi n :: vi dp :: rf G c1 :: vi sp :: rf G c0 :: sk) o := by
  intro r hr H locs ls hP hS hl
  obtain ⟨d, rfl⟩ := d
  have e1 := ix_nat hsp a1
  have e2 := ix_nat hdp a2
  have e3 := ix_nat hn a3
  have nz : ∀ {x x' : Int}, w32 x = x' → 0 ≤ x' → ¬ Int32.ofInt x < 0 := fun hx h0 q => by rw [z0lt, hx] at q; omega
  have hR := C.2.2.2.2.2.2.2.2.1
  refine va_copyi (A := E.2.1) (H0 := E.2.2.1) C.1 C.2.1 (C.2.2.1.trans hl.1.symm) C.2.2.2.1 (C.2.2.2.2.1 _ ml) (C.2.2.2.2.1 _ ac_n) (C.2.2.2.2.1 _ ac_s) (C.2.2.2.2.1 _ ac_i) C.2.2.2.2.2.1.1 hP (apart_D C.2.2.2.2.2.2.2.1 mem) hS c0 c1 0 0 (wd_get h1) (wd_get h2) rfl rfl rfl (nz hsp a1) (nz hdp a2) (nz hn a3) (by show _ ≤ n0; omega) (by show _ ≤ n1; omega) (fun _ _ => rfl) (by omega) ?_ d (fun H1 locs1 hP1 hD1 hS1 => k r hr H1 locs1 ls ?_ hS1 hl)
  · have hN : nativeFrameWords "java/lang/System" "arraycopy" 5 + 11 ≤ 64 := by decide
    omega
  · rw [cpy_row, ← wd_set h2]
    have ef : va_cpy (fun j : Nat => Int32.ofInt (mem c0 j)) (fun j : Nat => Int32.ofInt (mem c1 j)) (Int32.ofInt sp).toNatClampNeg (Int32.ofInt dp).toNatClampNeg (Int32.ofInt n).toNatClampNeg = fun j : Nat => Int32.ofInt ((fun i' : Int => if dp' ≤ i' ∧ i' < dp' + n' then mem c0 (sp' + (i' - dp')) else mem c1 i') (j : Int)) := by
      funext j
      unfold va_cpy
      by_cases hj : (Int32.ofInt dp).toNatClampNeg ≤ j ∧ j < (Int32.ofInt dp).toNatClampNeg + (Int32.ofInt n).toNatClampNeg
      · have hj2 : dp' ≤ (j : Int) ∧ (j : Int) < dp' + n' := by omega
        rw [if_pos hj]
        simp only [hj2, and_self, if_true]
        congr 2
        omega
      · have hj2 : ¬ (dp' ≤ (j : Int) ∧ (j : Int) < dp' + n') := by omega
        rw [if_neg hj]
        simp only [hj2, if_false]
    simp only [arr0] at hP1
    rw [ef] at hP1
    exact hP1
theorem z_acL (C : Cx E l G own cc nL h) {c0 c1 n0 n1 ix : Nat} {q0 q1 : List Nat} {sp dp n sp' dp' n' : Int} (d : Dc cc pc (.invokestatic ix) 3 pc') (ml : Cond.methodLink own ix arraycopyName ∈ wt) (h1 : (gom G)[c0]? = some (.inl (1, n0, q0))) (h2 : (gom G)[c1]? = some (.inl (1, n1, q1))) (hsp : w32 sp = sp') (hdp : w32 dp = dp') (hn : w32 n = n') (a1 : 0 ≤ sp') (a2 : 0 ≤ dp') (a3 : 0 ≤ n') (a4 : sp' + n' ≤ n0) (a5 : dp' + n' ≤ n1) (hw : (sk.map fun v => v.category).sum ≤ 8) (hh : 1 < h) (k : Z E G nL (cpy mem c0 sp' c1 dp' n') pc' lv sk o) : Z E G nL mem pc lv (vi n :: vi dp :: rf G c1 :: vi sp :: rf G c0 :: sk) o := by
  intro r hr H locs ls hP hS hl
  obtain ⟨d, rfl⟩ := d
  have e1 := ix_nat hsp a1
  have e2 := ix_nat hdp a2
  have e3 := ix_nat hn a3
  have nz : ∀ {x x' : Int}, w32 x = x' → 0 ≤ x' → ¬ Int32.ofInt x < 0 := fun hx h0 q => by rw [z0lt, hx] at q; omega
  have hR := C.2.2.2.2.2.2.2.2.1
  refine va_copyl (A := E.2.1) (H0 := E.2.2.1) C.1 C.2.1 (C.2.2.1.trans hl.1.symm) C.2.2.2.1 (C.2.2.2.2.1 _ ml) (C.2.2.2.2.1 _ ac_n) (C.2.2.2.2.1 _ ac_s) (C.2.2.2.2.1 _ ac_i) C.2.2.2.2.2.1.1 hP (apart_D C.2.2.2.2.2.2.2.1 mem) hS c0 c1 1 1 (wd_get h1) (wd_get h2) rfl rfl rfl (nz hsp a1) (nz hdp a2) (nz hn a3) (by show _ ≤ n0; omega) (by show _ ≤ n1; omega) (fun _ _ => rfl) (by omega) ?_ d (fun H1 locs1 hP1 hD1 hS1 => k r hr H1 locs1 ls ?_ hS1 hl)
  · have hN : nativeFrameWords "java/lang/System" "arraycopy" 5 + 11 ≤ 64 := by decide
    omega
  · rw [cpy_row, ← wd_set h2]
    have ef : va_cpy (fun j : Nat => Int64.ofInt (mem c0 j)) (fun j : Nat => Int64.ofInt (mem c1 j)) (Int32.ofInt sp).toNatClampNeg (Int32.ofInt dp).toNatClampNeg (Int32.ofInt n).toNatClampNeg = fun j : Nat => Int64.ofInt ((fun i' : Int => if dp' ≤ i' ∧ i' < dp' + n' then mem c0 (sp' + (i' - dp')) else mem c1 i') (j : Int)) := by
      funext j
      unfold va_cpy
      by_cases hj : (Int32.ofInt dp).toNatClampNeg ≤ j ∧ j < (Int32.ofInt dp).toNatClampNeg + (Int32.ofInt n).toNatClampNeg
      · have hj2 : dp' ≤ (j : Int) ∧ (j : Int) < dp' + n' := by omega
        rw [if_pos hj]
        simp only [hj2, and_self, if_true]
        congr 2
        omega
      · have hj2 : ¬ (dp' ≤ (j : Int) ∧ (j : Int) < dp' + n') := by omega
        rw [if_neg hj]
        simp only [hj2, if_false]
    simp only [arr1] at hP1
    rw [ef] at hP1
    exact hP1
end Calls
