/-! makers: calls, ends, entry -/
theorem KG.toA {G : Gw} {A A' : Nat → Prop} {s U : State} {H : Heap} {locs : List Loc} (k : KG G A s) (hS : va_S A s.heap H locs) (hU : U.heap = H) (hW : s.WarmedH U.vm) (hA : ∀ q, A' q → A q) : KG G A' U := by
  obtain ⟨k1, k2, k3, k4, k6, k5, k7⟩ := k
  have hq : ∀ a : Nat, a < s.heap.size → ¬ A a → H[a]? = s.heap[a]? := fun a h1 h2 => hS.2.1 a h1 h2
  refine ⟨va_K.moved hW.alike k1, fun i q h => (k2 i q h).warm hW, ?_, ?_, fun i q h => (k6 i q h).warmM hW, ?_, k7⟩
  · rw [hU]; exact ((k3.kept hq).moved hW.alike).narrow hA
  · rw [hU]; exact ((k4.kept hq).moved hW.alike).narrow hA
  · rw [hU]; exact ((k5.kept hq).moved hW.alike).narrow hA
theorem NST.to {s U : State} (h : NST s) (hW : s.WarmedH U.vm) : NST U := ⟨fun i q e => (h.1 i q e).warmM hW, h.2.1.moved hW.alike, h.2.2.moved hW.alike⟩
theorem P_right {D : va_G} {cl : List vw_C} {a b : va_W} {H : Heap} (h : va_P D cl (a ++ b) H) : va_P D cl b H := fun k q e => h (a.length + k) q (by rw [List.getElem?_append_right (by omega)]; simpa using e)
theorem D_right {A : Nat → Prop} {a b : va_W} (h : va_D A (a ++ b)) : va_D A b := by
  refine ⟨fun i j p q hp hq e => ?_, fun k q e => h.2 (a.length + k) q (by rw [List.getElem?_append_right (by omega)]; simpa using e)⟩
  have := h.1 (a.length + i) (a.length + j) p q (by rw [List.getElem?_append_right (by omega)]; simpa using hp) (by rw [List.getElem?_append_right (by omega)]; simpa using hq) e
  omega
theorem A_right {A0 : Nat → Prop} {a b : va_W} {H0 H : Heap} {locs : List Loc} (hD : va_D A0 (a ++ b)) (hS : va_S A0 H0 H locs) (hA : ∀ q, H0.size ≤ q → A0 q) : ∀ q, va_A b H.size q → A0 q := by
  intro q h
  rcases h with ⟨k, e, h⟩ | h
  · exact (D_right hD).2 k (q, e) h
  · exact hA q (Nat.le_trans hS.1 h)
section Ycalls
variable {E : Ev Unit} {l : Launch} {G : Gw} {own : String} {cc : ByteArray} {nL h rk rn : Nat} {ws wr : va_W} {k n pc pc' : Nat} {lv : Lv} {sk : List Value}
theorem roomK (C : Cy E l G own cc nL h rk rn) {h' maxL : Nat} (hh : h' < h) (hm : maxL ≤ 45) : h' + 1 ≤ (mR E.1).frames ∧ 8 + (maxL + 11) + 64 * h' ≤ (mR E.1).locals := by
  have := C.2.2.2.2.2.2.2.2.1
  constructor <;> omega
/-- behind a maker's call -/
theorem afterK {wc : va_W} {Post : va_W → Prop} {k' n' : Nat} {H : Heap} {locs : List Loc} {ls : Array Slot} {g0 : List Value} {a : Array Value} (C : Cy E l G own cc nL h rk rn) (hr : va_Run (mP E.1) (mL E.1) (mE E.1) (mR E.1) (mS E.1) (mM E.1) (mA E.1) (mB E.1) (mT E.1) (mC E.1) H locs k n k' n' (F0 (mM E.1) pc ls g0) sk (QK G wc H.size Post a) (va_A wc H.size)) (hP : va_P (gD G) vwCl (ws ++ wc) H) (hD : va_D E.2.1 (ws ++ wc)) (hS : va_S E.2.1 E.2.2.1 H locs) (hl : Lh ls nL lv) (kk : ∀ w1, Post w1 → Y E G nL (ws ++ w1) (k + k') (n + n') (pc + 3) lv sk) : W (mP E.1) (mL E.1) (mE E.1) (mR E.1) (mS E.1) (mM E.1) (mA E.1) (mB E.1) (mT E.1) (mC E.1) H locs k n (E.2.2.2 ()) (F0 (mM E.1) pc ls g0) := by
  intro T hT X
  have hA : ∀ q, E.2.2.1.size ≤ q → E.2.1 q := by rw [C.2.2.2.2.2.2.1]; exact C.2.2.2.2.2.2.2.1
  have hF := A_right hD hS hA
  obtain ⟨v1, st0, t, T', L, h0, X', hL, e1, e2, ⟨hv, ⟨w1, hp, hP1, hD1⟩, hz, hk⟩, st1⟩ := hr T hT X
  cases hv
  rw [h0] at hz hk
  have hk' : ∀ q : Nat, q < H.size → ¬ va_A wc H.size q → T'.heap[q]? = H[q]? := fun q a b => by rw [e1]; exact hk q a b
  obtain ⟨hP2, hD2⟩ := joinA hP hD hk' hF (by rw [e1]; exact hP1) hD1
  have hS1 : va_S E.2.1 E.2.2.1 T'.heap (locs ++ L) := by
    refine ⟨Nat.le_trans hS.1 (by rw [e1]; exact hz), fun q h1 h2 => ?_, fun q hq => ?_⟩
    · rw [hk' q (Nat.lt_of_lt_of_le h1 hS.1) (fun z => h2 (hF q z))]; exact hS.2.1 q h1 h2
    · rcases List.mem_append.mp hq with h | h
      · exact hS.2.2 q h
      · exact hF _ (hL q h)
  obtain ⟨t2, a1, b1⟩ := kk w1 hp T'.heap (locs ++ L) ls hP2 hD2 hS1 hl T' rfl X'
  exact ⟨t2, st1 t2 a1, b1⟩
theorem preK (C : Cy E l G own cc nL h rk rn) {wc : va_W} {H : Heap} {locs : List Loc} {vs : List Value} (hP : va_P (gD G) vwCl (ws ++ wc) H) (hD : va_D E.2.1 (ws ++ wc)) (hS : va_S E.2.1 E.2.2.1 H locs) : ∀ U : State, U.heap = H → (mS E.1).WarmedH U.vm → va_Pc vs (PK G wc H.size) vs.toArray U := by
  intro U hU hW
  have hA : ∀ q, E.2.2.1.size ≤ q → E.2.1 q := by rw [C.2.2.2.2.2.2.1]; exact C.2.2.2.2.2.2.2.1
  refine ⟨rfl, by rw [hU], by rw [hU]; exact P_right hP, (D_right hD).weaken (fun _ _ _ _ => trivial), ?_, C.2.2.2.2.2.2.2.2.2.2.2.to hW⟩
  have hS' := hS
  rw [C.2.2.2.2.2.2.1] at hS'
  exact KG.toA C.2.2.2.2.2.1 hS' hU hW (A_right hD hS hA)
theorem y_callI (C : Cy E l G own cc nL h rk rn) {y : MethodName} {bc : ByteArray} {maxL h' k' n' nA ix q : Nat} {As sk0 : List Value} {wc : va_W} {Post : va_W → Prop} (d : Dc cc pc (.invokespecial ix) 3 pc') (mf : MF y bc maxL none nA) (hy : y.name = "<init>") (him : Cond.instanceMethod y ∈ wt) (ml : Cond.methodLink own ix y ∈ wt) (hn : As.length = nA) (hst : sk0 = As.reverse ++ .ref q :: sk) (hw : (sk.map fun v => v.category).sum ≤ 8) (hh : h' < h) (h1 : k + k' ≤ rk) (h2 : n + n' ≤ rn) (ct : KT l G y bc maxL h' k' n' (.ref q :: As) wc Post) (kk : ∀ w1, Post w1 → Y E G nL (ws ++ w1) (k + k') (n + n') pc' lv sk) : Y E G nL (ws ++ wc) k n pc lv sk0 := by
  intro H locs ls hP hD hS hl
  obtain ⟨d, rfl⟩ := d
  subst hst
  have hl0 := C.2.2.2.2.2.2.2.2.2.1
  have hR := C.2.2.2.2.2.2.2.2.1
  have ct' := ct H.size
  rw [← hl0] at ct'
  have run := va_runI (H := H) (locs := locs) (cells := k) (slots := n) (e := mE E.1) (below := mB E.1) (meth := mT E.1) (S := ⟨C.1, C.2.1, C.2.2.1, C.2.2.2.1, C.2.2.2.2.1⟩) ct' ⟨callB_of nA C.2.2.2.2.1 (goodC mf.1) rfl rfl rfl (C.2.2.2.2.1 _ mf.2.1) (C.2.2.2.2.1 _ ml) mf.2.2.1 (roomK C hh mf.2.2.2.2), hy, C.2.2.2.2.1 _ him⟩ ⟨blindK, preK C hP hD hS⟩ (g := F0 (mM E.1) pc ls (As.reverse ++ .ref q :: sk)) (rest := sk) rfl hn hl.1 rfl (lv_room hw) d ⟨by omega, by omega⟩
  exact afterK C run hP hD hS hl kk
theorem y_callN (C : Cy E l G own cc nL h rk rn) {y : MethodName} {bc : ByteArray} {maxL h' k' n' nA ix q i : Nat} {host : String} {As sk0 : List Value} {wc : va_W} {Post : va_W → Prop} (d : Dc cc pc (.invokespecial ix) 3 pc') (mf : MF y bc maxL none nA) (hy : y.name = "<init>") (him : Cond.instanceMethod y ∈ wt) (ml : nestC[i]? = some (own, ix, y, host)) (hn : As.length = nA) (hst : sk0 = As.reverse ++ .ref q :: sk) (hw : (sk.map fun v => v.category).sum ≤ 8) (hh : h' < h) (h1 : k + k' ≤ rk) (h2 : n + n' ≤ rn) (ct : KT l G y bc maxL h' k' n' (.ref q :: As) wc Post) (kk : ∀ w1, Post w1 → Y E G nL (ws ++ w1) (k + k') (n + n') pc' lv sk) : Y E G nL (ws ++ wc) k n pc lv sk0 := by
  intro H locs ls hP hD hS hl
  obtain ⟨d, rfl⟩ := d
  subst hst
  have hl0 := C.2.2.2.2.2.2.2.2.2.1
  have hR := C.2.2.2.2.2.2.2.2.1
  have ct' := ct H.size
  rw [← hl0] at ct'
  have run := va_runIN (H := H) (locs := locs) (cells := k) (slots := n) (e := mE E.1) (below := mB E.1) (meth := mT E.1) (S := ⟨C.1, C.2.1, C.2.2.1, C.2.2.2.1, C.2.2.2.2.1⟩) ct' ⟨va_cnB nA C.2.2.2.2.1 (goodC mf.1) rfl rfl rfl (C.2.2.2.2.2.2.2.2.2.2.2.1 i _ ml) (C.2.2.2.2.1 _ mf.2.1) mf.2.2.1 (roomK C hh mf.2.2.2.2), hy, C.2.2.2.2.1 _ him⟩ ⟨blindK, preK C hP hD hS⟩ (g := F0 (mM E.1) pc ls (As.reverse ++ .ref q :: sk)) (rest := sk) rfl hn hl.1 rfl (lv_room hw) d ⟨by omega, by omega⟩
  exact afterK C run hP hD hS hl kk
/-- a method of the light walk, over the maker's own cells -/
theorem y_callC (C : Cy E l G own cc nL h rk rn) {G' : Gw} {y : MethodName} {bc : ByteArray} {maxL h' nA ix c0 ci N : Nat} {T : u_T} {ks : List (Nat ⊕ Nat)} {As sk0 : List Value} {mem mem' : Mem} (hG1 : gD G' = gD G) (hG2 : gTY G' = gTY G) (hG3 : gsa G' = gsa G) (hG4 : gsv G' = gsv G) (hG5 : gsf G' = gsf G) (d : Dc cc pc (.invokevirtual ix) 3 pc') (mf : MF y bc maxL none nA) (mv : MV y) (ml : Cond.methodLink own ix y ∈ wt) (hs : (gom G')[c0]? = some (.inr (ci, ks))) (hc : vwCl[ci]? = some (y.cls, T, N)) (hn : As.length = nA) (hst : sk0 = As.reverse ++ rf G' c0 :: sk) (hw : (sk.map fun v => v.category).sum ≤ 8) (hh : h' < h) (h1 : k ≤ rk) (h2 : n ≤ rn) (ct : CT l G' y bc maxL none h' (rf G' c0 :: As) mem none mem') (kk : Y E G nL (wd G' mem') k n pc' lv sk) : Y E G nL (wd G' mem) k n pc lv sk0 := by
  intro H locs ls hP hD hS hl
  obtain ⟨d, rfl⟩ := d
  subst hst
  have hl0 := C.2.2.2.2.2.2.2.2.2.1
  have hR := C.2.2.2.2.2.2.2.2.1
  have hA : ∀ q, E.2.2.1.size ≤ q → E.2.1 q := by rw [C.2.2.2.2.2.2.1]; exact C.2.2.2.2.2.2.2.1
  have ct' : CT (mL E.1) G' y bc maxL none h' (rf G' c0 :: As) mem none mem' := by rw [hl0]; exact ct
  have hP' : va_P (gD G') vwCl (wd G' mem) H := by rw [hG1]; exact hP
  have hAw : ∀ q, Aw G' q → E.2.1 q := by
    intro q ⟨c, hc, e⟩
    rw [e]
    have := hD.2 c (gad G' c, cellE (gad G') (gTY G') ((gom G')[c]'hc) (mem c)) (wd_get (List.getElem?_eq_getElem hc))
    exact this
  have hap : ApartP G' := by
    intro i j hi hj e
    exact hD.1 i j _ _ (wd_get (mem := mem) (List.getElem?_eq_getElem hi)) (wd_get (mem := mem) (List.getElem?_eq_getElem hj)) e
  have hKG : KG G' E.2.1 (mS E.1) := by
    have q := C.2.2.2.2.2.1
    unfold KG tysG at q ⊢
    rw [hG1, hG2, hG3, hG4, hG5]; exact q
  have hS' := hS
  rw [C.2.2.2.2.2.2.1] at hS'
  have pre : ∀ U : State, U.heap = H → (mS E.1).WarmedH U.vm → va_Pc (rf G' c0 :: As) (PCt G' mem) (rf G' c0 :: As).toArray U := fun U hU hW => ⟨rfl, by rw [hU]; exact hP', KG.toA hKG hS' hU hW hAw, hap⟩
  have run := va_runV (H := H) (locs := locs) (cells := k) (slots := n) (e := mE E.1) (below := mB E.1) (meth := mT E.1) (S := ⟨C.1, C.2.1, C.2.2.1, C.2.2.2.1, C.2.2.2.2.1⟩) ct' (cwV nA C.2.2.2.2.1 (goodV mf mv ml) rfl rfl rfl ⟨rfl, mf.2.2.1⟩ (roomK C hh mf.2.2.2.2)) ⟨blind, va_recv hKG.1 hP' hc (wd_get hs), pre⟩ (g := F0 (mM E.1) pc ls (As.reverse ++ rf G' c0 :: sk)) (rest := sk) rfl hn hl.1 rfl (lv_room hw) d ⟨by omega, by omega⟩
  intro Tt hT X
  obtain ⟨v1, st0, t, T', L, h0, X', hL, e1, e2, ⟨hv, hP1, hz, hk⟩, st1⟩ := run Tt hT X
  cases hv
  rw [h0] at hz hk
  have hS1 : va_S E.2.1 E.2.2.1 T'.heap (locs ++ L) := by
    refine ⟨Nat.le_trans hS.1 (by rw [e1]; exact hz), fun q h1 h2 => ?_, fun q hq => ?_⟩
    · rw [e1, hk q (Nat.lt_of_lt_of_le h1 hS.1) (fun z => h2 (hAw q z))]; exact hS.2.1 q h1 h2
    · rcases List.mem_append.mp hq with h | h
      · exact hS.2.2 q h
      · exact hAw _ (hL q h)
  have hD2 : va_D E.2.1 (wd G' mem') := apart_D ⟨hap, fun i hi => hAw _ ⟨i, hi, rfl⟩⟩ mem'
  obtain ⟨t2, a1, b1⟩ := kk T'.heap (locs ++ L) ls (by rw [e1, ← hG1]; exact hP1) hD2 hS1 hl T' rfl X'
  exact ⟨t2, st1 t2 a1, b1⟩
def Ry (E : Ev Unit) (G : Gw) (ws0 : va_W) (Post : va_W → Prop) (k n : Nat) : Prop := (mT E.1).sig.returnType = none ∧ (mT E.1).locks = false ∧ E.2.1 = va_A ws0 (mS E.1).heap.size ∧ E.2.2.1 = (mS E.1).heap ∧ E.2.2.2 () = MQ (mB E.1) (QK G ws0 (mS E.1).heap.size Post) (mA E.1) (mS E.1) k n (va_A ws0 (mS E.1).heap.size)
theorem y_ret (C : Cy E l G own cc nL h rk rn) {ws0 : va_W} {Post : va_W → Prop} (R : Ry E G ws0 Post k n) (d : Dc cc pc .return_ 1 pc') (hp : Post ws) : Y E G nL ws k n pc lv [] := by
  intro H locs ls hP hD hS hl
  obtain ⟨r1, r2, r3, r4, r5⟩ := R
  rw [r5]
  rw [r3, r4] at hS
  rw [r3] at hD
  exact W.vret C.1 C.2.1 r1 (fun t ht hW => ⟨rfl, ⟨ws, hp, by rw [ht]; exact hP, hD⟩, hS.F ht⟩) hS.2.2 d.1 r2
theorem enterK {y : MethodName} {maxL nA : Nat} {vs : List Value} {lv0 : Lv} {ws0 : va_W} {Post : va_W → Prop} (mf : MF y cc maxL none nA) (hwn : y.cls = own) (hyn : y.name = "<init>") (hlv : toA 0 lv0 = lv_args 0 vs) (hsz : (lg_sl vs).length ≤ maxL) (body : ∀ E : Ev Unit, Cy E l G own cc maxL h k n → Ry E G ws0 Post k n → Y E G maxL ws0 0 0 0 lv0 []) : KT l G y cc maxL h k n vs ws0 Post := by
  subst hwn
  intro sz
  refine ofWF (cc := cc) (maxL := maxL) (ret := none) mf.2.2.2.1 rfl ?_
  intro p e s m args below meth c s₁ B hml hv
  obtain ⟨rfl, rfl, hP, hD, hK, hN⟩ := hv
  have hts0 := atoms_spec (ws := Cond.code y cc maxL none :: wt) B.pre
  have hown : s.vm.findClass y.cls = some m.cls := findClass_of_methodNamed B.named
  have hin : meth.name = "<init>" := by rw [(name_of_methodNamed B.named B.method).1]; exact hyn
  let X : Mc := (p, l, e, (headSpec (Cond.code y cc maxL none :: wt) (RMc h k n)).room, s, m, vs.toArray, below, meth, c, 0, 0)
  let E : Ev Unit := (X, va_A ws0 s.heap.size, s.heap, fun _ => MQ below (QK G ws0 s.heap.size Post) vs.toArray s k n (va_A ws0 s.heap.size))
  have C : Cy E l G y.cls cc maxL h k n := ⟨B.exec, B.bytes, hml, hown, fun w hw => hts0 w (List.mem_cons_of_mem _ hw), hK, rfl, fun q hq => Or.inr hq, ⟨Nat.le_refl _, Nat.le_refl _, Nat.le_refl _, Nat.le_refl _⟩, rfl, fun _ => hin, hN⟩
  have R : Ry E G ws0 Post k n := ⟨B.returns, B.notSynchronized, rfl, rfl, rfl⟩
  rw [lg_entry_eq]
  have hl := lv_entry vs (n := maxL) hsz
  exact body E C R s.heap [] _ hP hD.self va_S.rf (show lv_has _ _ _ by rw [hlv]; exact hl)
end Ycalls
