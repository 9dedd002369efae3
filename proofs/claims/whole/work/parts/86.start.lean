theorem eqR {args : Array Value} {s : State} {t u : Term} {a b : Nat} (h : (Cond.eq t u).before args s = true) (h1 : Term.eval args s none [] s t = some (Value.ref a)) (h2 : Term.eval args s none [] s u = some (Value.ref b)) : a = b := by
  simpa [Cond.before, Cond.holds, Cond.value, h1, h2] using h
theorem stW : ∀ (i : Nat) (q : String × Nat × String × Nat), strPl[i]? = some q → Cond.stringRef q.1 q.2.1 q.2.2.1 ∈ lw_tbl
  | 0, _, e => by cases e; exact mw_3_132
  | 1, _, e => by cases e; exact mw_3_204
  | 2, _, e => by cases e; exact mw_3_226
  | 3, _, e => by cases e; exact mw_3_239
  | 4, _, e => by cases e; exact mw_4_1
  | 5, _, e => by cases e; exact mw_4_2
  | 6, _, e => by cases e; exact mw_4_7
  | 7, _, e => by cases e; exact mw_4_12
  | 8, _, e => by cases e; exact mw_4_13
  | 9, _, e => by cases e; exact mw_4_14
  | 10, _, e => by cases e; exact mw_5_164
  | 11, _, e => by cases e; exact mw_5_166
  | 12, _, e => by cases e; exact mw_5_167
  | 13, _, e => by cases e; exact mw_5_168
  | 14, _, e => by cases e; exact mw_5_169
  | 15, _, e => by cases e; exact mw_5_170
  | 16, _, e => by cases e; exact mw_5_171
  | 17, _, e => by cases e; exact mw_5_172
  | 18, _, e => by cases e; exact mw_5_204
  | 19, _, e => by cases e; exact mw_8_76
  | 20, _, e => by cases e; exact mw_8_115
  | n + 21, _, e => by simp [strPl] at e
theorem neW : ∀ (i : Nat) (q : String × Nat × MethodName × String), nestPl[i]? = some q → Cond.methodLinkNest q.1 q.2.1 q.2.2.1 q.2.2.2 ∈ lw_tbl
  | 0, _, e => by cases e; exact mw_3_213
  | 1, _, e => by cases e; exact mw_6_98
  | n + 2, _, e => by simp [nestPl] at e
theorem ncW : ∀ (i : Nat) (q : String × Nat × MethodName × String), nestC[i]? = some q → Cond.methodLinkNest q.1 q.2.1 q.2.2.1 q.2.2.2 ∈ lw_tbl
  | 0, _, e => by cases e; exact mw_1_31
  | 1, _, e => by cases e; exact mw_1_49
  | 2, _, e => by cases e; exact mw_1_173
  | 3, _, e => by cases e; exact mw_1_226
  | 4, _, e => by cases e; exact mw_2_3
  | 5, _, e => by cases e; exact mw_2_34
  | 6, _, e => by cases e; exact mw_2_51
  | 7, _, e => by cases e; exact mw_2_96
  | 8, _, e => by cases e; exact mw_2_118
  | n + 9, _, e => by simp [nestC] at e
theorem clK {args : Array Value} {s : State} (hts : ∀ w ∈ lw_tbl, w.before args s = true) : ∀ c : Nat, ∃ d : ClassId × (Nat → Nat), ∀ q, vwCl[c]? = some q → u_Kn s q.1 q.2.1 q.2.2 d.1 d.2
  | 0 => by
    obtain ⟨cC, iS, h⟩ := u_known (ws := wt) (fun w hw => hts w (List.mem_filter.mp hw).1) in_X0 (hts _ mw_1_201)
    exact ⟨(cC, iS), fun q e => by cases e; exact h⟩
  | 1 => by
    obtain ⟨cC, iS, h⟩ := u_known (ws := wt) (fun w hw => hts w (List.mem_filter.mp hw).1) in_X1 (hts _ mw_2_33)
    exact ⟨(cC, iS), fun q e => by cases e; exact h⟩
  | 2 => by
    obtain ⟨cC, iS, h⟩ := u_known (ws := wt) (fun w hw => hts w (List.mem_filter.mp hw).1) in_X2 (hts _ mw_2_50)
    exact ⟨(cC, iS), fun q e => by cases e; exact h⟩
  | 3 => by
    obtain ⟨cC, iS, h⟩ := u_known (ws := wt) (fun w hw => hts w (List.mem_filter.mp hw).1) in_X3 (hts _ mw_2_2)
    exact ⟨(cC, iS), fun q e => by cases e; exact h⟩
  | 4 => by
    obtain ⟨cC, iS, h⟩ := u_known (ws := wt) (fun w hw => hts w (List.mem_filter.mp hw).1) in_X4 (hts _ mw_2_95)
    exact ⟨(cC, iS), fun q e => by cases e; exact h⟩
  | 5 => by
    obtain ⟨cC, iS, h⟩ := u_known (ws := wt) (fun w hw => hts w (List.mem_filter.mp hw).1) in_X5 (hts _ mw_1_89)
    exact ⟨(cC, iS), fun q e => by cases e; exact h⟩
  | 6 => by
    obtain ⟨cC, iS, h⟩ := u_known (ws := wt) (fun w hw => hts w (List.mem_filter.mp hw).1) in_X6 (hts _ mw_1_48)
    exact ⟨(cC, iS), fun q e => by cases e; exact h⟩
  | 7 => by
    obtain ⟨cC, iS, h⟩ := u_known (ws := wt) (fun w hw => hts w (List.mem_filter.mp hw).1) in_X7 (hts _ mw_1_30)
    exact ⟨(cC, iS), fun q e => by cases e; exact h⟩
  | 8 => by
    obtain ⟨cC, iS, h⟩ := u_known (ws := wt) (fun w hw => hts w (List.mem_filter.mp hw).1) in_X8 (hts _ mw_1_172)
    exact ⟨(cC, iS), fun q e => by cases e; exact h⟩
  | 9 => by
    obtain ⟨cC, iS, h⟩ := u_known (ws := wt) (fun w hw => hts w (List.mem_filter.mp hw).1) in_X9 (hts _ mw_1_220)
    exact ⟨(cC, iS), fun q e => by cases e; exact h⟩
  | 10 => by
    obtain ⟨cC, iS, h⟩ := u_known (ws := wt) (fun w hw => hts w (List.mem_filter.mp hw).1) in_X10 (hts _ mw_2_117)
    exact ⟨(cC, iS), fun q e => by cases e; exact h⟩
  | 11 => by
    obtain ⟨cC, iS, h⟩ := u_known (ws := wt) (fun w hw => hts w (List.mem_filter.mp hw).1) in_X11 (hts _ mw_1_22)
    exact ⟨(cC, iS), fun q e => by cases e; exact h⟩
  | 12 => by
    obtain ⟨cC, iS, h⟩ := u_known (ws := wt) (fun w hw => hts w (List.mem_filter.mp hw).1) in_X12 (hts _ mw_7_46)
    exact ⟨(cC, iS), fun q e => by cases e; exact h⟩
  | n + 13 => ⟨(Classical.choice ⟨(clK hts 0).choose.1⟩, fun _ => 0), fun q e => by simp [vwCl] at e⟩
theorem arK {args : Array Value} {s : State} {ty : FieldType} (hn : ∀ C, ty ≠ .object C) (h : (Cond.arrayClass ty).before args s = true) : ∃ cA, ArrOfT s cA ty ∧ va_RA s cA ty := by
  obtain ⟨c, k, comp, h1, h2, h3⟩ := Cond.arrayClass_spec (args := args) (first := s) (o := none) (s := s) (idx := []) h
  refine ⟨c, fun n z => ⟨fun q e => (by cases e), k, h2, comp, h3⟩, ?_⟩
  cases ty with
  | object C => exact absurd rfl (hn C)
  | _ => exact h1
theorem aoK {args : Array Value} {s : State} {C : String} (h : (Cond.arrayOver (.object C)).before args s = true) : ∃ cA, ArrOfT s cA (.object C) ∧ va_RA s cA (.object C) := by
  obtain ⟨comp, c, k, h1, h2, h3, h4, h5⟩ := Cond.arrayOver_spec (args := args) (first := s) (o := none) (s := s) (idx := []) h
  exact ⟨c, fun n z => ⟨fun q e => (by cases e), k, h3, comp, h4⟩, k, comp, h3, h4, h1, h5⟩
theorem KG0 {args : Array Value} {s : State} (hts : ∀ w ∈ lw_tbl, w.before args s = true) (hgv : (Jvm.Cond.and given_1 narrow_1).before args s = true) : ∃ (D : va_G) (TY : Nat → ClassId) (sa sv : Nat → Nat) (sf : Value), ∀ (ad : Nat → Nat) (om : List Shp), KG (D, ad, TY, om, sa, sv, sf) (fun q => s.heap.size ≤ q) s := by
  have hs := flat_of_before _ hgv
  have hA : ∀ a : Nat, a < s.heap.size → ¬ (fun q => s.heap.size ≤ q) a := fun a h q => by have : s.heap.size ≤ a := q; omega
  obtain ⟨fD, hD⟩ := Classical.axiomOfChoice (clK hts)
  obtain ⟨t0, a0, b0⟩ := arK (ty := .int) (fun _ h => by cases h) (hts _ (List.mem_filter.mp mw_1_46).1)
  obtain ⟨t1, a1, b1⟩ := arK (ty := .long) (fun _ h => by cases h) (hts _ (List.mem_filter.mp mw_1_45).1)
  obtain ⟨t2, a2, b2⟩ := arK (ty := .byte) (fun _ h => by cases h) (hts _ (List.mem_filter.mp mw_4_24).1)
  obtain ⟨t3, a3, b3⟩ := aoK (C := RX5) (hts _ mw_2_171)
  obtain ⟨t4, a4, b4⟩ := aoK (C := RX8) (hts _ mw_2_172)
  obtain ⟨sa, sv, hS, hev⟩ := vk_Sof (args := args) (s := s) (N := nST) (tm := tmS) (len := lenST) (byt := bytST) (A := fun q => s.heap.size ≤ q) (fun i hi => Nat.lt_of_le_of_lt (nA7 ⟨i, hi⟩) (by decide)) (fun i hi => hs _ (nA1 i hi)) (fun i hi => hs _ (nA2 i hi)) (fun i hi => hs _ (nA3 i hi)) (fun i hi => hs _ (nA4 i hi)) (fun i hi j hj => hs _ (nA5 i hi j hj)) (fun i j hi hj hne => (nA6 i hi j hj hne).imp (hs _) (hs _)) hA
  have hZ := va_Zof (A := fun q => s.heap.size ≤ q) (hts _ mw_3_146) (hts _ (List.mem_filter.mp mw_1_16).1) (va_eqt (hs _ nA10)) hA
  have hq := va_Zqof (A := fun q => s.heap.size ≤ q) (hts _ mw_3_162) (hts _ (List.mem_filter.mp mw_1_18).1) (hs _ nA11) hA
  have hsf : ∃ sf : Value, va_Z "jdk/internal/util/Preconditions" "SIOOBE_FORMATTER" "Ljava/util/function/BiFunction;" sf (fun q => s.heap.size ≤ q) s s.heap ∧ (sf = .null ∨ ∃ t, sf = .ref t) := by
    rcases hq with h | ⟨t, h⟩
    · exact ⟨.null, h, Or.inl rfl⟩
    · exact ⟨.ref t, h, Or.inr ⟨t, rfl⟩⟩
  obtain ⟨sf, hsf1, hsf2⟩ := hsf
  refine ⟨(fun c => (fD c).1, fun c => (fD c).2), fun k => [t0, t1, t2, t3, t4].getD k t0, sa, sv, sf, fun ad om => ⟨⟨fun c q e => hD c q e, ?_⟩, ?_, hS, hZ, fun i q e => va_Nw.of rfl (hts _ (neW i q e)), hsf1, hsf2⟩⟩
  · intro k q e
    match k, e with
    | 0, e => cases e; exact ⟨a0, b0⟩
    | 1, e => cases e; exact ⟨a1, b1⟩
    | 2, e => cases e; exact ⟨a2, b2⟩
    | 3, e => cases e; exact ⟨a3, b3⟩
    | 4, e => cases e; exact ⟨a4, b4⟩
    | n + 5, e => simp [tysG] at e
  · intro i q e
    refine vk_R.of (hts _ (stW i q e)) ?_
    match i, e with
    | 0, e => cases e; exact hev 0 (by decide)
    | 1, e => cases e; exact hev 1 (by decide)
    | 2, e => cases e; exact hev 2 (by decide)
    | 3, e => cases e; exact hev 3 (by decide)
    | 4, e => cases e; exact hev 4 (by decide)
    | 5, e => cases e; exact hev 5 (by decide)
    | 6, e => cases e; exact hev 6 (by decide)
    | 7, e => cases e; exact hev 7 (by decide)
    | 8, e => cases e; exact hev 8 (by decide)
    | 9, e => cases e; exact hev 9 (by decide)
    | 10, e => cases e; exact hev 10 (by decide)
    | 11, e => cases e; exact hev 11 (by decide)
    | 12, e => cases e; exact hev 12 (by decide)
    | 13, e =>
      cases e
      obtain ⟨a, c, cA, kA, q1, -⟩ := Cond.exactly_spec (args := args) (first := s) (o := none) (s := s) (idx := []) (hs _ nA8)
      have := eqR (hs _ nA9) (hev 1 (by decide)) q1
      subst this
      exact q1
    | 14, e => cases e; exact hev 13 (by decide)
    | 15, e => cases e; exact hev 14 (by decide)
    | 16, e => cases e; exact hev 15 (by decide)
    | 17, e => cases e; exact hev 16 (by decide)
    | 18, e => cases e; exact hev 17 (by decide)
    | 19, e => cases e; exact hev 18 (by decide)
    | 20, e => cases e; exact hev 19 (by decide)
    | n + 21, e => simp [strPl] at e
