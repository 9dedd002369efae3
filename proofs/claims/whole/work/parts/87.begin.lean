/-! the law's first steps -/
theorem d_L_law_0 : Dc cL_law 0 (.new 7) 3 3 := dcI (by decide +kernel) rfl
theorem d_L_law_3 : Dc cL_law 3 .dup 1 4 := dcI (by decide +kernel) rfl
theorem d_L_law_4 : Dc cL_law 4 (.invokespecial 9) 3 7 := dcI (by decide +kernel) rfl
theorem d_L_law_7 : Dc cL_law 7 (.astore_n 1) 1 8 := dcI (by decide +kernel) rfl
theorem d_L_law_8 : Dc cL_law 8 (.new 10) 3 11 := dcI (by decide +kernel) rfl
theorem d_L_law_11 : Dc cL_law 11 .dup 1 12 := dcI (by decide +kernel) rfl
theorem d_L_law_12 : Dc cL_law 12 (.invokespecial 12) 3 15 := dcI (by decide +kernel) rfl
theorem d_L_law_15 : Dc cL_law 15 (.astore_n 2) 1 16 := dcI (by decide +kernel) rfl
theorem d_L_law_16 : Dc cL_law 16 (.iconst 0) 1 17 := dcI (by decide +kernel) rfl
theorem d_L_law_17 : Dc cL_law 17 (.istore_n 3) 1 18 := dcI (by decide +kernel) rfl
section Ybegin
variable {E : Ev Unit} {l : Launch} {G : Gw} {own : String} {cc : ByteArray} {nL h rk rn : Nat} {ws wr : va_W} {k n pc pc' : Nat} {lv : Lv} {sk : List Value}
theorem y_astore_1 (C : Cy E l G own cc nL h rk rn) {a0 : Option Value} {u : Option Value} {t : Lv} {x : Nat} (d : Dc cc pc (.astore_n 1) 1 pc') (hn : 1 < nL) (hc : c1 a0 = true) (kk : Y E G nL ws k n pc' (a0 :: some (.ref x) :: t) sk) : Y E G nL ws k n pc (a0 :: u :: t) (.ref x :: sk) := by
  intro H locs ls hP hD hS hl
  obtain ⟨d, rfl⟩ := d
  refine lv_astore_n C.1 C.2.1 d rfl hl hn rfl (fun ls' hl' => kk H locs ls' hP hD hS ?_)
  refine Lh.st1 hl' rfl ?_ ?_
  · intro j hj
    match j, hj with
    | 0, _ => rfl
    | 1, hj => exact absurd rfl hj
    | j + 2, _ => rfl
  · exact (by
    intro j hj w hw
    obtain rfl : j = 0 := by omega
    have e : a0 = some w := by simpa using hw
    rw [e] at hc
    simpa [c1] using hc)
theorem y_astore_2 (C : Cy E l G own cc nL h rk rn) {a0 a1 : Option Value} {u : Option Value} {t : Lv} {x : Nat} (d : Dc cc pc (.astore_n 2) 1 pc') (hn : 2 < nL) (hc : c1 a1 = true) (kk : Y E G nL ws k n pc' (a0 :: a1 :: some (.ref x) :: t) sk) : Y E G nL ws k n pc (a0 :: a1 :: u :: t) (.ref x :: sk) := by
  intro H locs ls hP hD hS hl
  obtain ⟨d, rfl⟩ := d
  refine lv_astore_n C.1 C.2.1 d rfl hl hn rfl (fun ls' hl' => kk H locs ls' hP hD hS ?_)
  refine Lh.st1 hl' rfl ?_ ?_
  · intro j hj
    match j, hj with
    | 0, _ => rfl
    | 1, _ => rfl
    | 2, hj => exact absurd rfl hj
    | j + 3, _ => rfl
  · exact (by
    intro j hj w hw
    obtain rfl : j = 1 := by omega
    have e : a1 = some w := by simpa using hw
    rw [e] at hc
    simpa [c1] using hc)
theorem y_istore_3 (C : Cy E l G own cc nL h rk rn) {a0 a1 a2 : Option Value} {u : Option Value} {t : Lv} {x : Int} (d : Dc cc pc (.istore_n 3) 1 pc') (hn : 3 < nL) (hc : c1 a2 = true) (kk : Y E G nL ws k n pc' (a0 :: a1 :: a2 :: some (vi x) :: t) sk) : Y E G nL ws k n pc (a0 :: a1 :: a2 :: u :: t) (vi x :: sk) := by
  intro H locs ls hP hD hS hl
  obtain ⟨d, rfl⟩ := d
  refine lv_istore_n C.1 C.2.1 d rfl hl hn rfl (fun ls' hl' => kk H locs ls' hP hD hS ?_)
  refine Lh.st1 hl' rfl ?_ ?_
  · intro j hj
    match j, hj with
    | 0, _ => rfl
    | 1, _ => rfl
    | 2, _ => rfl
    | 3, hj => exact absurd rfl hj
    | j + 4, _ => rfl
  · exact (by
    intro j hj w hw
    obtain rfl : j = 2 := by omega
    have e : a2 = some w := by simpa using hw
    rw [e] at hc
    simpa [c1] using hc)
end Ybegin
/-! the two worlds joined -/
def okR (n : Nat) : Shp → Bool
  | .inl a => a.2.2.all (fun t => Nat.blt t n)
  | .inr o => o.2.all (fun kd => match kd with | .inl t => Nat.blt t n | .inr _ => true)
theorem mk_congr {α β : Type} {f g : Nat → α → β} : ∀ (l : List α) (k : Nat), (∀ i a, i < l.length → a ∈ l → f (k + i) a = g (k + i) a) → mk f k l = mk g k l
  | [], _, _ => rfl
  | a :: l, k, h => by
    unfold mk
    have h0 := h 0 a (by simp) (by simp)
    rw [Nat.add_zero] at h0
    have h1 := mk_congr (f := f) (g := g) l (k + 1) (fun i b hi hb => by
      have := h (i + 1) b (by simp; omega) (by simp [hb])
      have e : k + 1 + i = k + (i + 1) := by omega
      rw [e]
      exact this)
    rw [h0, h1]
theorem mk_app {α β : Type} {f : Nat → α → β} : ∀ (a b : List α) (k : Nat), mk f k (a ++ b) = mk f k a ++ mk f (k + a.length) b
  | [], b, k => by simp [mk]
  | x :: a, b, k => by
    show f k x :: mk f (k + 1) (a ++ b) = _
    rw [mk_app a b (k + 1)]
    simp [mk, Nat.add_comm, Nat.add_left_comm]
theorem cellJ_congr {ad ad' : Nat → Nat} {TY : Nat → ClassId} {n : Nat} (he : ∀ k, k < n → ad k = ad' k) (sh : Shp) (ho : okR n sh = true) (row : Int → Int) : cellJ ad TY sh row = cellJ ad' TY sh row := by
  cases sh with
  | inl a =>
    have hm : a.2.2.map ad = a.2.2.map ad' := by
      refine List.map_congr_left (fun t ht => he t ?_)
      have := List.all_eq_true.mp ho t ht
      simpa [Nat.blt_eq] using this
    show (Sum.inl (TY a.1, a.2.1, arrJ ad a.1 a.2.2 row) : va_E) = Sum.inl (TY a.1, a.2.1, arrJ ad' a.1 a.2.2 row)
    unfold arrJ
    rw [hm]
  | inr o =>
    show (Sum.inr (o.1, mk (fun k kd => fldV ad kd (row k)) 0 o.2) : va_E) = Sum.inr (o.1, mk (fun k kd => fldV ad' kd (row k)) 0 o.2)
    have : mk (fun k kd => fldV ad kd (row k)) 0 o.2 = mk (fun k kd => fldV ad' kd (row k)) 0 o.2 := by
      refine mk_congr o.2 0 (fun i kd _ hk => ?_)
      have h1 := List.all_eq_true.mp ho kd hk
      cases kd with
      | inl t =>
        show Value.ref (ad t) = Value.ref (ad' t)
        rw [he t (by simpa [Nat.blt_eq] using h1)]
      | inr q => rfl
    rw [this]
def ad98 (l : List Nat) (g : List Nat) : Nat → Nat := fun k => if k < 75 then l.getD k 0 else g.getD (k - 75) 0
theorem SHok : (SH.take 75).all (okR 75) = true := by decide +kernel
theorem SHlen : (SH.take 75).length = 75 := by decide +kernel
theorem SHmk {β : Type} (f : Nat → Shp → β) : mk f 0 SH = mk f 0 (SH.take 75) ++ mk f 75 (SH.drop 75) := by
  have h := mk_app (f := f) (SH.take 75) (SH.drop 75) 0
  rw [List.take_append_drop, SHlen] at h
  exact h
theorem wF_congr {G G' : Gw} {ad ad' : Nat → Nat} (ht : gTY G = gTY G') (he : ∀ k, k < 75 → ad k = ad' k) : wF G ad = mk (fun c sh => (ad' c, cellJ ad' (gTY G') sh (mem0 c))) 0 (SH.take 75) := by
  unfold wF
  refine mk_congr _ _ (fun i sh hi hs => ?_)
  rw [SHlen] at hi
  rw [ht, cellJ_congr he sh (List.all_eq_true.mp SHok sh hs), he (0 + i) (by omega)]
set_option maxRecDepth 20000 in
set_option maxHeartbeats 4000000 in
theorem wM_tail (G G' : Gw) (l : List Nat) (q x1 x2 x3 x4 x5 x6 x7 x8 x9 x10 x11 x12 x13 x14 x15 x16 x17 x18 x19 x20 x21 x22 : Nat) (ht : gTY G = gTY G') : wd (GM G q x1 x2 x3 x4 x5 x6 x7 x8 x9 x10 x11 x12 x13 x14 x15 x16 x17 x18 x19 x20 x21 x22) memM = mk (fun c sh => (ad98 l [q, x1, x2, x3, x4, x5, x6, x7, x8, x9, x10, x11, x12, x13, x14, x15, x16, x17, x18, x19, x20, x21, x22] c, cellJ (ad98 l [q, x1, x2, x3, x4, x5, x6, x7, x8, x9, x10, x11, x12, x13, x14, x15, x16, x17, x18, x19, x20, x21, x22]) (gTY G') sh (mem0 c))) 75 (SH.drop 75) := by
  rw [wd_J, ← ht]
  rfl
