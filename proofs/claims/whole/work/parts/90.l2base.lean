/-! layer 2: what class and reference have in common, by components -/
theorem st_eq (m : Mem) (c : Nat) (i v j : Int) : st m c i v c j = if j = i then v else m c j := by simp [st]
theorem st_ne (m : Mem) {c c' : Nat} (i v : Int) (h : c' ≠ c) : st m c i v c' = m c' := by funext j; simp [st, h]
def Pt (S W p : Int) : Prop := 0 ≤ p ∧ p < 8 * S ∧ p % 8 < W
def ShR (m : Mem) (c : Nat) (b : Int) : Prop :=
  (m 76 b = m c 0 ∧ m 76 (b + 1) = m c 1 ∧ m 76 (b + 2) = m c 2 ∧ m 76 (b + 3) = m c 3 ∧ m 76 (b + 4) = m c 4 ∧ m 76 (b + 5) = m c 5 ∧ m 76 (b + 6) = m c 6)
  ∧ ((m c 0 = 0 ∧ m c 1 = 0) ∨ (1 ≤ m c 0 ∧ m c 0 ≤ 8 ∧ 3 ≤ m c 1 ∧ m c 1 ≤ 6))
  ∧ (1 ≤ m c 2 ∧ m c 2 ≤ 999 ∧ 1 ≤ m c 3 ∧ m c 3 ≤ 999 ∧ 0 ≤ m c 4 ∧ m c 4 ≤ 999 ∧ 1 ≤ m c 5 ∧ m c 5 ≤ 99 ∧ 1 ≤ m c 6 ∧ m c 6 ≤ 6)
  ∧ (∀ k, 0 ≤ k → k < m c 6 → m 76 (b + 7 + k) = m (c + 1) k ∧ 0 ≤ m (c + 1) k ∧ m (c + 1) k ≤ 2)
  ∧ (∀ p, Pt (m c 0) (m c 1) p → (m 76 (b + 16 + p) = m (c + 2) p ∧ 0 ≤ m (c + 2) p ∧ m (c + 2) p ≤ 999) ∧ (m 76 (b + 80 + p) = m (c + 3) p ∧ 0 ≤ m (c + 3) p ∧ m (c + 3) p ≤ 999) ∧ m 76 (b + 144 + p) = Sheet_isKept c p m)
def WyR (m : Mem) (c : Nat) (b : Int) : Prop :=
  m 76 (b + 14) = m c 0 ∧ 0 ≤ m c 0 ∧ m c 0 ≤ 60 ∧ ∀ k, 0 ≤ k → k < m c 0 →
    (0 ≤ m (c + 1) k ∧ m (c + 1) k ≤ 7 ∧ m 76 (b + 208 + 6 * k) = (if m (c + 1) k = 0 then 10 else m (c + 1) k + 2))
    ∧ ((m (c + 1) k = 1 ∨ m (c + 1) k = 6) → m (c + 2) k = m 76 (b + 208 + 6 * k + 1) ∧ 1 ≤ m (c + 2) k ∧ m (c + 2) k ≤ 60 ∧ (m (c + 1) k = 6 → m (c + 2) k ≤ 9))
    ∧ ((m (c + 1) k = 2 ∨ m (c + 1) k = 3 ∨ m (c + 1) k = 4) → m (c + 2) k = 8 * m 76 (b + 208 + 6 * k + 1) + m 76 (b + 208 + 6 * k + 2) ∧ 0 ≤ m 76 (b + 208 + 6 * k + 1) ∧ m 76 (b + 208 + 6 * k + 1) ≤ 7 ∧ 0 ≤ m 76 (b + 208 + 6 * k + 2) ∧ m 76 (b + 208 + 6 * k + 2) ≤ 5)
    ∧ (m (c + 1) k = 2 → m (c + 3) k = m 76 (b + 208 + 6 * k + 3) ∧ 0 ≤ m (c + 3) k ∧ m (c + 3) k ≤ 999)
    ∧ (m (c + 1) k = 5 → m (c + 2) k = 16 * m 76 (b + 208 + 6 * k + 1) + m 76 (b + 208 + 6 * k + 2) ∧ 0 ≤ m 76 (b + 208 + 6 * k + 1) ∧ m 76 (b + 208 + 6 * k + 1) ≤ 2 ∧ 0 ≤ m 76 (b + 208 + 6 * k + 2) ∧ m 76 (b + 208 + 6 * k + 2) ≤ 12 ∧ m (c + 3) k = m 76 (b + 208 + 6 * k + 4) ∧ 0 ≤ m (c + 3) k ∧ m (c + 3) k < 256 ∧ 2 ≤ J_bitCount (m (c + 3) k))
    ∧ (m (c + 1) k = 0 → m (c + 4) k = m 76 (b + 208 + 6 * k + 5) ∧ 0 ≤ m (c + 4) k ∧ m (c + 4) k < k ∧ (m (c + 1) (m (c + 4) k) = 6 ∨ m (c + 1) (m (c + 4) k) = 7) ∧ m (c + 4) (m (c + 4) k) = k)
    ∧ ((m (c + 1) k = 6 ∨ m (c + 1) k = 7) → m (c + 4) k = m 76 (b + 208 + 6 * k + 5) ∧ k < m (c + 4) k ∧ m (c + 4) k < m c 0 ∧ m (c + 1) (m (c + 4) k) = 0 ∧ m (c + 4) (m (c + 4) k) = k ∧ ∀ j, k < j → j < m (c + 4) k → (m (c + 1) j = 6 ∨ m (c + 1) j = 7) → m (c + 4) j < m (c + 4) k)
def Rst (m : Mem) : Prop := w32 (m 0 0) = w32 (m 75 1) ∧ w64 (m 0 1) = w64 (m 75 2) ∧ w64 (m 0 2) = w64 (m 75 3)
def Rtr (m : Mem) : Prop := ∀ t : Int, 0 ≤ t → t < 4 → ((m 3 t = -1 ∧ m 78 t = -1) ∨ (0 ≤ m 3 t ∧ m 3 t ≤ 3 ∧ m 77 t = m 3 t ∧ 0 ≤ m 4 t ∧ m 4 t ≤ 60 ∧ m 78 t = m 4 t ∧ ∀ p, 0 ≤ p → p < m 4 t → m 2 (60 * t + p) = m 79 (60 * t + p) ∧ w64 (m 2 (60 * t + p)) = m 2 (60 * t + p)))
def Rtp (m : Mem) : Prop := m 75 9 = m 5 1 ∧ 0 ≤ m 5 1 ∧ m 5 1 ≤ 600 ∧ (∀ i, 0 ≤ i → i < m 5 1 → m 6 i = bAnd (m 80 i) 255 ∧ 0 ≤ m 6 i ∧ m 6 i ≤ 255) ∧ m 75 15 = m 5 7 ∧ m 75 16 = m 5 8
def Rsh (m : Mem) : Prop := ShR m 7 0
def Rwy (m : Mem) : Prop := WyR m 11 0
def Rmk (m : Mem) : Prop := m 75 57 = m 0 16 ∧ 0 ≤ m 0 16 ∧ m 0 16 ≤ 3 ∧ ∀ i, 0 ≤ i → i < m 0 16 → ShR m (47 + 4 * i.toNat) (580 * (i + 1)) ∧ WyR m (60 + 5 * i.toNat) (580 * (i + 1))
def Rrd (m : Mem) : Prop := m 75 35 = m 28 4 ∧ -1 ≤ m 28 4 ∧ m 28 4 ≤ 2 ∧ (m 28 4 = 2 → m 75 36 = m 28 5 ∧ m 75 37 = m 28 6)
def Rme (m : Mem) : Prop := (m 32 7 = 0 ∧ m 75 44 = -1) ∨ (1 ≤ m 32 7 ∧ m 32 7 ≤ 5 ∧ m 75 44 = m 32 7 ∧ ∀ k, 0 ≤ k → k < m 32 7 → m 92 k = m 36 k)
def Rru (m : Mem) : Prop := (m 37 1 = 0 ∧ m 75 39 = -1) ∨ (m 37 1 = 1 ∧ m 75 39 = m 37 2 ∧ (m 37 2 = 0 ∨ m 37 2 = 1) ∧ m 75 38 = m 37 3)
def Ryd (m : Mem) : Prop := ((m 39 3 = 0 ∧ m 75 56 = -1) ∨ (1 ≤ m 39 3 ∧ m 39 3 ≤ 8 ∧ m 75 56 = m 39 3 ∧ ∀ k, 0 ≤ k → k < m 39 3 → m 97 k = m 42 k))
  ∧ ((m 39 4 = 0 ∧ m 75 47 = -1) ∨ (1 ≤ m 39 4 ∧ m 75 49 = m 39 4 ∧ m 75 48 = m 39 5 ∧ 2 ≤ m 75 50 ∧ m 75 50 ≤ 5 ∧ 0 ≤ m 75 47 ∧ m 75 47 < bShl 1 (m 75 50 - 1) ∧ m 39 6 = m 75 47 + bShl 1 (m 75 50 - 1) ∧ m 39 4 = J_bitCount (m 39 6)))
def Rel (m : Mem) : Prop := Rst m ∧ Rtr m ∧ Rtp m ∧ Rsh m ∧ Rwy m ∧ Rmk m ∧ Rrd m ∧ Rme m ∧ Rru m ∧ Ryd m
/-- which component a place belongs to; 0: none -/
def comp (c : Nat) (i : Int) : Nat :=
  if c = 0 then (if i = 16 then 6 else if i = 0 ∨ i = 1 ∨ i = 2 then 1 else 0)
  else if c = 2 ∨ c = 3 ∨ c = 4 ∨ c = 77 ∨ c = 78 ∨ c = 79 then 2
  else if c = 5 then (if i = 1 ∨ i = 7 ∨ i = 8 then 3 else 0)
  else if c = 6 ∨ c = 80 then 3
  else if c = 7 then (if (0 ≤ i ∧ i ≤ 6) ∨ i = 10 then 4 else 0)
  else if c = 8 ∨ c = 9 ∨ c = 10 then 4
  else if c = 11 then (if i = 0 then 5 else 0)
  else if 12 ≤ c ∧ c ≤ 15 then 5
  else if c = 28 then (if i = 4 ∨ i = 5 ∨ i = 6 then 7 else 0)
  else if c = 32 then (if i = 7 then 8 else 0)
  else if c = 36 ∨ c = 92 then 8
  else if c = 37 then (if i = 1 ∨ i = 2 ∨ i = 3 then 9 else 0)
  else if c = 39 then (if 3 ≤ i ∧ i ≤ 6 then 10 else 0)
  else if c = 42 ∨ c = 97 then 10
  else if 46 ≤ c ∧ c ≤ 74 then 6
  else if c = 75 then (if 1 ≤ i ∧ i ≤ 3 then 1 else if i = 9 ∨ i = 15 ∨ i = 16 then 3 else if 35 ≤ i ∧ i ≤ 37 then 7 else if i = 44 then 8 else if i = 38 ∨ i = 39 then 9 else if i = 56 ∨ (47 ≤ i ∧ i ≤ 50) then 10 else if i = 57 then 6 else 0)
  else if c = 76 then (if i = 14 then 5 else if 0 ≤ i ∧ i < 208 then 4 else if 208 ≤ i ∧ i < 580 then 5 else if 580 ≤ i ∧ i < 2320 then 6 else 0)
  else 0
/-- the same but for the components in D -/
def Ag (D : List Nat) (m m' : Mem) : Prop := ∀ c i, comp c i ∉ D → m' c i = m c i
theorem Ag.refl {D : List Nat} (m : Mem) : Ag D m m := fun _ _ _ => rfl
theorem Ag.trans {D : List Nat} {m m' m'' : Mem} (h : Ag D m m') (h' : Ag D m' m'') : Ag D m m'' := fun c i q => (h' c i q).trans (h c i q)
theorem Ag.st {D : List Nat} {m m' : Mem} (h : Ag D m m') {c : Nat} {i v : Int} (hd : comp c i ∈ D) : Ag D m (st m' c i v) := by
  intro c' i' q
  by_cases e : c' = c
  · subst e
    by_cases e2 : i' = i
    · subst e2; exact absurd hd q
    · rw [st_eq, if_neg e2]; exact h _ _ q
  · rw [st_ne _ _ _ e]; exact h _ _ q
theorem Ag.cell {D : List Nat} {m m' m'' : Mem} (h : Ag D m m') (k : Nat) (hk : ∀ i, comp k i ∈ D) (e : ∀ c, c ≠ k → m'' c = m' c) : Ag D m m'' := by
  intro c i q
  by_cases ec : c = k
  · subst ec; exact absurd (hk i) q
  · rw [e c ec]; exact h _ _ q
theorem Ag.mono {D D' : List Nat} {m m' : Mem} (h : Ag D m m') (hs : ∀ x, x ∈ D → x ∈ D') : Ag D' m m' := fun c i q => h c i (fun z => q (hs _ z))
theorem ShR_of {m m' : Mem} {c : Nat} {b : Int} (h : ShR m c b) (e0 : ∀ i, (0 ≤ i ∧ i ≤ 6) ∨ i = 10 → m' c i = m c i) (e1 : m' (c + 1) = m (c + 1)) (e2 : m' (c + 2) = m (c + 2)) (e3 : m' (c + 3) = m (c + 3)) (e76 : ∀ i, b ≤ i → i < b + 208 → i ≠ b + 14 → m' 76 i = m 76 i) : ShR m' c b := by
  obtain ⟨⟨a0, a1, a2, a3, a4, a5, a6⟩, b1, b2, b3, b4⟩ := h
  have f0 := e0 0 (by omega); have f1 := e0 1 (by omega); have f2 := e0 2 (by omega); have f3 := e0 3 (by omega)
  have f4 := e0 4 (by omega); have f5 := e0 5 (by omega); have f6 := e0 6 (by omega); have f10 := e0 10 (by omega)
  unfold ShR
  rw [f0, f1, f2, f3, f4, f5, f6, e1, e2, e3]
  refine ⟨⟨?_, ?_, ?_, ?_, ?_, ?_, ?_⟩, b1, b2, ?_, ?_⟩
  · rw [e76 b (by omega) (by omega) (by omega)]; exact a0
  · rw [e76 _ (by omega) (by omega) (by omega)]; exact a1
  · rw [e76 _ (by omega) (by omega) (by omega)]; exact a2
  · rw [e76 _ (by omega) (by omega) (by omega)]; exact a3
  · rw [e76 _ (by omega) (by omega) (by omega)]; exact a4
  · rw [e76 _ (by omega) (by omega) (by omega)]; exact a5
  · rw [e76 _ (by omega) (by omega) (by omega)]; exact a6
  · intro k h0 h1
    rw [e76 _ (by omega) (by omega) (by omega)]; exact b3 k h0 h1
  · intro p hp
    have hp' := hp
    unfold Pt at hp
    rw [e76 _ (by omega) (by omega) (by omega), e76 _ (by omega) (by omega) (by omega), e76 _ (by omega) (by omega) (by omega)]
    have q := b4 p hp'
    unfold Sheet_isKept at q ⊢
    rw [f10]; exact q
theorem WyR_of {m m' : Mem} {c : Nat} {b : Int} (h : WyR m c b) (e0 : m' c 0 = m c 0) (e1 : m' (c + 1) = m (c + 1)) (e2 : m' (c + 2) = m (c + 2)) (e3 : m' (c + 3) = m (c + 3)) (e4 : m' (c + 4) = m (c + 4)) (e76 : ∀ i, b ≤ i → i < b + 580 → i = b + 14 ∨ b + 208 ≤ i → m' 76 i = m 76 i) : WyR m' c b := by
  obtain ⟨a0, a1, a2, a3⟩ := h
  unfold WyR
  rw [e0, e1, e2, e3, e4]
  refine ⟨?_, a1, a2, ?_⟩
  · rw [e76 _ (by omega) (by omega) (by omega)]; exact a0
  · intro k h0 h1
    rw [e76 (b + 208 + 6 * k) (by omega) (by omega) (by omega), e76 (b + 208 + 6 * k + 1) (by omega) (by omega) (by omega), e76 (b + 208 + 6 * k + 2) (by omega) (by omega) (by omega), e76 (b + 208 + 6 * k + 3) (by omega) (by omega) (by omega), e76 (b + 208 + 6 * k + 4) (by omega) (by omega) (by omega), e76 (b + 208 + 6 * k + 5) (by omega) (by omega) (by omega)]
    exact a3 k h0 h1
/-- only the components in D are asked for anew -/
theorem Rel.upd {m m' : Mem} (h : Rel m) (D : List Nat) (e : Ag D m m') (n1 : 1 ∈ D → Rst m') (n2 : 2 ∈ D → Rtr m') (n3 : 3 ∈ D → Rtp m') (n4 : 4 ∈ D → Rsh m') (n5 : 5 ∈ D → Rwy m') (n6 : 6 ∈ D → Rmk m') (n7 : 7 ∈ D → Rrd m') (n8 : 8 ∈ D → Rme m') (n9 : 9 ∈ D → Rru m') (n10 : 10 ∈ D → Ryd m') : Rel m' := by
  obtain ⟨r1, r2, r3, r4, r5, r6, r7, r8, r9, r10⟩ := h
  have g : ∀ k c i, k ∉ D → comp c i = k → m' c i = m c i := fun k c i hk q => e c i (by rw [q]; exact hk)
  refine ⟨?_, ?_, ?_, ?_, ?_, ?_, ?_, ?_, ?_, ?_⟩
  · by_cases q : 1 ∈ D
    · exact n1 q
    · unfold Rst; rw [g 1 0 0 q rfl, g 1 0 1 q rfl, g 1 0 2 q rfl, g 1 75 1 q rfl, g 1 75 2 q rfl, g 1 75 3 q rfl]; exact r1
  · by_cases q : 2 ∈ D
    · exact n2 q
    · have f2 : m' 2 = m 2 := by funext i; exact g 2 2 i q rfl
      have f3 : m' 3 = m 3 := by funext i; exact g 2 3 i q rfl
      have f4 : m' 4 = m 4 := by funext i; exact g 2 4 i q rfl
      have f7 : m' 77 = m 77 := by funext i; exact g 2 77 i q rfl
      have f8 : m' 78 = m 78 := by funext i; exact g 2 78 i q rfl
      have f9 : m' 79 = m 79 := by funext i; exact g 2 79 i q rfl
      unfold Rtr; rw [f2, f3, f4, f7, f8, f9]; exact r2
  · by_cases q : 3 ∈ D
    · exact n3 q
    · have f6 : m' 6 = m 6 := by funext i; exact g 3 6 i q rfl
      have f8 : m' 80 = m 80 := by funext i; exact g 3 80 i q rfl
      unfold Rtp; rw [f6, f8, g 3 5 1 q rfl, g 3 5 7 q rfl, g 3 5 8 q rfl, g 3 75 9 q rfl, g 3 75 15 q rfl, g 3 75 16 q rfl]; exact r3
  · by_cases q : 4 ∈ D
    · exact n4 q
    · refine ShR_of r4 (fun i hi => g 4 7 i q ?_) (by funext i; exact g 4 8 i q rfl) (by funext i; exact g 4 9 i q rfl) (by funext i; exact g 4 10 i q rfl) (fun i h1 h2 h3 => g 4 76 i q ?_)
      · show (if (0 ≤ i ∧ i ≤ 6) ∨ i = 10 then 4 else 0) = 4
        rw [if_pos hi]
      · show (if i = 14 then 5 else if 0 ≤ i ∧ i < 208 then 4 else _) = 4
        rw [if_neg (by omega), if_pos (by omega)]
  · by_cases q : 5 ∈ D
    · exact n5 q
    · refine WyR_of r5 (g 5 11 0 q rfl) (by funext i; exact g 5 12 i q rfl) (by funext i; exact g 5 13 i q rfl) (by funext i; exact g 5 14 i q rfl) (by funext i; exact g 5 15 i q rfl) (fun i h1 h2 h3 => g 5 76 i q ?_)
      show (if i = 14 then 5 else if 0 ≤ i ∧ i < 208 then 4 else if 208 ≤ i ∧ i < 580 then 5 else _) = 5
      by_cases h14 : i = 14
      · rw [if_pos h14]
      · rw [if_neg h14, if_neg (by omega), if_pos (by omega)]
  · by_cases q : 6 ∈ D
    · exact n6 q
    · obtain ⟨a0, a1, a2, a3⟩ := r6
      have cm : ∀ (c : Nat) (i : Int), 46 ≤ c → c ≤ 74 → m' c i = m c i := by
        intro c i h1 h2
        refine g 6 c i q ?_
        unfold comp
        rw [if_neg (by omega), if_neg (by omega), if_neg (by omega), if_neg (by omega), if_neg (by omega), if_neg (by omega), if_neg (by omega), if_neg (by omega), if_neg (by omega), if_neg (by omega), if_neg (by omega), if_neg (by omega), if_neg (by omega), if_neg (by omega), if_pos (by omega)]
      have c76 : ∀ i, 580 ≤ i → i < 2320 → m' 76 i = m 76 i := by
        intro i h1 h2
        refine g 6 76 i q ?_
        show (if i = 14 then 5 else if 0 ≤ i ∧ i < 208 then 4 else if 208 ≤ i ∧ i < 580 then 5 else if 580 ≤ i ∧ i < 2320 then 6 else 0) = 6
        rw [if_neg (by omega), if_neg (by omega), if_neg (by omega), if_pos (by omega)]
      unfold Rmk
      rw [g 6 75 57 q rfl, g 6 0 16 q rfl]
      refine ⟨a0, a1, a2, fun i h0 h1 => ?_⟩
      have hi : i.toNat ≤ 2 := by omega
      obtain ⟨s1, s2⟩ := a3 i h0 h1
      refine ⟨ShR_of s1 (fun j _ => cm _ _ (by omega) (by omega)) (by funext j; exact cm _ _ (by omega) (by omega)) (by funext j; exact cm _ _ (by omega) (by omega)) (by funext j; exact cm _ _ (by omega) (by omega)) (fun j _ _ _ => c76 j (by omega) (by omega)), WyR_of s2 (cm _ _ (by omega) (by omega)) (by funext j; exact cm _ _ (by omega) (by omega)) (by funext j; exact cm _ _ (by omega) (by omega)) (by funext j; exact cm _ _ (by omega) (by omega)) (by funext j; exact cm _ _ (by omega) (by omega)) (fun j _ _ _ => c76 j (by omega) (by omega))⟩
  · by_cases q : 7 ∈ D
    · exact n7 q
    · unfold Rrd; rw [g 7 28 4 q rfl, g 7 28 5 q rfl, g 7 28 6 q rfl, g 7 75 35 q rfl, g 7 75 36 q rfl, g 7 75 37 q rfl]; exact r7
  · by_cases q : 8 ∈ D
    · exact n8 q
    · have f6 : m' 36 = m 36 := by funext i; exact g 8 36 i q rfl
      have f9 : m' 92 = m 92 := by funext i; exact g 8 92 i q rfl
      unfold Rme; rw [f6, f9, g 8 32 7 q rfl, g 8 75 44 q rfl]; exact r8
  · by_cases q : 9 ∈ D
    · exact n9 q
    · unfold Rru; rw [g 9 37 1 q rfl, g 9 37 2 q rfl, g 9 37 3 q rfl, g 9 75 38 q rfl, g 9 75 39 q rfl]; exact r9
  · by_cases q : 10 ∈ D
    · exact n10 q
    · have f6 : m' 42 = m 42 := by funext i; exact g 10 42 i q rfl
      have f9 : m' 97 = m 97 := by funext i; exact g 10 97 i q rfl
      unfold Ryd; rw [f6, f9, g 10 39 3 q rfl, g 10 39 4 q rfl, g 10 39 5 q rfl, g 10 39 6 q rfl, g 10 75 47 q rfl, g 10 75 48 q rfl, g 10 75 49 q rfl, g 10 75 50 q rfl, g 10 75 56 q rfl]; exact r10
/-- answers alone: status set alike, else only scratch -/
theorem Rel.ans {m m' : Mem} (h : Rel m) (e : Ag [0, 1] m m') (es : Rst m') : Rel m' :=
  h.upd [0, 1] e (fun _ => es) (by simp) (by simp) (by simp) (by simp) (by simp) (by simp) (by simp) (by simp) (by simp)
theorem Rel.scr {m m' : Mem} (h : Rel m) (e : Ag [0] m m') : Rel m' :=
  h.upd [0] e (by simp) (by simp) (by simp) (by simp) (by simp) (by simp) (by simp) (by simp) (by simp) (by simp)
theorem Rst_set {m m' : Mem} (h : Rst m) {k : Int} (e1 : m' 0 0 = k) (e2 : m' 75 1 = k) (e3 : m' 0 1 = m 0 1) (e4 : m' 0 2 = m 0 2) (e5 : m' 75 2 = m 75 2) (e6 : m' 75 3 = m 75 3) : Rst m' := by
  unfold Rst; rw [e1, e2, e3, e4, e5, e6]; exact ⟨rfl, h.2.1, h.2.2⟩
/-- a call that only sets the status -/
theorem Rel.stat {m : Mem} (h : Rel m) (k : Int) : Rel (st (st m 0 0 k) 75 1 k) := by
  refine h.ans (((Ag.refl m).st (by decide)).st (by decide)) ?_
  exact Rst_set h.1 (k := k) rfl rfl rfl rfl rfl rfl
