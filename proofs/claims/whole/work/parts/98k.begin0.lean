/-! layer 2: a new object -/
theorem z76 : mem0 76 0 = 0 ∧ mem0 76 1 = 0 ∧ mem0 76 2 = 10 ∧ mem0 76 3 = 10 ∧ mem0 76 4 = 5 ∧ mem0 76 5 = 1 ∧ mem0 76 6 = 3 := by decide +kernel
theorem z76v : mem0 76 7 = 0 ∧ mem0 76 8 = 1 ∧ mem0 76 9 = 2 ∧ mem0 76 14 = 0 := by decide +kernel
theorem z7 : mem0 7 0 = 0 ∧ mem0 7 1 = 0 ∧ mem0 7 2 = 10 ∧ mem0 7 3 = 10 ∧ mem0 7 4 = 5 ∧ mem0 7 5 = 1 ∧ mem0 7 6 = 3 := by decide +kernel
theorem z8 : mem0 8 0 = 0 ∧ mem0 8 1 = 1 ∧ mem0 8 2 = 2 := by decide +kernel
theorem z75 : mem0 75 1 = 0 ∧ mem0 75 2 = 0 ∧ mem0 75 3 = 1 ∧ mem0 75 9 = 0 ∧ mem0 75 15 = -1 ∧ mem0 75 16 = -1 ∧ mem0 75 35 = -1 ∧ mem0 75 39 = -1 ∧ mem0 75 44 = -1 ∧ mem0 75 47 = -1 ∧ mem0 75 56 = -1 ∧ mem0 75 57 = 0 := by decide +kernel
theorem z78 : mem0 78 0 = -1 ∧ mem0 78 1 = -1 ∧ mem0 78 2 = -1 ∧ mem0 78 3 = -1 := by decide +kernel
theorem zc : mem0 0 0 = 0 ∧ mem0 0 1 = 0 ∧ mem0 0 2 = 1 ∧ mem0 0 16 = 0 ∧ mem0 5 1 = 0 ∧ mem0 5 7 = -1 ∧ mem0 5 8 = -1 ∧ mem0 11 0 = 0 ∧ mem0 28 4 = -1 ∧ mem0 32 7 = 0 ∧ mem0 37 1 = 0 ∧ mem0 39 3 = 0 ∧ mem0 39 4 = 0 := by decide +kernel
theorem z3 : mem0 3 0 = -1 ∧ mem0 3 1 = -1 ∧ mem0 3 2 = -1 ∧ mem0 3 3 = -1 := by decide +kernel
theorem Rel0 : Rel mem0 := by
  obtain ⟨a0, a1, a2, a3, a4, a5, a6⟩ := z76
  obtain ⟨b0, b1, b2, b3⟩ := z76v
  obtain ⟨c0, c1, c2, c3, c4, c5, c6⟩ := z7
  obtain ⟨d0, d1, d2⟩ := z8
  obtain ⟨e1, e2, e3, e9, e15, e16, e35, e39, e44, e47, e56, e57⟩ := z75
  obtain ⟨f0, f1, f2, f3⟩ := z78
  obtain ⟨g0, g1, g2, g16, h1, h7, h8, i0, j4, k7, l1, n3, n4⟩ := zc
  obtain ⟨o0, o1, o2, o3⟩ := z3
  refine ⟨?_, ?_, ?_, ?_, ?_, ?_, ?_, ?_, ?_, ?_⟩
  · unfold Rst; rw [g0, g1, g2, e1, e2, e3]; exact ⟨rfl, rfl, rfl⟩
  · intro t t0 t1
    left
    rcases (by omega : t = 0 ∨ t = 1 ∨ t = 2 ∨ t = 3) with q | q | q | q <;> subst q
    · exact ⟨o0, f0⟩
    · exact ⟨o1, f1⟩
    · exact ⟨o2, f2⟩
    · exact ⟨o3, f3⟩
  · unfold Rtp; rw [h1, h7, h8, e9, e15, e16]
    exact ⟨rfl, by omega, by omega, fun i i0 i1 => by omega, rfl, rfl⟩
  · unfold Rsh ShR
    simp only [Int.zero_add, Nat.reduceAdd]
    rw [a0, a1, a2, a3, a4, a5, a6, c0, c1, c2, c3, c4, c5, c6]
    refine ⟨⟨rfl, rfl, rfl, rfl, rfl, rfl, rfl⟩, Or.inl ⟨rfl, rfl⟩, by omega, fun k k0 k1 => ?_, fun p hp => ?_⟩
    · rcases (by omega : k = 0 ∨ k = 1 ∨ k = 2) with q | q | q <;> subst q
      · rw [show (7 : Int) + 0 = 7 from rfl, b0, d0]; omega
      · rw [show (7 : Int) + 1 = 8 from rfl, b1, d1]; omega
      · rw [show (7 : Int) + 2 = 9 from rfl, b2, d2]; omega
    · unfold Pt at hp; omega
  · unfold Rwy WyR
    rw [i0, show (0 : Int) + 14 = 14 from rfl, b3]
    exact ⟨rfl, by omega, by omega, fun k k0 k1 => by omega⟩
  · unfold Rmk; rw [g16, e57]; exact ⟨rfl, by omega, by omega, fun i i0 i1 => by omega⟩
  · unfold Rrd; rw [j4, e35]; exact ⟨rfl, by omega, by omega, fun z => by omega⟩
  · left; exact ⟨k7, e44⟩
  · left; exact ⟨l1, e39⟩
  · exact ⟨Or.inl ⟨n3, e56⟩, Or.inl ⟨n4, e47⟩⟩
