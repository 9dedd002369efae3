theorem begin_law {p : Program} {e : Env} {s : State} {m : MethodId} {below : List Frame} {meth : Method} {c : Code} {l : Launch} {b L : Nat} {xs : Nat → Int32} {G : Gw} {mem : Mem} {q1 q2 : Nat} {ls : Array Slot} {H : Heap} {locs : List Loc} (C0 : lw_At p s m meth c b L xs) (hK : KG G (fun q => s.heap.size ≤ q) s) (hG : gom G = SH) (e0 : gad G 0 = q1) (e75 : gad G 75 = q2) (hP : va_P (gD G) vwCl (wd G mem) H) (hD : va_D (fun q => s.heap.size ≤ q) (wd G mem)) (hS : va_S (fun q => s.heap.size ≤ q) s.heap H locs) (hl : Lh ls 4 [some (.ref b), some (.ref q1), some (.ref q2), some (vi 0), none]) (hlaw : Law_L18 (fun i => (xs i.toNat).toInt) (L : Int) FU 0 mem = some ()) : W p l e room_1 s m #[Value.ref b] below meth c H locs 98 22931 (lw_Z below #[Value.ref b] s) (F0 m 18 ls []) := by
  obtain ⟨hx, hc, hr, hml, hown, hts, hX, hbl, hlk, hgv⟩ := C0
  have hap : Apart G (fun q => s.heap.size ≤ q) := by
    refine ⟨fun i j hi hj e => hD.1 i j _ _ (wd_get (mem := mem) (List.getElem?_eq_getElem hi)) (wd_get (mem := mem) (List.getElem?_eq_getElem hj)) e, fun i hi => ?_⟩
    exact hD.2 i _ (wd_get (mem := mem) (List.getElem?_eq_getElem hi))
  have C' : Cx (ρ := Unit) ((p, l, e, room_1, s, m, #[Value.ref b], below, meth, c, 98, 22931), (fun q => s.heap.size ≤ q), s.heap, fun _ => lw_Z below #[Value.ref b] s) l G RL cL_law 4 16 := ⟨hx, hc, hml, hown, fun w hw => hts w (List.mem_filter.mp hw).1, hK, rfl, hap, ⟨Nat.le_of_ble_eq_true rfl, Nat.le_of_ble_eq_true rfl, Nat.le_of_ble_eq_true rfl, Nat.le_of_ble_eq_true rfl⟩, rfl⟩
  have key := zl_Law_L18 (n := FU) (v3 := 0) (mem := mem) (sx := fun i => (xs i.toNat).toInt) (sL := (L : Int)) hG ⟨L, xs, hX, hbl, fun q => by have : s.heap.size ≤ b := q; omega, rfl, fun _ => rfl⟩ C' ⟨rfl, rfl, fun _ => rfl, hr, hlk, Nat.le_of_ble_eq_true rfl, Nat.le_of_ble_eq_true rfl, fun q hq => hq⟩
  unfold rf at key
  rw [e0, e75] at key
  exact key () hlaw H locs ls hP hS hl
