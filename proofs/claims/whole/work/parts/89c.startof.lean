theorem start_of {p : Program} {e : Env} {s : State} {m : MethodId} {below : List Frame} {meth : Method} {c : Code} (l : Launch) {b L : Nat} {xs : Nat → Int32} (C0 : lw_At p s m meth c b L xs) (hlaw : Law_L18 (fun i => (xs i.toNat).toInt) (L : Int) FU 0 mem0 = some ()) : W p l e room_1 s m #[Value.ref b] below meth c s.heap [] 0 0 (lw_Z below #[Value.ref b] s) (entryFrame m ([Value.ref b] : List Value).toArray 4) := by
  have C1 := C0
  obtain ⟨hx, hc, hr, hml, hown, hts, hX, hbl, hlk, hgv⟩ := C0
  obtain ⟨D, TY, sa, sv, sf, hK⟩ := KG0 hts hgv
  have C : Cy ((p, l, e, room_1, s, m, #[Value.ref b], below, meth, c, 0, 0), (fun q => s.heap.size ≤ q), s.heap, fun _ => lw_Z below #[Value.ref b] s) l (D, fun _ => 0, TY, [], sa, sv, sf) RL cL_law 4 16 600000 7302250 := ⟨hx, hc, hml, hown, fun w hw => hts w (List.mem_filter.mp hw).1, hK _ _, rfl, fun q hq => hq, ⟨Nat.le_of_ble_eq_true rfl, Nat.le_of_ble_eq_true rfl, Nat.le_refl _, Nat.le_refl _⟩, rfl, fun h => absurd rfl h, fun i q e => va_Nw.of rfl (hts _ (ncW i q e)), va_AO.of (hts _ mw_2_171), va_AO.of (hts _ mw_2_172)⟩
  have hl := lv_entry ([Value.ref b] : List Value) (n := 4) (Nat.le_of_ble_eq_true rfl)
  have bw := begin_walk (b := b) C (fun q1 w1 q2 w2 p1 p2 => by
    obtain ⟨ad, e0, e75, ew⟩ := w_all p1 p2
    intro H locs ls hP hD hS hl
    rw [ew] at hP hD
    exact begin_law (G := (D, ad, TY, SH, sa, sv, sf)) C1 (hK _ _) rfl e0 e75 hP hD hS hl hlaw)
  rw [lg_entry_eq]
  exact bw s.heap [] _ (fun k q e => by simp at e) ⟨fun i j p q e => by simp at e, fun k q e => by simp at e⟩ va_S.rf (show lv_has _ _ _ from hl)
