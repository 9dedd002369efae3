theorem asS_c {T T' B B' : Int → Int} {sl : Int} : ∀ (n : Nat) (v : Int), (∀ x, v ≤ x → x < v + n → T (2 * x) = T' (2 * x) ∧ T (2 * x + 1) = T' (2 * x + 1) ∧ B (T (2 * x)) = B' (T (2 * x))) → asS T B sl n v = asS T' B' sl n v
  | 0, _, _ => rfl
  | n + 1, v, h => by
    obtain ⟨h1, h2, h3⟩ := h v (by omega) (by omega)
    rw [asS_s, asS_s, h3, h1, h2, asS_c n (v + 1) (fun x a b => h x (by omega) (by omega))]
def biS (g : Int → Bool) : Nat → Int → Int → Int → Int × Int
  | 0, _, c, f => (c, f)
  | n + 1, b, c, f => if g b then biS g n (b + 1) (c + 1) (if c = 0 then b else f) else biS g n (b + 1) c f
theorem biS_s (g : Int → Bool) (n : Nat) (b c f : Int) : biS g (n + 1) b c f = if g b then biS g n (b + 1) (c + 1) (if c = 0 then b else f) else biS g n (b + 1) c f := rfl
theorem iab_neg (x : Int) : iab (-x) = iab x := by unfold iab; split <;> split <;> omega
theorem c_bu {m : Mem} {seed hand t many sl what boats : Int} (hs : gSW (m 7 0) (m 7 1)) (hfl : ∀ q, Pt (m 7 0) (m 7 1) q → 0 ≤ m 10 q ∧ m 10 q ≤ 999) (s0 : 0 ≤ seed) (s1 : seed ≤ 9999) (h0 : 0 ≤ hand) (h1 : hand ≤ 20) (t0 : 0 ≤ t) (t1 : t < 4) (y0 : 0 ≤ many) (y1 : many ≤ 20) (l0 : 0 ≤ sl) (l1 : sl ≤ 99) (w0 : 0 ≤ what) (w1 : what ≤ 1) (n0 : 0 ≤ boats) (n1 : boats ≤ 40) (hm : ∀ x, 0 ≤ x → x < many → Pt (m 7 0) (m 7 1) (m 2 (60 * t + 2 * x)) ∧ 0 ≤ m 2 (60 * t + (2 * x + 1)) ∧ m 2 (60 * t + (2 * x + 1)) ≤ 999) : ∀ (n : Nat) (k c f : Int) (mm : Mem), 0 ≤ k → k ≤ 40 → 0 ≤ c → c ≤ k → (boats - k).toNat < n → (∀ x, x ≠ 43 → mm x = m x) → ∀ R, biS (fun b => asS (fun p => m 2 (60 * t + p)) (fun q => bSp m seed hand b q) sl (many - 0).toNat 0) (boats - k).toNat k c f = R → ∃ m', (∀ x, x ≠ 43 → m' x = m x) ∧ FL_built_L128 seed hand boats t many sl what n c f k mm = (if ¬ what = 0 then (if ¬ R.1 = 0 then some (R.2, st m' 0 0 0) else some (-1, st m' 0 0 6)) else some (R.1, st m' 0 0 0)) := by
  intro n
  induction n with
  | zero => intro k c f mm _ _ _ _ q; omega
  | succ n ih =>
    intro k c f mm k0 k1 c0 ck hn hc R hR
    by_cases q : boats ≤ k
    · rw [show (boats - k).toNat = 0 by omega] at hR
      subst hR
      refine ⟨mm, hc, ?_⟩
      rw [FL_built_L128, w32_id (x := k) (by omega) (by omega), w32_id (x := boats) (by omega) (by omega), if_pos q, w32_id (x := what) (by omega) (by omega), w32_id (x := c) (by omega) (by omega)]
      rfl
    · have e7 : mm 7 = m 7 := hc 7 (by decide)
      have e10 : mm 10 = m 10 := hc 10 (by decide)
      obtain ⟨ma, a1, a2, a3⟩ := c_boat (m := mm) (by rw [e7]; exact hs) (by rw [e7, e10]; exact hfl) s0 s1 h0 h1 k0 (show k < 41 by omega)
      have hc' : ∀ x, x ≠ 43 → ma x = m x := fun x hx => by rw [a2 x hx, hc x hx]
      have a3' : ∀ q, Pt (m 7 0) (m 7 1) q → ma 43 q = bSp m seed hand k q := fun q hq => by rw [a3 q (by rw [e7]; exact hq), bSp_m e7 e10]
      have e2 : ma 2 = m 2 := hc' 2 (by decide)
      have em := c_asM (m := ma) (S := m 7 0) (W := m 7 1) (t := t) (many := many) (sl := sl) hs t0 t1 y0 y1 l0 l1 (by rw [e2]; exact hm) (fun q hq => by rw [a3' q hq]; exact bSp_b hs hq)
      have eg : asS (fun p => ma 2 (60 * t + p)) (ma 43) sl (many - 0).toNat 0 = (fun b => asS (fun p => m 2 (60 * t + p)) (fun q => bSp m seed hand b q) sl (many - 0).toNat 0) k := by
        refine asS_c _ _ (fun x x0 x1 => ?_)
        rw [e2]
        exact ⟨rfl, rfl, a3' _ (hm x x0 (by omega)).1⟩
      rw [eg] at em
      rw [show (boats - k).toNat = (boats - (k + 1)).toNat + 1 by omega, biS_s] at hR
      have e0 : FL_built_L128 seed hand boats t many sl what (n + 1) c f k mm = if (fun b => asS (fun p => m 2 (60 * t + p)) (fun q => bSp m seed hand b q) sl (many - 0).toNat 0) k = true then FL_built_L128 seed hand boats t many sl what n (c + 1) (if c = 0 then k else f) (k + 1) ma else FL_built_L128 seed hand boats t many sl what n c f (k + 1) ma := by
        rw [FL_built_L128, w32_id (x := k) (by omega) (by omega), w32_id (x := boats) (by omega) (by omega), if_neg q, a1, bV_some, em, bP_some]
        by_cases g : (fun b => asS (fun p => m 2 (60 * t + p)) (fun q => bSp m seed hand b q) sl (many - 0).toNat 0) k = true
        · rw [if_pos g, if_pos g, w32_id (x := 1) (by omega) (by omega), if_neg (by decide), w32_id (x := c) (by omega) (by omega)]
          congr 1
          by_cases z : c = 0
          · rw [if_neg (by omega), if_pos z]
          · rw [if_pos z, if_neg z]
        · rw [if_neg g, if_neg g, w32_id (x := 0) (by omega) (by omega), if_pos rfl]
      rw [e0]
      by_cases g : (fun b => asS (fun p => m 2 (60 * t + p)) (fun q => bSp m seed hand b q) sl (many - 0).toNat 0) k = true
      · rw [if_pos g] at hR ⊢
        exact ih (k + 1) (c + 1) _ ma (by omega) (by omega) (by omega) (by omega) (by omega) hc' R hR
      · rw [if_neg g] at hR ⊢
        exact ih (k + 1) c f ma (by omega) (by omega) (by omega) (by omega) (by omega) hc' R hR
