theorem begin_walk {E : Ev Unit} {l : Launch} {G : Gw} {b : Nat} (C : Cy E l G RL cL_law 4 16 600000 7302250) (kk : ∀ (q1 : Nat) (w1 : va_W) (q2 : Nat) (w2 : va_W), P11 G q1 w1 → (∃ x1 x2 x3 x4 x5 x6 x7 x8 x9 x10 x11 x12 x13 x14 x15 x16 x17 x18 x19 x20 x21 x22, w2 = wd (GM G q2 x1 x2 x3 x4 x5 x6 x7 x8 x9 x10 x11 x12 x13 x14 x15 x16 x17 x18 x19 x20 x21 x22) memM) → Y E G 4 (w1 ++ w2) 98 22931 18 [some (.ref b), some (.ref q1), some (.ref q2), some (vi 0), none] []) : Y E G 4 [] 0 0 0 [some (.ref b), none, none, none, none] [] := by
  refine y_new (N := 17) (fs := fz_X11) (ci := 11) C d_L_law_0 (wt_of mw_1_21 rfl) (wt_of mw_1_22 rfl) mw_1_1 rfl in_X11 tyX11_ok dv_X11 (by decide) (by decide) (fun q1 => ?_)
  refine y_dup C d_L_law_3 rfl ?_
  refine y_callI (ws := []) (wc := [(q1, .inr (11, fz_X11))]) (As := []) C d_L_law_4 mf_X11_init rfl mw_1_24 mw_1_23 rfl rfl (Nat.le_of_ble_eq_true rfl) (by decide) (by decide) (by decide) (k_X11 q1) (fun w1 p1 => ?_)
  refine y_eq (ws' := w1) rfl ?_
  refine y_astore_1 C d_L_law_7 (by decide) rfl ?_
  refine y_new (ws := w1) (N := 58) (fs := fz_X12) (ci := 12) C d_L_law_8 (wt_of mw_7_45 rfl) (wt_of mw_7_46 rfl) mw_1_13 rfl in_X12 tyX12_ok dv_X12 (by decide) (by decide) (fun q2 => ?_)
  refine y_dup C d_L_law_11 rfl ?_
  refine y_callI (ws := w1) (wc := [(q2, .inr (12, fz_X12))]) (As := []) C d_L_law_12 mf_X12_init rfl mw_7_48 mw_7_47 rfl rfl (Nat.le_of_ble_eq_true rfl) (by decide) (by decide) (by decide) (k_X12 q2) (fun w2 p2 => ?_)
  refine y_astore_2 C d_L_law_15 (by decide) rfl ?_
  refine y_iconst C d_L_law_16 ?_
  refine y_istore_3 C d_L_law_17 (by decide) rfl ?_
  exact kk q1 w1 q2 w2 p1 p2
