theorem mf_J0_length_8abf5 : MF yJ0_length_8abf5 cJ0_length_8abf5 1 (some .int) 0 := ⟨mw_3_140, mw_1_16, by decide +kernel, by decide +kernel, by decide⟩
theorem mv_J0_length_8abf5 : MV yJ0_length_8abf5 := ⟨mw_3_138, mw_3_139⟩
theorem d_J0_length_8abf5_0 : Dc cJ0_length_8abf5 0 (.aload_n 0) 1 1 := dcI (by decide +kernel) rfl
theorem d_J0_length_8abf5_1 : Dc cJ0_length_8abf5 1 (.getfield 9) 3 4 := dcI (by decide +kernel) rfl
theorem d_J0_length_8abf5_4 : Dc cJ0_length_8abf5 4 .arraylength 1 5 := dcI (by decide +kernel) rfl
theorem d_J0_length_8abf5_5 : Dc cJ0_length_8abf5 5 (.aload_n 0) 1 6 := dcI (by decide +kernel) rfl
theorem d_J0_length_8abf5_6 : Dc cJ0_length_8abf5 6 (.invokevirtual 335) 3 9 := dcI (by decide +kernel) rfl
theorem d_J0_length_8abf5_9 : Dc cJ0_length_8abf5 9 .ishr 1 10 := dcI (by decide +kernel) rfl
theorem d_J0_length_8abf5_10 : Dc cJ0_length_8abf5 10 .ireturn 1 11 := dcI (by decide +kernel) rfl
theorem mf_J0_coder_7d493 : MF yJ0_coder_7d493 cJ0_coder_7d493 1 (some .byte) 0 := ⟨mw_3_144, mw_1_16, by decide +kernel, by decide +kernel, by decide⟩
theorem mv_J0_coder_7d493 : MV yJ0_coder_7d493 := ⟨mw_3_142, mw_3_143⟩
theorem d_J0_coder_7d493_0 : Dc cJ0_coder_7d493 0 (.getstatic 38) 3 3 := dcI (by decide +kernel) rfl
theorem d_J0_coder_7d493_3 : Dc cJ0_coder_7d493 3 (.ifCond .eq 10) 3 6 := dcI (by decide +kernel) rfl
theorem d_J0_coder_7d493_6 : Dc cJ0_coder_7d493 6 (.aload_n 0) 1 7 := dcI (by decide +kernel) rfl
theorem d_J0_coder_7d493_7 : Dc cJ0_coder_7d493 7 (.getfield 15) 3 10 := dcI (by decide +kernel) rfl
theorem d_J0_coder_7d493_10 : Dc cJ0_coder_7d493 10 (.goto 4) 3 13 := dcI (by decide +kernel) rfl
theorem d_J0_coder_7d493_13 : Dc cJ0_coder_7d493 13 (.iconst 1) 1 14 := dcI (by decide +kernel) rfl
theorem d_J0_coder_7d493_14 : Dc cJ0_coder_7d493 14 .ireturn 1 15 := dcI (by decide +kernel) rfl
theorem mf_J0_charAt_5068e : MF yJ0_charAt_5068e cJ0_charAt_5068e 2 (some .char) 1 := ⟨mw_3_150, mw_1_16, by decide +kernel, by decide +kernel, by decide⟩
theorem mv_J0_charAt_5068e : MV yJ0_charAt_5068e := ⟨mw_3_148, mw_3_149⟩
theorem d_J0_charAt_5068e_0 : Dc cJ0_charAt_5068e 0 (.aload_n 0) 1 1 := dcI (by decide +kernel) rfl
theorem d_J0_charAt_5068e_1 : Dc cJ0_charAt_5068e 1 (.invokevirtual 492) 3 4 := dcI (by decide +kernel) rfl
theorem d_J0_charAt_5068e_4 : Dc cJ0_charAt_5068e 4 (.ifCond .eq 12) 3 7 := dcI (by decide +kernel) rfl
theorem d_J0_charAt_5068e_7 : Dc cJ0_charAt_5068e 7 (.aload_n 0) 1 8 := dcI (by decide +kernel) rfl
theorem d_J0_charAt_5068e_8 : Dc cJ0_charAt_5068e 8 (.getfield 9) 3 11 := dcI (by decide +kernel) rfl
theorem d_J0_charAt_5068e_11 : Dc cJ0_charAt_5068e 11 (.iload_n 1) 1 12 := dcI (by decide +kernel) rfl
theorem d_J0_charAt_5068e_12 : Dc cJ0_charAt_5068e 12 (.invokestatic 495) 3 15 := dcI (by decide +kernel) rfl
theorem d_J0_charAt_5068e_15 : Dc cJ0_charAt_5068e 15 .ireturn 1 16 := dcI (by decide +kernel) rfl
theorem d_J0_charAt_5068e_16 : Dc cJ0_charAt_5068e 16 (.aload_n 0) 1 17 := dcI (by decide +kernel) rfl
theorem d_J0_charAt_5068e_17 : Dc cJ0_charAt_5068e 17 (.getfield 9) 3 20 := dcI (by decide +kernel) rfl
theorem d_J0_charAt_5068e_20 : Dc cJ0_charAt_5068e 20 (.iload_n 1) 1 21 := dcI (by decide +kernel) rfl
theorem d_J0_charAt_5068e_21 : Dc cJ0_charAt_5068e 21 (.invokestatic 498) 3 24 := dcI (by decide +kernel) rfl
theorem d_J0_charAt_5068e_24 : Dc cJ0_charAt_5068e 24 .ireturn 1 25 := dcI (by decide +kernel) rfl
theorem mf_J0_isLatin1_aae02 : MF yJ0_isLatin1_aae02 cJ0_isLatin1_aae02 1 (some .boolean) 0 := ⟨mw_3_154, mw_1_16, by decide +kernel, by decide +kernel, by decide⟩
theorem mv_J0_isLatin1_aae02 : MV yJ0_isLatin1_aae02 := ⟨mw_3_152, mw_3_153⟩
theorem d_J0_isLatin1_aae02_0 : Dc cJ0_isLatin1_aae02 0 (.getstatic 38) 3 3 := dcI (by decide +kernel) rfl
theorem d_J0_isLatin1_aae02_3 : Dc cJ0_isLatin1_aae02 3 (.ifCond .eq 14) 3 6 := dcI (by decide +kernel) rfl
theorem d_J0_isLatin1_aae02_6 : Dc cJ0_isLatin1_aae02 6 (.aload_n 0) 1 7 := dcI (by decide +kernel) rfl
theorem d_J0_isLatin1_aae02_7 : Dc cJ0_isLatin1_aae02 7 (.getfield 15) 3 10 := dcI (by decide +kernel) rfl
theorem d_J0_isLatin1_aae02_10 : Dc cJ0_isLatin1_aae02 10 (.ifCond .ne 7) 3 13 := dcI (by decide +kernel) rfl
theorem d_J0_isLatin1_aae02_13 : Dc cJ0_isLatin1_aae02 13 (.iconst 1) 1 14 := dcI (by decide +kernel) rfl
theorem d_J0_isLatin1_aae02_14 : Dc cJ0_isLatin1_aae02 14 (.goto 4) 3 17 := dcI (by decide +kernel) rfl
theorem d_J0_isLatin1_aae02_17 : Dc cJ0_isLatin1_aae02 17 (.iconst 0) 1 18 := dcI (by decide +kernel) rfl
theorem d_J0_isLatin1_aae02_18 : Dc cJ0_isLatin1_aae02 18 .ireturn 1 19 := dcI (by decide +kernel) rfl
theorem mf_J0_checkIndex_df160 : MF yJ0_checkIndex_df160 cJ0_checkIndex_df160 2 none 2 := ⟨mw_3_160, mw_1_16, by decide +kernel, by decide +kernel, by decide⟩
theorem d_J0_checkIndex_df160_0 : Dc cJ0_checkIndex_df160 0 (.iload_n 0) 1 1 := dcI (by decide +kernel) rfl
theorem d_J0_checkIndex_df160_1 : Dc cJ0_checkIndex_df160 1 (.iload_n 1) 1 2 := dcI (by decide +kernel) rfl
theorem d_J0_checkIndex_df160_2 : Dc cJ0_checkIndex_df160 2 (.getstatic 1053) 3 5 := dcI (by decide +kernel) rfl
theorem d_J0_checkIndex_df160_5 : Dc cJ0_checkIndex_df160 5 (.invokestatic 1059) 3 8 := dcI (by decide +kernel) rfl
theorem d_J0_checkIndex_df160_8 : Dc cJ0_checkIndex_df160 8 .pop 1 9 := dcI (by decide +kernel) rfl
theorem d_J0_checkIndex_df160_9 : Dc cJ0_checkIndex_df160 9 .return_ 1 10 := dcI (by decide +kernel) rfl
theorem mf_J1_charAt_3b067 : MF yJ1_charAt_3b067 cJ1_charAt_3b067 2 (some .char) 2 := ⟨mw_3_157, mw_1_17, by decide +kernel, by decide +kernel, by decide⟩
theorem d_J1_charAt_3b067_0 : Dc cJ1_charAt_3b067 0 (.iload_n 1) 1 1 := dcI (by decide +kernel) rfl
theorem d_J1_charAt_3b067_1 : Dc cJ1_charAt_3b067 1 (.aload_n 0) 1 2 := dcI (by decide +kernel) rfl
theorem d_J1_charAt_3b067_2 : Dc cJ1_charAt_3b067 2 .arraylength 1 3 := dcI (by decide +kernel) rfl
theorem d_J1_charAt_3b067_3 : Dc cJ1_charAt_3b067 3 (.invokestatic 9) 3 6 := dcI (by decide +kernel) rfl
theorem d_J1_charAt_3b067_6 : Dc cJ1_charAt_3b067 6 (.aload_n 0) 1 7 := dcI (by decide +kernel) rfl
theorem d_J1_charAt_3b067_7 : Dc cJ1_charAt_3b067 7 (.iload_n 1) 1 8 := dcI (by decide +kernel) rfl
theorem d_J1_charAt_3b067_8 : Dc cJ1_charAt_3b067 8 .baload 1 9 := dcI (by decide +kernel) rfl
theorem d_J1_charAt_3b067_9 : Dc cJ1_charAt_3b067 9 (.sipush 255) 3 12 := dcI (by decide +kernel) rfl
theorem d_J1_charAt_3b067_12 : Dc cJ1_charAt_3b067 12 .iand 1 13 := dcI (by decide +kernel) rfl
theorem d_J1_charAt_3b067_13 : Dc cJ1_charAt_3b067 13 .i2c 1 14 := dcI (by decide +kernel) rfl
theorem d_J1_charAt_3b067_14 : Dc cJ1_charAt_3b067 14 .ireturn 1 15 := dcI (by decide +kernel) rfl
theorem mf_J3_checkIndex_8e157 : MF yJ3_checkIndex_8e157 cJ3_checkIndex_8e157 3 (some .int) 3 := ⟨mw_3_165, mw_1_18, by decide +kernel, by decide +kernel, by decide⟩
theorem d_J3_checkIndex_8e157_0 : Dc cJ3_checkIndex_8e157 0 (.iload_n 0) 1 1 := dcI (by decide +kernel) rfl
theorem d_J3_checkIndex_8e157_1 : Dc cJ3_checkIndex_8e157 1 (.ifCond .lt 8) 3 4 := dcI (by decide +kernel) rfl
theorem d_J3_checkIndex_8e157_4 : Dc cJ3_checkIndex_8e157 4 (.iload_n 0) 1 5 := dcI (by decide +kernel) rfl
theorem d_J3_checkIndex_8e157_5 : Dc cJ3_checkIndex_8e157 5 (.iload_n 1) 1 6 := dcI (by decide +kernel) rfl
theorem d_J3_checkIndex_8e157_6 : Dc cJ3_checkIndex_8e157 6 (.if_icmp .lt 10) 3 9 := dcI (by decide +kernel) rfl
theorem d_J3_checkIndex_8e157_9 : Dc cJ3_checkIndex_8e157 9 (.aload_n 2) 1 10 := dcI (by decide +kernel) rfl
theorem d_J3_checkIndex_8e157_10 : Dc cJ3_checkIndex_8e157 10 (.iload_n 0) 1 11 := dcI (by decide +kernel) rfl
theorem d_J3_checkIndex_8e157_11 : Dc cJ3_checkIndex_8e157 11 (.iload_n 1) 1 12 := dcI (by decide +kernel) rfl
theorem d_J3_checkIndex_8e157_12 : Dc cJ3_checkIndex_8e157 12 (.invokestatic 95) 3 15 := dcI (by decide +kernel) rfl
theorem d_J3_checkIndex_8e157_16 : Dc cJ3_checkIndex_8e157 16 (.iload_n 0) 1 17 := dcI (by decide +kernel) rfl
theorem d_J3_checkIndex_8e157_17 : Dc cJ3_checkIndex_8e157 17 .ireturn 1 18 := dcI (by decide +kernel) rfl
/-! String constants -/
def slen (k : Nat) : Int := ((lenST.getD k 0 : Nat) : Int)
def sch (k : Nat) (i : Int) : Int := ((bytST.getD k []).getD i.toNat 0).toInt
def rv (G : Gw) (k : Nat) : Value := .ref (gsv G k)
theorem st_all : ∀ k, k < nST → (lenST.getD k 0 = (bytST.getD k []).length ∧ lenST.getD k 0 < 100 ∧ ∀ b ∈ bytST.getD k [], 0 ≤ b.toInt ∧ b.toInt < 128) := by decide +kernel
section Str
variable {ρ : Type} {E : Ev ρ} {l : Launch} {G : Gw} {own : String} {cc : ByteArray} {nL h : Nat} {mem : Mem} {pc pc' : Nat} {lv : Lv} {sk : List Value} {o : Option ρ}
theorem hS0 (C : Cx E l G own cc nL h) {H : Heap} {locs : List Loc} (hS : va_S E.2.1 E.2.2.1 H locs) : va_S E.2.1 (mS E.1).heap H locs := by
  have := C.2.2.2.2.2.2.1; rw [this] at hS; exact hS
theorem z_ldcS (C : Cx E l G own cc nL h) {ix k : Nat} {tx : String} (d : Dc cc pc (.ldc ix) 2 pc') {i : Nat} (hp : strPl[i]? = some (own, ix, tx, k)) (kk : Z E G nL mem pc' lv (rs G k :: sk) o) : Z E G nL mem pc lv sk o := by
  intro r hr H locs ls hP hS hl
  obtain ⟨d, rfl⟩ := d
  exact va_ldcS C.1 C.2.1 C.2.2.2.1 (C.2.2.2.2.2.1.2.1 i _ hp) d (kk r hr H locs ls hP hS hl)
theorem z_gcs (C : Cx E l G own cc nL h) {ix : Nat} (d : Dc cc pc (.getstatic ix) 3 pc') (hw : Cond.fieldLink own ix "java/lang/String" "COMPACT_STRINGS" "Z" ∈ wt) (kk : Z E G nL mem pc' lv (vi 1 :: sk) o) : Z E G nL mem pc lv sk o := by
  intro r hr H locs ls hP hS hl
  obtain ⟨d, rfl⟩ := d
  exact va_gets C.1 C.2.1 C.2.2.2.2.2.1.2.2.2.1 (hS0 C hS) C.2.2.2.1 (C.2.2.2.2.1 _ hw) (fun _ h => h) d (kk r hr H locs ls hP hS hl)
theorem z_gfm (C : Cx E l G own cc nL h) {ix : Nat} (d : Dc cc pc (.getstatic ix) 3 pc') (hw : Cond.fieldLink own ix "jdk/internal/util/Preconditions" "SIOOBE_FORMATTER" "Ljava/util/function/BiFunction;" ∈ wt) (kk : Z E G nL mem pc' lv (gsf G :: sk) o) : Z E G nL mem pc lv sk o := by
  intro r hr H locs ls hP hS hl
  obtain ⟨d, rfl⟩ := d
  exact va_gets C.1 C.2.1 C.2.2.2.2.2.1.2.2.2.2.2.1 (hS0 C hS) C.2.2.2.1 (C.2.2.2.2.1 _ hw) (fun _ h => h) d (kk r hr H locs ls hP hS hl)
theorem z_scod (C : Cx E l G own cc nL h) {ix k : Nat} (hk : k < nST) (d : Dc cc pc (.getfield ix) 3 pc') (hw : Cond.fieldLink own ix "java/lang/String" "coder" "B" ∈ wt) (kk : Z E G nL mem pc' lv (vi 0 :: sk) o) : Z E G nL mem pc lv (rs G k :: sk) o := by
  intro r hr H locs ls hP hS hl
  obtain ⟨d, rfl⟩ := d
  exact vk_getf C.1 C.2.1 (C.2.2.2.2.2.1.2.2.1.1 k hk).2.1 (hS0 C hS) C.2.2.2.1 (C.2.2.2.2.1 _ hw) (fun _ h => h) d (kk r hr H locs ls hP hS hl)
theorem z_sval (C : Cx E l G own cc nL h) {ix k : Nat} (hk : k < nST) (d : Dc cc pc (.getfield ix) 3 pc') (hw : Cond.fieldLink own ix "java/lang/String" "value" "[B" ∈ wt) (kk : Z E G nL mem pc' lv (rv G k :: sk) o) : Z E G nL mem pc lv (rs G k :: sk) o := by
  intro r hr H locs ls hP hS hl
  obtain ⟨d, rfl⟩ := d
  exact vk_getf C.1 C.2.1 (C.2.2.2.2.2.1.2.2.1.1 k hk).2.2.1 (hS0 C hS) C.2.2.2.1 (C.2.2.2.2.1 _ hw) (fun _ h => h) d (kk r hr H locs ls hP hS hl)
theorem z_sal (C : Cx E l G own cc nL h) {k : Nat} (hk : k < nST) (d : Dc cc pc .arraylength 1 pc') (kk : Z E G nL mem pc' lv (vi (slen k) :: sk) o) : Z E G nL mem pc lv (rv G k :: sk) o := by
  intro r hr H locs ls hP hS hl
  obtain ⟨d, rfl⟩ := d
  exact va_tlen C.1 C.2.1 (C.2.2.2.2.2.1.2.2.1.1 k hk).2.2.2 (hS0 C hS) (v := Int32.ofInt (slen k)) rfl d (kk r hr H locs ls hP hS hl)
theorem z_sbald (C : Cx E l G own cc nL h) {k : Nat} {x x' : Int} (hk : k < nST) (d : Dc cc pc .baload 1 pc') (hx : w32 x = x') (h0 : 0 ≤ x') (h1 : x' < slen k) (kk : Z E G nL mem pc' lv (vi (sch k x') :: sk) o) : Z E G nL mem pc lv (vi x :: rv G k :: sk) o := by
  intro r hr H locs ls hP hS hl
  obtain ⟨d, rfl⟩ := d
  refine va_tb C.1 C.2.1 (C.2.2.2.2.2.1.2.2.1.1 k hk).2.2.2 (hS0 C hS) (ix_in hx h0 h1) (v := vi (sch k x')) ?_ d (kk r hr H locs ls hP hS hl)
  have en : (Int32.ofInt x).toNatClampNeg = x'.toNat := by have := ix_nat hx h0; omega
  rw [en]
  unfold vi sch
  rw [Int32.ofInt_toInt]
theorem z_aldA (C : Cx E l G own cc nL h) {x : Nat} {t : Lv} (d : Dc cc pc (.aload_n 0) 1 pc') (k : Z E G nL mem pc' (some (.ref x) :: t) (.ref x :: sk) o) : Z E G nL mem pc (some (.ref x) :: t) sk o := by
  intro r hr H locs ls hP hS hl
  obtain ⟨d, rfl⟩ := d
  exact lv_aload_n C.1 C.2.1 d rfl (hl.get (i := 0) rfl) (k r hr H locs ls hP hS hl)
theorem z_i2c (C : Cx E l G own cc nL h) {x : Int} (h0 : 0 ≤ x) (h1 : x < 65536) (d : Dc cc pc .i2c 1 pc') (k : Z E G nL mem pc' lv (vi x :: sk) o) : Z E G nL mem pc lv (vi x :: sk) o := by
  intro r hr H locs ls hP hS hl
  obtain ⟨d, rfl⟩ := d
  refine lv_i2c C.1 C.2.1 d ?_ (k r hr H locs ls hP hS hl)
  have e : Int32.ofInt x = nI x.toNat := by
    apply Int32.toInt_inj.mp
    rw [t32, w32_id (by omega) (by omega), nI_toInt (by omega)]; omega
  rw [e, pk_char, pk_tn (by omega), Nat.mod_eq_of_lt (by omega)]
theorem z_nret {ty : FieldType} {vof : ρ → Option Value} {mof : ρ → Mem} {r0 : ρ} (C : Cx E l G own cc nL h) (R : Rx E G (some ty) vof mof) {x : Int} (hn : narrow ty (vi x) = vi x) (d : Dc cc pc .ireturn 1 pc') (hv : vof r0 = some (vi x)) (hm : mof r0 = mem) : Z E G nL mem pc lv [vi x] (some r0) := by
  intro r hr H locs ls hP hS hl
  cases hr
  obtain ⟨r1, r2, r3, r4, r5⟩ := R
  rw [r5, hv, hm]
  rw [r3, r4] at hS
  exact W.zret C.1 C.2.1 r1 hn (fun t ht hW => ⟨rfl, by rw [ht]; exact hP, hS.F ht⟩) hS.2.2 d.1 r2
theorem z_callT (C : Cx E l G own cc nL h) {y : MethodName} {bc : ByteArray} {maxL h' n k ix : Nat} {ret : Option FieldType} {As sk0 : List Value} {v : Option Value} {mem' : Mem} (hk : k < nST) (hy : y.cls = "java/lang/String") (d : Dc cc pc (.invokevirtual ix) 3 pc') (mf : MF y bc maxL ret n) (mv : MV y) (ml : Cond.methodLink own ix y ∈ wt) (hn : As.length = n) (hst : sk0 = As.reverse ++ rs G k :: sk) (hw : (sk.map fun v => v.category).sum ≤ 8) (hh : h' < h) (ct : CT l G y bc maxL ret h' (rs G k :: As) mem v mem') (kk : Z E G nL mem' pc' lv (v.toList ++ sk) o) : Z E G nL mem pc lv sk0 o := by
  intro r hr H locs ls hP hS hl
  obtain ⟨d, rfl⟩ := d
  subst hst
  have hl0 := C.2.2.2.2.2.2.2.2.2
  have ct' : CT (mL E.1) G y bc maxL ret h' (rs G k :: As) mem v mem' := by rw [hl0]; exact ct
  have hq : ∀ a : Nat, a < (mS E.1).heap.size → ¬ E.2.1 a → H[a]? = (mS E.1).heap[a]? := (hS0 C hS).2.1
  obtain ⟨cell, g1, g2, g3, -⟩ := ((C.2.2.2.2.2.1.2.2.1.1 k hk).1).kept hq
  have run := va_runV (H := H) (locs := locs) (cells := mcl E.1) (slots := msl E.1) (e := mE E.1) (below := mB E.1) (meth := mT E.1) (fix C) ct' (cwV n C.2.2.2.2.1 (goodV mf mv ml) rfl rfl rfl ⟨rfl, mf.2.2.1⟩ (room C hh mf.2.2.2.2)) ⟨blind, ⟨cell, g1, g2, by rw [hy]; exact g3⟩, C.pre hP hS⟩ (g := F0 (mM E.1) pc ls (As.reverse ++ rs G k :: sk)) (rest := sk) rfl hn hl.1 rfl (lv_room hw) d ⟨C.2.2.2.2.2.2.2.2.1.2.2.1, C.2.2.2.2.2.2.2.2.1.2.2.2⟩
  exact after C run hS hl hr kk
end Str
theorem c_J3_checkIndex_8e157 {l : Launch} {G : Gw} (i n : Int) (v : Value) (hv : v = .null ∨ ∃ t, v = .ref t) (h0 : 0 ≤ w32 i) (h1 : w32 i < w32 n) (mem : Mem) : CT l G yJ3_checkIndex_8e157 cJ3_checkIndex_8e157 3 (some .int) 2 [vi i, vi n, v] mem (some (vi i)) mem := by
  refine enter (ρ := Int) (vof := fun x => some (vi x)) (mof := fun _ => mem) (o := some i) (lv0 := [some (vi i), some (vi n), some v]) mf_J3_checkIndex_8e157 (own := RJ3) rfl rfl (by rcases hv with rfl | ⟨t, rfl⟩ <;> exact Nat.le_of_ble_eq_true rfl) (fun E C R => ?_) rfl
  exact z_iload_0 C d_J3_checkIndex_8e157_0 (z_if_lt0 C d_J3_checkIndex_8e157_1 rfl rfl (fun q => absurd h0 (by omega)) (fun _ => z_iload_0 C d_J3_checkIndex_8e157_4 (z_iload_1 C d_J3_checkIndex_8e157_5 (z_icmp_lt0 C d_J3_checkIndex_8e157_6 rfl rfl rfl (fun _ => z_iload_0 C d_J3_checkIndex_8e157_16 (z_iret C R d_J3_checkIndex_8e157_17 rfl rfl)) (fun q => absurd h1 q)))))
theorem c_J0_checkIndex_df160 {l : Launch} {G : Gw} (i n : Int) (h0 : 0 ≤ w32 i) (h1 : w32 i < w32 n) (mem : Mem) : CT l G yJ0_checkIndex_df160 cJ0_checkIndex_df160 2 none 3 [vi i, vi n] mem none mem := by
  refine enter (ρ := Mem) (vof := fun _ => none) (mof := fun x => x) (o := some mem) (lv0 := [some (vi i), some (vi n), none]) mf_J0_checkIndex_df160 (own := RJ0) rfl rfl (Nat.le_of_ble_eq_true rfl) (fun E C R => ?_) rfl
  exact z_iload_0 C d_J0_checkIndex_df160_0 (z_iload_1 C d_J0_checkIndex_df160_1 (z_gfm C d_J0_checkIndex_df160_2 mw_3_161 (z_cSi3 C d_J0_checkIndex_df160_5 mf_J3_checkIndex_8e157 mw_3_164 mw_3_163 (Nat.le_of_ble_eq_true rfl) (Nat.le_of_ble_eq_true rfl) (c_J3_checkIndex_8e157 i n (gsf G) C.2.2.2.2.2.1.2.2.2.2.2.2 h0 h1 mem) (z_pop C d_J0_checkIndex_df160_8 rfl (z_vret C R d_J0_checkIndex_df160_9 rfl rfl)))))
theorem ch_and {x : Int} (h0 : 0 ≤ x) (h1 : x < 128) : bAnd x 255 = x := by
  unfold bAnd
  have e : Int32.ofInt x = nI x.toNat := by
    apply Int32.toInt_inj.mp
    rw [t32, w32_id (by omega) (by omega), nI_toInt (by omega)]; omega
  rw [e, show Int32.ofInt 255 = (255 : Int32) from rfl, pk_andN (n := x.toNat) (by omega) 8 (by decide), nI_toInt (by omega), Nat.mod_eq_of_lt (by omega)]
  omega
theorem sch_in {k : Nat} {i : Int} (hk : k < nST) (h0 : 0 ≤ i) (h1 : i < slen k) : 0 ≤ sch k i ∧ sch k i < 128 := by
  obtain ⟨a, b, c⟩ := st_all k hk
  unfold slen at h1
  unfold sch
  have hl : i.toNat < (bytST.getD k []).length := by omega
  have hm : ∀ (L : List Int32) (n : Nat), n < L.length → L.getD n 0 ∈ L := by
    intro L n hl
    rw [List.getD_eq_getElem?_getD, List.getElem?_eq_getElem hl]; exact List.getElem_mem hl
  exact c _ (hm _ _ hl)
theorem slen_w {k : Nat} (hk : k < nST) : w32 (slen k) = slen k := by
  obtain ⟨a, b, c⟩ := st_all k hk
  unfold slen; exact w32_id (by omega) (by omega)
theorem char_nar {x : Int} (h0 : 0 ≤ x) (h1 : x < 128) : narrow .char (vi x) = vi x := by
  have e : Int32.ofInt x = nI x.toNat := by
    apply Int32.toInt_inj.mp
    rw [t32, w32_id (by omega) (by omega), nI_toInt (by omega)]; omega
  unfold vi
  rw [e]; exact (pk_charN (by omega)).1
theorem c_J1_charAt_3b067 {l : Launch} {G : Gw} {k : Nat} (hk : k < nST) (i : Int) (h0 : 0 ≤ w32 i) (h1 : w32 i < slen k) (mem : Mem) : CT l G yJ1_charAt_3b067 cJ1_charAt_3b067 2 (some .char) 4 [rv G k, vi i] mem (some (vi (sch k (w32 i)))) mem := by
  refine enter (ρ := Int) (vof := fun x => some (vi x)) (mof := fun _ => mem) (o := some (sch k (w32 i))) (lv0 := [some (rv G k), some (vi i), none]) mf_J1_charAt_3b067 (own := RJ1) rfl rfl (Nat.le_of_ble_eq_true rfl) (fun E C R => ?_) rfl
  have hs := sch_in hk h0 h1
  have hb := ch_and hs.1 hs.2
  refine z_iload_1 C d_J1_charAt_3b067_0 (z_aldA C d_J1_charAt_3b067_1 (z_sal C hk d_J1_charAt_3b067_2 (z_cSv2 C d_J1_charAt_3b067_3 mf_J0_checkIndex_df160 mw_3_159 mw_3_158 (Nat.le_of_ble_eq_true rfl) (Nat.le_of_ble_eq_true rfl) (c_J0_checkIndex_df160 i (slen k) h0 (by rw [slen_w hk]; exact h1) mem) (z_aldA C d_J1_charAt_3b067_6 (z_iload_1 C d_J1_charAt_3b067_7 (z_sbald C hk d_J1_charAt_3b067_8 rfl h0 h1 (z_sipush C d_J1_charAt_3b067_9 rfl (z_iand C d_J1_charAt_3b067_12 ?_))))))))
  rw [hb]
  exact z_i2c C hs.1 (by omega) d_J1_charAt_3b067_13 (z_nret C R (char_nar hs.1 hs.2) d_J1_charAt_3b067_14 rfl rfl)
theorem c_J0_isLatin1_aae02 {l : Launch} {G : Gw} {k : Nat} (hk : k < nST) (mem : Mem) : CT l G yJ0_isLatin1_aae02 cJ0_isLatin1_aae02 1 (some .boolean) 2 [rs G k] mem (some (vi 1)) mem := by
  refine enter (ρ := Int) (vof := fun x => some (vi x)) (mof := fun _ => mem) (o := some 1) (lv0 := [some (rs G k), none]) mf_J0_isLatin1_aae02 (own := RJ0) rfl rfl (Nat.le_of_ble_eq_true rfl) (fun E C R => ?_) rfl
  exact z_gcs C d_J0_isLatin1_aae02_0 mw_3_145 (z_if_eq0 C d_J0_isLatin1_aae02_3 rfl (show w32 1 = 1 by decide) (fun q => absurd q (by decide)) (fun _ => z_aloadS_0 C d_J0_isLatin1_aae02_6 (z_scod C hk d_J0_isLatin1_aae02_7 mw_9_228 (z_if_ne0 C d_J0_isLatin1_aae02_10 rfl (show w32 0 = 0 by decide) (fun q => absurd rfl q) (fun _ => z_iconst C d_J0_isLatin1_aae02_13 (z_goto C d_J0_isLatin1_aae02_14 rfl (z_zret C R d_J0_isLatin1_aae02_18 (Or.inr rfl) rfl rfl)))))))
theorem c_J0_coder_7d493 {l : Launch} {G : Gw} {k : Nat} (hk : k < nST) (mem : Mem) : CT l G yJ0_coder_7d493 cJ0_coder_7d493 1 (some .byte) 2 [rs G k] mem (some (vi 0)) mem := by
  refine enter (ρ := Int) (vof := fun x => some (vi x)) (mof := fun _ => mem) (o := some 0) (lv0 := [some (rs G k), none]) mf_J0_coder_7d493 (own := RJ0) rfl rfl (Nat.le_of_ble_eq_true rfl) (fun E C R => ?_) rfl
  exact z_gcs C d_J0_coder_7d493_0 mw_3_145 (z_if_eq0 C d_J0_coder_7d493_3 rfl (show w32 1 = 1 by decide) (fun q => absurd q (by decide)) (fun _ => z_aloadS_0 C d_J0_coder_7d493_6 (z_scod C hk d_J0_coder_7d493_7 mw_9_228 (z_goto C d_J0_coder_7d493_10 rfl (z_nret C R rfl d_J0_coder_7d493_14 rfl rfl)))))
theorem shr0 {k : Nat} (hk : k < nST) : bShr (slen k) 0 = slen k := by
  have := slen_w hk
  unfold bShr
  rw [show (Int32.ofInt 0 &&& 31 : Int32) = 0 from by decide]
  rw [Int32.shiftRight_zero, t32, this]
theorem c_J0_length_8abf5 {l : Launch} {G : Gw} {k : Nat} (hk : k < nST) (mem : Mem) : CT l G yJ0_length_8abf5 cJ0_length_8abf5 1 (some .int) 3 [rs G k] mem (some (vi (slen k))) mem := by
  refine enter (ρ := Int) (vof := fun x => some (vi x)) (mof := fun _ => mem) (o := some (slen k)) (lv0 := [some (rs G k), none]) mf_J0_length_8abf5 (own := RJ0) rfl rfl (Nat.le_of_ble_eq_true rfl) (fun E C R => ?_) rfl
  refine z_aloadS_0 C d_J0_length_8abf5_0 (z_sval C hk d_J0_length_8abf5_1 mw_9_227 (z_sal C hk d_J0_length_8abf5_4 (z_aloadS_0 C d_J0_length_8abf5_5 (z_callT C hk rfl d_J0_length_8abf5_6 mf_J0_coder_7d493 mv_J0_coder_7d493 mw_3_141 (As := []) rfl rfl (Nat.le_of_ble_eq_true rfl) (Nat.le_of_ble_eq_true rfl) (c_J0_coder_7d493 hk mem) (z_ishr (x := slen k) (y := 0) C d_J0_length_8abf5_9 ?_)))))
  rw [shr0 hk]
  exact z_iret C R d_J0_length_8abf5_10 rfl rfl
theorem c_J0_charAt_5068e {l : Launch} {G : Gw} {k : Nat} (hk : k < nST) (i : Int) (h0 : 0 ≤ w32 i) (h1 : w32 i < slen k) (mem : Mem) : CT l G yJ0_charAt_5068e cJ0_charAt_5068e 2 (some .char) 5 [rs G k, vi i] mem (some (vi (sch k (w32 i)))) mem := by
  refine enter (ρ := Int) (vof := fun x => some (vi x)) (mof := fun _ => mem) (o := some (sch k (w32 i))) (lv0 := [some (rs G k), some (vi i), none]) mf_J0_charAt_5068e (own := RJ0) rfl rfl (Nat.le_of_ble_eq_true rfl) (fun E C R => ?_) rfl
  have hs := sch_in hk h0 h1
  exact z_aloadS_0 C d_J0_charAt_5068e_0 (z_callT C hk rfl d_J0_charAt_5068e_1 mf_J0_isLatin1_aae02 mv_J0_isLatin1_aae02 mw_3_151 (As := []) rfl rfl (Nat.le_of_ble_eq_true rfl) (Nat.le_of_ble_eq_true rfl) (c_J0_isLatin1_aae02 hk mem) (z_if_eq0 (x := 1) C d_J0_charAt_5068e_4 rfl (show w32 1 = 1 by decide) (fun q => absurd q (by decide)) (fun _ => z_aloadS_0 C d_J0_charAt_5068e_7 (z_sval C hk d_J0_charAt_5068e_8 mw_9_227 (z_iload_1 C d_J0_charAt_5068e_11 (z_cSi2 C d_J0_charAt_5068e_12 mf_J1_charAt_3b067 mw_3_156 mw_3_155 (Nat.le_of_ble_eq_true rfl) (Nat.le_of_ble_eq_true rfl) (c_J1_charAt_3b067 hk i h0 h1 mem) (z_nret C R (char_nar hs.1 hs.2) d_J0_charAt_5068e_15 rfl rfl)))))))
section Str2
variable {ρ : Type} {E : Ev ρ} {l : Launch} {G : Gw} {own : String} {cc : ByteArray} {nL h : Nat} {mem : Mem} {pc pc' : Nat} {lv : Lv} {sk : List Value} {o : Option ρ}
theorem z_slen (C : Cx E l G own cc nL h) {ix k : Nat} (hk : k < nST) (d : Dc cc pc (.invokevirtual ix) 3 pc') (ml : Cond.methodLink own ix yJ0_length_8abf5 ∈ wt) (hw : (sk.map fun v => v.category).sum ≤ 8) (hh : 7 < h) (kk : Z E G nL mem pc' lv (vi (slen k) :: sk) o) : Z E G nL mem pc lv (rs G k :: sk) o :=
  z_callT C hk rfl d mf_J0_length_8abf5 mv_J0_length_8abf5 ml (As := []) rfl rfl hw (by omega) (c_J0_length_8abf5 hk mem) kk
theorem z_schar (C : Cx E l G own cc nL h) {ix k : Nat} {i i' : Int} (hk : k < nST) (d : Dc cc pc (.invokevirtual ix) 3 pc') (ml : Cond.methodLink own ix yJ0_charAt_5068e ∈ wt) (hx : w32 i = i') (h0 : 0 ≤ i') (h1 : i' < slen k) (hw : (sk.map fun v => v.category).sum ≤ 8) (hh : 7 < h) (kk : Z E G nL mem pc' lv (vi (sch k i') :: sk) o) : Z E G nL mem pc lv (vi i :: rs G k :: sk) o := by
  subst hx
  exact z_callT C hk rfl d mf_J0_charAt_5068e mv_J0_charAt_5068e ml (As := [vi i]) rfl rfl hw (by omega) (c_J0_charAt_5068e hk i h0 h1 mem) kk
end Str2
