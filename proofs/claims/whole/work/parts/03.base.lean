/-! numbers of the machine as whole numbers: any whole number stands for the int (long) that it is cut to -/
def w32 (x : Int) : Int := x.bmod 4294967296
def w64 (x : Int) : Int := x.bmod 18446744073709551616
def w16 (x : Int) : Int := x.bmod 65536
def w8 (x : Int) : Int := x.bmod 256
def vi (x : Int) : Value := .int (Int32.ofInt x)
def vl (x : Int) : Value := .long (Int64.ofInt x)
theorem t32 (x : Int) : (Int32.ofInt x).toInt = w32 x := Int32.toInt_ofInt
theorem t64 (x : Int) : (Int64.ofInt x).toInt = w64 x := Int64.toInt_ofInt
theorem of32 (x : Int) : Int32.ofInt (w32 x) = Int32.ofInt x := by
  apply Int32.toInt_inj.mp; rw [t32, t32]; unfold w32; exact Int.bmod_bmod
theorem of64 (x : Int) : Int64.ofInt (w64 x) = Int64.ofInt x := by
  apply Int64.toInt_inj.mp; rw [t64, t64]; unfold w64; exact Int.bmod_bmod
theorem oe32 {x y : Int} : Int32.ofInt x = Int32.ofInt y ↔ w32 x = w32 y := by
  rw [← Int32.toInt_inj, t32, t32]
theorem oe64 {x y : Int} : Int64.ofInt x = Int64.ofInt y ↔ w64 x = w64 y := by
  rw [← Int64.toInt_inj, t64, t64]
theorem ol32 {x y : Int} : Int32.ofInt x ≤ Int32.ofInt y ↔ w32 x ≤ w32 y := by
  rw [Int32.le_iff_toInt_le, t32, t32]
theorem ot32 {x y : Int} : Int32.ofInt x < Int32.ofInt y ↔ w32 x < w32 y := by
  rw [Int32.lt_iff_toInt_lt, t32, t32]
theorem ol64 {x y : Int} : Int64.ofInt x ≤ Int64.ofInt y ↔ w64 x ≤ w64 y := by
  rw [Int64.le_iff_toInt_le, t64, t64]
theorem ot64 {x y : Int} : Int64.ofInt x < Int64.ofInt y ↔ w64 x < w64 y := by
  rw [Int64.lt_iff_toInt_lt, t64, t64]
theorem w32_id {x : Int} (h1 : -2147483648 ≤ x) (h2 : x < 2147483648) : w32 x = x := by
  unfold w32; exact Int.bmod_eq_of_le (by omega) (by omega)
theorem w64_id {x : Int} (h1 : -9223372036854775808 ≤ x) (h2 : x < 9223372036854775808) : w64 x = x := by
  unfold w64; exact Int.bmod_eq_of_le (by omega) (by omega)
theorem w32_lo (x : Int) : -2147483648 ≤ w32 x := by
  unfold w32; have := Int.le_bmod (x := x) (m := 4294967296) (by decide); omega
theorem w32_hi (x : Int) : w32 x < 2147483648 := by
  unfold w32; have := Int.bmod_lt (x := x) (m := 4294967296) (by decide); omega
theorem w64_lo (x : Int) : -9223372036854775808 ≤ w64 x := by
  unfold w64; have := Int.le_bmod (x := x) (m := 18446744073709551616) (by decide); omega
theorem w64_hi (x : Int) : w64 x < 9223372036854775808 := by
  unfold w64; have := Int.bmod_lt (x := x) (m := 18446744073709551616) (by decide); omega
/-! what the cells hold: a cell's number, a place in it -/
abbrev Mem : Type := Nat → Int → Int
abbrev Shp : Type := (Nat × Nat × List Nat) ⊕ (Nat × List (Nat ⊕ Nat))
abbrev Gw : Type := va_G × (Nat → Nat) × (Nat → ClassId) × List Shp × (Nat → Nat) × (Nat → Nat) × Value
def gD (G : Gw) : va_G := G.1
def gad (G : Gw) : Nat → Nat := G.2.1
def gTY (G : Gw) : Nat → ClassId := G.2.2.1
def gom (G : Gw) : List Shp := G.2.2.2.1
def gsa (G : Gw) : Nat → Nat := G.2.2.2.2.1
def gsv (G : Gw) : Nat → Nat := G.2.2.2.2.2.1
def gsf (G : Gw) : Value := G.2.2.2.2.2.2
def rf (G : Gw) (c : Nat) : Value := .ref (gad G c)
def rs (G : Gw) (k : Nat) : Value := .ref (gsa G k)
def fldV (ad : Nat → Nat) (kd : Nat ⊕ Nat) (x : Int) : Value := match kd with
  | .inl t => .ref (ad t)
  | .inr k => if k = 0 then vi x else vl x
def arrV' (ad : Nat → Nat) (t : Nat) (rs : List Nat) (row : Int → Int) : (Nat → Int32) ⊕ (Nat → Int64) ⊕ (Nat → UInt32) ⊕ (Nat → UInt64) ⊕ (Nat → Option Nat) :=
  if t = 1 then .inr (.inl (fun j => Int64.ofInt (row j))) else if t ≤ 2 then .inl (fun j => Int32.ofInt (row j)) else .inr (.inr (.inr (.inr (fun j => rs[j]?.map ad))))
def cellE (ad : Nat → Nat) (TY : Nat → ClassId) (sh : Shp) (row : Int → Int) : va_E := match sh with
  | .inl a => .inl (TY a.1, a.2.1, arrV' ad a.1 a.2.2 row)
  | .inr o => .inr (o.1, o.2.mapIdx (fun k kd => fldV ad kd (row k)))
def wd (G : Gw) (mem : Mem) : va_W := (gom G).mapIdx (fun c sh => (gad G c, cellE (gad G) (gTY G) sh (mem c)))
/-- a place of a cell gets a number -/
def st (mem : Mem) (c : Nat) (i v : Int) : Mem := fun c' i' => if c' = c then (if i' = i then v else mem c i') else mem c' i'
/-- a stretch of a cell is copied to another's (or its own) -/
def cpy (mem : Mem) (c0 : Nat) (sp : Int) (c1 : Nat) (dp n : Int) : Mem := fun c' i' => if c' = c1 then (if dp ≤ i' ∧ i' < dp + n then mem c0 (sp + (i' - dp)) else mem c1 i') else mem c' i'
theorem wd_get {G : Gw} {mem : Mem} {c : Nat} {sh : Shp} (h : (gom G)[c]? = some sh) : (wd G mem)[c]? = some (gad G c, cellE (gad G) (gTY G) sh (mem c)) := by
  unfold wd; rw [List.getElem?_mapIdx, h]; rfl
def putRow (mem : Mem) (c : Nat) (row : Int → Int) : Mem := fun c' => if c' = c then row else mem c'
theorem wd_set {G : Gw} {mem : Mem} {c : Nat} {sh : Shp} (h : (gom G)[c]? = some sh) (row : Int → Int) : (wd G mem).set c (gad G c, cellE (gad G) (gTY G) sh row) = wd G (putRow mem c row) := by
  apply List.ext_getElem?
  intro i
  unfold wd
  rw [List.getElem?_set, List.getElem?_mapIdx, List.getElem?_mapIdx, List.length_mapIdx]
  by_cases hi : c = i
  · subst hi
    have hl : c < (gom G).length := (List.getElem?_eq_some_iff.mp h).1
    rw [if_pos rfl, if_pos hl, h]
    simp [putRow]
  · rw [if_neg hi]
    have : ¬ i = c := fun e => hi e.symm
    simp [putRow, this]
theorem st_row (mem : Mem) (c : Nat) (i v : Int) : st mem c i v = putRow mem c (fun i' => if i' = i then v else mem c i') := by
  funext c' i'; unfold st putRow; by_cases h : c' = c <;> simp [h]
theorem cpy_row (mem : Mem) (c0 : Nat) (sp : Int) (c1 : Nat) (dp n : Int) : cpy mem c0 sp c1 dp n = putRow mem c1 (fun i' => if dp ≤ i' ∧ i' < dp + n then mem c0 (sp + (i' - dp)) else mem c1 i') := by
  funext c' i'; unfold cpy putRow; by_cases h : c' = c1 <;> simp [h]
/-! the String constants: class, entry, text, number; their lengths and bytes -/
def strPl : List (String × Nat × String × Nat) := [("FairLines$BookReader", 49, "row", 0), ("FairLines$BookReader", 58, "keep", 1), ("FairLines$BookReader", 63, "order", 2), ("FairLines$Tape", 81, "stations", 3), ("FairLines$Tape", 83, "waters", 4), ("FairLines$Tape", 85, "slants", 5), ("FairLines$BookReader", 68, "space", 6), ("FairLines$BookReader", 74, "rise", 7), ("FairLines$BookReader", 76, "eye", 8), ("FairLines$BookReader", 78, "step", 9), ("FairLines$WayReader", 69, "end", 10), ("FairLines$WayReader", 75, "ease", 11), ("FairLines$WayReader", 77, "move", 12), ("FairLines$WayReader", 79, "keep", 1), ("FairLines$WayReader", 81, "free", 13), ("FairLines$WayReader", 83, "bend", 14), ("FairLines$WayReader", 85, "until", 15), ("FairLines$WayReader", 87, "when", 16), ("FairLines$WayReader", 126, "at", 17), ("FairLinesModel", 167, " stations waters slants row space rise eye step keep order ", 18), ("FairLinesModel", 224, " stations waters slants ease move keep free bend until when end at ", 19)]
def nST : Nat := 20
def lenST : List Nat := [3, 4, 5, 8, 6, 6, 5, 4, 3, 4, 3, 4, 4, 4, 4, 5, 4, 2, 59, 67]
def bytST : List (List Int32) := [[114, 111, 119], [107, 101, 101, 112], [111, 114, 100, 101, 114], [115, 116, 97, 116, 105, 111, 110, 115], [119, 97, 116, 101, 114, 115], [115, 108, 97, 110, 116, 115], [115, 112, 97, 99, 101], [114, 105, 115, 101], [101, 121, 101], [115, 116, 101, 112], [101, 110, 100], [101, 97, 115, 101], [109, 111, 118, 101], [102, 114, 101, 101], [98, 101, 110, 100], [117, 110, 116, 105, 108], [119, 104, 101, 110], [97, 116], [32, 115, 116, 97, 116, 105, 111, 110, 115, 32, 119, 97, 116, 101, 114, 115, 32, 115, 108, 97, 110, 116, 115, 32, 114, 111, 119, 32, 115, 112, 97, 99, 101, 32, 114, 105, 115, 101, 32, 101, 121, 101, 32, 115, 116, 101, 112, 32, 107, 101, 101, 112, 32, 111, 114, 100, 101, 114, 32], [32, 115, 116, 97, 116, 105, 111, 110, 115, 32, 119, 97, 116, 101, 114, 115, 32, 115, 108, 97, 110, 116, 115, 32, 101, 97, 115, 101, 32, 109, 111, 118, 101, 32, 107, 101, 101, 112, 32, 102, 114, 101, 101, 32, 98, 101, 110, 100, 32, 117, 110, 116, 105, 108, 32, 119, 104, 101, 110, 32, 101, 110, 100, 32, 97, 116, 32]]
def nestPl : List (String × Nat × MethodName × String) := [("FairLines$Tape", 63, ⟨"FairLines", "isWithin", "(JJJ)Z"⟩, "FairLines"), ("FairLines$Yard", 40, ⟨"FairLines", "isWithin", "(JJJ)Z"⟩, "FairLines")]
/-- the tables' words that last -/
def wt : List Cond := lw_tbl.filter goodWord
/-- an instruction, its length, and where the next one is -/
def Dc (cc : ByteArray) (pc : Nat) (i : Instr) (n pc' : Nat) : Prop := decode cc pc = .ok (i, n) ∧ pc + n = pc'
theorem dcI {cc : ByteArray} {pc : Nat} {i : Instr} {n pc' : Nat} (h : decode cc pc = .ok (i, n)) (e : Nat.beq (pc + n) pc' = true) : Dc cc pc i n pc' := ⟨h, Nat.eq_of_beq_eq_true e⟩
