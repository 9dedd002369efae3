/-! layer 2: laths, the sums on whole numbers alone: a check of all sets of ducks -/
def ctN (p b : Nat) : Int := if b = p then -2 else if b + 1 = p then 1 else if b = p + 1 then 1 else 0
/-- sum over the middles 1 .. k -/
def gmN (x y : Nat) : Nat → Int
  | 0 => 0
  | k + 1 => gmN x y k + ctN (k + 1) x * ctN (k + 1) y
def gt2 (L : List (List Int)) (r c : Nat) : Int := (L.getD r []).getD c 0
def tabN : Nat → List (List Int)
  | 3 => [[1, -2, 1], [-2, 4, -2], [1, -2, 1]]
  | 4 => [[1, -2, 1, 0], [-2, 5, -4, 1], [1, -4, 5, -2], [0, 1, -2, 1]]
  | 5 => [[1, -2, 1, 0, 0], [-2, 5, -4, 1, 0], [1, -4, 6, -4, 1], [0, 1, -4, 5, -2], [0, 0, 1, -2, 1]]
  | 6 => [[1, -2, 1, 0, 0, 0], [-2, 5, -4, 1, 0, 0], [1, -4, 6, -4, 1, 0], [0, 1, -4, 6, -4, 1], [0, 0, 1, -4, 5, -2], [0, 0, 0, 1, -2, 1]]
  | 7 => [[1, -2, 1, 0, 0, 0, 0], [-2, 5, -4, 1, 0, 0, 0], [1, -4, 6, -4, 1, 0, 0], [0, 1, -4, 6, -4, 1, 0], [0, 0, 1, -4, 6, -4, 1], [0, 0, 0, 1, -4, 5, -2], [0, 0, 0, 0, 1, -2, 1]]
  | 8 => [[1, -2, 1, 0, 0, 0, 0, 0], [-2, 5, -4, 1, 0, 0, 0, 0], [1, -4, 6, -4, 1, 0, 0, 0], [0, 1, -4, 6, -4, 1, 0, 0], [0, 0, 1, -4, 6, -4, 1, 0], [0, 0, 0, 1, -4, 6, -4, 1], [0, 0, 0, 0, 1, -4, 5, -2], [0, 0, 0, 0, 0, 1, -2, 1]]
  | _ => []
def GN (P x y : Nat) : Int := gt2 (tabN P) x y
theorem GN_gm' : ∀ (P : Fin 9) (x y : Fin 8), x.val < P.val → y.val < P.val → GN P.val x.val y.val = gmN x.val y.val (P.val - 2) := by decide +kernel
def a0N (P D r c : Nat) : Int := if fzB D r then (if c < P then GN P r c else 0) else (if c = r then 1 else if c = P + r then 1 else 0)
def L0N (P D : Nat) : List (List Int) := (List.range P).map (fun r => (List.range (2 * P)).map (fun c => a0N P D r c))
def rwN (pv bf f : Int) : List Int → List Int → Option (List Int)
  | [], [] => some []
  | a :: as, b :: bs => if (pv * a - f * b) % bf = 0 then (if -1000 ≤ (pv * a - f * b) / bf then (if (pv * a - f * b) / bf ≤ 1000 then (rwN pv bf f as bs).map (fun z => (pv * a - f * b) / bf :: z) else none) else none) else none
  | _, _ => none
def elN (k : Nat) (pv bf : Int) (pr : List Int) : Nat → List (List Int) → Option (List (List Int))
  | _, [] => some []
  | r, row :: rs => match (if r = k then some row else rwN pv bf (row.getD k 0) row pr), elN k pv bf pr (r + 1) rs with
    | some x, some y => some (x :: y)
    | _, _ => none
/-- d steps from the k-th on -/
def soN : Nat → Nat → Int → List (List Int) → Option (Int × List (List Int))
  | 0, _, bf, L => some (bf, L)
  | d + 1, k, bf, L => if 0 < gt2 L k k then (match elN k (gt2 L k k) bf (L.getD k []) 0 L with
    | some L' => soN d (k + 1) (gt2 L k k) L'
    | none => none) else none
/-- the free places -/
def frN (D : Nat) : Nat → Nat → List Nat
  | 0, _ => []
  | k + 1, p => if fzB D p then p :: frN D k (p + 1) else frN D k (p + 1)
def fmN (P D : Nat) : List Nat := frN D P 0
def smN (set : Nat) (g : Nat → Int) : Nat → Nat → Int → Int
  | 0, _, _ => 0
  | k + 1, c, s => if fzB set c then smN set g k (c + 1) s else s * g c + smN set g k (c + 1) (-s)
def sgN (l : Nat) : Int := if l % 2 = 0 then 1 else -1
/-- a determinant by its last line -/
def dtN (F : Nat) (E : Nat → Nat → Int) : Nat → Nat → Int
  | 0, _ => 1
  | l + 1, set => smN set (fun c => if E l c = 0 then 0 else E l c * dtN F E l (set - 2 ^ c)) F 0 (sgN l)
def enN (P : Nat) (fr : List Nat) (col : Nat) (r : Nat → Int) (l c : Nat) : Int := if c = col then r l else GN P (fr.getD l 0) (fr.getD c 0)
def rgN (P : Nat) (fr : List Nat) (d l : Nat) : Int := -(GN P (fr.getD l 0) d)
def ckD (P D : Nat) (L : List (List Int)) (bf : Int) (fr : List Nat) (F p : Nat) : Nat → Bool
  | 0 => true
  | d + 1 => decide (gt2 L p (P + d) = if fzB D p then (if fzB D d then 0 else dtN F (enN P fr (frN D p 0).length (rgN P fr d)) F (2 ^ F - 1)) else (if d = p then bf else 0)) && ckD P D L bf fr F p d
def ckP (P D : Nat) (L : List (List Int)) (bf : Int) (fr : List Nat) (F : Nat) : Nat → Bool
  | 0 => true
  | p + 1 => ckD P D L bf fr F p P && ckP P D L bf fr F p
def ckN (P D : Nat) : Bool := match soN P 0 1 (L0N P D) with
  | some (bf, L) => decide (0 < bf) && decide (bf ≤ 1000) && decide (bf = dtN (fmN P D).length (enN P (fmN P D) 100 (fun _ => 0)) (fmN P D).length (2 ^ (fmN P D).length - 1)) && ckP P D L bf (fmN P D) (fmN P D).length P
  | none => false
def ckB (P lo : Nat) : Nat → Bool
  | 0 => true
  | n + 1 => (decide (pcN 10 (lo + n) < 2) || ckN P (lo + n)) && ckB P lo n
