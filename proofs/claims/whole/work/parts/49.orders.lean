/-! The orders, as lists: how many there are -/
def nAt (l : List Nat) : Nat → Nat
  | 0 => 0
  | a + 1 => if l.getD a 0 ≤ l.getD (a + 1) 0 then a + 1 else nAt l a
def nFind (l : List Nat) (a : Nat) : Nat → Nat
  | 0 => a + 1
  | d + 1 => if l.getD a 0 ≤ l.getD (a + 1 + (d + 1)) 0 then a + 1 + (d + 1) else nFind l a d
def swL (l : List Nat) (a b : Nat) : List Nat := (l.set a (l.getD b 0)).set b (l.getD a 0)
def revL : Nat → Nat → Nat → List Nat → List Nat
  | 0, _, _, l => l
  | d + 1, a, b, l => if b ≤ a then l else revL d (a + 1) (b - 1) (swL l a b)
def nxF (n : Nat) (l : List Nat) : Bool × List Nat := if nAt l (n - 1) = 0 then (false, l) else (true, revL n (nAt l (n - 1)) (n - 1) (swL l (nAt l (n - 1) - 1) (nFind l (nAt l (n - 1) - 1) (n - 1 - nAt l (n - 1)))))
/-- from here no order is worse than a reordering of the goers, and the last comes within so many -/
def okF (n : Nat) : Nat → List Nat → Bool
  | 0, _ => false
  | f + 1, l => l.length == n && l.all (fun x => decide (x < n)) && decide (l.Nodup) && (if (nxF n l).1 then okF n f (nxF n l).2 else true)
theorem okF_1 : okF 1 720 (List.range 1) = true := by decide +kernel
theorem okF_2 : okF 2 720 (List.range 2) = true := by decide +kernel
theorem okF_3 : okF 3 720 (List.range 3) = true := by decide +kernel
theorem okF_4 : okF 4 720 (List.range 4) = true := by decide +kernel
theorem okF_5 : okF 5 720 (List.range 5) = true := by decide +kernel
theorem okF_6 : okF 6 720 (List.range 6) = true := by decide +kernel
