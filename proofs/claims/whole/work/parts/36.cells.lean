/-! THE CALLS ON A FRESH OBJECT, by kernel: a cell is an operation with an interval for each argument -/
def okR (r : Option (Outcome × aH)) : Bool := match r with
  | some (.returned (some (.int z)), A') => decide (z = 1) && decide (A'.length ≤ 601024) && decide (aSum A' ≤ 7293033)
  | _ => false
abbrev i0 : Int32 × Int32 := (Int32.minValue, -1)
abbrev i1 : Int32 × Int32 := (1, Int32.maxValue)
abbrev iF : Int32 × Int32 := (Int32.minValue, Int32.maxValue)
abbrev iP (z : Int32) : Int32 × Int32 := (z, z)
def ivOf (a b : Int32 × Int32) (k : Nat) : Int32 × Int32 := if k = 0 then a else if k = 1 then b else iF
def clB (v : Value) (q : Int32 × (Int32 × Int32) × (Int32 × Int32)) : Bool := okR (sRun v (ivOf q.2.1 q.2.2) q.1 1500 12 2 23 lsH [] (H3 v))
def cells : List (Int32 × (Int32 × Int32) × (Int32 × Int32)) := [(8, iF, iF), (15, iF, iF)]
set_option maxRecDepth 100000 in
theorem cells_0 : cells.all (clB .null) = true := by decide +kernel
