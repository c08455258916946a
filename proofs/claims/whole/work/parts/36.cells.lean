/-! THE CALLS ON A FRESH OBJECT, by kernel: a cell is an operation with an interval for each argument -/
def okR (r : Option (Outcome × aH)) : Bool := match r with
  | some (.returned (some (.int z)), A') => decide (z = 1) && decide (A'.length ≤ 600000) && decide (aSum A' ≤ 7000000)
  | _ => false
abbrev i0 : Int32 × Int32 := (Int32.minValue, -1)
abbrev i1 : Int32 × Int32 := (1, Int32.maxValue)
abbrev iF : Int32 × Int32 := (Int32.minValue, Int32.maxValue)
abbrev iP (z : Int32) : Int32 × Int32 := (z, z)
def ivOf (a b : Int32 × Int32) (k : Nat) : Int32 × Int32 := if k = 0 then a else if k = 1 then b else iF
def ceB (v : Value) (q : Int32 × (Int32 × Int32) × (Int32 × Int32)) : Bool := okR (sRun v (ivOf q.2.1 q.2.2) q.1 1500 12 2 23 lsH [] (H3 v))
def cells_a : List (Int32 × (Int32 × Int32) × (Int32 × Int32)) := [(1, iF, iF), (2, iF, iF), (7, iF, iF), (8, iF, iF), (14, iF, iF), (15, iF, iF)]
def cells_b : List (Int32 × (Int32 × Int32) × (Int32 × Int32)) := [(3, i0, iF), (3, i1, iF), (3, iP 0, i0), (3, iP 0, iP 0), (3, iP 0, iP 1), (3, iP 0, iP 2), (3, iP 0, iP 3), (3, iP 0, (4, Int32.maxValue))]
def cells_c : List (Int32 × (Int32 × Int32) × (Int32 × Int32)) := [(4, i0, iF), (4, iP 0, iF), (4, i1, iF), (5, i0, iF), (5, iP 0, iF), (5, i1, iF), (6, i0, iF), (6, iP 0, iF), (6, i1, iF)]
def cells_d : List (Int32 × (Int32 × Int32) × (Int32 × Int32)) := [(9, i0, iF), (9, iP 0, iF), (9, i1, iF), (10, i0, iF), (10, iP 0, iF), (10, i1, iF), (11, i0, iF), (11, iP 0, iF), (11, i1, iF)]
def cells_e : List (Int32 × (Int32 × Int32) × (Int32 × Int32)) := [(12, i0, iF), (12, i1, iF), (12, iP 0, i0), (12, iP 0, (0, Int32.maxValue)), (13, i0, iF), (13, i1, iF), (13, iP 0, i0), (13, iP 0, (0, Int32.maxValue))]
