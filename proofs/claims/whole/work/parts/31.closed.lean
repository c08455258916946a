/-! closed runs -/
def okR (r : Option (Outcome × aH)) : Bool := match r with
  | some (.returned (some (.int z)), A') => decide (z = 1) && decide (A'.length ≤ 601024) && decide (aSum A' ≤ 7293033)
  | _ => false
set_option maxRecDepth 100000 in
theorem run0 : okR (aRun (0, fun _ => 0, .null) 4000 5 2 0 (aEntry 7 [.ref 0]) [] []) = true := by decide +kernel
