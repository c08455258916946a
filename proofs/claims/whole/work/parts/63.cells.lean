/-! THE CELLS over the literal heap -/
def ceE (v : Value) (q : Int32 × (Int32 × Int32) × (Int32 × Int32)) : Bool := okR (sRun v (ivOf q.2.1 q.2.2) q.1 1500 12 2 23 lsH [] E3)
def cells_f : List (Int32 × (Int32 × Int32) × (Int32 × Int32)) := [(1, iF, iF), (2, iF, iF), (7, iF, iF), (8, iF, iF), (15, iF, iF)]
set_option maxRecDepth 100000 in
theorem ce_f0 : cells_f.all (ceE .null) = true := by decide +kernel
set_option maxRecDepth 100000 in
theorem ce_f9 : cells_f.all (ceE (.ref 999)) = true := by decide +kernel
set_option maxRecDepth 100000 in
theorem ce_b0 : cells_b.all (ceE .null) = true := by decide +kernel
set_option maxRecDepth 100000 in
theorem ce_b9 : cells_b.all (ceE (.ref 999)) = true := by decide +kernel
set_option maxRecDepth 100000 in
theorem ce_c0 : cells_c.all (ceE .null) = true := by decide +kernel
set_option maxRecDepth 100000 in
theorem ce_c9 : cells_c.all (ceE (.ref 999)) = true := by decide +kernel
set_option maxRecDepth 100000 in
theorem ce_d0 : cells_d.all (ceE .null) = true := by decide +kernel
set_option maxRecDepth 100000 in
theorem ce_d9 : cells_d.all (ceE (.ref 999)) = true := by decide +kernel
set_option maxRecDepth 100000 in
theorem ce_e0 : cells_e.all (ceE .null) = true := by decide +kernel
set_option maxRecDepth 100000 in
theorem ce_e9 : cells_e.all (ceE (.ref 999)) = true := by decide +kernel
