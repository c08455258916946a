set_option maxRecDepth 100000 in
theorem ck_5 : (List.range' 143 25).all okM = true := by decide +kernel
