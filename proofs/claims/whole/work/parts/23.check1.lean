set_option maxRecDepth 100000 in
theorem ck_1 : (List.range' 0 38).all okM = true := by decide +kernel
