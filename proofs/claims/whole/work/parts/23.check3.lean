set_option maxRecDepth 100000 in
theorem ck_3 : (List.range' 70 38).all okM = true := by decide +kernel
