set_option maxRecDepth 100000 in
theorem ck_2 : (List.range' 38 32).all okM = true := by decide +kernel
