set_option maxRecDepth 100000 in
theorem ck_4 : (List.range' 108 35).all okM = true := by decide +kernel
