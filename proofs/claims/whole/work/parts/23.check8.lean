set_option maxRecDepth 100000 in
theorem ck_8 : (List.range' 220 19).all okM = true := by decide +kernel
