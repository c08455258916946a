set_option maxRecDepth 100000 in
theorem ck_6 : (List.range' 168 28).all okM = true := by decide +kernel
