set_option maxRecDepth 100000 in
theorem ck_7 : (List.range' 196 24).all okM = true := by decide +kernel
