set_option maxRecDepth 100000 in
theorem ck_9 : (List.range' 239 18).all okM = true := by decide +kernel
