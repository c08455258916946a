set_option maxRecDepth 100000 in
theorem ce_t2 : ceB .null (7, iF, iF) = true := by decide +kernel
