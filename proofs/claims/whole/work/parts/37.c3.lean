set_option maxRecDepth 100000 in
theorem ce_t3 : ceB .null (2, iF, iF) = true := by decide +kernel
