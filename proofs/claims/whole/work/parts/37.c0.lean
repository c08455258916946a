set_option maxRecDepth 100000 in
theorem ce_t0 : ceB .null (1, iF, iF) = true := by decide +kernel
