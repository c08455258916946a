set_option maxRecDepth 100000 in
theorem ce_t1 : ceB .null (14, iF, iF) = true := by decide +kernel
