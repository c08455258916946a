set_option maxRecDepth 100000 in
theorem fresh_9 : (frB (.ref 999) && eqHB E3 (H3 (.ref 999))) = true := by decide +kernel
