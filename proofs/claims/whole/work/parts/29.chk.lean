set_option maxRecDepth 100000 in
theorem pgChm0 : pgChm 0 = true := by decide +kernel
