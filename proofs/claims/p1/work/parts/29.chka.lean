/-! The classes of scripts, one by one. -/
set_option maxRecDepth 100000 in
theorem pgChm0 : pgChm 0 = true := by decide +kernel
set_option maxRecDepth 100000 in
theorem pgChm2 : pgChm 2 = true := by decide +kernel
set_option maxRecDepth 100000 in
theorem pgChm3 : pgChm 3 = true := by decide +kernel
set_option maxRecDepth 100000 in
theorem pgChm4 : pgChm 4 = true := by decide +kernel
set_option maxRecDepth 100000 in
theorem pgChm5 : pgChm 5 = true := by decide +kernel
set_option maxRecDepth 100000 in
theorem pgChm6 : pgChm 6 = true := by decide +kernel
set_option maxRecDepth 100000 in
theorem pgChm7 : pgChm 7 = true := by decide +kernel
set_option maxRecDepth 100000 in
theorem pgChm8 : pgChm 8 = true := by decide +kernel
