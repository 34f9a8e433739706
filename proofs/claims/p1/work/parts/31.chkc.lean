/-! The classes of scripts, one by one. -/
set_option maxRecDepth 100000 in
theorem pgChm9 : pgChm 9 = true := by decide +kernel
set_option maxRecDepth 100000 in
theorem pgChm10 : pgChm 10 = true := by decide +kernel
set_option maxRecDepth 100000 in
theorem pgChm11 : pgChm 11 = true := by decide +kernel
set_option maxRecDepth 100000 in
theorem pgChm12 : pgChm 12 = true := by decide +kernel
set_option maxRecDepth 100000 in
theorem pgChm13 : pgChm 13 = true := by decide +kernel
set_option maxRecDepth 100000 in
theorem pgChm14 : pgChm 14 = true := by decide +kernel
set_option maxRecDepth 100000 in
theorem pgChm15 : pgChm 15 = true := by decide +kernel
set_option maxRecDepth 100000 in
theorem pgChm16 : pgChm 16 = true := by decide +kernel
set_option maxRecDepth 100000 in
theorem pgChm17 : pgChm 17 = true := by decide +kernel
set_option maxRecDepth 100000 in
theorem pgChm18 : pgChm 18 = true := by decide +kernel
set_option maxRecDepth 100000 in
theorem pgChm19 : pgChm 19 = true := by decide +kernel
set_option maxRecDepth 100000 in
theorem pgChm20 : pgChm 20 = true := by decide +kernel
set_option maxRecDepth 100000 in
theorem pgChm21 : pgChm 21 = true := by decide +kernel
set_option maxRecDepth 100000 in
theorem pgChm22 : pgChm 22 = true := by decide +kernel
set_option maxRecDepth 100000 in
theorem pgChm23 : pgChm 23 = true := by decide +kernel
set_option maxRecDepth 100000 in
theorem pgChm24 : pgChm 24 = true := by decide +kernel
set_option maxRecDepth 100000 in
theorem pgChm25 : pgChm 25 = true := by decide +kernel
set_option maxRecDepth 100000 in
theorem pgChm26 : pgChm 26 = true := by decide +kernel
set_option maxRecDepth 100000 in
theorem pgChm27 : pgChm 27 = true := by decide +kernel
set_option maxRecDepth 100000 in
theorem pgChm28 : pgChm 28 = true := by decide +kernel
set_option maxRecDepth 100000 in
theorem pgChm29 : pgChm 29 = true := by decide +kernel
set_option maxRecDepth 100000 in
theorem pgChm30 : pgChm 30 = true := by decide +kernel
set_option maxRecDepth 100000 in
theorem pgChm31 : pgChm 31 = true := by decide +kernel
set_option maxRecDepth 100000 in
theorem pgChl0 : pgChk 0 [] [] = true := by decide +kernel
set_option maxRecDepth 100000 in
theorem pgChl1 : pgChk 1 [] [] = true := by decide +kernel
set_option maxRecDepth 100000 in
theorem pgChl2 : pgChk 2 [] [] = true := by decide +kernel
set_option maxRecDepth 100000 in
theorem pgChl3 : pgChk 3 [] [] = true := by decide +kernel
set_option maxRecDepth 100000 in
theorem pgChl4 : pgChk 4 [] [] = true := by decide +kernel
set_option maxRecDepth 100000 in
theorem pgChl5 : pgChk 5 [] [] = true := by decide +kernel
set_option maxRecDepth 100000 in
theorem pgChl6 : pgChk 6 [] [] = true := by decide +kernel
