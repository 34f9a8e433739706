/-! The classes of scripts, one by one: function. -/
set_option maxRecDepth 100000 in
theorem pgChf5 : pgChf 5 = true := by decide +kernel
set_option maxRecDepth 100000 in
theorem pgChf6 : pgChf 6 = true := by decide +kernel
set_option maxRecDepth 100000 in
theorem pgChf7 : pgChf 7 = true := by decide +kernel
set_option maxRecDepth 100000 in
theorem pgChf8 : pgChf 8 = true := by decide +kernel
