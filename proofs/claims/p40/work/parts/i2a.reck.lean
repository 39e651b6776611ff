/-! The other tailorings. -/
set_option maxRecDepth 100000 in
theorem cx_t2 : cx_tr 302 = true := by decide +kernel
set_option maxRecDepth 100000 in
theorem cx_t3 : cx_tr 331 = true := by decide +kernel
