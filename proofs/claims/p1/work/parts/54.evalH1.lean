set_option maxRecDepth 1000000 in
theorem iv_eH3 : iv_chkV 6 12 (iv_V2 1 1 (-2147483648) 0) = true := by decide +kernel
set_option maxRecDepth 1000000 in
theorem iv_eH4 : iv_chkV 6 12 (iv_V2 1 1 1 7) = true := by decide +kernel
set_option maxRecDepth 1000000 in
theorem iv_eH5 : iv_chkV 6 12 (iv_V2 1 1 8 2147483647) = true := by decide +kernel
