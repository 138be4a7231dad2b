set_option maxRecDepth 1000000 in
theorem iv_eG0 : iv_chkV 6 4 (iv_V2 (-2147483648) (-1) (-2147483648) 2147483647) = true := by decide +kernel
set_option maxRecDepth 1000000 in
theorem iv_eG1 : iv_chkV 6 4 (iv_V2 0 1 (-2147483648) 1) = true := by decide +kernel
set_option maxRecDepth 1000000 in
theorem iv_eG2 : iv_chkV 6 4 (iv_V2 0 1 2 2147483647) = true := by decide +kernel
set_option maxRecDepth 1000000 in
theorem iv_eG3 : iv_chkV 6 4 (iv_V2 2 2147483647 (-2147483648) 2147483647) = true := by decide +kernel
