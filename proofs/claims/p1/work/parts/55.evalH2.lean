set_option maxRecDepth 1000000 in
theorem iv_eH6 : iv_chkV 6 12 (iv_V2 2 2147483647 (-2147483648) 0) = true := by decide +kernel
set_option maxRecDepth 1000000 in
theorem iv_eH7 : iv_chkV 6 12 (iv_V2 2 2147483647 1 7) = true := by decide +kernel
set_option maxRecDepth 1000000 in
theorem iv_eH8 : iv_chkV 6 12 (iv_V2 2 2147483647 8 2147483647) = true := by decide +kernel
