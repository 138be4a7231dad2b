set_option maxRecDepth 1000000 in
theorem iv_eH0 : iv_chkV 6 12 (iv_V2 (-2147483648) 0 (-2147483648) 0) = true := by decide +kernel
set_option maxRecDepth 1000000 in
theorem iv_eH1 : iv_chkV 6 12 (iv_V2 (-2147483648) 0 1 7) = true := by decide +kernel
set_option maxRecDepth 1000000 in
theorem iv_eH2 : iv_chkV 6 12 (iv_V2 (-2147483648) 0 8 2147483647) = true := by decide +kernel
