set_option maxRecDepth 1000000 in
theorem iv_eF : (iv_chk 6 26) = true := by decide +kernel
