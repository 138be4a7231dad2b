set_option maxRecDepth 1000000 in
theorem iv_t0 : (iv_chk 6 4) = true := by decide +kernel
