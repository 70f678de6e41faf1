set_option maxRecDepth 100000 in
set_option maxHeartbeats 4000000 in
theorem am_ck1 : am_cks 13 42 = true := by decide +kernel
