set_option maxRecDepth 100000 in
set_option maxHeartbeats 4000000 in
theorem am_ck9 : am_cks 279 33 = true := by decide +kernel
