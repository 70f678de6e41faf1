set_option maxRecDepth 100000 in
set_option maxHeartbeats 4000000 in
theorem am_ck0 : am_cks 0 13 = true := by decide +kernel
