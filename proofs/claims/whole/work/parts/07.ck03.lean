set_option maxRecDepth 100000 in
set_option maxHeartbeats 4000000 in
theorem am_ck3 : am_cks 92 43 = true := by decide +kernel
