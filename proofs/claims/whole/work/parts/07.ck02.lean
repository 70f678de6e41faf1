set_option maxRecDepth 100000 in
set_option maxHeartbeats 4000000 in
theorem am_ck2 : am_cks 55 37 = true := by decide +kernel
