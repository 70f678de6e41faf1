set_option maxRecDepth 100000 in
set_option maxHeartbeats 4000000 in
theorem am_ck8 : am_cks 248 31 = true := by decide +kernel
