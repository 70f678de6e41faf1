set_option maxRecDepth 100000 in
set_option maxHeartbeats 4000000 in
theorem am_ck7 : am_cks 218 30 = true := by decide +kernel
