set_option maxRecDepth 100000 in
set_option maxHeartbeats 4000000 in
theorem am_ck5 : am_cks 167 18 = true := by decide +kernel
