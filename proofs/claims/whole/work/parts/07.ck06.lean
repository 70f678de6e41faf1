set_option maxRecDepth 100000 in
set_option maxHeartbeats 4000000 in
theorem am_ck6 : am_cks 185 33 = true := by decide +kernel
