set_option maxRecDepth 100000 in
set_option maxHeartbeats 4000000 in
theorem am_ck_s312 : am_cks 312 1 = true := by decide +kernel
