set_option maxRecDepth 100000 in
set_option maxHeartbeats 4000000 in
theorem am_ck4 : am_cks 135 32 = true := by decide +kernel
