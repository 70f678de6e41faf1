set_option maxRecDepth 100000 in
set_option maxHeartbeats 4000000 in
theorem am_ck_s130 : am_cks 130 10 = true := by decide +kernel
set_option maxRecDepth 100000 in
set_option maxHeartbeats 4000000 in
theorem am_ck_s140 : am_cks 140 15 = true := by decide +kernel
set_option maxRecDepth 100000 in
set_option maxHeartbeats 4000000 in
theorem am_ck_s155 : am_cks 155 12 = true := by decide +kernel
set_option maxRecDepth 100000 in
set_option maxHeartbeats 4000000 in
theorem am_ck_s168 : am_cks 168 11 = true := by decide +kernel
