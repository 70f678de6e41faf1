set_option maxRecDepth 100000 in
set_option maxHeartbeats 4000000 in
theorem am_ck_s44 : am_cks 44 12 = true := by decide +kernel
set_option maxRecDepth 100000 in
set_option maxHeartbeats 4000000 in
theorem am_ck_s56 : am_cks 56 6 = true := by decide +kernel
set_option maxRecDepth 100000 in
set_option maxHeartbeats 4000000 in
theorem am_ck_s62 : am_cks 62 10 = true := by decide +kernel
set_option maxRecDepth 100000 in
set_option maxHeartbeats 4000000 in
theorem am_ck_s72 : am_cks 72 14 = true := by decide +kernel
