set_option maxRecDepth 100000 in
set_option maxHeartbeats 4000000 in
theorem am_ck_s86 : am_cks 86 10 = true := by decide +kernel
set_option maxRecDepth 100000 in
set_option maxHeartbeats 4000000 in
theorem am_ck_s96 : am_cks 96 7 = true := by decide +kernel
set_option maxRecDepth 100000 in
set_option maxHeartbeats 4000000 in
theorem am_ck_s103 : am_cks 103 14 = true := by decide +kernel
set_option maxRecDepth 100000 in
set_option maxHeartbeats 4000000 in
theorem am_ck_s117 : am_cks 117 13 = true := by decide +kernel
