set_option maxRecDepth 100000 in
set_option maxHeartbeats 4000000 in
theorem am_ck_s1 : am_cks 1 11 = true := by decide +kernel
set_option maxRecDepth 100000 in
set_option maxHeartbeats 4000000 in
theorem am_ck_s12 : am_cks 12 9 = true := by decide +kernel
set_option maxRecDepth 100000 in
set_option maxHeartbeats 4000000 in
theorem am_ck_s21 : am_cks 21 10 = true := by decide +kernel
set_option maxRecDepth 100000 in
set_option maxHeartbeats 4000000 in
theorem am_ck_s31 : am_cks 31 13 = true := by decide +kernel
