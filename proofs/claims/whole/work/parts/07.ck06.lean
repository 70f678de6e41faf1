set_option maxRecDepth 100000 in
set_option maxHeartbeats 4000000 in
theorem am_ck_s248 : am_cks 248 10 = true := by decide +kernel
set_option maxRecDepth 100000 in
set_option maxHeartbeats 4000000 in
theorem am_ck_s258 : am_cks 258 7 = true := by decide +kernel
set_option maxRecDepth 100000 in
set_option maxHeartbeats 4000000 in
theorem am_ck_s265 : am_cks 265 8 = true := by decide +kernel
set_option maxRecDepth 100000 in
set_option maxHeartbeats 4000000 in
theorem am_ck_s273 : am_cks 273 7 = true := by decide +kernel
