set_option maxRecDepth 100000 in
set_option maxHeartbeats 4000000 in
theorem am_ck_s216 : am_cks 216 10 = true := by decide +kernel
set_option maxRecDepth 100000 in
set_option maxHeartbeats 4000000 in
theorem am_ck_s226 : am_cks 226 5 = true := by decide +kernel
set_option maxRecDepth 100000 in
set_option maxHeartbeats 4000000 in
theorem am_ck_s231 : am_cks 231 6 = true := by decide +kernel
set_option maxRecDepth 100000 in
set_option maxHeartbeats 4000000 in
theorem am_ck_s237 : am_cks 237 11 = true := by decide +kernel
