set_option maxRecDepth 100000 in
set_option maxHeartbeats 4000000 in
theorem am_ck_s179 : am_cks 179 11 = true := by decide +kernel
set_option maxRecDepth 100000 in
set_option maxHeartbeats 4000000 in
theorem am_ck_s190 : am_cks 190 11 = true := by decide +kernel
set_option maxRecDepth 100000 in
set_option maxHeartbeats 4000000 in
theorem am_ck_s201 : am_cks 201 7 = true := by decide +kernel
set_option maxRecDepth 100000 in
set_option maxHeartbeats 4000000 in
theorem am_ck_s208 : am_cks 208 8 = true := by decide +kernel
