set_option maxRecDepth 100000 in
set_option maxHeartbeats 4000000 in
theorem am_ck_s280 : am_cks 280 7 = true := by decide +kernel
set_option maxRecDepth 100000 in
set_option maxHeartbeats 4000000 in
theorem am_ck_s287 : am_cks 287 5 = true := by decide +kernel
set_option maxRecDepth 100000 in
set_option maxHeartbeats 4000000 in
theorem am_ck_s293 : am_cks 293 19 = true := by decide +kernel
set_option maxRecDepth 100000 in
set_option maxHeartbeats 4000000 in
theorem am_ck_b0_0 : am_ckp 0 0 4 = true := by decide +kernel
set_option maxRecDepth 100000 in
set_option maxHeartbeats 4000000 in
theorem am_ck_b0_4 : am_ckp 0 4 4 = true := by decide +kernel
set_option maxRecDepth 100000 in
set_option maxHeartbeats 4000000 in
theorem am_ck_b0_8 : am_ckp 0 8 4 = true := by decide +kernel
set_option maxRecDepth 100000 in
set_option maxHeartbeats 4000000 in
theorem am_ck_b0_12 : am_ckp 0 12 4 = true := by decide +kernel
set_option maxRecDepth 100000 in
set_option maxHeartbeats 4000000 in
theorem am_ck_b0_16 : am_ckp 0 16 4 = true := by decide +kernel
set_option maxRecDepth 100000 in
set_option maxHeartbeats 4000000 in
theorem am_ck_b0_20 : am_ckp 0 20 4 = true := by decide +kernel
set_option maxRecDepth 100000 in
set_option maxHeartbeats 4000000 in
theorem am_ck_b0_24 : am_ckp 0 24 4 = true := by decide +kernel
set_option maxRecDepth 100000 in
set_option maxHeartbeats 4000000 in
theorem am_ck_b0_28 : am_ckp 0 28 4 = true := by decide +kernel
