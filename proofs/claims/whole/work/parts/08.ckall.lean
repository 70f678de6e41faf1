theorem am_ck_b0 : am_ckm 0 0 (am_ts.getD 0 []) = true := by
  have h22 := am_ck_b0_88
  have h21 := am_ckm_app 0 84 4 1 am_ck_b0_84 h22
  have h20 := am_ckm_app 0 80 4 5 am_ck_b0_80 h21
  have h19 := am_ckm_app 0 76 4 9 am_ck_b0_76 h20
  have h18 := am_ckm_app 0 72 4 13 am_ck_b0_72 h19
  have h17 := am_ckm_app 0 68 4 17 am_ck_b0_68 h18
  have h16 := am_ckm_app 0 64 4 21 am_ck_b0_64 h17
  have h15 := am_ckm_app 0 60 4 25 am_ck_b0_60 h16
  have h14 := am_ckm_app 0 56 4 29 am_ck_b0_56 h15
  have h13 := am_ckm_app 0 52 4 33 am_ck_b0_52 h14
  have h12 := am_ckm_app 0 48 4 37 am_ck_b0_48 h13
  have h11 := am_ckm_app 0 44 4 41 am_ck_b0_44 h12
  have h10 := am_ckm_app 0 40 4 45 am_ck_b0_40 h11
  have h9 := am_ckm_app 0 36 4 49 am_ck_b0_36 h10
  have h8 := am_ckm_app 0 32 4 53 am_ck_b0_32 h9
  have h7 := am_ckm_app 0 28 4 57 am_ck_b0_28 h8
  have h6 := am_ckm_app 0 24 4 61 am_ck_b0_24 h7
  have h5 := am_ckm_app 0 20 4 65 am_ck_b0_20 h6
  have h4 := am_ckm_app 0 16 4 69 am_ck_b0_16 h5
  have h3 := am_ckm_app 0 12 4 73 am_ck_b0_12 h4
  have h2 := am_ckm_app 0 8 4 77 am_ck_b0_8 h3
  have h1 := am_ckm_app 0 4 4 81 am_ck_b0_4 h2
  have h0 := am_ckm_app 0 0 4 85 am_ck_b0_0 h1
  have h9 : am_ckm 0 0 (((am_ts.getD 0 []).drop 0).take 89) = true := h0
  rw [List.drop_zero, List.take_of_length_le (by decide)] at h9
  exact h9
theorem am_ck_b167 : am_ckm 167 0 (am_ts.getD 167 []) = true := by
  have h19 := am_ck_b167_76
  have h18 := am_ckm_app 167 72 4 2 am_ck_b167_72 h19
  have h17 := am_ckm_app 167 68 4 6 am_ck_b167_68 h18
  have h16 := am_ckm_app 167 64 4 10 am_ck_b167_64 h17
  have h15 := am_ckm_app 167 60 4 14 am_ck_b167_60 h16
  have h14 := am_ckm_app 167 56 4 18 am_ck_b167_56 h15
  have h13 := am_ckm_app 167 52 4 22 am_ck_b167_52 h14
  have h12 := am_ckm_app 167 48 4 26 am_ck_b167_48 h13
  have h11 := am_ckm_app 167 44 4 30 am_ck_b167_44 h12
  have h10 := am_ckm_app 167 40 4 34 am_ck_b167_40 h11
  have h9 := am_ckm_app 167 36 4 38 am_ck_b167_36 h10
  have h8 := am_ckm_app 167 32 4 42 am_ck_b167_32 h9
  have h7 := am_ckm_app 167 28 4 46 am_ck_b167_28 h8
  have h6 := am_ckm_app 167 24 4 50 am_ck_b167_24 h7
  have h5 := am_ckm_app 167 20 4 54 am_ck_b167_20 h6
  have h4 := am_ckm_app 167 16 4 58 am_ck_b167_16 h5
  have h3 := am_ckm_app 167 12 4 62 am_ck_b167_12 h4
  have h2 := am_ckm_app 167 8 4 66 am_ck_b167_8 h3
  have h1 := am_ckm_app 167 4 4 70 am_ck_b167_4 h2
  have h0 := am_ckm_app 167 0 4 74 am_ck_b167_0 h1
  have h9 : am_ckm 167 0 (((am_ts.getD 167 []).drop 0).take 78) = true := h0
  rw [List.drop_zero, List.take_of_length_le (by decide)] at h9
  exact h9
theorem am_ck_b292 : am_ckm 292 0 (am_ts.getD 292 []) = true := by
  have h5 := am_ck_b292_20
  have h4 := am_ckm_app 292 16 4 2 am_ck_b292_16 h5
  have h3 := am_ckm_app 292 12 4 6 am_ck_b292_12 h4
  have h2 := am_ckm_app 292 8 4 10 am_ck_b292_8 h3
  have h1 := am_ckm_app 292 4 4 14 am_ck_b292_4 h2
  have h0 := am_ckm_app 292 0 4 18 am_ck_b292_0 h1
  have h9 : am_ckm 292 0 (((am_ts.getD 292 []).drop 0).take 22) = true := h0
  rw [List.drop_zero, List.take_of_length_le (by decide)] at h9
  exact h9
/-- every row of every code table -/
theorem am_ck_all : ∀ mi, mi < 313 → am_ckm mi 0 (am_ts.getD mi []) = true := by
  intro mi h
  have key : ∀ a n, am_cks a n = true → a ≤ mi → mi < a + n → am_ckm mi 0 (am_ts.getD mi []) = true := by
    intro a n hk h1 h2
    have h3 := List.all_eq_true.mp hk (mi - a) (List.mem_range.mpr (by omega))
    simpa [show a + (mi - a) = mi by omega] using h3
  by_cases h0 : mi < 1
  · obtain rfl : mi = 0 := by omega
    exact am_ck_b0
  by_cases h1 : mi < 12
  · exact key _ _ am_ck_s1 (by omega) (by omega)
  by_cases h12 : mi < 21
  · exact key _ _ am_ck_s12 (by omega) (by omega)
  by_cases h21 : mi < 31
  · exact key _ _ am_ck_s21 (by omega) (by omega)
  by_cases h31 : mi < 44
  · exact key _ _ am_ck_s31 (by omega) (by omega)
  by_cases h44 : mi < 56
  · exact key _ _ am_ck_s44 (by omega) (by omega)
  by_cases h56 : mi < 62
  · exact key _ _ am_ck_s56 (by omega) (by omega)
  by_cases h62 : mi < 72
  · exact key _ _ am_ck_s62 (by omega) (by omega)
  by_cases h72 : mi < 86
  · exact key _ _ am_ck_s72 (by omega) (by omega)
  by_cases h86 : mi < 96
  · exact key _ _ am_ck_s86 (by omega) (by omega)
  by_cases h96 : mi < 103
  · exact key _ _ am_ck_s96 (by omega) (by omega)
  by_cases h103 : mi < 117
  · exact key _ _ am_ck_s103 (by omega) (by omega)
  by_cases h117 : mi < 130
  · exact key _ _ am_ck_s117 (by omega) (by omega)
  by_cases h130 : mi < 140
  · exact key _ _ am_ck_s130 (by omega) (by omega)
  by_cases h140 : mi < 155
  · exact key _ _ am_ck_s140 (by omega) (by omega)
  by_cases h155 : mi < 167
  · exact key _ _ am_ck_s155 (by omega) (by omega)
  by_cases h167 : mi < 168
  · obtain rfl : mi = 167 := by omega
    exact am_ck_b167
  by_cases h168 : mi < 179
  · exact key _ _ am_ck_s168 (by omega) (by omega)
  by_cases h179 : mi < 190
  · exact key _ _ am_ck_s179 (by omega) (by omega)
  by_cases h190 : mi < 201
  · exact key _ _ am_ck_s190 (by omega) (by omega)
  by_cases h201 : mi < 208
  · exact key _ _ am_ck_s201 (by omega) (by omega)
  by_cases h208 : mi < 216
  · exact key _ _ am_ck_s208 (by omega) (by omega)
  by_cases h216 : mi < 226
  · exact key _ _ am_ck_s216 (by omega) (by omega)
  by_cases h226 : mi < 231
  · exact key _ _ am_ck_s226 (by omega) (by omega)
  by_cases h231 : mi < 237
  · exact key _ _ am_ck_s231 (by omega) (by omega)
  by_cases h237 : mi < 248
  · exact key _ _ am_ck_s237 (by omega) (by omega)
  by_cases h248 : mi < 258
  · exact key _ _ am_ck_s248 (by omega) (by omega)
  by_cases h258 : mi < 265
  · exact key _ _ am_ck_s258 (by omega) (by omega)
  by_cases h265 : mi < 273
  · exact key _ _ am_ck_s265 (by omega) (by omega)
  by_cases h273 : mi < 280
  · exact key _ _ am_ck_s273 (by omega) (by omega)
  by_cases h280 : mi < 287
  · exact key _ _ am_ck_s280 (by omega) (by omega)
  by_cases h287 : mi < 292
  · exact key _ _ am_ck_s287 (by omega) (by omega)
  by_cases h292 : mi < 293
  · obtain rfl : mi = 292 := by omega
    exact am_ck_b292
  by_cases h293 : mi < 312
  · exact key _ _ am_ck_s293 (by omega) (by omega)
  exact key _ _ am_ck_s312 (by omega) (by omega)
