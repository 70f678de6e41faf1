theorem am_code_good (y : MethodName) (b : ByteArray) (n : Nat) (r : Option FieldType) : goodWord (.code y b n r) = true := rfl
theorem am_me_in : ∀ mi, 1 ≤ mi → mi < 313 → am_me mi ∈ am_ms.drop 1 := by
  intro mi h1 h2
  have hl : am_ms.length = 313 := by decide +kernel
  have e : (am_ms.drop 1)[mi - 1]? = some (am_me mi) := by
    rw [List.getElem?_drop, show 1 + (mi - 1) = mi by omega]
    unfold am_me
    rw [List.getD_eq_getElem?_getD, List.getElem?_eq_getElem (by omega)]
    rfl
  exact List.mem_of_getElem? e
theorem am_ms_cut : am_ms.drop 1 = am_ms0.drop 1 ++ (am_ms1 ++ (am_ms2 ++ (am_ms3 ++ (am_ms4 ++ (am_ms5 ++ (am_ms6 ++ (am_ms7))))))) := by
  unfold am_ms
  simp only [List.append_assoc]
  rw [List.drop_append_of_le_length (by decide)]
theorem am_cw_in : ∀ mi, 1 ≤ mi → mi < 313 → Cond.code (am_me mi).1 (am_me mi).2.1 (am_me mi).2.2.1 (am_me mi).2.2.2.1 ∈ am_tb := by
  intro mi h1 h2
  have h3 := am_me_in mi h1 h2
  rw [am_ms_cut] at h3
  refine List.mem_filter.mpr ⟨?_, am_code_good _ _ _ _⟩
  simp only [List.mem_append] at h3
  rcases h3 with h3 | h3 | h3 | h3 | h3 | h3 | h3 | h3
  · exact am_cw_ok0 _ h3
  · exact am_cw_ok1 _ h3
  · exact am_cw_ok2 _ h3
  · exact am_cw_ok3 _ h3
  · exact am_cw_ok4 _ h3
  · exact am_cw_ok5 _ h3
  · exact am_cw_ok6 _ h3
  · exact am_cw_ok7 _ h3
theorem am_ms_ok : ∀ mi, 1 ≤ mi → mi < 313 → am_mew (am_me mi) = true := by
  have h : (am_ms.drop 1).all am_mew = true := by
    rw [am_ms_cut]
    simp only [List.all_append, am_ms_ok0, am_ms_ok1, am_ms_ok2, am_ms_ok3, am_ms_ok4, am_ms_ok5, am_ms_ok6, am_ms_ok7, Bool.and_self]
  intro mi h1 h2
  refine List.all_eq_true.mp h (am_me mi) (am_me_in mi h1 h2)
def am_lp : List (List Nat) := [[375, 377, 379, 381, 383, 385, 387], [353, 355, 357, 359], [285, 287, 289, 291, 293, 295, 297, 299, 301], [316, 318], [442, 444, 446], [475, 477, 479, 481, 483, 485, 487, 489, 491, 493, 495], [332, 334, 336, 338, 340], [506, 508], [408, 410, 412, 414, 416, 418, 420, 422, 424], [231, 233, 235, 237, 239, 241, 243, 245, 247, 249, 251, 253, 255, 257, 259, 261, 263, 265], [518, 520, 522, 524, 526, 528, 530], [1384, 1386, 1388, 1390, 1392, 1394, 1396, 1398, 1400, 1402, 1404, 1406, 1408, 1410, 1412, 1414, 1416, 1418, 1420, 1422, 1424, 1426, 1428, 1430, 1432, 1434, 1436, 1438, 1440, 1442, 1444, 1446, 1448, 1450, 1452, 1454, 1456, 1458, 1460, 1462, 1464, 1466, 1468, 1470, 1472, 1474, 1476, 1478, 1480, 1482, 1484, 1486, 1488, 1490, 1492, 1494, 1496, 1498, 1500, 1502, 1504, 1506, 1508]]
def am_ip : List (Nat × Nat) := [(363, 139), (344, 138), (270, 135), (305, 136), (430, 140), (450, 141), (322, 137), (499, 142), (161, 133), (167, 134), (153, 132), (1316, 143)]
set_option maxRecDepth 100000 in
set_option maxHeartbeats 4000000 in
theorem am_lp_ok : (List.range 12).all (fun c => (List.range (am_Nf c)).all (fun k => am_okw ((am_lp.getD c []).getD k 0) (u_lay (am_Rn c) (am_Ft c) k))) = true := by decide +kernel
set_option maxRecDepth 100000 in
theorem am_ip_ok : (List.range 12).all (fun c => am_okw (am_ip.getD c (0, 0)).1 (.instantiable (am_Rn c) (am_Nf c)) && am_okw (am_ip.getD c (0, 0)).2 (.initialized (am_Rn c))) = true := by decide +kernel
theorem am_lay_in {c : Nat} (hc : c < 12) : ∀ w ∈ u_ws (am_Rn c) (am_Ft c) (am_Nf c), w ∈ am_tb := by
  intro w hw
  obtain ⟨k, hk, rfl⟩ := List.mem_map.mp hw
  exact am_okw_in (List.all_eq_true.mp (List.all_eq_true.mp am_lp_ok c (List.mem_range.mpr hc)) k hk)
theorem am_ins_in {c : Nat} (hc : c < 12) : Cond.instantiable (am_Rn c) (am_Nf c) ∈ am_tb ∧ Cond.initialized (am_Rn c) ∈ am_tb := by
  have h := List.all_eq_true.mp am_ip_ok c (List.mem_range.mpr hc)
  rw [Bool.and_eq_true] at h
  exact ⟨am_okw_in h.1, am_okw_in h.2⟩
set_option maxRecDepth 100000 in
theorem am_w_obj : Cond.instanceMethod objectInit ∈ am_tb ∧ Cond.code objectInit ⟨#[0xb1]⟩ 1 none ∈ am_tb := ⟨am_okw_in (i := 158) (by decide +kernel), am_okw_in (i := 159) (by decide +kernel)⟩
set_option maxRecDepth 100000 in
theorem am_w_copy : Cond.native arraycopyName ∈ am_tb ∧ Cond.static arraycopyName ∈ am_tb ∧ Cond.initialized "java/lang/System" ∈ am_tb := ⟨am_okw_in (i := 619) (by decide +kernel), am_okw_in (i := 618) (by decide +kernel), am_okw_in (i := 145) (by decide +kernel)⟩
set_option maxRecDepth 100000 in
theorem am_w_ints : Cond.arrayClass .int ∈ am_tb := am_okw_in (i := 268) (by decide +kernel)
set_option maxRecDepth 100000 in
theorem am_w_over : Cond.arrayOver (.object "LarkExchange$World") ∈ lw_tbl := List.mem_of_getElem? (i := 436) (by decide +kernel)
theorem am_cls_at {c : Nat} (hc : c < 12) : am_cls[c]? = some (am_Rn c, am_Ft c, am_Nf c) := by
  rcases (show c = 0 ∨ c = 1 ∨ c = 2 ∨ c = 3 ∨ c = 4 ∨ c = 5 ∨ c = 6 ∨ c = 7 ∨ c = 8 ∨ c = 9 ∨ c = 10 ∨ c = 11 by omega) with rfl | rfl | rfl | rfl | rfl | rfl | rfl | rfl | rfl | rfl | rfl | rfl <;> rfl
theorem am_nm {c : Nat} (hc : c < 12) : ∀ a, a < am_Nf c → ∀ b, b < am_Nf c → a ≠ b → (am_Ft c a).2.1 ≠ (am_Ft c b).2.1 := by
  rcases (show c = 0 ∨ c = 1 ∨ c = 2 ∨ c = 3 ∨ c = 4 ∨ c = 5 ∨ c = 6 ∨ c = 7 ∨ c = 8 ∨ c = 9 ∨ c = 10 ∨ c = 11 by omega) with rfl | rfl | rfl | rfl | rfl | rfl | rfl | rfl | rfl | rfl | rfl | rfl
  · exact nmX0
  · exact nmX1
  · exact nmX2
  · exact nmX3
  · exact nmX4
  · exact nmX5
  · exact nmX6
  · exact nmX7
  · exact nmX8
  · exact nmX9
  · exact nmX10
  · exact nmX11
theorem am_tyok {c : Nat} (hc : c < 12) : ∀ k, k < am_Nf c → parseFieldDescriptor (am_Ft c k).2.2.1 = some (am_ty c k) := by
  rcases (show c = 0 ∨ c = 1 ∨ c = 2 ∨ c = 3 ∨ c = 4 ∨ c = 5 ∨ c = 6 ∨ c = 7 ∨ c = 8 ∨ c = 9 ∨ c = 10 ∨ c = 11 by omega) with rfl | rfl | rfl | rfl | rfl | rfl | rfl | rfl | rfl | rfl | rfl | rfl
  · exact tyX0_ok
  · exact tyX1_ok
  · exact tyX2_ok
  · exact tyX3_ok
  · exact tyX4_ok
  · exact tyX5_ok
  · exact tyX6_ok
  · exact tyX7_ok
  · exact tyX8_ok
  · exact tyX9_ok
  · exact tyX10_ok
  · exact tyX11_ok
