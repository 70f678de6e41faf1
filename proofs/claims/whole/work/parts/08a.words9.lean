theorem am_code_good (y : MethodName) (b : ByteArray) (n : Nat) (r : Option FieldType) : goodWord (.code y b n r) = true := rfl
theorem am_me_in : ∀ mi, 1 ≤ mi → mi < 312 → am_me mi ∈ am_ms.drop 1 := by
  intro mi h1 h2
  have hl : am_ms.length = 312 := by decide +kernel
  have e : (am_ms.drop 1)[mi - 1]? = some (am_me mi) := by
    rw [List.getElem?_drop, show 1 + (mi - 1) = mi by omega]
    unfold am_me
    rw [List.getD_eq_getElem?_getD, List.getElem?_eq_getElem (by omega)]
    rfl
  exact List.mem_of_getElem? e
theorem am_ms_cut : am_ms.drop 1 = am_ms0.drop 1 ++ (am_ms1 ++ (am_ms2 ++ (am_ms3 ++ (am_ms4 ++ (am_ms5 ++ (am_ms6 ++ (am_ms7))))))) := by
  unfold am_ms
  simp only [List.append_assoc]
  rw [List.drop_append_of_le_length (by decide)]
theorem am_cw_in : ∀ mi, 1 ≤ mi → mi < 312 → Cond.code (am_me mi).1 (am_me mi).2.1 (am_me mi).2.2.1 (am_me mi).2.2.2.1 ∈ am_tb := by
  intro mi h1 h2
  have h3 := am_me_in mi h1 h2
  rw [am_ms_cut] at h3
  refine List.mem_filter.mpr ⟨?_, am_code_good _ _ _ _⟩
  simp only [List.mem_append] at h3
  rcases h3 with h3 | h3 | h3 | h3 | h3 | h3 | h3 | h3
  · exact am_cw_ok0 _ h3
  · exact am_cw_ok1 _ h3
  · exact am_cw_ok2 _ h3
  · exact am_cw_ok3 _ h3
  · exact am_cw_ok4 _ h3
  · exact am_cw_ok5 _ h3
  · exact am_cw_ok6 _ h3
  · exact am_cw_ok7 _ h3
theorem am_ms_ok : ∀ mi, 1 ≤ mi → mi < 312 → am_mew (am_me mi) = true := by
  have h : (am_ms.drop 1).all am_mew = true := by
    rw [am_ms_cut]
    simp only [List.all_append, am_ms_ok0, am_ms_ok1, am_ms_ok2, am_ms_ok3, am_ms_ok4, am_ms_ok5, am_ms_ok6, am_ms_ok7, Bool.and_self]
  intro mi h1 h2
  refine List.all_eq_true.mp h (am_me mi) (am_me_in mi h1 h2)
def am_lp : List (List Nat) := [[374, 376, 378, 380, 382, 384, 386], [352, 354, 356, 358], [284, 286, 288, 290, 292, 294, 296, 298, 300], [315, 317], [441, 443, 445], [474, 476, 478, 480, 482, 484, 486, 488, 490, 492, 494], [331, 333, 335, 337, 339], [505, 507], [407, 409, 411, 413, 415, 417, 419, 421, 423], [230, 232, 234, 236, 238, 240, 242, 244, 246, 248, 250, 252, 254, 256, 258, 260, 262, 264], [517, 519, 521, 523, 525, 527, 529], [1379, 1381, 1383, 1385, 1387, 1389, 1391, 1393, 1395, 1397, 1399, 1401, 1403, 1405, 1407, 1409, 1411, 1413, 1415, 1417, 1419, 1421, 1423, 1425, 1427, 1429, 1431, 1433, 1435, 1437, 1439, 1441, 1443, 1445, 1447, 1449, 1451, 1453, 1455, 1457, 1459, 1461, 1463, 1465, 1467, 1469, 1471, 1473, 1475, 1477, 1479, 1481, 1483, 1485, 1487, 1489, 1491, 1493, 1495, 1497, 1499, 1501, 1503]]
def am_ip : List (Nat × Nat) := [(362, 138), (343, 137), (269, 134), (304, 135), (429, 139), (449, 140), (321, 136), (498, 141), (160, 132), (166, 133), (152, 131), (1311, 142)]
set_option maxRecDepth 100000 in
set_option maxHeartbeats 4000000 in
theorem am_lp_ok : (List.range 12).all (fun c => (List.range (am_Nf c)).all (fun k => am_okw ((am_lp.getD c []).getD k 0) (u_lay (am_Rn c) (am_Ft c) k))) = true := by decide +kernel
set_option maxRecDepth 100000 in
theorem am_ip_ok : (List.range 12).all (fun c => am_okw (am_ip.getD c (0, 0)).1 (.instantiable (am_Rn c) (am_Nf c)) && am_okw (am_ip.getD c (0, 0)).2 (.initialized (am_Rn c))) = true := by decide +kernel
theorem am_lay_in {c : Nat} (hc : c < 12) : ∀ w ∈ u_ws (am_Rn c) (am_Ft c) (am_Nf c), w ∈ am_tb := by
  intro w hw
  obtain ⟨k, hk, rfl⟩ := List.mem_map.mp hw
  exact am_okw_in (List.all_eq_true.mp (List.all_eq_true.mp am_lp_ok c (List.mem_range.mpr hc)) k hk)
theorem am_ins_in {c : Nat} (hc : c < 12) : Cond.instantiable (am_Rn c) (am_Nf c) ∈ am_tb ∧ Cond.initialized (am_Rn c) ∈ am_tb := by
  have h := List.all_eq_true.mp am_ip_ok c (List.mem_range.mpr hc)
  rw [Bool.and_eq_true] at h
  exact ⟨am_okw_in h.1, am_okw_in h.2⟩
set_option maxRecDepth 100000 in
theorem am_w_obj : Cond.instanceMethod objectInit ∈ am_tb ∧ Cond.code objectInit ⟨#[0xb1]⟩ 1 none ∈ am_tb := ⟨am_okw_in (i := 157) (by decide +kernel), am_okw_in (i := 158) (by decide +kernel)⟩
set_option maxRecDepth 100000 in
theorem am_w_copy : Cond.native arraycopyName ∈ am_tb ∧ Cond.static arraycopyName ∈ am_tb ∧ Cond.initialized "java/lang/System" ∈ am_tb := ⟨am_okw_in (i := 618) (by decide +kernel), am_okw_in (i := 617) (by decide +kernel), am_okw_in (i := 144) (by decide +kernel)⟩
set_option maxRecDepth 100000 in
theorem am_w_ints : Cond.arrayClass .int ∈ am_tb := am_okw_in (i := 267) (by decide +kernel)
set_option maxRecDepth 100000 in
theorem am_w_over : Cond.arrayOver (.object "LarkExchange$World") ∈ lw_tbl := List.mem_of_getElem? (i := 435) (by decide +kernel)
theorem am_cls_at {c : Nat} (hc : c < 12) : am_cls[c]? = some (am_Rn c, am_Ft c, am_Nf c) := by
  rcases (show c = 0 ∨ c = 1 ∨ c = 2 ∨ c = 3 ∨ c = 4 ∨ c = 5 ∨ c = 6 ∨ c = 7 ∨ c = 8 ∨ c = 9 ∨ c = 10 ∨ c = 11 by omega) with rfl | rfl | rfl | rfl | rfl | rfl | rfl | rfl | rfl | rfl | rfl | rfl <;> rfl
theorem am_nm {c : Nat} (hc : c < 12) : ∀ a, a < am_Nf c → ∀ b, b < am_Nf c → a ≠ b → (am_Ft c a).2.1 ≠ (am_Ft c b).2.1 := by
  rcases (show c = 0 ∨ c = 1 ∨ c = 2 ∨ c = 3 ∨ c = 4 ∨ c = 5 ∨ c = 6 ∨ c = 7 ∨ c = 8 ∨ c = 9 ∨ c = 10 ∨ c = 11 by omega) with rfl | rfl | rfl | rfl | rfl | rfl | rfl | rfl | rfl | rfl | rfl | rfl
  · exact nmX0
  · exact nmX1
  · exact nmX2
  · exact nmX3
  · exact nmX4
  · exact nmX5
  · exact nmX6
  · exact nmX7
  · exact nmX8
  · exact nmX9
  · exact nmX10
  · exact nmX11
theorem am_tyok {c : Nat} (hc : c < 12) : ∀ k, k < am_Nf c → parseFieldDescriptor (am_Ft c k).2.2.1 = some (am_ty c k) := by
  rcases (show c = 0 ∨ c = 1 ∨ c = 2 ∨ c = 3 ∨ c = 4 ∨ c = 5 ∨ c = 6 ∨ c = 7 ∨ c = 8 ∨ c = 9 ∨ c = 10 ∨ c = 11 by omega) with rfl | rfl | rfl | rfl | rfl | rfl | rfl | rfl | rfl | rfl | rfl | rfl
  · exact tyX0_ok
  · exact tyX1_ok
  · exact tyX2_ok
  · exact tyX3_ok
  · exact tyX4_ok
  · exact tyX5_ok
  · exact tyX6_ok
  · exact tyX7_ok
  · exact tyX8_ok
  · exact tyX9_ok
  · exact tyX10_ok
  · exact tyX11_ok
