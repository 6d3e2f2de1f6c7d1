theorem uX0_0 : u_lay RX0 TX0 0 ∈ gT := gT_in (List.mem_append_right _ (List.mem_of_getElem? (i := 243) (by decide +kernel))) (by decide +kernel)
theorem uX0_1 : u_lay RX0 TX0 1 ∈ gT := gT_in (List.mem_append_right _ (List.mem_of_getElem? (i := 245) (by decide +kernel))) (by decide +kernel)
theorem uX0 : ∀ w ∈ u_ws RX0 TX0 2, w ∈ gT := by
  intro w hw
  obtain ⟨k, hk, rfl⟩ := List.mem_map.mp hw
  have hk := List.mem_range.mp hk
  match k, hk with
  | 0, _ => exact uX0_0
  | 1, _ => exact uX0_1
  | k + 2, hk => exact absurd hk (by omega)
theorem uX1_0 : u_lay RX1 TX1 0 ∈ gT := gT_in (List.mem_append_right _ (List.mem_of_getElem? (i := 146) (by decide +kernel))) (by decide +kernel)
theorem uX1_1 : u_lay RX1 TX1 1 ∈ gT := gT_in (List.mem_append_right _ (List.mem_of_getElem? (i := 148) (by decide +kernel))) (by decide +kernel)
theorem uX1_2 : u_lay RX1 TX1 2 ∈ gT := gT_in (List.mem_append_right _ (List.mem_of_getElem? (i := 150) (by decide +kernel))) (by decide +kernel)
theorem uX1_3 : u_lay RX1 TX1 3 ∈ gT := gT_in (List.mem_append_right _ (List.mem_of_getElem? (i := 152) (by decide +kernel))) (by decide +kernel)
theorem uX1_4 : u_lay RX1 TX1 4 ∈ gT := gT_in (List.mem_append_right _ (List.mem_of_getElem? (i := 154) (by decide +kernel))) (by decide +kernel)
theorem uX1_5 : u_lay RX1 TX1 5 ∈ gT := gT_in (List.mem_append_right _ (List.mem_of_getElem? (i := 156) (by decide +kernel))) (by decide +kernel)
theorem uX1 : ∀ w ∈ u_ws RX1 TX1 6, w ∈ gT := by
  intro w hw
  obtain ⟨k, hk, rfl⟩ := List.mem_map.mp hw
  have hk := List.mem_range.mp hk
  match k, hk with
  | 0, _ => exact uX1_0
  | 1, _ => exact uX1_1
  | 2, _ => exact uX1_2
  | 3, _ => exact uX1_3
  | 4, _ => exact uX1_4
  | 5, _ => exact uX1_5
  | k + 6, hk => exact absurd hk (by omega)
theorem uX2_0 : u_lay RX2 TX2 0 ∈ gT := gT_in (List.mem_append_right _ (List.mem_of_getElem? (i := 216) (by decide +kernel))) (by decide +kernel)
theorem uX2_1 : u_lay RX2 TX2 1 ∈ gT := gT_in (List.mem_append_right _ (List.mem_of_getElem? (i := 218) (by decide +kernel))) (by decide +kernel)
theorem uX2_2 : u_lay RX2 TX2 2 ∈ gT := gT_in (List.mem_append_right _ (List.mem_of_getElem? (i := 220) (by decide +kernel))) (by decide +kernel)
theorem uX2_3 : u_lay RX2 TX2 3 ∈ gT := gT_in (List.mem_append_right _ (List.mem_of_getElem? (i := 222) (by decide +kernel))) (by decide +kernel)
theorem uX2_4 : u_lay RX2 TX2 4 ∈ gT := gT_in (List.mem_append_right _ (List.mem_of_getElem? (i := 224) (by decide +kernel))) (by decide +kernel)
theorem uX2_5 : u_lay RX2 TX2 5 ∈ gT := gT_in (List.mem_append_right _ (List.mem_of_getElem? (i := 226) (by decide +kernel))) (by decide +kernel)
theorem uX2_6 : u_lay RX2 TX2 6 ∈ gT := gT_in (List.mem_append_right _ (List.mem_of_getElem? (i := 228) (by decide +kernel))) (by decide +kernel)
theorem uX2_7 : u_lay RX2 TX2 7 ∈ gT := gT_in (List.mem_append_right _ (List.mem_of_getElem? (i := 230) (by decide +kernel))) (by decide +kernel)
theorem uX2_8 : u_lay RX2 TX2 8 ∈ gT := gT_in (List.mem_append_right _ (List.mem_of_getElem? (i := 232) (by decide +kernel))) (by decide +kernel)
theorem uX2 : ∀ w ∈ u_ws RX2 TX2 9, w ∈ gT := by
  intro w hw
  obtain ⟨k, hk, rfl⟩ := List.mem_map.mp hw
  have hk := List.mem_range.mp hk
  match k, hk with
  | 0, _ => exact uX2_0
  | 1, _ => exact uX2_1
  | 2, _ => exact uX2_2
  | 3, _ => exact uX2_3
  | 4, _ => exact uX2_4
  | 5, _ => exact uX2_5
  | 6, _ => exact uX2_6
  | 7, _ => exact uX2_7
  | 8, _ => exact uX2_8
  | k + 9, hk => exact absurd hk (by omega)
theorem uX3_0 : u_lay RX3 TX3 0 ∈ gT := gT_in (List.mem_append_right _ (List.mem_of_getElem? (i := 116) (by decide +kernel))) (by decide +kernel)
theorem uX3_1 : u_lay RX3 TX3 1 ∈ gT := gT_in (List.mem_append_right _ (List.mem_of_getElem? (i := 118) (by decide +kernel))) (by decide +kernel)
theorem uX3 : ∀ w ∈ u_ws RX3 TX3 2, w ∈ gT := by
  intro w hw
  obtain ⟨k, hk, rfl⟩ := List.mem_map.mp hw
  have hk := List.mem_range.mp hk
  match k, hk with
  | 0, _ => exact uX3_0
  | 1, _ => exact uX3_1
  | k + 2, hk => exact absurd hk (by omega)
theorem uX4_0 : u_lay RX4 TX4 0 ∈ gT := gT_in (List.mem_append_right _ (List.mem_of_getElem? (i := 129) (by decide +kernel))) (by decide +kernel)
theorem uX4_1 : u_lay RX4 TX4 1 ∈ gT := gT_in (List.mem_append_right _ (List.mem_of_getElem? (i := 131) (by decide +kernel))) (by decide +kernel)
theorem uX4 : ∀ w ∈ u_ws RX4 TX4 2, w ∈ gT := by
  intro w hw
  obtain ⟨k, hk, rfl⟩ := List.mem_map.mp hw
  have hk := List.mem_range.mp hk
  match k, hk with
  | 0, _ => exact uX4_0
  | 1, _ => exact uX4_1
  | k + 2, hk => exact absurd hk (by omega)
theorem uX5_0 : u_lay RX5 TX5 0 ∈ gT := gT_in (List.mem_append_right _ (List.mem_of_getElem? (i := 172) (by decide +kernel))) (by decide +kernel)
theorem uX5_1 : u_lay RX5 TX5 1 ∈ gT := gT_in (List.mem_append_right _ (List.mem_of_getElem? (i := 174) (by decide +kernel))) (by decide +kernel)
theorem uX5_2 : u_lay RX5 TX5 2 ∈ gT := gT_in (List.mem_append_right _ (List.mem_of_getElem? (i := 176) (by decide +kernel))) (by decide +kernel)
theorem uX5_3 : u_lay RX5 TX5 3 ∈ gT := gT_in (List.mem_append_right _ (List.mem_of_getElem? (i := 178) (by decide +kernel))) (by decide +kernel)
theorem uX5_4 : u_lay RX5 TX5 4 ∈ gT := gT_in (List.mem_append_right _ (List.mem_of_getElem? (i := 180) (by decide +kernel))) (by decide +kernel)
theorem uX5_5 : u_lay RX5 TX5 5 ∈ gT := gT_in (List.mem_append_right _ (List.mem_of_getElem? (i := 182) (by decide +kernel))) (by decide +kernel)
theorem uX5 : ∀ w ∈ u_ws RX5 TX5 6, w ∈ gT := by
  intro w hw
  obtain ⟨k, hk, rfl⟩ := List.mem_map.mp hw
  have hk := List.mem_range.mp hk
  match k, hk with
  | 0, _ => exact uX5_0
  | 1, _ => exact uX5_1
  | 2, _ => exact uX5_2
  | 3, _ => exact uX5_3
  | 4, _ => exact uX5_4
  | 5, _ => exact uX5_5
  | k + 6, hk => exact absurd hk (by omega)
theorem uX6_0 : u_lay RX6 TX6 0 ∈ gT := gT_in (List.mem_append_right _ (List.mem_of_getElem? (i := 88) (by decide +kernel))) (by decide +kernel)
theorem uX6_1 : u_lay RX6 TX6 1 ∈ gT := gT_in (List.mem_append_right _ (List.mem_of_getElem? (i := 90) (by decide +kernel))) (by decide +kernel)
theorem uX6_2 : u_lay RX6 TX6 2 ∈ gT := gT_in (List.mem_append_right _ (List.mem_of_getElem? (i := 92) (by decide +kernel))) (by decide +kernel)
theorem uX6_3 : u_lay RX6 TX6 3 ∈ gT := gT_in (List.mem_append_right _ (List.mem_of_getElem? (i := 94) (by decide +kernel))) (by decide +kernel)
theorem uX6_4 : u_lay RX6 TX6 4 ∈ gT := gT_in (List.mem_append_right _ (List.mem_of_getElem? (i := 96) (by decide +kernel))) (by decide +kernel)
theorem uX6_5 : u_lay RX6 TX6 5 ∈ gT := gT_in (List.mem_append_right _ (List.mem_of_getElem? (i := 98) (by decide +kernel))) (by decide +kernel)
theorem uX6_6 : u_lay RX6 TX6 6 ∈ gT := gT_in (List.mem_append_right _ (List.mem_of_getElem? (i := 100) (by decide +kernel))) (by decide +kernel)
theorem uX6_7 : u_lay RX6 TX6 7 ∈ gT := gT_in (List.mem_append_right _ (List.mem_of_getElem? (i := 102) (by decide +kernel))) (by decide +kernel)
theorem uX6 : ∀ w ∈ u_ws RX6 TX6 8, w ∈ gT := by
  intro w hw
  obtain ⟨k, hk, rfl⟩ := List.mem_map.mp hw
  have hk := List.mem_range.mp hk
  match k, hk with
  | 0, _ => exact uX6_0
  | 1, _ => exact uX6_1
  | 2, _ => exact uX6_2
  | 3, _ => exact uX6_3
  | 4, _ => exact uX6_4
  | 5, _ => exact uX6_5
  | 6, _ => exact uX6_6
  | 7, _ => exact uX6_7
  | k + 8, hk => exact absurd hk (by omega)
theorem uX7_0 : u_lay RX7 TX7 0 ∈ gT := gT_in (List.mem_append_right _ (List.mem_of_getElem? (i := 194) (by decide +kernel))) (by decide +kernel)
theorem uX7_1 : u_lay RX7 TX7 1 ∈ gT := gT_in (List.mem_append_right _ (List.mem_of_getElem? (i := 196) (by decide +kernel))) (by decide +kernel)
theorem uX7_2 : u_lay RX7 TX7 2 ∈ gT := gT_in (List.mem_append_right _ (List.mem_of_getElem? (i := 198) (by decide +kernel))) (by decide +kernel)
theorem uX7 : ∀ w ∈ u_ws RX7 TX7 3, w ∈ gT := by
  intro w hw
  obtain ⟨k, hk, rfl⟩ := List.mem_map.mp hw
  have hk := List.mem_range.mp hk
  match k, hk with
  | 0, _ => exact uX7_0
  | 1, _ => exact uX7_1
  | 2, _ => exact uX7_2
  | k + 3, hk => exact absurd hk (by omega)
theorem uX8_0 : u_lay RX8 TX8 0 ∈ gT := gT_in (List.mem_append_right _ (List.mem_of_getElem? (i := 51) (by decide +kernel))) (by decide +kernel)
theorem uX8_1 : u_lay RX8 TX8 1 ∈ gT := gT_in (List.mem_append_right _ (List.mem_of_getElem? (i := 53) (by decide +kernel))) (by decide +kernel)
theorem uX8_2 : u_lay RX8 TX8 2 ∈ gT := gT_in (List.mem_append_right _ (List.mem_of_getElem? (i := 55) (by decide +kernel))) (by decide +kernel)
theorem uX8_3 : u_lay RX8 TX8 3 ∈ gT := gT_in (List.mem_append_right _ (List.mem_of_getElem? (i := 57) (by decide +kernel))) (by decide +kernel)
theorem uX8_4 : u_lay RX8 TX8 4 ∈ gT := gT_in (List.mem_append_right _ (List.mem_of_getElem? (i := 59) (by decide +kernel))) (by decide +kernel)
theorem uX8_5 : u_lay RX8 TX8 5 ∈ gT := gT_in (List.mem_append_right _ (List.mem_of_getElem? (i := 61) (by decide +kernel))) (by decide +kernel)
theorem uX8_6 : u_lay RX8 TX8 6 ∈ gT := gT_in (List.mem_append_right _ (List.mem_of_getElem? (i := 63) (by decide +kernel))) (by decide +kernel)
theorem uX8_7 : u_lay RX8 TX8 7 ∈ gT := gT_in (List.mem_append_right _ (List.mem_of_getElem? (i := 65) (by decide +kernel))) (by decide +kernel)
theorem uX8_8 : u_lay RX8 TX8 8 ∈ gT := gT_in (List.mem_append_right _ (List.mem_of_getElem? (i := 67) (by decide +kernel))) (by decide +kernel)
theorem uX8_9 : u_lay RX8 TX8 9 ∈ gT := gT_in (List.mem_append_right _ (List.mem_of_getElem? (i := 69) (by decide +kernel))) (by decide +kernel)
theorem uX8 : ∀ w ∈ u_ws RX8 TX8 10, w ∈ gT := by
  intro w hw
  obtain ⟨k, hk, rfl⟩ := List.mem_map.mp hw
  have hk := List.mem_range.mp hk
  match k, hk with
  | 0, _ => exact uX8_0
  | 1, _ => exact uX8_1
  | 2, _ => exact uX8_2
  | 3, _ => exact uX8_3
  | 4, _ => exact uX8_4
  | 5, _ => exact uX8_5
  | 6, _ => exact uX8_6
  | 7, _ => exact uX8_7
  | 8, _ => exact uX8_8
  | 9, _ => exact uX8_9
  | k + 10, hk => exact absurd hk (by omega)
theorem uX9_0 : u_lay RX9 TX9 0 ∈ gT := gT_in (List.mem_append_right _ (List.mem_of_getElem? (i := 265) (by decide +kernel))) (by decide +kernel)
theorem uX9_1 : u_lay RX9 TX9 1 ∈ gT := gT_in (List.mem_append_right _ (List.mem_of_getElem? (i := 267) (by decide +kernel))) (by decide +kernel)
theorem uX9_2 : u_lay RX9 TX9 2 ∈ gT := gT_in (List.mem_append_right _ (List.mem_of_getElem? (i := 269) (by decide +kernel))) (by decide +kernel)
theorem uX9_3 : u_lay RX9 TX9 3 ∈ gT := gT_in (List.mem_append_right _ (List.mem_of_getElem? (i := 271) (by decide +kernel))) (by decide +kernel)
theorem uX9_4 : u_lay RX9 TX9 4 ∈ gT := gT_in (List.mem_append_right _ (List.mem_of_getElem? (i := 273) (by decide +kernel))) (by decide +kernel)
theorem uX9_5 : u_lay RX9 TX9 5 ∈ gT := gT_in (List.mem_append_right _ (List.mem_of_getElem? (i := 275) (by decide +kernel))) (by decide +kernel)
theorem uX9_6 : u_lay RX9 TX9 6 ∈ gT := gT_in (List.mem_append_right _ (List.mem_of_getElem? (i := 277) (by decide +kernel))) (by decide +kernel)
theorem uX9_7 : u_lay RX9 TX9 7 ∈ gT := gT_in (List.mem_append_right _ (List.mem_of_getElem? (i := 279) (by decide +kernel))) (by decide +kernel)
theorem uX9_8 : u_lay RX9 TX9 8 ∈ gT := gT_in (List.mem_append_right _ (List.mem_of_getElem? (i := 281) (by decide +kernel))) (by decide +kernel)
theorem uX9_9 : u_lay RX9 TX9 9 ∈ gT := gT_in (List.mem_append_right _ (List.mem_of_getElem? (i := 283) (by decide +kernel))) (by decide +kernel)
theorem uX9_10 : u_lay RX9 TX9 10 ∈ gT := gT_in (List.mem_append_right _ (List.mem_of_getElem? (i := 285) (by decide +kernel))) (by decide +kernel)
theorem uX9_11 : u_lay RX9 TX9 11 ∈ gT := gT_in (List.mem_append_right _ (List.mem_of_getElem? (i := 287) (by decide +kernel))) (by decide +kernel)
theorem uX9_12 : u_lay RX9 TX9 12 ∈ gT := gT_in (List.mem_append_right _ (List.mem_of_getElem? (i := 289) (by decide +kernel))) (by decide +kernel)
theorem uX9_13 : u_lay RX9 TX9 13 ∈ gT := gT_in (List.mem_append_right _ (List.mem_of_getElem? (i := 291) (by decide +kernel))) (by decide +kernel)
theorem uX9_14 : u_lay RX9 TX9 14 ∈ gT := gT_in (List.mem_append_right _ (List.mem_of_getElem? (i := 293) (by decide +kernel))) (by decide +kernel)
theorem uX9_15 : u_lay RX9 TX9 15 ∈ gT := gT_in (List.mem_append_right _ (List.mem_of_getElem? (i := 295) (by decide +kernel))) (by decide +kernel)
theorem uX9 : ∀ w ∈ u_ws RX9 TX9 16, w ∈ gT := by
  intro w hw
  obtain ⟨k, hk, rfl⟩ := List.mem_map.mp hw
  have hk := List.mem_range.mp hk
  match k, hk with
  | 0, _ => exact uX9_0
  | 1, _ => exact uX9_1
  | 2, _ => exact uX9_2
  | 3, _ => exact uX9_3
  | 4, _ => exact uX9_4
  | 5, _ => exact uX9_5
  | 6, _ => exact uX9_6
  | 7, _ => exact uX9_7
  | 8, _ => exact uX9_8
  | 9, _ => exact uX9_9
  | 10, _ => exact uX9_10
  | 11, _ => exact uX9_11
  | 12, _ => exact uX9_12
  | 13, _ => exact uX9_13
  | 14, _ => exact uX9_14
  | 15, _ => exact uX9_15
  | k + 16, hk => exact absurd hk (by omega)
theorem uX10_0 : u_lay RX10 TX10 0 ∈ gT := gT_in (List.mem_append_right _ (List.mem_of_getElem? (i := 1348) (by decide +kernel))) (by decide +kernel)
theorem uX10_1 : u_lay RX10 TX10 1 ∈ gT := gT_in (List.mem_append_right _ (List.mem_of_getElem? (i := 1350) (by decide +kernel))) (by decide +kernel)
theorem uX10_2 : u_lay RX10 TX10 2 ∈ gT := gT_in (List.mem_append_right _ (List.mem_of_getElem? (i := 1352) (by decide +kernel))) (by decide +kernel)
theorem uX10_3 : u_lay RX10 TX10 3 ∈ gT := gT_in (List.mem_append_right _ (List.mem_of_getElem? (i := 1354) (by decide +kernel))) (by decide +kernel)
theorem uX10_4 : u_lay RX10 TX10 4 ∈ gT := gT_in (List.mem_append_right _ (List.mem_of_getElem? (i := 1356) (by decide +kernel))) (by decide +kernel)
theorem uX10_5 : u_lay RX10 TX10 5 ∈ gT := gT_in (List.mem_append_right _ (List.mem_of_getElem? (i := 1358) (by decide +kernel))) (by decide +kernel)
theorem uX10_6 : u_lay RX10 TX10 6 ∈ gT := gT_in (List.mem_append_right _ (List.mem_of_getElem? (i := 1360) (by decide +kernel))) (by decide +kernel)
theorem uX10_7 : u_lay RX10 TX10 7 ∈ gT := gT_in (List.mem_append_right _ (List.mem_of_getElem? (i := 1362) (by decide +kernel))) (by decide +kernel)
theorem uX10_8 : u_lay RX10 TX10 8 ∈ gT := gT_in (List.mem_append_right _ (List.mem_of_getElem? (i := 1364) (by decide +kernel))) (by decide +kernel)
theorem uX10_9 : u_lay RX10 TX10 9 ∈ gT := gT_in (List.mem_append_right _ (List.mem_of_getElem? (i := 1366) (by decide +kernel))) (by decide +kernel)
theorem uX10_10 : u_lay RX10 TX10 10 ∈ gT := gT_in (List.mem_append_right _ (List.mem_of_getElem? (i := 1368) (by decide +kernel))) (by decide +kernel)
theorem uX10_11 : u_lay RX10 TX10 11 ∈ gT := gT_in (List.mem_append_right _ (List.mem_of_getElem? (i := 1370) (by decide +kernel))) (by decide +kernel)
theorem uX10_12 : u_lay RX10 TX10 12 ∈ gT := gT_in (List.mem_append_right _ (List.mem_of_getElem? (i := 1372) (by decide +kernel))) (by decide +kernel)
theorem uX10_13 : u_lay RX10 TX10 13 ∈ gT := gT_in (List.mem_append_right _ (List.mem_of_getElem? (i := 1374) (by decide +kernel))) (by decide +kernel)
theorem uX10_14 : u_lay RX10 TX10 14 ∈ gT := gT_in (List.mem_append_right _ (List.mem_of_getElem? (i := 1376) (by decide +kernel))) (by decide +kernel)
theorem uX10_15 : u_lay RX10 TX10 15 ∈ gT := gT_in (List.mem_append_right _ (List.mem_of_getElem? (i := 1378) (by decide +kernel))) (by decide +kernel)
theorem uX10_16 : u_lay RX10 TX10 16 ∈ gT := gT_in (List.mem_append_right _ (List.mem_of_getElem? (i := 1380) (by decide +kernel))) (by decide +kernel)
theorem uX10_17 : u_lay RX10 TX10 17 ∈ gT := gT_in (List.mem_append_right _ (List.mem_of_getElem? (i := 1382) (by decide +kernel))) (by decide +kernel)
theorem uX10_18 : u_lay RX10 TX10 18 ∈ gT := gT_in (List.mem_append_right _ (List.mem_of_getElem? (i := 1384) (by decide +kernel))) (by decide +kernel)
theorem uX10_19 : u_lay RX10 TX10 19 ∈ gT := gT_in (List.mem_append_right _ (List.mem_of_getElem? (i := 1386) (by decide +kernel))) (by decide +kernel)
theorem uX10_20 : u_lay RX10 TX10 20 ∈ gT := gT_in (List.mem_append_right _ (List.mem_of_getElem? (i := 1388) (by decide +kernel))) (by decide +kernel)
theorem uX10_21 : u_lay RX10 TX10 21 ∈ gT := gT_in (List.mem_append_right _ (List.mem_of_getElem? (i := 1390) (by decide +kernel))) (by decide +kernel)
theorem uX10_22 : u_lay RX10 TX10 22 ∈ gT := gT_in (List.mem_append_right _ (List.mem_of_getElem? (i := 1392) (by decide +kernel))) (by decide +kernel)
theorem uX10_23 : u_lay RX10 TX10 23 ∈ gT := gT_in (List.mem_append_right _ (List.mem_of_getElem? (i := 1394) (by decide +kernel))) (by decide +kernel)
theorem uX10_24 : u_lay RX10 TX10 24 ∈ gT := gT_in (List.mem_append_right _ (List.mem_of_getElem? (i := 1396) (by decide +kernel))) (by decide +kernel)
theorem uX10_25 : u_lay RX10 TX10 25 ∈ gT := gT_in (List.mem_append_right _ (List.mem_of_getElem? (i := 1398) (by decide +kernel))) (by decide +kernel)
theorem uX10_26 : u_lay RX10 TX10 26 ∈ gT := gT_in (List.mem_append_right _ (List.mem_of_getElem? (i := 1400) (by decide +kernel))) (by decide +kernel)
theorem uX10_27 : u_lay RX10 TX10 27 ∈ gT := gT_in (List.mem_append_right _ (List.mem_of_getElem? (i := 1402) (by decide +kernel))) (by decide +kernel)
theorem uX10_28 : u_lay RX10 TX10 28 ∈ gT := gT_in (List.mem_append_right _ (List.mem_of_getElem? (i := 1404) (by decide +kernel))) (by decide +kernel)
theorem uX10_29 : u_lay RX10 TX10 29 ∈ gT := gT_in (List.mem_append_right _ (List.mem_of_getElem? (i := 1406) (by decide +kernel))) (by decide +kernel)
theorem uX10_30 : u_lay RX10 TX10 30 ∈ gT := gT_in (List.mem_append_right _ (List.mem_of_getElem? (i := 1408) (by decide +kernel))) (by decide +kernel)
theorem uX10_31 : u_lay RX10 TX10 31 ∈ gT := gT_in (List.mem_append_right _ (List.mem_of_getElem? (i := 1410) (by decide +kernel))) (by decide +kernel)
theorem uX10_32 : u_lay RX10 TX10 32 ∈ gT := gT_in (List.mem_append_right _ (List.mem_of_getElem? (i := 1412) (by decide +kernel))) (by decide +kernel)
theorem uX10_33 : u_lay RX10 TX10 33 ∈ gT := gT_in (List.mem_append_right _ (List.mem_of_getElem? (i := 1414) (by decide +kernel))) (by decide +kernel)
theorem uX10_34 : u_lay RX10 TX10 34 ∈ gT := gT_in (List.mem_append_right _ (List.mem_of_getElem? (i := 1416) (by decide +kernel))) (by decide +kernel)
theorem uX10_35 : u_lay RX10 TX10 35 ∈ gT := gT_in (List.mem_append_right _ (List.mem_of_getElem? (i := 1418) (by decide +kernel))) (by decide +kernel)
theorem uX10_36 : u_lay RX10 TX10 36 ∈ gT := gT_in (List.mem_append_right _ (List.mem_of_getElem? (i := 1420) (by decide +kernel))) (by decide +kernel)
theorem uX10_37 : u_lay RX10 TX10 37 ∈ gT := gT_in (List.mem_append_right _ (List.mem_of_getElem? (i := 1422) (by decide +kernel))) (by decide +kernel)
theorem uX10_38 : u_lay RX10 TX10 38 ∈ gT := gT_in (List.mem_append_right _ (List.mem_of_getElem? (i := 1424) (by decide +kernel))) (by decide +kernel)
theorem uX10_39 : u_lay RX10 TX10 39 ∈ gT := gT_in (List.mem_append_right _ (List.mem_of_getElem? (i := 1426) (by decide +kernel))) (by decide +kernel)
theorem uX10_40 : u_lay RX10 TX10 40 ∈ gT := gT_in (List.mem_append_right _ (List.mem_of_getElem? (i := 1428) (by decide +kernel))) (by decide +kernel)
theorem uX10_41 : u_lay RX10 TX10 41 ∈ gT := gT_in (List.mem_append_right _ (List.mem_of_getElem? (i := 1430) (by decide +kernel))) (by decide +kernel)
theorem uX10_42 : u_lay RX10 TX10 42 ∈ gT := gT_in (List.mem_append_right _ (List.mem_of_getElem? (i := 1432) (by decide +kernel))) (by decide +kernel)
theorem uX10_43 : u_lay RX10 TX10 43 ∈ gT := gT_in (List.mem_append_right _ (List.mem_of_getElem? (i := 1434) (by decide +kernel))) (by decide +kernel)
theorem uX10_44 : u_lay RX10 TX10 44 ∈ gT := gT_in (List.mem_append_right _ (List.mem_of_getElem? (i := 1436) (by decide +kernel))) (by decide +kernel)
theorem uX10_45 : u_lay RX10 TX10 45 ∈ gT := gT_in (List.mem_append_right _ (List.mem_of_getElem? (i := 1438) (by decide +kernel))) (by decide +kernel)
theorem uX10_46 : u_lay RX10 TX10 46 ∈ gT := gT_in (List.mem_append_right _ (List.mem_of_getElem? (i := 1440) (by decide +kernel))) (by decide +kernel)
theorem uX10_47 : u_lay RX10 TX10 47 ∈ gT := gT_in (List.mem_append_right _ (List.mem_of_getElem? (i := 1442) (by decide +kernel))) (by decide +kernel)
theorem uX10_48 : u_lay RX10 TX10 48 ∈ gT := gT_in (List.mem_append_right _ (List.mem_of_getElem? (i := 1444) (by decide +kernel))) (by decide +kernel)
theorem uX10_49 : u_lay RX10 TX10 49 ∈ gT := gT_in (List.mem_append_right _ (List.mem_of_getElem? (i := 1446) (by decide +kernel))) (by decide +kernel)
theorem uX10_50 : u_lay RX10 TX10 50 ∈ gT := gT_in (List.mem_append_right _ (List.mem_of_getElem? (i := 1448) (by decide +kernel))) (by decide +kernel)
theorem uX10_51 : u_lay RX10 TX10 51 ∈ gT := gT_in (List.mem_append_right _ (List.mem_of_getElem? (i := 1450) (by decide +kernel))) (by decide +kernel)
theorem uX10_52 : u_lay RX10 TX10 52 ∈ gT := gT_in (List.mem_append_right _ (List.mem_of_getElem? (i := 1452) (by decide +kernel))) (by decide +kernel)
theorem uX10_53 : u_lay RX10 TX10 53 ∈ gT := gT_in (List.mem_append_right _ (List.mem_of_getElem? (i := 1454) (by decide +kernel))) (by decide +kernel)
theorem uX10_54 : u_lay RX10 TX10 54 ∈ gT := gT_in (List.mem_append_right _ (List.mem_of_getElem? (i := 1456) (by decide +kernel))) (by decide +kernel)
theorem uX10 : ∀ w ∈ u_ws RX10 TX10 55, w ∈ gT := by
  intro w hw
  obtain ⟨k, hk, rfl⟩ := List.mem_map.mp hw
  have hk := List.mem_range.mp hk
  match k, hk with
  | 0, _ => exact uX10_0
  | 1, _ => exact uX10_1
  | 2, _ => exact uX10_2
  | 3, _ => exact uX10_3
  | 4, _ => exact uX10_4
  | 5, _ => exact uX10_5
  | 6, _ => exact uX10_6
  | 7, _ => exact uX10_7
  | 8, _ => exact uX10_8
  | 9, _ => exact uX10_9
  | 10, _ => exact uX10_10
  | 11, _ => exact uX10_11
  | 12, _ => exact uX10_12
  | 13, _ => exact uX10_13
  | 14, _ => exact uX10_14
  | 15, _ => exact uX10_15
  | 16, _ => exact uX10_16
  | 17, _ => exact uX10_17
  | 18, _ => exact uX10_18
  | 19, _ => exact uX10_19
  | 20, _ => exact uX10_20
  | 21, _ => exact uX10_21
  | 22, _ => exact uX10_22
  | 23, _ => exact uX10_23
  | 24, _ => exact uX10_24
  | 25, _ => exact uX10_25
  | 26, _ => exact uX10_26
  | 27, _ => exact uX10_27
  | 28, _ => exact uX10_28
  | 29, _ => exact uX10_29
  | 30, _ => exact uX10_30
  | 31, _ => exact uX10_31
  | 32, _ => exact uX10_32
  | 33, _ => exact uX10_33
  | 34, _ => exact uX10_34
  | 35, _ => exact uX10_35
  | 36, _ => exact uX10_36
  | 37, _ => exact uX10_37
  | 38, _ => exact uX10_38
  | 39, _ => exact uX10_39
  | 40, _ => exact uX10_40
  | 41, _ => exact uX10_41
  | 42, _ => exact uX10_42
  | 43, _ => exact uX10_43
  | 44, _ => exact uX10_44
  | 45, _ => exact uX10_45
  | 46, _ => exact uX10_46
  | 47, _ => exact uX10_47
  | 48, _ => exact uX10_48
  | 49, _ => exact uX10_49
  | 50, _ => exact uX10_50
  | 51, _ => exact uX10_51
  | 52, _ => exact uX10_52
  | 53, _ => exact uX10_53
  | 54, _ => exact uX10_54
  | k + 55, hk => exact absurd hk (by omega)
theorem lX9_12 : Cond.fieldLink RX9 12 "CloneOutliner" "tree" "LCloneOutliner$Tree;" ∈ gT := gT_in (List.mem_append_right _ (List.mem_of_getElem? (i := 249) (by decide +kernel))) (by decide +kernel)
theorem gX9_12 : gFL RX9 12 9 0 := ⟨RX9, TX9, 16, rfl, by decide, uX9, lX9_12⟩
theorem pX9_12 : gFP RX9 12 9 0 (tyX9 0) false := ⟨RX9, TX9, 16, tyX9, rfl, by decide, uX9, tyX9_ok, nmX9, lX9_12, rfl, tyX9_ok 0 (by decide), fun _ => rfl⟩
theorem lX9_16 : Cond.fieldLink RX9 16 "CloneOutliner" "draft" "LCloneOutliner$Tree;" ∈ gT := gT_in (List.mem_append_right _ (List.mem_of_getElem? (i := 250) (by decide +kernel))) (by decide +kernel)
theorem gX9_16 : gFL RX9 16 9 1 := ⟨RX9, TX9, 16, rfl, by decide, uX9, lX9_16⟩
theorem pX9_16 : gFP RX9 16 9 1 (tyX9 1) false := ⟨RX9, TX9, 16, tyX9, rfl, by decide, uX9, tyX9_ok, nmX9, lX9_16, rfl, tyX9_ok 1 (by decide), fun _ => rfl⟩
theorem lX9_19 : Cond.fieldLink RX9 19 "CloneOutliner" "saved" "LCloneOutliner$Tree;" ∈ gT := gT_in (List.mem_append_right _ (List.mem_of_getElem? (i := 251) (by decide +kernel))) (by decide +kernel)
theorem gX9_19 : gFL RX9 19 9 2 := ⟨RX9, TX9, 16, rfl, by decide, uX9, lX9_19⟩
theorem pX9_19 : gFP RX9 19 9 2 (tyX9 2) false := ⟨RX9, TX9, 16, tyX9, rfl, by decide, uX9, tyX9_ok, nmX9, lX9_19, rfl, tyX9_ok 2 (by decide), fun _ => rfl⟩
theorem lX9_25 : Cond.fieldLink RX9 25 "CloneOutliner" "survey" "LCloneOutliner$Survey;" ∈ gT := gT_in (List.mem_append_right _ (List.mem_of_getElem? (i := 252) (by decide +kernel))) (by decide +kernel)
theorem gX9_25 : gFL RX9 25 9 3 := ⟨RX9, TX9, 16, rfl, by decide, uX9, lX9_25⟩
theorem pX9_25 : gFP RX9 25 9 3 (tyX9 3) true := ⟨RX9, TX9, 16, tyX9, rfl, by decide, uX9, tyX9_ok, nmX9, lX9_25, rfl, tyX9_ok 3 (by decide), fun _ => rfl⟩
theorem lX9_29 : Cond.fieldLink RX9 29 "CloneOutliner" "trial" "LCloneOutliner$Survey;" ∈ gT := gT_in (List.mem_append_right _ (List.mem_of_getElem? (i := 253) (by decide +kernel))) (by decide +kernel)
theorem gX9_29 : gFL RX9 29 9 4 := ⟨RX9, TX9, 16, rfl, by decide, uX9, lX9_29⟩
theorem pX9_29 : gFP RX9 29 9 4 (tyX9 4) true := ⟨RX9, TX9, 16, tyX9, rfl, by decide, uX9, tyX9_ok, nmX9, lX9_29, rfl, tyX9_ok 4 (by decide), fun _ => rfl⟩
theorem lX9_35 : Cond.fieldLink RX9 35 "CloneOutliner" "history" "LCloneOutliner$History;" ∈ gT := gT_in (List.mem_append_right _ (List.mem_of_getElem? (i := 254) (by decide +kernel))) (by decide +kernel)
theorem gX9_35 : gFL RX9 35 9 5 := ⟨RX9, TX9, 16, rfl, by decide, uX9, lX9_35⟩
theorem pX9_35 : gFP RX9 35 9 5 (tyX9 5) true := ⟨RX9, TX9, 16, tyX9, rfl, by decide, uX9, tyX9_ok, nmX9, lX9_35, rfl, tyX9_ok 5 (by decide), fun _ => rfl⟩
theorem lX9_42 : Cond.fieldLink RX9 42 "CloneOutliner" "hoists" "LCloneOutliner$Hoists;" ∈ gT := gT_in (List.mem_append_right _ (List.mem_of_getElem? (i := 255) (by decide +kernel))) (by decide +kernel)
theorem gX9_42 : gFL RX9 42 9 6 := ⟨RX9, TX9, 16, rfl, by decide, uX9, lX9_42⟩
theorem pX9_42 : gFP RX9 42 9 6 (tyX9 6) true := ⟨RX9, TX9, 16, tyX9, rfl, by decide, uX9, tyX9_ok, nmX9, lX9_42, rfl, tyX9_ok 6 (by decide), fun _ => rfl⟩
theorem lX9_49 : Cond.fieldLink RX9 49 "CloneOutliner" "conditions" "LCloneOutliner$Conditions;" ∈ gT := gT_in (List.mem_append_right _ (List.mem_of_getElem? (i := 256) (by decide +kernel))) (by decide +kernel)
theorem gX9_49 : gFL RX9 49 9 7 := ⟨RX9, TX9, 16, rfl, by decide, uX9, lX9_49⟩
theorem pX9_49 : gFP RX9 49 9 7 (tyX9 7) false := ⟨RX9, TX9, 16, tyX9, rfl, by decide, uX9, tyX9_ok, nmX9, lX9_49, rfl, tyX9_ok 7 (by decide), fun _ => rfl⟩
theorem lX9_53 : Cond.fieldLink RX9 53 "CloneOutliner" "spareConditions" "LCloneOutliner$Conditions;" ∈ gT := gT_in (List.mem_append_right _ (List.mem_of_getElem? (i := 257) (by decide +kernel))) (by decide +kernel)
theorem gX9_53 : gFL RX9 53 9 8 := ⟨RX9, TX9, 16, rfl, by decide, uX9, lX9_53⟩
theorem pX9_53 : gFP RX9 53 9 8 (tyX9 8) false := ⟨RX9, TX9, 16, tyX9, rfl, by decide, uX9, tyX9_ok, nmX9, lX9_53, rfl, tyX9_ok 8 (by decide), fun _ => rfl⟩
theorem lX9_59 : Cond.fieldLink RX9 59 "CloneOutliner" "lines" "LCloneOutliner$Lines;" ∈ gT := gT_in (List.mem_append_right _ (List.mem_of_getElem? (i := 258) (by decide +kernel))) (by decide +kernel)
theorem gX9_59 : gFL RX9 59 9 9 := ⟨RX9, TX9, 16, rfl, by decide, uX9, lX9_59⟩
theorem pX9_59 : gFP RX9 59 9 9 (tyX9 9) true := ⟨RX9, TX9, 16, tyX9, rfl, by decide, uX9, tyX9_ok, nmX9, lX9_59, rfl, tyX9_ok 9 (by decide), fun _ => rfl⟩
theorem lX9_66 : Cond.fieldLink RX9 66 "CloneOutliner" "text" "LCloneOutliner$Text;" ∈ gT := gT_in (List.mem_append_right _ (List.mem_of_getElem? (i := 259) (by decide +kernel))) (by decide +kernel)
theorem gX9_66 : gFL RX9 66 9 10 := ⟨RX9, TX9, 16, rfl, by decide, uX9, lX9_66⟩
theorem pX9_66 : gFP RX9 66 9 10 (tyX9 10) true := ⟨RX9, TX9, 16, tyX9, rfl, by decide, uX9, tyX9_ok, nmX9, lX9_66, rfl, tyX9_ok 10 (by decide), fun _ => rfl⟩
theorem lX9_73 : Cond.fieldLink RX9 73 "CloneOutliner" "entries" "LCloneOutliner$Entries;" ∈ gT := gT_in (List.mem_append_right _ (List.mem_of_getElem? (i := 260) (by decide +kernel))) (by decide +kernel)
theorem gX9_73 : gFL RX9 73 9 11 := ⟨RX9, TX9, 16, rfl, by decide, uX9, lX9_73⟩
theorem pX9_73 : gFP RX9 73 9 11 (tyX9 11) true := ⟨RX9, TX9, 16, tyX9, rfl, by decide, uX9, tyX9_ok, nmX9, lX9_73, rfl, tyX9_ok 11 (by decide), fun _ => rfl⟩
theorem lX9_80 : Cond.fieldLink RX9 80 "CloneOutliner" "chain" "LCloneOutliner$Chain;" ∈ gT := gT_in (List.mem_append_right _ (List.mem_of_getElem? (i := 261) (by decide +kernel))) (by decide +kernel)
theorem gX9_80 : gFL RX9 80 9 12 := ⟨RX9, TX9, 16, rfl, by decide, uX9, lX9_80⟩
theorem pX9_80 : gFP RX9 80 9 12 (tyX9 12) true := ⟨RX9, TX9, 16, tyX9, rfl, by decide, uX9, tyX9_ok, nmX9, lX9_80, rfl, tyX9_ok 12 (by decide), fun _ => rfl⟩
theorem lX9_84 : Cond.fieldLink RX9 84 "CloneOutliner" "readName" "[C" ∈ gT := gT_in (List.mem_append_right _ (List.mem_of_getElem? (i := 262) (by decide +kernel))) (by decide +kernel)
theorem gX9_84 : gFL RX9 84 9 13 := ⟨RX9, TX9, 16, rfl, by decide, uX9, lX9_84⟩
theorem pX9_84 : gFP RX9 84 9 13 (tyX9 13) true := ⟨RX9, TX9, 16, tyX9, rfl, by decide, uX9, tyX9_ok, nmX9, lX9_84, rfl, tyX9_ok 13 (by decide), fun _ => rfl⟩
theorem lX9_88 : Cond.fieldLink RX9 88 "CloneOutliner" "block" "[I" ∈ gT := gT_in (List.mem_append_right _ (List.mem_of_getElem? (i := 263) (by decide +kernel))) (by decide +kernel)
theorem gX9_88 : gFL RX9 88 9 14 := ⟨RX9, TX9, 16, rfl, by decide, uX9, lX9_88⟩
theorem pX9_88 : gFP RX9 88 9 14 (tyX9 14) true := ⟨RX9, TX9, 16, tyX9, rfl, by decide, uX9, tyX9_ok, nmX9, lX9_88, rfl, tyX9_ok 14 (by decide), fun _ => rfl⟩
theorem lX9_93 : Cond.fieldLink RX9 93 "CloneOutliner" "errorAt" "I" ∈ gT := gT_in (List.mem_append_right _ (List.mem_of_getElem? (i := 264) (by decide +kernel))) (by decide +kernel)
theorem gX9_93 : gFL RX9 93 9 15 := ⟨RX9, TX9, 16, rfl, by decide, uX9, lX9_93⟩
theorem pX9_93 : gFP RX9 93 9 15 (tyX9 15) false := ⟨RX9, TX9, 16, tyX9, rfl, by decide, uX9, tyX9_ok, nmX9, lX9_93, rfl, tyX9_ok 15 (by decide), fun _ => rfl⟩
theorem lX0_9 : Cond.fieldLink RX0 9 "CloneOutliner$Chain" "numbers" "[I" ∈ gT := gT_in (List.mem_append_right _ (List.mem_of_getElem? (i := 241) (by decide +kernel))) (by decide +kernel)
theorem gX0_9 : gFL RX0 9 0 0 := ⟨RX0, TX0, 2, rfl, by decide, uX0, lX0_9⟩
theorem pX0_9 : gFP RX0 9 0 0 (tyX0 0) true := ⟨RX0, TX0, 2, tyX0, rfl, by decide, uX0, tyX0_ok, nmX0, lX0_9, rfl, tyX0_ok 0 (by decide), fun _ => rfl⟩
theorem lX0_15 : Cond.fieldLink RX0 15 "CloneOutliner$Chain" "count" "I" ∈ gT := gT_in (List.mem_append_right _ (List.mem_of_getElem? (i := 242) (by decide +kernel))) (by decide +kernel)
theorem gX0_15 : gFL RX0 15 0 1 := ⟨RX0, TX0, 2, rfl, by decide, uX0, lX0_15⟩
theorem pX0_15 : gFP RX0 15 0 1 (tyX0 1) false := ⟨RX0, TX0, 2, tyX0, rfl, by decide, uX0, tyX0_ok, nmX0, lX0_15, rfl, tyX0_ok 1 (by decide), fun _ => rfl⟩
theorem lX1_9 : Cond.fieldLink RX1 9 "CloneOutliner$Conditions" "kinds" "[I" ∈ gT := gT_in (List.mem_append_right _ (List.mem_of_getElem? (i := 140) (by decide +kernel))) (by decide +kernel)
theorem gX1_9 : gFL RX1 9 1 0 := ⟨RX1, TX1, 6, rfl, by decide, uX1, lX1_9⟩
theorem pX1_9 : gFP RX1 9 1 0 (tyX1 0) true := ⟨RX1, TX1, 6, tyX1, rfl, by decide, uX1, tyX1_ok, nmX1, lX1_9, rfl, tyX1_ok 0 (by decide), fun _ => rfl⟩
theorem lX1_15 : Cond.fieldLink RX1 15 "CloneOutliner$Conditions" "negated" "[Z" ∈ gT := gT_in (List.mem_append_right _ (List.mem_of_getElem? (i := 141) (by decide +kernel))) (by decide +kernel)
theorem gX1_15 : gFL RX1 15 1 1 := ⟨RX1, TX1, 6, rfl, by decide, uX1, lX1_15⟩
theorem pX1_15 : gFP RX1 15 1 1 (tyX1 1) true := ⟨RX1, TX1, 6, tyX1, rfl, by decide, uX1, tyX1_ok, nmX1, lX1_15, rfl, tyX1_ok 1 (by decide), fun _ => rfl⟩
theorem lX1_19 : Cond.fieldLink RX1 19 "CloneOutliner$Conditions" "numbers" "[I" ∈ gT := gT_in (List.mem_append_right _ (List.mem_of_getElem? (i := 142) (by decide +kernel))) (by decide +kernel)
theorem gX1_19 : gFL RX1 19 1 2 := ⟨RX1, TX1, 6, rfl, by decide, uX1, lX1_19⟩
theorem pX1_19 : gFP RX1 19 1 2 (tyX1 2) true := ⟨RX1, TX1, 6, tyX1, rfl, by decide, uX1, tyX1_ok, nmX1, lX1_19, rfl, tyX1_ok 2 (by decide), fun _ => rfl⟩
theorem lX1_22 : Cond.fieldLink RX1 22 "CloneOutliner$Conditions" "letters" "[C" ∈ gT := gT_in (List.mem_append_right _ (List.mem_of_getElem? (i := 143) (by decide +kernel))) (by decide +kernel)
theorem gX1_22 : gFL RX1 22 1 3 := ⟨RX1, TX1, 6, rfl, by decide, uX1, lX1_22⟩
theorem pX1_22 : gFP RX1 22 1 3 (tyX1 3) true := ⟨RX1, TX1, 6, tyX1, rfl, by decide, uX1, tyX1_ok, nmX1, lX1_22, rfl, tyX1_ok 3 (by decide), fun _ => rfl⟩
theorem lX1_26 : Cond.fieldLink RX1 26 "CloneOutliner$Conditions" "letterCounts" "[I" ∈ gT := gT_in (List.mem_append_right _ (List.mem_of_getElem? (i := 144) (by decide +kernel))) (by decide +kernel)
theorem gX1_26 : gFL RX1 26 1 4 := ⟨RX1, TX1, 6, rfl, by decide, uX1, lX1_26⟩
theorem pX1_26 : gFP RX1 26 1 4 (tyX1 4) true := ⟨RX1, TX1, 6, tyX1, rfl, by decide, uX1, tyX1_ok, nmX1, lX1_26, rfl, tyX1_ok 4 (by decide), fun _ => rfl⟩
theorem lX1_29 : Cond.fieldLink RX1 29 "CloneOutliner$Conditions" "count" "I" ∈ gT := gT_in (List.mem_append_right _ (List.mem_of_getElem? (i := 145) (by decide +kernel))) (by decide +kernel)
theorem gX1_29 : gFL RX1 29 1 5 := ⟨RX1, TX1, 6, rfl, by decide, uX1, lX1_29⟩
theorem pX1_29 : gFP RX1 29 1 5 (tyX1 5) false := ⟨RX1, TX1, 6, tyX1, rfl, by decide, uX1, tyX1_ok, nmX1, lX1_29, rfl, tyX1_ok 5 (by decide), fun _ => rfl⟩
theorem lX2_9 : Cond.fieldLink RX2 9 "CloneOutliner$Entries" "levels" "[I" ∈ gT := gT_in (List.mem_append_right _ (List.mem_of_getElem? (i := 207) (by decide +kernel))) (by decide +kernel)
theorem gX2_9 : gFL RX2 9 2 0 := ⟨RX2, TX2, 9, rfl, by decide, uX2, lX2_9⟩
theorem pX2_9 : gFP RX2 9 2 0 (tyX2 0) true := ⟨RX2, TX2, 9, tyX2, rfl, by decide, uX2, tyX2_ok, nmX2, lX2_9, rfl, tyX2_ok 0 (by decide), fun _ => rfl⟩
theorem lX2_15 : Cond.fieldLink RX2 15 "CloneOutliner$Entries" "sources" "[I" ∈ gT := gT_in (List.mem_append_right _ (List.mem_of_getElem? (i := 208) (by decide +kernel))) (by decide +kernel)
theorem gX2_15 : gFL RX2 15 2 1 := ⟨RX2, TX2, 9, rfl, by decide, uX2, lX2_15⟩
theorem pX2_15 : gFP RX2 15 2 1 (tyX2 1) true := ⟨RX2, TX2, 9, tyX2, rfl, by decide, uX2, tyX2_ok, nmX2, lX2_15, rfl, tyX2_ok 1 (by decide), fun _ => rfl⟩
theorem lX2_18 : Cond.fieldLink RX2 18 "CloneOutliner$Entries" "names" "[C" ∈ gT := gT_in (List.mem_append_right _ (List.mem_of_getElem? (i := 209) (by decide +kernel))) (by decide +kernel)
theorem gX2_18 : gFL RX2 18 2 2 := ⟨RX2, TX2, 9, rfl, by decide, uX2, lX2_18⟩
theorem pX2_18 : gFP RX2 18 2 2 (tyX2 2) true := ⟨RX2, TX2, 9, tyX2, rfl, by decide, uX2, tyX2_ok, nmX2, lX2_18, rfl, tyX2_ok 2 (by decide), fun _ => rfl⟩
theorem lX2_22 : Cond.fieldLink RX2 22 "CloneOutliner$Entries" "nameLengths" "[I" ∈ gT := gT_in (List.mem_append_right _ (List.mem_of_getElem? (i := 210) (by decide +kernel))) (by decide +kernel)
theorem gX2_22 : gFL RX2 22 2 3 := ⟨RX2, TX2, 9, rfl, by decide, uX2, lX2_22⟩
theorem pX2_22 : gFP RX2 22 2 3 (tyX2 3) true := ⟨RX2, TX2, 9, tyX2, rfl, by decide, uX2, tyX2_ok, nmX2, lX2_22, rfl, tyX2_ok 3 (by decide), fun _ => rfl⟩
theorem lX2_25 : Cond.fieldLink RX2 25 "CloneOutliner$Entries" "days" "[I" ∈ gT := gT_in (List.mem_append_right _ (List.mem_of_getElem? (i := 211) (by decide +kernel))) (by decide +kernel)
theorem gX2_25 : gFL RX2 25 2 4 := ⟨RX2, TX2, 9, rfl, by decide, uX2, lX2_25⟩
theorem pX2_25 : gFP RX2 25 2 4 (tyX2 4) true := ⟨RX2, TX2, 9, tyX2, rfl, by decide, uX2, tyX2_ok, nmX2, lX2_25, rfl, tyX2_ok 4 (by decide), fun _ => rfl⟩
theorem lX2_28 : Cond.fieldLink RX2 28 "CloneOutliner$Entries" "values" "[I" ∈ gT := gT_in (List.mem_append_right _ (List.mem_of_getElem? (i := 212) (by decide +kernel))) (by decide +kernel)
theorem gX2_28 : gFL RX2 28 2 5 := ⟨RX2, TX2, 9, rfl, by decide, uX2, lX2_28⟩
theorem pX2_28 : gFP RX2 28 2 5 (tyX2 5) true := ⟨RX2, TX2, 9, tyX2, rfl, by decide, uX2, tyX2_ok, nmX2, lX2_28, rfl, tyX2_ok 5 (by decide), fun _ => rfl⟩
theorem lX2_31 : Cond.fieldLink RX2 31 "CloneOutliner$Entries" "done" "[Z" ∈ gT := gT_in (List.mem_append_right _ (List.mem_of_getElem? (i := 213) (by decide +kernel))) (by decide +kernel)
theorem gX2_31 : gFL RX2 31 2 6 := ⟨RX2, TX2, 9, rfl, by decide, uX2, lX2_31⟩
theorem pX2_31 : gFP RX2 31 2 6 (tyX2 6) true := ⟨RX2, TX2, 9, tyX2, rfl, by decide, uX2, tyX2_ok, nmX2, lX2_31, rfl, tyX2_ok 6 (by decide), fun _ => rfl⟩
theorem lX2_35 : Cond.fieldLink RX2 35 "CloneOutliner$Entries" "items" "[I" ∈ gT := gT_in (List.mem_append_right _ (List.mem_of_getElem? (i := 214) (by decide +kernel))) (by decide +kernel)
theorem gX2_35 : gFL RX2 35 2 7 := ⟨RX2, TX2, 9, rfl, by decide, uX2, lX2_35⟩
theorem pX2_35 : gFP RX2 35 2 7 (tyX2 7) true := ⟨RX2, TX2, 9, tyX2, rfl, by decide, uX2, tyX2_ok, nmX2, lX2_35, rfl, tyX2_ok 7 (by decide), fun _ => rfl⟩
theorem lX2_38 : Cond.fieldLink RX2 38 "CloneOutliner$Entries" "count" "I" ∈ gT := gT_in (List.mem_append_right _ (List.mem_of_getElem? (i := 215) (by decide +kernel))) (by decide +kernel)
theorem gX2_38 : gFL RX2 38 2 8 := ⟨RX2, TX2, 9, rfl, by decide, uX2, lX2_38⟩
theorem pX2_38 : gFP RX2 38 2 8 (tyX2 8) false := ⟨RX2, TX2, 9, tyX2, rfl, by decide, uX2, tyX2_ok, nmX2, lX2_38, rfl, tyX2_ok 8 (by decide), fun _ => rfl⟩
theorem lX3_11 : Cond.fieldLink RX3 11 "CloneOutliner$History" "trees" "[LCloneOutliner$Tree;" ∈ gT := gT_in (List.mem_append_right _ (List.mem_of_getElem? (i := 114) (by decide +kernel))) (by decide +kernel)
theorem gX3_11 : gFL RX3 11 3 0 := ⟨RX3, TX3, 2, rfl, by decide, uX3, lX3_11⟩
theorem pX3_11 : gFP RX3 11 3 0 (tyX3 0) true := ⟨RX3, TX3, 2, tyX3, rfl, by decide, uX3, tyX3_ok, nmX3, lX3_11, rfl, tyX3_ok 0 (by decide), fun _ => rfl⟩
theorem lX3_17 : Cond.fieldLink RX3 17 "CloneOutliner$History" "count" "I" ∈ gT := gT_in (List.mem_append_right _ (List.mem_of_getElem? (i := 115) (by decide +kernel))) (by decide +kernel)
theorem gX3_17 : gFL RX3 17 3 1 := ⟨RX3, TX3, 2, rfl, by decide, uX3, lX3_17⟩
theorem pX3_17 : gFP RX3 17 3 1 (tyX3 1) false := ⟨RX3, TX3, 2, tyX3, rfl, by decide, uX3, tyX3_ok, nmX3, lX3_17, rfl, tyX3_ok 1 (by decide), fun _ => rfl⟩
theorem lX4_9 : Cond.fieldLink RX4 9 "CloneOutliner$Hoists" "items" "[I" ∈ gT := gT_in (List.mem_append_right _ (List.mem_of_getElem? (i := 127) (by decide +kernel))) (by decide +kernel)
theorem gX4_9 : gFL RX4 9 4 0 := ⟨RX4, TX4, 2, rfl, by decide, uX4, lX4_9⟩
theorem pX4_9 : gFP RX4 9 4 0 (tyX4 0) true := ⟨RX4, TX4, 2, tyX4, rfl, by decide, uX4, tyX4_ok, nmX4, lX4_9, rfl, tyX4_ok 0 (by decide), fun _ => rfl⟩
theorem lX4_15 : Cond.fieldLink RX4 15 "CloneOutliner$Hoists" "count" "I" ∈ gT := gT_in (List.mem_append_right _ (List.mem_of_getElem? (i := 128) (by decide +kernel))) (by decide +kernel)
theorem gX4_15 : gFL RX4 15 4 1 := ⟨RX4, TX4, 2, rfl, by decide, uX4, lX4_15⟩
theorem pX4_15 : gFP RX4 15 4 1 (tyX4 1) false := ⟨RX4, TX4, 2, tyX4, rfl, by decide, uX4, tyX4_ok, nmX4, lX4_15, rfl, tyX4_ok 1 (by decide), fun _ => rfl⟩
theorem lX5_11 : Cond.fieldLink RX5 11 "CloneOutliner$Lines" "items" "[I" ∈ gT := gT_in (List.mem_append_right _ (List.mem_of_getElem? (i := 166) (by decide +kernel))) (by decide +kernel)
theorem gX5_11 : gFL RX5 11 5 0 := ⟨RX5, TX5, 6, rfl, by decide, uX5, lX5_11⟩
theorem pX5_11 : gFP RX5 11 5 0 (tyX5 0) true := ⟨RX5, TX5, 6, tyX5, rfl, by decide, uX5, tyX5_ok, nmX5, lX5_11, rfl, tyX5_ok 0 (by decide), fun _ => rfl⟩
theorem lX5_15 : Cond.fieldLink RX5 15 "CloneOutliner$Lines" "rowsAbove" "[I" ∈ gT := gT_in (List.mem_append_right _ (List.mem_of_getElem? (i := 167) (by decide +kernel))) (by decide +kernel)
theorem gX5_15 : gFL RX5 15 5 1 := ⟨RX5, TX5, 6, rfl, by decide, uX5, lX5_15⟩
theorem pX5_15 : gFP RX5 15 5 1 (tyX5 1) true := ⟨RX5, TX5, 6, tyX5, rfl, by decide, uX5, tyX5_ok, nmX5, lX5_15, rfl, tyX5_ok 1 (by decide), fun _ => rfl⟩
theorem lX5_18 : Cond.fieldLink RX5 18 "CloneOutliner$Lines" "indexes" "[I" ∈ gT := gT_in (List.mem_append_right _ (List.mem_of_getElem? (i := 168) (by decide +kernel))) (by decide +kernel)
theorem gX5_18 : gFL RX5 18 5 2 := ⟨RX5, TX5, 6, rfl, by decide, uX5, lX5_18⟩
theorem pX5_18 : gFP RX5 18 5 2 (tyX5 2) true := ⟨RX5, TX5, 6, tyX5, rfl, by decide, uX5, tyX5_ok, nmX5, lX5_18, rfl, tyX5_ok 2 (by decide), fun _ => rfl⟩
theorem lX5_21 : Cond.fieldLink RX5 21 "CloneOutliner$Lines" "depths" "[I" ∈ gT := gT_in (List.mem_append_right _ (List.mem_of_getElem? (i := 169) (by decide +kernel))) (by decide +kernel)
theorem gX5_21 : gFL RX5 21 5 3 := ⟨RX5, TX5, 6, rfl, by decide, uX5, lX5_21⟩
theorem pX5_21 : gFP RX5 21 5 3 (tyX5 3) true := ⟨RX5, TX5, 6, tyX5, rfl, by decide, uX5, tyX5_ok, nmX5, lX5_21, rfl, tyX5_ok 3 (by decide), fun _ => rfl⟩
theorem lX5_24 : Cond.fieldLink RX5 24 "CloneOutliner$Lines" "nextIndexes" "[I" ∈ gT := gT_in (List.mem_append_right _ (List.mem_of_getElem? (i := 170) (by decide +kernel))) (by decide +kernel)
theorem gX5_24 : gFL RX5 24 5 4 := ⟨RX5, TX5, 6, rfl, by decide, uX5, lX5_24⟩
theorem pX5_24 : gFP RX5 24 5 4 (tyX5 4) true := ⟨RX5, TX5, 6, tyX5, rfl, by decide, uX5, tyX5_ok, nmX5, lX5_24, rfl, tyX5_ok 4 (by decide), fun _ => rfl⟩
theorem lX5_27 : Cond.fieldLink RX5 27 "CloneOutliner$Lines" "rows" "I" ∈ gT := gT_in (List.mem_append_right _ (List.mem_of_getElem? (i := 171) (by decide +kernel))) (by decide +kernel)
theorem gX5_27 : gFL RX5 27 5 5 := ⟨RX5, TX5, 6, rfl, by decide, uX5, lX5_27⟩
theorem pX5_27 : gFP RX5 27 5 5 (tyX5 5) false := ⟨RX5, TX5, 6, tyX5, rfl, by decide, uX5, tyX5_ok, nmX5, lX5_27, rfl, tyX5_ok 5 (by decide), fun _ => rfl⟩
theorem lX6_9 : Cond.fieldLink RX6 9 "CloneOutliner$Survey" "parentCounts" "[I" ∈ gT := gT_in (List.mem_append_right _ (List.mem_of_getElem? (i := 80) (by decide +kernel))) (by decide +kernel)
theorem gX6_9 : gFL RX6 9 6 0 := ⟨RX6, TX6, 8, rfl, by decide, uX6, lX6_9⟩
theorem pX6_9 : gFP RX6 9 6 0 (tyX6 0) true := ⟨RX6, TX6, 8, tyX6, rfl, by decide, uX6, tyX6_ok, nmX6, lX6_9, rfl, tyX6_ok 0 (by decide), fun _ => rfl⟩
theorem lX6_15 : Cond.fieldLink RX6 15 "CloneOutliner$Survey" "unseenParents" "[I" ∈ gT := gT_in (List.mem_append_right _ (List.mem_of_getElem? (i := 81) (by decide +kernel))) (by decide +kernel)
theorem gX6_15 : gFL RX6 15 6 1 := ⟨RX6, TX6, 8, rfl, by decide, uX6, lX6_15⟩
theorem pX6_15 : gFP RX6 15 6 1 (tyX6 1) true := ⟨RX6, TX6, 8, tyX6, rfl, by decide, uX6, tyX6_ok, nmX6, lX6_15, rfl, tyX6_ok 1 (by decide), fun _ => rfl⟩
theorem lX6_18 : Cond.fieldLink RX6 18 "CloneOutliner$Survey" "order" "[I" ∈ gT := gT_in (List.mem_append_right _ (List.mem_of_getElem? (i := 82) (by decide +kernel))) (by decide +kernel)
theorem gX6_18 : gFL RX6 18 6 2 := ⟨RX6, TX6, 8, rfl, by decide, uX6, lX6_18⟩
theorem pX6_18 : gFP RX6 18 6 2 (tyX6 2) true := ⟨RX6, TX6, 8, tyX6, rfl, by decide, uX6, tyX6_ok, nmX6, lX6_18, rfl, tyX6_ok 2 (by decide), fun _ => rfl⟩
theorem lX6_21 : Cond.fieldLink RX6 21 "CloneOutliner$Survey" "ordered" "I" ∈ gT := gT_in (List.mem_append_right _ (List.mem_of_getElem? (i := 83) (by decide +kernel))) (by decide +kernel)
theorem gX6_21 : gFL RX6 21 6 3 := ⟨RX6, TX6, 8, rfl, by decide, uX6, lX6_21⟩
theorem pX6_21 : gFP RX6 21 6 3 (tyX6 3) false := ⟨RX6, TX6, 8, tyX6, rfl, by decide, uX6, tyX6_ok, nmX6, lX6_21, rfl, tyX6_ok 3 (by decide), fun _ => rfl⟩
theorem lX6_25 : Cond.fieldLink RX6 25 "CloneOutliner$Survey" "places" "[I" ∈ gT := gT_in (List.mem_append_right _ (List.mem_of_getElem? (i := 84) (by decide +kernel))) (by decide +kernel)
theorem gX6_25 : gFL RX6 25 6 4 := ⟨RX6, TX6, 8, rfl, by decide, uX6, lX6_25⟩
theorem pX6_25 : gFP RX6 25 6 4 (tyX6 4) true := ⟨RX6, TX6, 8, tyX6, rfl, by decide, uX6, tyX6_ok, nmX6, lX6_25, rfl, tyX6_ok 4 (by decide), fun _ => rfl⟩
theorem lX6_28 : Cond.fieldLink RX6 28 "CloneOutliner$Survey" "depths" "[I" ∈ gT := gT_in (List.mem_append_right _ (List.mem_of_getElem? (i := 85) (by decide +kernel))) (by decide +kernel)
theorem gX6_28 : gFL RX6 28 6 5 := ⟨RX6, TX6, 8, rfl, by decide, uX6, lX6_28⟩
theorem pX6_28 : gFP RX6 28 6 5 (tyX6 5) true := ⟨RX6, TX6, 8, tyX6, rfl, by decide, uX6, tyX6_ok, nmX6, lX6_28, rfl, tyX6_ok 5 (by decide), fun _ => rfl⟩
theorem lX6_31 : Cond.fieldLink RX6 31 "CloneOutliner$Survey" "below" "[I" ∈ gT := gT_in (List.mem_append_right _ (List.mem_of_getElem? (i := 86) (by decide +kernel))) (by decide +kernel)
theorem gX6_31 : gFL RX6 31 6 6 := ⟨RX6, TX6, 8, rfl, by decide, uX6, lX6_31⟩
theorem pX6_31 : gFP RX6 31 6 6 (tyX6 6) true := ⟨RX6, TX6, 8, tyX6, rfl, by decide, uX6, tyX6_ok, nmX6, lX6_31, rfl, tyX6_ok 6 (by decide), fun _ => rfl⟩
theorem lX6_34 : Cond.fieldLink RX6 34 "CloneOutliner$Survey" "families" "[J" ∈ gT := gT_in (List.mem_append_right _ (List.mem_of_getElem? (i := 87) (by decide +kernel))) (by decide +kernel)
theorem gX6_34 : gFL RX6 34 6 7 := ⟨RX6, TX6, 8, rfl, by decide, uX6, lX6_34⟩
theorem pX6_34 : gFP RX6 34 6 7 (tyX6 7) true := ⟨RX6, TX6, 8, tyX6, rfl, by decide, uX6, tyX6_ok, nmX6, lX6_34, rfl, tyX6_ok 7 (by decide), fun _ => rfl⟩
theorem lX7_9 : Cond.fieldLink RX7 9 "CloneOutliner$Text" "signs" "[C" ∈ gT := gT_in (List.mem_append_right _ (List.mem_of_getElem? (i := 191) (by decide +kernel))) (by decide +kernel)
theorem gX7_9 : gFL RX7 9 7 0 := ⟨RX7, TX7, 3, rfl, by decide, uX7, lX7_9⟩
theorem pX7_9 : gFP RX7 9 7 0 (tyX7 0) true := ⟨RX7, TX7, 3, tyX7, rfl, by decide, uX7, tyX7_ok, nmX7, lX7_9, rfl, tyX7_ok 0 (by decide), fun _ => rfl⟩
theorem lX7_15 : Cond.fieldLink RX7 15 "CloneOutliner$Text" "count" "I" ∈ gT := gT_in (List.mem_append_right _ (List.mem_of_getElem? (i := 192) (by decide +kernel))) (by decide +kernel)
theorem gX7_15 : gFL RX7 15 7 1 := ⟨RX7, TX7, 3, rfl, by decide, uX7, lX7_15⟩
theorem pX7_15 : gFP RX7 15 7 1 (tyX7 1) false := ⟨RX7, TX7, 3, tyX7, rfl, by decide, uX7, tyX7_ok, nmX7, lX7_15, rfl, tyX7_ok 1 (by decide), fun _ => rfl⟩
theorem lX7_19 : Cond.fieldLink RX7 19 "CloneOutliner$Text" "at" "I" ∈ gT := gT_in (List.mem_append_right _ (List.mem_of_getElem? (i := 193) (by decide +kernel))) (by decide +kernel)
theorem gX7_19 : gFL RX7 19 7 2 := ⟨RX7, TX7, 3, rfl, by decide, uX7, lX7_19⟩
theorem pX7_19 : gFP RX7 19 7 2 (tyX7 2) false := ⟨RX7, TX7, 3, tyX7, rfl, by decide, uX7, tyX7_ok, nmX7, lX7_19, rfl, tyX7_ok 2 (by decide), fun _ => rfl⟩
theorem lX8_9 : Cond.fieldLink RX8 9 "CloneOutliner$Tree" "childCounts" "[I" ∈ gT := gT_in (List.mem_append_right _ (List.mem_of_getElem? (i := 41) (by decide +kernel))) (by decide +kernel)
theorem gX8_9 : gFL RX8 9 8 0 := ⟨RX8, TX8, 10, rfl, by decide, uX8, lX8_9⟩
theorem pX8_9 : gFP RX8 9 8 0 (tyX8 0) true := ⟨RX8, TX8, 10, tyX8, rfl, by decide, uX8, tyX8_ok, nmX8, lX8_9, rfl, tyX8_ok 0 (by decide), fun _ => rfl⟩
theorem lX8_15 : Cond.fieldLink RX8 15 "CloneOutliner$Tree" "children" "[I" ∈ gT := gT_in (List.mem_append_right _ (List.mem_of_getElem? (i := 42) (by decide +kernel))) (by decide +kernel)
theorem gX8_15 : gFL RX8 15 8 1 := ⟨RX8, TX8, 10, rfl, by decide, uX8, lX8_15⟩
theorem pX8_15 : gFP RX8 15 8 1 (tyX8 1) true := ⟨RX8, TX8, 10, tyX8, rfl, by decide, uX8, tyX8_ok, nmX8, lX8_15, rfl, tyX8_ok 1 (by decide), fun _ => rfl⟩
theorem lX8_18 : Cond.fieldLink RX8 18 "CloneOutliner$Tree" "nameLengths" "[I" ∈ gT := gT_in (List.mem_append_right _ (List.mem_of_getElem? (i := 43) (by decide +kernel))) (by decide +kernel)
theorem gX8_18 : gFL RX8 18 8 2 := ⟨RX8, TX8, 10, rfl, by decide, uX8, lX8_18⟩
theorem pX8_18 : gFP RX8 18 8 2 (tyX8 2) true := ⟨RX8, TX8, 10, tyX8, rfl, by decide, uX8, tyX8_ok, nmX8, lX8_18, rfl, tyX8_ok 2 (by decide), fun _ => rfl⟩
theorem lX8_21 : Cond.fieldLink RX8 21 "CloneOutliner$Tree" "names" "[C" ∈ gT := gT_in (List.mem_append_right _ (List.mem_of_getElem? (i := 44) (by decide +kernel))) (by decide +kernel)
theorem gX8_21 : gFL RX8 21 8 3 := ⟨RX8, TX8, 10, rfl, by decide, uX8, lX8_21⟩
theorem pX8_21 : gFP RX8 21 8 3 (tyX8 3) true := ⟨RX8, TX8, 10, tyX8, rfl, by decide, uX8, tyX8_ok, nmX8, lX8_21, rfl, tyX8_ok 3 (by decide), fun _ => rfl⟩
theorem lX8_25 : Cond.fieldLink RX8 25 "CloneOutliner$Tree" "values" "[I" ∈ gT := gT_in (List.mem_append_right _ (List.mem_of_getElem? (i := 45) (by decide +kernel))) (by decide +kernel)
theorem gX8_25 : gFL RX8 25 8 4 := ⟨RX8, TX8, 10, rfl, by decide, uX8, lX8_25⟩
theorem pX8_25 : gFP RX8 25 8 4 (tyX8 4) true := ⟨RX8, TX8, 10, tyX8, rfl, by decide, uX8, tyX8_ok, nmX8, lX8_25, rfl, tyX8_ok 4 (by decide), fun _ => rfl⟩
theorem lX8_28 : Cond.fieldLink RX8 28 "CloneOutliner$Tree" "days" "[I" ∈ gT := gT_in (List.mem_append_right _ (List.mem_of_getElem? (i := 46) (by decide +kernel))) (by decide +kernel)
theorem gX8_28 : gFL RX8 28 8 5 := ⟨RX8, TX8, 10, rfl, by decide, uX8, lX8_28⟩
theorem pX8_28 : gFP RX8 28 8 5 (tyX8 5) true := ⟨RX8, TX8, 10, tyX8, rfl, by decide, uX8, tyX8_ok, nmX8, lX8_28, rfl, tyX8_ok 5 (by decide), fun _ => rfl⟩
theorem lX8_31 : Cond.fieldLink RX8 31 "CloneOutliner$Tree" "present" "J" ∈ gT := gT_in (List.mem_append_right _ (List.mem_of_getElem? (i := 47) (by decide +kernel))) (by decide +kernel)
theorem gX8_31 : gFL RX8 31 8 6 := ⟨RX8, TX8, 10, rfl, by decide, uX8, lX8_31⟩
theorem pX8_31 : gFP RX8 31 8 6 (tyX8 6) false := ⟨RX8, TX8, 10, tyX8, rfl, by decide, uX8, tyX8_ok, nmX8, lX8_31, rfl, tyX8_ok 6 (by decide), fun _ => rfl⟩
theorem lX8_35 : Cond.fieldLink RX8 35 "CloneOutliner$Tree" "done" "J" ∈ gT := gT_in (List.mem_append_right _ (List.mem_of_getElem? (i := 48) (by decide +kernel))) (by decide +kernel)
theorem gX8_35 : gFL RX8 35 8 7 := ⟨RX8, TX8, 10, rfl, by decide, uX8, lX8_35⟩
theorem pX8_35 : gFP RX8 35 8 7 (tyX8 7) false := ⟨RX8, TX8, 10, tyX8, rfl, by decide, uX8, tyX8_ok, nmX8, lX8_35, rfl, tyX8_ok 7 (by decide), fun _ => rfl⟩
theorem lX8_38 : Cond.fieldLink RX8 38 "CloneOutliner$Tree" "folded" "J" ∈ gT := gT_in (List.mem_append_right _ (List.mem_of_getElem? (i := 49) (by decide +kernel))) (by decide +kernel)
theorem gX8_38 : gFL RX8 38 8 8 := ⟨RX8, TX8, 10, rfl, by decide, uX8, lX8_38⟩
theorem pX8_38 : gFP RX8 38 8 8 (tyX8 8) false := ⟨RX8, TX8, 10, tyX8, rfl, by decide, uX8, tyX8_ok, nmX8, lX8_38, rfl, tyX8_ok 8 (by decide), fun _ => rfl⟩
theorem lX8_41 : Cond.fieldLink RX8 41 "CloneOutliner$Tree" "added" "I" ∈ gT := gT_in (List.mem_append_right _ (List.mem_of_getElem? (i := 50) (by decide +kernel))) (by decide +kernel)
theorem gX8_41 : gFL RX8 41 8 9 := ⟨RX8, TX8, 10, rfl, by decide, uX8, lX8_41⟩
theorem pX8_41 : gFP RX8 41 8 9 (tyX8 9) false := ⟨RX8, TX8, 10, tyX8, rfl, by decide, uX8, tyX8_ok, nmX8, lX8_41, rfl, tyX8_ok 9 (by decide), fun _ => rfl⟩
theorem lX10_7 : Cond.fieldLink RX10 7 "CloneOutlinerModel" "s" "[I" ∈ gT := gT_in (List.mem_append_right _ (List.mem_of_getElem? (i := 1294) (by decide +kernel))) (by decide +kernel)
theorem gX10_7 : gFL RX10 7 10 1 := ⟨RX10, TX10, 55, rfl, by decide, uX10, lX10_7⟩
theorem pX10_7 : gFP RX10 7 10 1 (tyX10 1) true := ⟨RX10, TX10, 55, tyX10, rfl, by decide, uX10, tyX10_ok, nmX10, lX10_7, rfl, tyX10_ok 1 (by decide), fun _ => rfl⟩
theorem lX10_13 : Cond.fieldLink RX10 13 "CloneOutlinerModel" "saved" "[I" ∈ gT := gT_in (List.mem_append_right _ (List.mem_of_getElem? (i := 1295) (by decide +kernel))) (by decide +kernel)
theorem gX10_13 : gFL RX10 13 10 2 := ⟨RX10, TX10, 55, rfl, by decide, uX10, lX10_13⟩
theorem pX10_13 : gFP RX10 13 10 2 (tyX10 2) true := ⟨RX10, TX10, 55, tyX10, rfl, by decide, uX10, tyX10_ok, nmX10, lX10_13, rfl, tyX10_ok 2 (by decide), fun _ => rfl⟩
theorem lX10_16 : Cond.fieldLink RX10 16 "CloneOutlinerModel" "frame" "[I" ∈ gT := gT_in (List.mem_append_right _ (List.mem_of_getElem? (i := 1296) (by decide +kernel))) (by decide +kernel)
theorem gX10_16 : gFL RX10 16 10 3 := ⟨RX10, TX10, 55, rfl, by decide, uX10, lX10_16⟩
theorem pX10_16 : gFP RX10 16 10 3 (tyX10 3) true := ⟨RX10, TX10, 55, tyX10, rfl, by decide, uX10, tyX10_ok, nmX10, lX10_16, rfl, tyX10_ok 3 (by decide), fun _ => rfl⟩
theorem lX10_19 : Cond.fieldLink RX10 19 "CloneOutlinerModel" "history" "[I" ∈ gT := gT_in (List.mem_append_right _ (List.mem_of_getElem? (i := 1297) (by decide +kernel))) (by decide +kernel)
theorem gX10_19 : gFL RX10 19 10 4 := ⟨RX10, TX10, 55, rfl, by decide, uX10, lX10_19⟩
theorem pX10_19 : gFP RX10 19 10 4 (tyX10 4) true := ⟨RX10, TX10, 55, tyX10, rfl, by decide, uX10, tyX10_ok, nmX10, lX10_19, rfl, tyX10_ok 4 (by decide), fun _ => rfl⟩
theorem lX10_22 : Cond.fieldLink RX10 22 "CloneOutlinerModel" "hoists" "[I" ∈ gT := gT_in (List.mem_append_right _ (List.mem_of_getElem? (i := 1300) (by decide +kernel))) (by decide +kernel)
theorem gX10_22 : gFL RX10 22 10 7 := ⟨RX10, TX10, 55, rfl, by decide, uX10, lX10_22⟩
theorem pX10_22 : gFP RX10 22 10 7 (tyX10 7) true := ⟨RX10, TX10, 55, tyX10, rfl, by decide, uX10, tyX10_ok, nmX10, lX10_22, rfl, tyX10_ok 7 (by decide), fun _ => rfl⟩
theorem lX10_25 : Cond.fieldLink RX10 25 "CloneOutlinerModel" "text" "[I" ∈ gT := gT_in (List.mem_append_right _ (List.mem_of_getElem? (i := 1302) (by decide +kernel))) (by decide +kernel)
theorem gX10_25 : gFL RX10 25 10 9 := ⟨RX10, TX10, 55, rfl, by decide, uX10, lX10_25⟩
theorem pX10_25 : gFP RX10 25 10 9 (tyX10 9) true := ⟨RX10, TX10, 55, tyX10, rfl, by decide, uX10, tyX10_ok, nmX10, lX10_25, rfl, tyX10_ok 9 (by decide), fun _ => rfl⟩
theorem lX10_28 : Cond.fieldLink RX10 28 "CloneOutlinerModel" "errorAt" "I" ∈ gT := gT_in (List.mem_append_right _ (List.mem_of_getElem? (i := 1304) (by decide +kernel))) (by decide +kernel)
theorem gX10_28 : gFL RX10 28 10 11 := ⟨RX10, TX10, 55, rfl, by decide, uX10, lX10_28⟩
theorem pX10_28 : gFP RX10 28 10 11 (tyX10 11) false := ⟨RX10, TX10, 55, tyX10, rfl, by decide, uX10, tyX10_ok, nmX10, lX10_28, rfl, tyX10_ok 11 (by decide), fun _ => rfl⟩
theorem lX10_32 : Cond.fieldLink RX10 32 "CloneOutlinerModel" "chain" "[I" ∈ gT := gT_in (List.mem_append_right _ (List.mem_of_getElem? (i := 1305) (by decide +kernel))) (by decide +kernel)
theorem gX10_32 : gFL RX10 32 10 12 := ⟨RX10, TX10, 55, rfl, by decide, uX10, lX10_32⟩
theorem pX10_32 : gFP RX10 32 10 12 (tyX10 12) true := ⟨RX10, TX10, 55, tyX10, rfl, by decide, uX10, tyX10_ok, nmX10, lX10_32, rfl, tyX10_ok 12 (by decide), fun _ => rfl⟩
theorem lX10_35 : Cond.fieldLink RX10 35 "CloneOutlinerModel" "order" "[I" ∈ gT := gT_in (List.mem_append_right _ (List.mem_of_getElem? (i := 1307) (by decide +kernel))) (by decide +kernel)
theorem gX10_35 : gFL RX10 35 10 14 := ⟨RX10, TX10, 55, rfl, by decide, uX10, lX10_35⟩
theorem pX10_35 : gFP RX10 35 10 14 (tyX10 14) true := ⟨RX10, TX10, 55, tyX10, rfl, by decide, uX10, tyX10_ok, nmX10, lX10_35, rfl, tyX10_ok 14 (by decide), fun _ => rfl⟩
theorem lX10_38 : Cond.fieldLink RX10 38 "CloneOutlinerModel" "waiting" "[I" ∈ gT := gT_in (List.mem_append_right _ (List.mem_of_getElem? (i := 1308) (by decide +kernel))) (by decide +kernel)
theorem gX10_38 : gFL RX10 38 10 15 := ⟨RX10, TX10, 55, rfl, by decide, uX10, lX10_38⟩
theorem pX10_38 : gFP RX10 38 10 15 (tyX10 15) true := ⟨RX10, TX10, 55, tyX10, rfl, by decide, uX10, tyX10_ok, nmX10, lX10_38, rfl, tyX10_ok 15 (by decide), fun _ => rfl⟩
theorem lX10_41 : Cond.fieldLink RX10 41 "CloneOutlinerModel" "places" "[I" ∈ gT := gT_in (List.mem_append_right _ (List.mem_of_getElem? (i := 1309) (by decide +kernel))) (by decide +kernel)
theorem gX10_41 : gFL RX10 41 10 16 := ⟨RX10, TX10, 55, rfl, by decide, uX10, lX10_41⟩
theorem pX10_41 : gFP RX10 41 10 16 (tyX10 16) true := ⟨RX10, TX10, 55, tyX10, rfl, by decide, uX10, tyX10_ok, nmX10, lX10_41, rfl, tyX10_ok 16 (by decide), fun _ => rfl⟩
theorem lX10_44 : Cond.fieldLink RX10 44 "CloneOutlinerModel" "ways" "[I" ∈ gT := gT_in (List.mem_append_right _ (List.mem_of_getElem? (i := 1310) (by decide +kernel))) (by decide +kernel)
theorem gX10_44 : gFL RX10 44 10 17 := ⟨RX10, TX10, 55, rfl, by decide, uX10, lX10_44⟩
theorem pX10_44 : gFP RX10 44 10 17 (tyX10 17) true := ⟨RX10, TX10, 55, tyX10, rfl, by decide, uX10, tyX10_ok, nmX10, lX10_44, rfl, tyX10_ok 17 (by decide), fun _ => rfl⟩
theorem lX10_47 : Cond.fieldLink RX10 47 "CloneOutlinerModel" "steps" "[I" ∈ gT := gT_in (List.mem_append_right _ (List.mem_of_getElem? (i := 1311) (by decide +kernel))) (by decide +kernel)
theorem gX10_47 : gFL RX10 47 10 18 := ⟨RX10, TX10, 55, rfl, by decide, uX10, lX10_47⟩
theorem pX10_47 : gFP RX10 47 10 18 (tyX10 18) true := ⟨RX10, TX10, 55, tyX10, rfl, by decide, uX10, tyX10_ok, nmX10, lX10_47, rfl, tyX10_ok 18 (by decide), fun _ => rfl⟩
theorem lX10_50 : Cond.fieldLink RX10 50 "CloneOutlinerModel" "below" "[J" ∈ gT := gT_in (List.mem_append_right _ (List.mem_of_getElem? (i := 1312) (by decide +kernel))) (by decide +kernel)
theorem gX10_50 : gFL RX10 50 10 19 := ⟨RX10, TX10, 55, rfl, by decide, uX10, lX10_50⟩
theorem pX10_50 : gFP RX10 50 10 19 (tyX10 19) true := ⟨RX10, TX10, 55, tyX10, rfl, by decide, uX10, tyX10_ok, nmX10, lX10_50, rfl, tyX10_ok 19 (by decide), fun _ => rfl⟩
theorem lX10_54 : Cond.fieldLink RX10 54 "CloneOutlinerModel" "block" "[I" ∈ gT := gT_in (List.mem_append_right _ (List.mem_of_getElem? (i := 1317) (by decide +kernel))) (by decide +kernel)
theorem gX10_54 : gFL RX10 54 10 24 := ⟨RX10, TX10, 55, rfl, by decide, uX10, lX10_54⟩
theorem pX10_54 : gFP RX10 54 10 24 (tyX10 24) true := ⟨RX10, TX10, 55, tyX10, rfl, by decide, uX10, tyX10_ok, nmX10, lX10_54, rfl, tyX10_ok 24 (by decide), fun _ => rfl⟩
theorem lX10_57 : Cond.fieldLink RX10 57 "CloneOutlinerModel" "sorts" "[I" ∈ gT := gT_in (List.mem_append_right _ (List.mem_of_getElem? (i := 1318) (by decide +kernel))) (by decide +kernel)
theorem gX10_57 : gFL RX10 57 10 25 := ⟨RX10, TX10, 55, rfl, by decide, uX10, lX10_57⟩
theorem pX10_57 : gFP RX10 57 10 25 (tyX10 25) true := ⟨RX10, TX10, 55, tyX10, rfl, by decide, uX10, tyX10_ok, nmX10, lX10_57, rfl, tyX10_ok 25 (by decide), fun _ => rfl⟩
theorem lX10_60 : Cond.fieldLink RX10 60 "CloneOutlinerModel" "numbers" "[I" ∈ gT := gT_in (List.mem_append_right _ (List.mem_of_getElem? (i := 1319) (by decide +kernel))) (by decide +kernel)
theorem gX10_60 : gFL RX10 60 10 26 := ⟨RX10, TX10, 55, rfl, by decide, uX10, lX10_60⟩
theorem pX10_60 : gFP RX10 60 10 26 (tyX10 26) true := ⟨RX10, TX10, 55, tyX10, rfl, by decide, uX10, tyX10_ok, nmX10, lX10_60, rfl, tyX10_ok 26 (by decide), fun _ => rfl⟩
theorem lX10_63 : Cond.fieldLink RX10 63 "CloneOutlinerModel" "sizes" "[I" ∈ gT := gT_in (List.mem_append_right _ (List.mem_of_getElem? (i := 1320) (by decide +kernel))) (by decide +kernel)
theorem gX10_63 : gFL RX10 63 10 27 := ⟨RX10, TX10, 55, rfl, by decide, uX10, lX10_63⟩
theorem pX10_63 : gFP RX10 63 10 27 (tyX10 27) true := ⟨RX10, TX10, 55, tyX10, rfl, by decide, uX10, tyX10_ok, nmX10, lX10_63, rfl, tyX10_ok 27 (by decide), fun _ => rfl⟩
theorem lX10_66 : Cond.fieldLink RX10 66 "CloneOutlinerModel" "signs" "[I" ∈ gT := gT_in (List.mem_append_right _ (List.mem_of_getElem? (i := 1321) (by decide +kernel))) (by decide +kernel)
theorem gX10_66 : gFL RX10 66 10 28 := ⟨RX10, TX10, 55, rfl, by decide, uX10, lX10_66⟩
theorem pX10_66 : gFP RX10 66 10 28 (tyX10 28) true := ⟨RX10, TX10, 55, tyX10, rfl, by decide, uX10, tyX10_ok, nmX10, lX10_66, rfl, tyX10_ok 28 (by decide), fun _ => rfl⟩
theorem lX10_69 : Cond.fieldLink RX10 69 "CloneOutlinerModel" "turned" "[Z" ∈ gT := gT_in (List.mem_append_right _ (List.mem_of_getElem? (i := 1322) (by decide +kernel))) (by decide +kernel)
theorem gX10_69 : gFL RX10 69 10 29 := ⟨RX10, TX10, 55, rfl, by decide, uX10, lX10_69⟩
theorem pX10_69 : gFP RX10 69 10 29 (tyX10 29) true := ⟨RX10, TX10, 55, tyX10, rfl, by decide, uX10, tyX10_ok, nmX10, lX10_69, rfl, tyX10_ok 29 (by decide), fun _ => rfl⟩
theorem lX10_73 : Cond.fieldLink RX10 73 "CloneOutlinerModel" "newSorts" "[I" ∈ gT := gT_in (List.mem_append_right _ (List.mem_of_getElem? (i := 1324) (by decide +kernel))) (by decide +kernel)
theorem gX10_73 : gFL RX10 73 10 31 := ⟨RX10, TX10, 55, rfl, by decide, uX10, lX10_73⟩
theorem pX10_73 : gFP RX10 73 10 31 (tyX10 31) true := ⟨RX10, TX10, 55, tyX10, rfl, by decide, uX10, tyX10_ok, nmX10, lX10_73, rfl, tyX10_ok 31 (by decide), fun _ => rfl⟩
theorem lX10_76 : Cond.fieldLink RX10 76 "CloneOutlinerModel" "newNumbers" "[I" ∈ gT := gT_in (List.mem_append_right _ (List.mem_of_getElem? (i := 1325) (by decide +kernel))) (by decide +kernel)
theorem gX10_76 : gFL RX10 76 10 32 := ⟨RX10, TX10, 55, rfl, by decide, uX10, lX10_76⟩
theorem pX10_76 : gFP RX10 76 10 32 (tyX10 32) true := ⟨RX10, TX10, 55, tyX10, rfl, by decide, uX10, tyX10_ok, nmX10, lX10_76, rfl, tyX10_ok 32 (by decide), fun _ => rfl⟩
theorem lX10_79 : Cond.fieldLink RX10 79 "CloneOutlinerModel" "newSizes" "[I" ∈ gT := gT_in (List.mem_append_right _ (List.mem_of_getElem? (i := 1326) (by decide +kernel))) (by decide +kernel)
theorem gX10_79 : gFL RX10 79 10 33 := ⟨RX10, TX10, 55, rfl, by decide, uX10, lX10_79⟩
theorem pX10_79 : gFP RX10 79 10 33 (tyX10 33) true := ⟨RX10, TX10, 55, tyX10, rfl, by decide, uX10, tyX10_ok, nmX10, lX10_79, rfl, tyX10_ok 33 (by decide), fun _ => rfl⟩
theorem lX10_82 : Cond.fieldLink RX10 82 "CloneOutlinerModel" "newSigns" "[I" ∈ gT := gT_in (List.mem_append_right _ (List.mem_of_getElem? (i := 1327) (by decide +kernel))) (by decide +kernel)
theorem gX10_82 : gFL RX10 82 10 34 := ⟨RX10, TX10, 55, rfl, by decide, uX10, lX10_82⟩
theorem pX10_82 : gFP RX10 82 10 34 (tyX10 34) true := ⟨RX10, TX10, 55, tyX10, rfl, by decide, uX10, tyX10_ok, nmX10, lX10_82, rfl, tyX10_ok 34 (by decide), fun _ => rfl⟩
theorem lX10_85 : Cond.fieldLink RX10 85 "CloneOutlinerModel" "newTurned" "[Z" ∈ gT := gT_in (List.mem_append_right _ (List.mem_of_getElem? (i := 1328) (by decide +kernel))) (by decide +kernel)
theorem gX10_85 : gFL RX10 85 10 35 := ⟨RX10, TX10, 55, rfl, by decide, uX10, lX10_85⟩
theorem pX10_85 : gFP RX10 85 10 35 (tyX10 35) true := ⟨RX10, TX10, 55, tyX10, rfl, by decide, uX10, tyX10_ok, nmX10, lX10_85, rfl, tyX10_ok 35 (by decide), fun _ => rfl⟩
theorem lX10_88 : Cond.fieldLink RX10 88 "CloneOutlinerModel" "lineItem" "[I" ∈ gT := gT_in (List.mem_append_right _ (List.mem_of_getElem? (i := 1330) (by decide +kernel))) (by decide +kernel)
theorem gX10_88 : gFL RX10 88 10 37 := ⟨RX10, TX10, 55, rfl, by decide, uX10, lX10_88⟩
theorem pX10_88 : gFP RX10 88 10 37 (tyX10 37) true := ⟨RX10, TX10, 55, tyX10, rfl, by decide, uX10, tyX10_ok, nmX10, lX10_88, rfl, tyX10_ok 37 (by decide), fun _ => rfl⟩
theorem lX10_91 : Cond.fieldLink RX10 91 "CloneOutlinerModel" "lineDepth" "[I" ∈ gT := gT_in (List.mem_append_right _ (List.mem_of_getElem? (i := 1331) (by decide +kernel))) (by decide +kernel)
theorem gX10_91 : gFL RX10 91 10 38 := ⟨RX10, TX10, 55, rfl, by decide, uX10, lX10_91⟩
theorem pX10_91 : gFP RX10 91 10 38 (tyX10 38) true := ⟨RX10, TX10, 55, tyX10, rfl, by decide, uX10, tyX10_ok, nmX10, lX10_91, rfl, tyX10_ok 38 (by decide), fun _ => rfl⟩
theorem lX10_94 : Cond.fieldLink RX10 94 "CloneOutlinerModel" "lineAbove" "[I" ∈ gT := gT_in (List.mem_append_right _ (List.mem_of_getElem? (i := 1332) (by decide +kernel))) (by decide +kernel)
theorem gX10_94 : gFL RX10 94 10 39 := ⟨RX10, TX10, 55, rfl, by decide, uX10, lX10_94⟩
theorem pX10_94 : gFP RX10 94 10 39 (tyX10 39) true := ⟨RX10, TX10, 55, tyX10, rfl, by decide, uX10, tyX10_ok, nmX10, lX10_94, rfl, tyX10_ok 39 (by decide), fun _ => rfl⟩
theorem lX10_97 : Cond.fieldLink RX10 97 "CloneOutlinerModel" "lineIndex" "[I" ∈ gT := gT_in (List.mem_append_right _ (List.mem_of_getElem? (i := 1333) (by decide +kernel))) (by decide +kernel)
theorem gX10_97 : gFL RX10 97 10 40 := ⟨RX10, TX10, 55, rfl, by decide, uX10, lX10_97⟩
theorem pX10_97 : gFP RX10 97 10 40 (tyX10 40) true := ⟨RX10, TX10, 55, tyX10, rfl, by decide, uX10, tyX10_ok, nmX10, lX10_97, rfl, tyX10_ok 40 (by decide), fun _ => rfl⟩
theorem lX10_100 : Cond.fieldLink RX10 100 "CloneOutlinerModel" "stackItem" "[I" ∈ gT := gT_in (List.mem_append_right _ (List.mem_of_getElem? (i := 1335) (by decide +kernel))) (by decide +kernel)
theorem gX10_100 : gFL RX10 100 10 42 := ⟨RX10, TX10, 55, rfl, by decide, uX10, lX10_100⟩
theorem pX10_100 : gFP RX10 100 10 42 (tyX10 42) true := ⟨RX10, TX10, 55, tyX10, rfl, by decide, uX10, tyX10_ok, nmX10, lX10_100, rfl, tyX10_ok 42 (by decide), fun _ => rfl⟩
theorem lX10_103 : Cond.fieldLink RX10 103 "CloneOutlinerModel" "stackIndex" "[I" ∈ gT := gT_in (List.mem_append_right _ (List.mem_of_getElem? (i := 1336) (by decide +kernel))) (by decide +kernel)
theorem gX10_103 : gFL RX10 103 10 43 := ⟨RX10, TX10, 55, rfl, by decide, uX10, lX10_103⟩
theorem pX10_103 : gFP RX10 103 10 43 (tyX10 43) true := ⟨RX10, TX10, 55, tyX10, rfl, by decide, uX10, tyX10_ok, nmX10, lX10_103, rfl, tyX10_ok 43 (by decide), fun _ => rfl⟩
theorem lX10_106 : Cond.fieldLink RX10 106 "CloneOutlinerModel" "wayThere" "[I" ∈ gT := gT_in (List.mem_append_right _ (List.mem_of_getElem? (i := 1337) (by decide +kernel))) (by decide +kernel)
theorem gX10_106 : gFL RX10 106 10 44 := ⟨RX10, TX10, 55, rfl, by decide, uX10, lX10_106⟩
theorem pX10_106 : gFP RX10 106 10 44 (tyX10 44) true := ⟨RX10, TX10, 55, tyX10, rfl, by decide, uX10, tyX10_ok, nmX10, lX10_106, rfl, tyX10_ok 44 (by decide), fun _ => rfl⟩
theorem lX10_109 : Cond.fieldLink RX10 109 "CloneOutlinerModel" "signsOut" "[I" ∈ gT := gT_in (List.mem_append_right _ (List.mem_of_getElem? (i := 1338) (by decide +kernel))) (by decide +kernel)
theorem gX10_109 : gFL RX10 109 10 45 := ⟨RX10, TX10, 55, rfl, by decide, uX10, lX10_109⟩
theorem pX10_109 : gFP RX10 109 10 45 (tyX10 45) true := ⟨RX10, TX10, 55, tyX10, rfl, by decide, uX10, tyX10_ok, nmX10, lX10_109, rfl, tyX10_ok 45 (by decide), fun _ => rfl⟩
theorem lX10_112 : Cond.fieldLink RX10 112 "CloneOutlinerModel" "levels" "[I" ∈ gT := gT_in (List.mem_append_right _ (List.mem_of_getElem? (i := 1339) (by decide +kernel))) (by decide +kernel)
theorem gX10_112 : gFL RX10 112 10 46 := ⟨RX10, TX10, 55, rfl, by decide, uX10, lX10_112⟩
theorem pX10_112 : gFP RX10 112 10 46 (tyX10 46) true := ⟨RX10, TX10, 55, tyX10, rfl, by decide, uX10, tyX10_ok, nmX10, lX10_112, rfl, tyX10_ok 46 (by decide), fun _ => rfl⟩
theorem lX10_115 : Cond.fieldLink RX10 115 "CloneOutlinerModel" "nameFrom" "[I" ∈ gT := gT_in (List.mem_append_right _ (List.mem_of_getElem? (i := 1340) (by decide +kernel))) (by decide +kernel)
theorem gX10_115 : gFL RX10 115 10 47 := ⟨RX10, TX10, 55, rfl, by decide, uX10, lX10_115⟩
theorem pX10_115 : gFP RX10 115 10 47 (tyX10 47) true := ⟨RX10, TX10, 55, tyX10, rfl, by decide, uX10, tyX10_ok, nmX10, lX10_115, rfl, tyX10_ok 47 (by decide), fun _ => rfl⟩
theorem lX10_118 : Cond.fieldLink RX10 118 "CloneOutlinerModel" "nameTo" "[I" ∈ gT := gT_in (List.mem_append_right _ (List.mem_of_getElem? (i := 1341) (by decide +kernel))) (by decide +kernel)
theorem gX10_118 : gFL RX10 118 10 48 := ⟨RX10, TX10, 55, rfl, by decide, uX10, lX10_118⟩
theorem pX10_118 : gFP RX10 118 10 48 (tyX10 48) true := ⟨RX10, TX10, 55, tyX10, rfl, by decide, uX10, tyX10_ok, nmX10, lX10_118, rfl, tyX10_ok 48 (by decide), fun _ => rfl⟩
theorem lX10_121 : Cond.fieldLink RX10 121 "CloneOutlinerModel" "days" "[I" ∈ gT := gT_in (List.mem_append_right _ (List.mem_of_getElem? (i := 1342) (by decide +kernel))) (by decide +kernel)
theorem gX10_121 : gFL RX10 121 10 49 := ⟨RX10, TX10, 55, rfl, by decide, uX10, lX10_121⟩
theorem pX10_121 : gFP RX10 121 10 49 (tyX10 49) true := ⟨RX10, TX10, 55, tyX10, rfl, by decide, uX10, tyX10_ok, nmX10, lX10_121, rfl, tyX10_ok 49 (by decide), fun _ => rfl⟩
theorem lX10_124 : Cond.fieldLink RX10 124 "CloneOutlinerModel" "values" "[I" ∈ gT := gT_in (List.mem_append_right _ (List.mem_of_getElem? (i := 1343) (by decide +kernel))) (by decide +kernel)
theorem gX10_124 : gFL RX10 124 10 50 := ⟨RX10, TX10, 55, rfl, by decide, uX10, lX10_124⟩
theorem pX10_124 : gFP RX10 124 10 50 (tyX10 50) true := ⟨RX10, TX10, 55, tyX10, rfl, by decide, uX10, tyX10_ok, nmX10, lX10_124, rfl, tyX10_ok 50 (by decide), fun _ => rfl⟩
theorem lX10_127 : Cond.fieldLink RX10 127 "CloneOutlinerModel" "marks" "[I" ∈ gT := gT_in (List.mem_append_right _ (List.mem_of_getElem? (i := 1344) (by decide +kernel))) (by decide +kernel)
theorem gX10_127 : gFL RX10 127 10 51 := ⟨RX10, TX10, 55, rfl, by decide, uX10, lX10_127⟩
theorem pX10_127 : gFP RX10 127 10 51 (tyX10 51) true := ⟨RX10, TX10, 55, tyX10, rfl, by decide, uX10, tyX10_ok, nmX10, lX10_127, rfl, tyX10_ok 51 (by decide), fun _ => rfl⟩
theorem lX10_130 : Cond.fieldLink RX10 130 "CloneOutlinerModel" "clones" "[I" ∈ gT := gT_in (List.mem_append_right _ (List.mem_of_getElem? (i := 1345) (by decide +kernel))) (by decide +kernel)
theorem gX10_130 : gFL RX10 130 10 52 := ⟨RX10, TX10, 55, rfl, by decide, uX10, lX10_130⟩
theorem pX10_130 : gFP RX10 130 10 52 (tyX10 52) true := ⟨RX10, TX10, 55, tyX10, rfl, by decide, uX10, tyX10_ok, nmX10, lX10_130, rfl, tyX10_ok 52 (by decide), fun _ => rfl⟩
theorem lX10_133 : Cond.fieldLink RX10 133 "CloneOutlinerModel" "made" "[I" ∈ gT := gT_in (List.mem_append_right _ (List.mem_of_getElem? (i := 1346) (by decide +kernel))) (by decide +kernel)
theorem gX10_133 : gFL RX10 133 10 53 := ⟨RX10, TX10, 55, rfl, by decide, uX10, lX10_133⟩
theorem pX10_133 : gFP RX10 133 10 53 (tyX10 53) true := ⟨RX10, TX10, 55, tyX10, rfl, by decide, uX10, tyX10_ok, nmX10, lX10_133, rfl, tyX10_ok 53 (by decide), fun _ => rfl⟩
theorem lX10_139 : Cond.fieldLink RX10 139 "CloneOutlinerModel" "thrown" "I" ∈ gT := gT_in (List.mem_append_right _ (List.mem_of_getElem? (i := 1293) (by decide +kernel))) (by decide +kernel)
theorem gX10_139 : gFL RX10 139 10 0 := ⟨RX10, TX10, 55, rfl, by decide, uX10, lX10_139⟩
theorem pX10_139 : gFP RX10 139 10 0 (tyX10 0) false := ⟨RX10, TX10, 55, tyX10, rfl, by decide, uX10, tyX10_ok, nmX10, lX10_139, rfl, tyX10_ok 0 (by decide), fun _ => rfl⟩
theorem lX10_154 : Cond.fieldLink RX10 154 "CloneOutlinerModel" "hoisted" "I" ∈ gT := gT_in (List.mem_append_right _ (List.mem_of_getElem? (i := 1301) (by decide +kernel))) (by decide +kernel)
theorem gX10_154 : gFL RX10 154 10 8 := ⟨RX10, TX10, 55, rfl, by decide, uX10, lX10_154⟩
theorem pX10_154 : gFP RX10 154 10 8 (tyX10 8) false := ⟨RX10, TX10, 55, tyX10, rfl, by decide, uX10, tyX10_ok, nmX10, lX10_154, rfl, tyX10_ok 8 (by decide), fun _ => rfl⟩
theorem lX10_157 : Cond.fieldLink RX10 157 "CloneOutlinerModel" "kept" "I" ∈ gT := gT_in (List.mem_append_right _ (List.mem_of_getElem? (i := 1298) (by decide +kernel))) (by decide +kernel)
theorem gX10_157 : gFL RX10 157 10 5 := ⟨RX10, TX10, 55, rfl, by decide, uX10, lX10_157⟩
theorem pX10_157 : gFP RX10 157 10 5 (tyX10 5) false := ⟨RX10, TX10, 55, tyX10, rfl, by decide, uX10, tyX10_ok, nmX10, lX10_157, rfl, tyX10_ok 5 (by decide), fun _ => rfl⟩
theorem lX10_163 : Cond.fieldLink RX10 163 "CloneOutlinerModel" "ordered" "I" ∈ gT := gT_in (List.mem_append_right _ (List.mem_of_getElem? (i := 1313) (by decide +kernel))) (by decide +kernel)
theorem gX10_163 : gFL RX10 163 10 20 := ⟨RX10, TX10, 55, rfl, by decide, uX10, lX10_163⟩
theorem pX10_163 : gFP RX10 163 10 20 (tyX10 20) false := ⟨RX10, TX10, 55, tyX10, rfl, by decide, uX10, tyX10_ok, nmX10, lX10_163, rfl, tyX10_ok 20 (by decide), fun _ => rfl⟩
theorem lX10_183 : Cond.fieldLink RX10 183 "CloneOutlinerModel" "chained" "I" ∈ gT := gT_in (List.mem_append_right _ (List.mem_of_getElem? (i := 1306) (by decide +kernel))) (by decide +kernel)
theorem gX10_183 : gFL RX10 183 10 13 := ⟨RX10, TX10, 55, rfl, by decide, uX10, lX10_183⟩
theorem pX10_183 : gFP RX10 183 10 13 (tyX10 13) false := ⟨RX10, TX10, 55, tyX10, rfl, by decide, uX10, tyX10_ok, nmX10, lX10_183, rfl, tyX10_ok 13 (by decide), fun _ => rfl⟩
theorem lX10_193 : Cond.fieldLink RX10 193 "CloneOutlinerModel" "conditions" "I" ∈ gT := gT_in (List.mem_append_right _ (List.mem_of_getElem? (i := 1323) (by decide +kernel))) (by decide +kernel)
theorem gX10_193 : gFL RX10 193 10 30 := ⟨RX10, TX10, 55, rfl, by decide, uX10, lX10_193⟩
theorem pX10_193 : gFP RX10 193 10 30 (tyX10 30) false := ⟨RX10, TX10, 55, tyX10, rfl, by decide, uX10, tyX10_ok, nmX10, lX10_193, rfl, tyX10_ok 30 (by decide), fun _ => rfl⟩
theorem lX10_196 : Cond.fieldLink RX10 196 "CloneOutlinerModel" "length" "I" ∈ gT := gT_in (List.mem_append_right _ (List.mem_of_getElem? (i := 1303) (by decide +kernel))) (by decide +kernel)
theorem gX10_196 : gFL RX10 196 10 10 := ⟨RX10, TX10, 55, rfl, by decide, uX10, lX10_196⟩
theorem pX10_196 : gFP RX10 196 10 10 (tyX10 10) false := ⟨RX10, TX10, 55, tyX10, rfl, by decide, uX10, tyX10_ok, nmX10, lX10_196, rfl, tyX10_ok 10 (by decide), fun _ => rfl⟩
theorem lX10_199 : Cond.fieldLink RX10 199 "CloneOutlinerModel" "spot" "I" ∈ gT := gT_in (List.mem_append_right _ (List.mem_of_getElem? (i := 1314) (by decide +kernel))) (by decide +kernel)
theorem gX10_199 : gFL RX10 199 10 21 := ⟨RX10, TX10, 55, rfl, by decide, uX10, lX10_199⟩
theorem pX10_199 : gFP RX10 199 10 21 (tyX10 21) false := ⟨RX10, TX10, 55, tyX10, rfl, by decide, uX10, tyX10_ok, nmX10, lX10_199, rfl, tyX10_ok 21 (by decide), fun _ => rfl⟩
theorem lX10_202 : Cond.fieldLink RX10 202 "CloneOutlinerModel" "end" "I" ∈ gT := gT_in (List.mem_append_right _ (List.mem_of_getElem? (i := 1315) (by decide +kernel))) (by decide +kernel)
theorem gX10_202 : gFL RX10 202 10 22 := ⟨RX10, TX10, 55, rfl, by decide, uX10, lX10_202⟩
theorem pX10_202 : gFP RX10 202 10 22 (tyX10 22) false := ⟨RX10, TX10, 55, tyX10, rfl, by decide, uX10, tyX10_ok, nmX10, lX10_202, rfl, tyX10_ok 22 (by decide), fun _ => rfl⟩
theorem lX10_205 : Cond.fieldLink RX10 205 "CloneOutlinerModel" "isRight" "Z" ∈ gT := gT_in (List.mem_append_right _ (List.mem_of_getElem? (i := 1316) (by decide +kernel))) (by decide +kernel)
theorem gX10_205 : gFL RX10 205 10 23 := ⟨RX10, TX10, 55, rfl, by decide, uX10, lX10_205⟩
theorem pX10_205 : gFP RX10 205 10 23 (tyX10 23) false := ⟨RX10, TX10, 55, tyX10, rfl, by decide, uX10, tyX10_ok, nmX10, lX10_205, rfl, tyX10_ok 23 (by decide), fun _ => rfl⟩
theorem lX10_260 : Cond.fieldLink RX10 260 "CloneOutlinerModel" "lineMany" "I" ∈ gT := gT_in (List.mem_append_right _ (List.mem_of_getElem? (i := 1334) (by decide +kernel))) (by decide +kernel)
theorem gX10_260 : gFL RX10 260 10 41 := ⟨RX10, TX10, 55, rfl, by decide, uX10, lX10_260⟩
theorem pX10_260 : gFP RX10 260 10 41 (tyX10 41) false := ⟨RX10, TX10, 55, tyX10, rfl, by decide, uX10, tyX10_ok, nmX10, lX10_260, rfl, tyX10_ok 41 (by decide), fun _ => rfl⟩
theorem lX10_330 : Cond.fieldLink RX10 330 "CloneOutlinerModel" "read" "I" ∈ gT := gT_in (List.mem_append_right _ (List.mem_of_getElem? (i := 1329) (by decide +kernel))) (by decide +kernel)
theorem gX10_330 : gFL RX10 330 10 36 := ⟨RX10, TX10, 55, rfl, by decide, uX10, lX10_330⟩
theorem pX10_330 : gFP RX10 330 10 36 (tyX10 36) false := ⟨RX10, TX10, 55, tyX10, rfl, by decide, uX10, tyX10_ok, nmX10, lX10_330, rfl, tyX10_ok 36 (by decide), fun _ => rfl⟩
theorem lX10_348 : Cond.fieldLink RX10 348 "CloneOutlinerModel" "entries" "I" ∈ gT := gT_in (List.mem_append_right _ (List.mem_of_getElem? (i := 1347) (by decide +kernel))) (by decide +kernel)
theorem gX10_348 : gFL RX10 348 10 54 := ⟨RX10, TX10, 55, rfl, by decide, uX10, lX10_348⟩
theorem pX10_348 : gFP RX10 348 10 54 (tyX10 54) false := ⟨RX10, TX10, 55, tyX10, rfl, by decide, uX10, tyX10_ok, nmX10, lX10_348, rfl, tyX10_ok 54 (by decide), fun _ => rfl⟩
theorem lX10_366 : Cond.fieldLink RX10 366 "CloneOutlinerModel" "hasSaved" "Z" ∈ gT := gT_in (List.mem_append_right _ (List.mem_of_getElem? (i := 1299) (by decide +kernel))) (by decide +kernel)
theorem gX10_366 : gFL RX10 366 10 6 := ⟨RX10, TX10, 55, rfl, by decide, uX10, lX10_366⟩
theorem pX10_366 : gFP RX10 366 10 6 (tyX10 6) false := ⟨RX10, TX10, 55, tyX10, rfl, by decide, uX10, tyX10_ok, nmX10, lX10_366, rfl, tyX10_ok 6 (by decide), fun _ => rfl⟩
theorem nX9_9 : Cond.classLink RX9 9 RX8 ∈ gT ∧ Cond.instantiable RX8 10 ∈ gT ∧ Cond.initialized RX8 ∈ gT := ⟨gT_in (List.mem_append_right _ (List.mem_of_getElem? (i := 35) (by decide +kernel))) (by decide +kernel), gT_in (List.mem_append_right _ (List.mem_of_getElem? (i := 36) (by decide +kernel))) (by decide +kernel), gT_in (List.mem_append_right _ (List.mem_of_getElem? (i := 2) (by decide +kernel))) (by decide +kernel)⟩
theorem nX9_22 : Cond.classLink RX9 22 RX6 ∈ gT ∧ Cond.instantiable RX6 8 ∈ gT ∧ Cond.initialized RX6 ∈ gT := ⟨gT_in (List.mem_append_right _ (List.mem_of_getElem? (i := 74) (by decide +kernel))) (by decide +kernel), gT_in (List.mem_append_right _ (List.mem_of_getElem? (i := 75) (by decide +kernel))) (by decide +kernel), gT_in (List.mem_append_right _ (List.mem_of_getElem? (i := 3) (by decide +kernel))) (by decide +kernel)⟩
theorem nX9_32 : Cond.classLink RX9 32 RX3 ∈ gT ∧ Cond.instantiable RX3 2 ∈ gT ∧ Cond.initialized RX3 ∈ gT := ⟨gT_in (List.mem_append_right _ (List.mem_of_getElem? (i := 106) (by decide +kernel))) (by decide +kernel), gT_in (List.mem_append_right _ (List.mem_of_getElem? (i := 107) (by decide +kernel))) (by decide +kernel), gT_in (List.mem_append_right _ (List.mem_of_getElem? (i := 4) (by decide +kernel))) (by decide +kernel)⟩
theorem nX9_39 : Cond.classLink RX9 39 RX4 ∈ gT ∧ Cond.instantiable RX4 2 ∈ gT ∧ Cond.initialized RX4 ∈ gT := ⟨gT_in (List.mem_append_right _ (List.mem_of_getElem? (i := 121) (by decide +kernel))) (by decide +kernel), gT_in (List.mem_append_right _ (List.mem_of_getElem? (i := 122) (by decide +kernel))) (by decide +kernel), gT_in (List.mem_append_right _ (List.mem_of_getElem? (i := 5) (by decide +kernel))) (by decide +kernel)⟩
theorem nX9_46 : Cond.classLink RX9 46 RX1 ∈ gT ∧ Cond.instantiable RX1 6 ∈ gT ∧ Cond.initialized RX1 ∈ gT := ⟨gT_in (List.mem_append_right _ (List.mem_of_getElem? (i := 134) (by decide +kernel))) (by decide +kernel), gT_in (List.mem_append_right _ (List.mem_of_getElem? (i := 135) (by decide +kernel))) (by decide +kernel), gT_in (List.mem_append_right _ (List.mem_of_getElem? (i := 6) (by decide +kernel))) (by decide +kernel)⟩
theorem nX9_56 : Cond.classLink RX9 56 RX5 ∈ gT ∧ Cond.instantiable RX5 6 ∈ gT ∧ Cond.initialized RX5 ∈ gT := ⟨gT_in (List.mem_append_right _ (List.mem_of_getElem? (i := 160) (by decide +kernel))) (by decide +kernel), gT_in (List.mem_append_right _ (List.mem_of_getElem? (i := 161) (by decide +kernel))) (by decide +kernel), gT_in (List.mem_append_right _ (List.mem_of_getElem? (i := 7) (by decide +kernel))) (by decide +kernel)⟩
theorem nX9_63 : Cond.classLink RX9 63 RX7 ∈ gT ∧ Cond.instantiable RX7 3 ∈ gT ∧ Cond.initialized RX7 ∈ gT := ⟨gT_in (List.mem_append_right _ (List.mem_of_getElem? (i := 185) (by decide +kernel))) (by decide +kernel), gT_in (List.mem_append_right _ (List.mem_of_getElem? (i := 186) (by decide +kernel))) (by decide +kernel), gT_in (List.mem_append_right _ (List.mem_of_getElem? (i := 8) (by decide +kernel))) (by decide +kernel)⟩
theorem nX9_70 : Cond.classLink RX9 70 RX2 ∈ gT ∧ Cond.instantiable RX2 9 ∈ gT ∧ Cond.initialized RX2 ∈ gT := ⟨gT_in (List.mem_append_right _ (List.mem_of_getElem? (i := 201) (by decide +kernel))) (by decide +kernel), gT_in (List.mem_append_right _ (List.mem_of_getElem? (i := 202) (by decide +kernel))) (by decide +kernel), gT_in (List.mem_append_right _ (List.mem_of_getElem? (i := 9) (by decide +kernel))) (by decide +kernel)⟩
theorem nX9_77 : Cond.classLink RX9 77 RX0 ∈ gT ∧ Cond.instantiable RX0 2 ∈ gT ∧ Cond.initialized RX0 ∈ gT := ⟨gT_in (List.mem_append_right _ (List.mem_of_getElem? (i := 235) (by decide +kernel))) (by decide +kernel), gT_in (List.mem_append_right _ (List.mem_of_getElem? (i := 236) (by decide +kernel))) (by decide +kernel), gT_in (List.mem_append_right _ (List.mem_of_getElem? (i := 10) (by decide +kernel))) (by decide +kernel)⟩
theorem nX9_114 : Cond.classLink RX9 114 "java/lang/IllegalArgumentException" ∈ gT ∧ Cond.initialized "java/lang/IllegalArgumentException" ∈ gT := ⟨gT_in (List.mem_append_right _ (List.mem_of_getElem? (i := 546) (by decide +kernel))) (by decide +kernel), gT_in (List.mem_append_right _ (List.mem_of_getElem? (i := 17) (by decide +kernel))) (by decide +kernel)⟩
theorem nX9_125 : Cond.classLink RX9 125 "java/lang/IllegalStateException" ∈ gT ∧ Cond.initialized "java/lang/IllegalStateException" ∈ gT := ⟨gT_in (List.mem_append_right _ (List.mem_of_getElem? (i := 620) (by decide +kernel))) (by decide +kernel), gT_in (List.mem_append_right _ (List.mem_of_getElem? (i := 18) (by decide +kernel))) (by decide +kernel)⟩
theorem nX9_160 : Cond.classLink RX9 160 "java/lang/UnsupportedOperationException" ∈ gT ∧ Cond.initialized "java/lang/UnsupportedOperationException" ∈ gT := ⟨gT_in (List.mem_append_right _ (List.mem_of_getElem? (i := 741) (by decide +kernel))) (by decide +kernel), gT_in (List.mem_append_right _ (List.mem_of_getElem? (i := 21) (by decide +kernel))) (by decide +kernel)⟩
theorem nX9_206 : Cond.classLink RX9 206 "java/lang/IndexOutOfBoundsException" ∈ gT ∧ Cond.initialized "java/lang/IndexOutOfBoundsException" ∈ gT := ⟨gT_in (List.mem_append_right _ (List.mem_of_getElem? (i := 680) (by decide +kernel))) (by decide +kernel), gT_in (List.mem_append_right _ (List.mem_of_getElem? (i := 20) (by decide +kernel))) (by decide +kernel)⟩
theorem nX9_404 : Cond.classLink RX9 404 "java/util/NoSuchElementException" ∈ gT ∧ Cond.initialized "java/util/NoSuchElementException" ∈ gT := ⟨gT_in (List.mem_append_right _ (List.mem_of_getElem? (i := 659) (by decide +kernel))) (by decide +kernel), gT_in (List.mem_append_right _ (List.mem_of_getElem? (i := 19) (by decide +kernel))) (by decide +kernel)⟩
theorem nX3_9 : Cond.classLink RX3 9 RX8 ∈ gT ∧ Cond.instantiable RX8 10 ∈ gT ∧ Cond.initialized RX8 ∈ gT := ⟨gT_in (List.mem_append_right _ (List.mem_of_getElem? (i := 112) (by decide +kernel))) (by decide +kernel), gT_in (List.mem_append_right _ (List.mem_of_getElem? (i := 36) (by decide +kernel))) (by decide +kernel), gT_in (List.mem_append_right _ (List.mem_of_getElem? (i := 2) (by decide +kernel))) (by decide +kernel)⟩
theorem nL_8 : Cond.classLink RL 8 RX9 ∈ gT ∧ Cond.instantiable RX9 16 ∈ gT ∧ Cond.initialized RX9 ∈ gT := ⟨gT_in (List.mem_append_right _ (List.mem_of_getElem? (i := 27) (by decide +kernel))) (by decide +kernel), gT_in (List.mem_append_right _ (List.mem_of_getElem? (i := 28) (by decide +kernel))) (by decide +kernel), gT_in (List.mem_append_right _ (List.mem_of_getElem? (i := 1) (by decide +kernel))) (by decide +kernel)⟩
theorem nL_13 : Cond.classLink RL 13 "java/lang/IllegalArgumentException" ∈ gT ∧ Cond.initialized "java/lang/IllegalArgumentException" ∈ gT := ⟨gT_in (List.mem_append_right _ (List.mem_of_getElem? (i := 540) (by decide +kernel))) (by decide +kernel), gT_in (List.mem_append_right _ (List.mem_of_getElem? (i := 17) (by decide +kernel))) (by decide +kernel)⟩
theorem nL_15 : Cond.classLink RL 15 "java/lang/IllegalStateException" ∈ gT ∧ Cond.initialized "java/lang/IllegalStateException" ∈ gT := ⟨gT_in (List.mem_append_right _ (List.mem_of_getElem? (i := 541) (by decide +kernel))) (by decide +kernel), gT_in (List.mem_append_right _ (List.mem_of_getElem? (i := 18) (by decide +kernel))) (by decide +kernel)⟩
theorem nL_21 : Cond.classLink RL 21 "java/util/NoSuchElementException" ∈ gT ∧ Cond.initialized "java/util/NoSuchElementException" ∈ gT := ⟨gT_in (List.mem_append_right _ (List.mem_of_getElem? (i := 647) (by decide +kernel))) (by decide +kernel), gT_in (List.mem_append_right _ (List.mem_of_getElem? (i := 19) (by decide +kernel))) (by decide +kernel)⟩
theorem nL_23 : Cond.classLink RL 23 "java/lang/IndexOutOfBoundsException" ∈ gT ∧ Cond.initialized "java/lang/IndexOutOfBoundsException" ∈ gT := ⟨gT_in (List.mem_append_right _ (List.mem_of_getElem? (i := 648) (by decide +kernel))) (by decide +kernel), gT_in (List.mem_append_right _ (List.mem_of_getElem? (i := 20) (by decide +kernel))) (by decide +kernel)⟩
theorem nL_25 : Cond.classLink RL 25 "java/lang/UnsupportedOperationException" ∈ gT ∧ Cond.initialized "java/lang/UnsupportedOperationException" ∈ gT := ⟨gT_in (List.mem_append_right _ (List.mem_of_getElem? (i := 649) (by decide +kernel))) (by decide +kernel), gT_in (List.mem_append_right _ (List.mem_of_getElem? (i := 21) (by decide +kernel))) (by decide +kernel)⟩
theorem nL_113 : Cond.classLink RL 113 RX10 ∈ gT ∧ Cond.instantiable RX10 55 ∈ gT ∧ Cond.initialized RX10 ∈ gT := ⟨gT_in (List.mem_append_right _ (List.mem_of_getElem? (i := 1283) (by decide +kernel))) (by decide +kernel), gT_in (List.mem_append_right _ (List.mem_of_getElem? (i := 1284) (by decide +kernel))) (by decide +kernel), gT_in (List.mem_append_right _ (List.mem_of_getElem? (i := 11) (by decide +kernel))) (by decide +kernel)⟩
