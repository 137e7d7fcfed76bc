/-! ===== the words of the classes that the worlds hold ===== -/
theorem cw_0_0 : u_lay (vRn 0) (vTb 0) 0 ∈ TBL := TBL_tb (List.mem_append_left _ (List.mem_of_getElem? (i := 66) rfl)) rfl
theorem cw_0_1 : u_lay (vRn 0) (vTb 0) 1 ∈ TBL := TBL_tb (List.mem_append_left _ (List.mem_of_getElem? (i := 62) rfl)) rfl
theorem cw_0_2 : u_lay (vRn 0) (vTb 0) 2 ∈ TBL := TBL_tb (List.mem_append_left _ (List.mem_of_getElem? (i := 64) rfl)) rfl
theorem cw_0 : ∀ w ∈ u_ws (vRn 0) (vTb 0) (vnn 0), w ∈ TBL := by
  intro w hw
  obtain ⟨k, hk, rfl⟩ := List.mem_map.mp hw
  have hk : k < 3 := List.mem_range.mp hk
  match k, hk with
  | 0, _ => exact cw_0_0
  | 1, _ => exact cw_0_1
  | 2, _ => exact cw_0_2
  | k + 3, hk => exact absurd hk (by omega)
theorem cw_1_0 : u_lay (vRn 1) (vTb 1) 0 ∈ TBL := TBL_tb (List.mem_append_left _ (List.mem_of_getElem? (i := 85) rfl)) rfl
theorem cw_1_1 : u_lay (vRn 1) (vTb 1) 1 ∈ TBL := TBL_tb (List.mem_append_left _ (List.mem_of_getElem? (i := 87) rfl)) rfl
theorem cw_1_2 : u_lay (vRn 1) (vTb 1) 2 ∈ TBL := TBL_tb (List.mem_append_left _ (List.mem_of_getElem? (i := 89) rfl)) rfl
theorem cw_1_3 : u_lay (vRn 1) (vTb 1) 3 ∈ TBL := TBL_tb (List.mem_append_left _ (List.mem_of_getElem? (i := 91) rfl)) rfl
theorem cw_1 : ∀ w ∈ u_ws (vRn 1) (vTb 1) (vnn 1), w ∈ TBL := by
  intro w hw
  obtain ⟨k, hk, rfl⟩ := List.mem_map.mp hw
  have hk : k < 4 := List.mem_range.mp hk
  match k, hk with
  | 0, _ => exact cw_1_0
  | 1, _ => exact cw_1_1
  | 2, _ => exact cw_1_2
  | 3, _ => exact cw_1_3
  | k + 4, hk => exact absurd hk (by omega)
theorem cw_2_0 : u_lay (vRn 2) (vTb 2) 0 ∈ TBL := TBL_tb (List.mem_append_right _ (List.mem_append_right _ (List.mem_append_right _ (List.mem_append_left _ (List.mem_of_getElem? (i := 105) rfl))))) rfl
theorem cw_2_1 : u_lay (vRn 2) (vTb 2) 1 ∈ TBL := TBL_tb (List.mem_append_right _ (List.mem_append_right _ (List.mem_append_right _ (List.mem_append_left _ (List.mem_of_getElem? (i := 107) rfl))))) rfl
theorem cw_2_2 : u_lay (vRn 2) (vTb 2) 2 ∈ TBL := TBL_tb (List.mem_append_right _ (List.mem_append_right _ (List.mem_append_right _ (List.mem_append_left _ (List.mem_of_getElem? (i := 109) rfl))))) rfl
theorem cw_2 : ∀ w ∈ u_ws (vRn 2) (vTb 2) (vnn 2), w ∈ TBL := by
  intro w hw
  obtain ⟨k, hk, rfl⟩ := List.mem_map.mp hw
  have hk : k < 3 := List.mem_range.mp hk
  match k, hk with
  | 0, _ => exact cw_2_0
  | 1, _ => exact cw_2_1
  | 2, _ => exact cw_2_2
  | k + 3, hk => exact absurd hk (by omega)
theorem cw_3_0 : u_lay (vRn 3) (vTb 3) 0 ∈ TBL := TBL_tb (List.mem_append_right _ (List.mem_append_right _ (List.mem_append_right _ (List.mem_append_left _ (List.mem_of_getElem? (i := 156) rfl))))) rfl
theorem cw_3_1 : u_lay (vRn 3) (vTb 3) 1 ∈ TBL := TBL_tb (List.mem_append_right _ (List.mem_append_right _ (List.mem_append_right _ (List.mem_append_left _ (List.mem_of_getElem? (i := 158) rfl))))) rfl
theorem cw_3_2 : u_lay (vRn 3) (vTb 3) 2 ∈ TBL := TBL_tb (List.mem_append_right _ (List.mem_append_right _ (List.mem_append_right _ (List.mem_append_left _ (List.mem_of_getElem? (i := 160) rfl))))) rfl
theorem cw_3_3 : u_lay (vRn 3) (vTb 3) 3 ∈ TBL := TBL_tb (List.mem_append_right _ (List.mem_append_right _ (List.mem_append_right _ (List.mem_append_left _ (List.mem_of_getElem? (i := 162) rfl))))) rfl
theorem cw_3_4 : u_lay (vRn 3) (vTb 3) 4 ∈ TBL := TBL_tb (List.mem_append_right _ (List.mem_append_right _ (List.mem_append_right _ (List.mem_append_left _ (List.mem_of_getElem? (i := 164) rfl))))) rfl
theorem cw_3 : ∀ w ∈ u_ws (vRn 3) (vTb 3) (vnn 3), w ∈ TBL := by
  intro w hw
  obtain ⟨k, hk, rfl⟩ := List.mem_map.mp hw
  have hk : k < 5 := List.mem_range.mp hk
  match k, hk with
  | 0, _ => exact cw_3_0
  | 1, _ => exact cw_3_1
  | 2, _ => exact cw_3_2
  | 3, _ => exact cw_3_3
  | 4, _ => exact cw_3_4
  | k + 5, hk => exact absurd hk (by omega)
theorem cw_4_0 : u_lay (vRn 4) (vTb 4) 0 ∈ TBL := TBL_tb (List.mem_append_left _ (List.mem_of_getElem? (i := 114) rfl)) rfl
theorem cw_4_1 : u_lay (vRn 4) (vTb 4) 1 ∈ TBL := TBL_tb (List.mem_append_left _ (List.mem_of_getElem? (i := 116) rfl)) rfl
theorem cw_4_2 : u_lay (vRn 4) (vTb 4) 2 ∈ TBL := TBL_tb (List.mem_append_left _ (List.mem_of_getElem? (i := 118) rfl)) rfl
theorem cw_4_3 : u_lay (vRn 4) (vTb 4) 3 ∈ TBL := TBL_tb (List.mem_append_left _ (List.mem_of_getElem? (i := 120) rfl)) rfl
theorem cw_4_4 : u_lay (vRn 4) (vTb 4) 4 ∈ TBL := TBL_tb (List.mem_append_left _ (List.mem_of_getElem? (i := 122) rfl)) rfl
theorem cw_4_5 : u_lay (vRn 4) (vTb 4) 5 ∈ TBL := TBL_tb (List.mem_append_left _ (List.mem_of_getElem? (i := 124) rfl)) rfl
theorem cw_4_6 : u_lay (vRn 4) (vTb 4) 6 ∈ TBL := TBL_tb (List.mem_append_left _ (List.mem_of_getElem? (i := 126) rfl)) rfl
theorem cw_4_7 : u_lay (vRn 4) (vTb 4) 7 ∈ TBL := TBL_tb (List.mem_append_left _ (List.mem_of_getElem? (i := 128) rfl)) rfl
theorem cw_4_8 : u_lay (vRn 4) (vTb 4) 8 ∈ TBL := TBL_tb (List.mem_append_left _ (List.mem_of_getElem? (i := 130) rfl)) rfl
theorem cw_4 : ∀ w ∈ u_ws (vRn 4) (vTb 4) (vnn 4), w ∈ TBL := by
  intro w hw
  obtain ⟨k, hk, rfl⟩ := List.mem_map.mp hw
  have hk : k < 9 := List.mem_range.mp hk
  match k, hk with
  | 0, _ => exact cw_4_0
  | 1, _ => exact cw_4_1
  | 2, _ => exact cw_4_2
  | 3, _ => exact cw_4_3
  | 4, _ => exact cw_4_4
  | 5, _ => exact cw_4_5
  | 6, _ => exact cw_4_6
  | 7, _ => exact cw_4_7
  | 8, _ => exact cw_4_8
  | k + 9, hk => exact absurd hk (by omega)
theorem cw_5_0 : u_lay (vRn 5) (vTb 5) 0 ∈ TBL := TBL_tb (List.mem_append_right _ (List.mem_append_left _ (List.mem_of_getElem? (i := 215) rfl))) rfl
theorem cw_5_1 : u_lay (vRn 5) (vTb 5) 1 ∈ TBL := TBL_tb (List.mem_append_right _ (List.mem_append_left _ (List.mem_of_getElem? (i := 217) rfl))) rfl
theorem cw_5_2 : u_lay (vRn 5) (vTb 5) 2 ∈ TBL := TBL_tb (List.mem_append_right _ (List.mem_append_left _ (List.mem_of_getElem? (i := 219) rfl))) rfl
theorem cw_5 : ∀ w ∈ u_ws (vRn 5) (vTb 5) (vnn 5), w ∈ TBL := by
  intro w hw
  obtain ⟨k, hk, rfl⟩ := List.mem_map.mp hw
  have hk : k < 3 := List.mem_range.mp hk
  match k, hk with
  | 0, _ => exact cw_5_0
  | 1, _ => exact cw_5_1
  | 2, _ => exact cw_5_2
  | k + 3, hk => exact absurd hk (by omega)
theorem cw_6_0 : u_lay (vRn 6) (vTb 6) 0 ∈ TBL := TBL_tb (List.mem_append_right _ (List.mem_append_right _ (List.mem_append_left _ (List.mem_of_getElem? (i := 196) rfl)))) rfl
theorem cw_6_1 : u_lay (vRn 6) (vTb 6) 1 ∈ TBL := TBL_tb (List.mem_append_right _ (List.mem_append_right _ (List.mem_append_left _ (List.mem_of_getElem? (i := 198) rfl)))) rfl
theorem cw_6_2 : u_lay (vRn 6) (vTb 6) 2 ∈ TBL := TBL_tb (List.mem_append_right _ (List.mem_append_right _ (List.mem_append_left _ (List.mem_of_getElem? (i := 200) rfl)))) rfl
theorem cw_6_3 : u_lay (vRn 6) (vTb 6) 3 ∈ TBL := TBL_tb (List.mem_append_right _ (List.mem_append_right _ (List.mem_append_left _ (List.mem_of_getElem? (i := 202) rfl)))) rfl
theorem cw_6 : ∀ w ∈ u_ws (vRn 6) (vTb 6) (vnn 6), w ∈ TBL := by
  intro w hw
  obtain ⟨k, hk, rfl⟩ := List.mem_map.mp hw
  have hk : k < 4 := List.mem_range.mp hk
  match k, hk with
  | 0, _ => exact cw_6_0
  | 1, _ => exact cw_6_1
  | 2, _ => exact cw_6_2
  | 3, _ => exact cw_6_3
  | k + 4, hk => exact absurd hk (by omega)
theorem cw_7_0 : u_lay (vRn 7) (vTb 7) 0 ∈ TBL := TBL_tb (List.mem_append_right _ (List.mem_append_right _ (List.mem_append_left _ (List.mem_of_getElem? (i := 217) rfl)))) rfl
theorem cw_7_1 : u_lay (vRn 7) (vTb 7) 1 ∈ TBL := TBL_tb (List.mem_append_right _ (List.mem_append_right _ (List.mem_append_left _ (List.mem_of_getElem? (i := 219) rfl)))) rfl
theorem cw_7_2 : u_lay (vRn 7) (vTb 7) 2 ∈ TBL := TBL_tb (List.mem_append_right _ (List.mem_append_right _ (List.mem_append_left _ (List.mem_of_getElem? (i := 221) rfl)))) rfl
theorem cw_7_3 : u_lay (vRn 7) (vTb 7) 3 ∈ TBL := TBL_tb (List.mem_append_right _ (List.mem_append_right _ (List.mem_append_left _ (List.mem_of_getElem? (i := 223) rfl)))) rfl
theorem cw_7_4 : u_lay (vRn 7) (vTb 7) 4 ∈ TBL := TBL_tb (List.mem_append_right _ (List.mem_append_right _ (List.mem_append_left _ (List.mem_of_getElem? (i := 225) rfl)))) rfl
theorem cw_7 : ∀ w ∈ u_ws (vRn 7) (vTb 7) (vnn 7), w ∈ TBL := by
  intro w hw
  obtain ⟨k, hk, rfl⟩ := List.mem_map.mp hw
  have hk : k < 5 := List.mem_range.mp hk
  match k, hk with
  | 0, _ => exact cw_7_0
  | 1, _ => exact cw_7_1
  | 2, _ => exact cw_7_2
  | 3, _ => exact cw_7_3
  | 4, _ => exact cw_7_4
  | k + 5, hk => exact absurd hk (by omega)
theorem cw_8_0 : u_lay (vRn 8) (vTb 8) 0 ∈ TBL := TBL_tb (List.mem_append_right _ (List.mem_append_right _ (List.mem_append_left _ (List.mem_of_getElem? (i := 60) rfl)))) rfl
theorem cw_8_1 : u_lay (vRn 8) (vTb 8) 1 ∈ TBL := TBL_tb (List.mem_append_right _ (List.mem_append_right _ (List.mem_append_left _ (List.mem_of_getElem? (i := 62) rfl)))) rfl
theorem cw_8_2 : u_lay (vRn 8) (vTb 8) 2 ∈ TBL := TBL_tb (List.mem_append_right _ (List.mem_append_right _ (List.mem_append_left _ (List.mem_of_getElem? (i := 64) rfl)))) rfl
theorem cw_8_3 : u_lay (vRn 8) (vTb 8) 3 ∈ TBL := TBL_tb (List.mem_append_right _ (List.mem_append_right _ (List.mem_append_left _ (List.mem_of_getElem? (i := 66) rfl)))) rfl
theorem cw_8_4 : u_lay (vRn 8) (vTb 8) 4 ∈ TBL := TBL_tb (List.mem_append_right _ (List.mem_append_right _ (List.mem_append_left _ (List.mem_of_getElem? (i := 68) rfl)))) rfl
theorem cw_8_5 : u_lay (vRn 8) (vTb 8) 5 ∈ TBL := TBL_tb (List.mem_append_right _ (List.mem_append_right _ (List.mem_append_left _ (List.mem_of_getElem? (i := 70) rfl)))) rfl
theorem cw_8_6 : u_lay (vRn 8) (vTb 8) 6 ∈ TBL := TBL_tb (List.mem_append_right _ (List.mem_append_right _ (List.mem_append_left _ (List.mem_of_getElem? (i := 72) rfl)))) rfl
theorem cw_8_7 : u_lay (vRn 8) (vTb 8) 7 ∈ TBL := TBL_tb (List.mem_append_right _ (List.mem_append_right _ (List.mem_append_left _ (List.mem_of_getElem? (i := 74) rfl)))) rfl
theorem cw_8_8 : u_lay (vRn 8) (vTb 8) 8 ∈ TBL := TBL_tb (List.mem_append_right _ (List.mem_append_right _ (List.mem_append_left _ (List.mem_of_getElem? (i := 76) rfl)))) rfl
theorem cw_8_9 : u_lay (vRn 8) (vTb 8) 9 ∈ TBL := TBL_tb (List.mem_append_right _ (List.mem_append_right _ (List.mem_append_left _ (List.mem_of_getElem? (i := 78) rfl)))) rfl
theorem cw_8_10 : u_lay (vRn 8) (vTb 8) 10 ∈ TBL := TBL_tb (List.mem_append_right _ (List.mem_append_right _ (List.mem_append_left _ (List.mem_of_getElem? (i := 80) rfl)))) rfl
theorem cw_8 : ∀ w ∈ u_ws (vRn 8) (vTb 8) (vnn 8), w ∈ TBL := by
  intro w hw
  obtain ⟨k, hk, rfl⟩ := List.mem_map.mp hw
  have hk : k < 11 := List.mem_range.mp hk
  match k, hk with
  | 0, _ => exact cw_8_0
  | 1, _ => exact cw_8_1
  | 2, _ => exact cw_8_2
  | 3, _ => exact cw_8_3
  | 4, _ => exact cw_8_4
  | 5, _ => exact cw_8_5
  | 6, _ => exact cw_8_6
  | 7, _ => exact cw_8_7
  | 8, _ => exact cw_8_8
  | 9, _ => exact cw_8_9
  | 10, _ => exact cw_8_10
  | k + 11, hk => exact absurd hk (by omega)
theorem cw_9_0 : u_lay (vRn 9) (vTb 9) 0 ∈ TBL := TBL_tb (List.mem_append_left _ (List.mem_of_getElem? (i := 190) rfl)) rfl
theorem cw_9_1 : u_lay (vRn 9) (vTb 9) 1 ∈ TBL := TBL_tb (List.mem_append_left _ (List.mem_of_getElem? (i := 192) rfl)) rfl
theorem cw_9 : ∀ w ∈ u_ws (vRn 9) (vTb 9) (vnn 9), w ∈ TBL := by
  intro w hw
  obtain ⟨k, hk, rfl⟩ := List.mem_map.mp hw
  have hk : k < 2 := List.mem_range.mp hk
  match k, hk with
  | 0, _ => exact cw_9_0
  | 1, _ => exact cw_9_1
  | k + 2, hk => exact absurd hk (by omega)
theorem cw_10_0 : u_lay (vRn 10) (vTb 10) 0 ∈ TBL := TBL_tb (List.mem_append_right _ (List.mem_append_left _ (List.mem_of_getElem? (i := 176) rfl))) rfl
theorem cw_10_1 : u_lay (vRn 10) (vTb 10) 1 ∈ TBL := TBL_tb (List.mem_append_right _ (List.mem_append_left _ (List.mem_of_getElem? (i := 178) rfl))) rfl
theorem cw_10_2 : u_lay (vRn 10) (vTb 10) 2 ∈ TBL := TBL_tb (List.mem_append_right _ (List.mem_append_left _ (List.mem_of_getElem? (i := 180) rfl))) rfl
theorem cw_10_3 : u_lay (vRn 10) (vTb 10) 3 ∈ TBL := TBL_tb (List.mem_append_right _ (List.mem_append_left _ (List.mem_of_getElem? (i := 182) rfl))) rfl
theorem cw_10_4 : u_lay (vRn 10) (vTb 10) 4 ∈ TBL := TBL_tb (List.mem_append_right _ (List.mem_append_left _ (List.mem_of_getElem? (i := 184) rfl))) rfl
theorem cw_10_5 : u_lay (vRn 10) (vTb 10) 5 ∈ TBL := TBL_tb (List.mem_append_right _ (List.mem_append_left _ (List.mem_of_getElem? (i := 186) rfl))) rfl
theorem cw_10_6 : u_lay (vRn 10) (vTb 10) 6 ∈ TBL := TBL_tb (List.mem_append_right _ (List.mem_append_left _ (List.mem_of_getElem? (i := 188) rfl))) rfl
theorem cw_10_7 : u_lay (vRn 10) (vTb 10) 7 ∈ TBL := TBL_tb (List.mem_append_right _ (List.mem_append_left _ (List.mem_of_getElem? (i := 190) rfl))) rfl
theorem cw_10_8 : u_lay (vRn 10) (vTb 10) 8 ∈ TBL := TBL_tb (List.mem_append_right _ (List.mem_append_left _ (List.mem_of_getElem? (i := 192) rfl))) rfl
theorem cw_10_9 : u_lay (vRn 10) (vTb 10) 9 ∈ TBL := TBL_tb (List.mem_append_right _ (List.mem_append_left _ (List.mem_of_getElem? (i := 194) rfl))) rfl
theorem cw_10_10 : u_lay (vRn 10) (vTb 10) 10 ∈ TBL := TBL_tb (List.mem_append_right _ (List.mem_append_left _ (List.mem_of_getElem? (i := 196) rfl))) rfl
theorem cw_10 : ∀ w ∈ u_ws (vRn 10) (vTb 10) (vnn 10), w ∈ TBL := by
  intro w hw
  obtain ⟨k, hk, rfl⟩ := List.mem_map.mp hw
  have hk : k < 11 := List.mem_range.mp hk
  match k, hk with
  | 0, _ => exact cw_10_0
  | 1, _ => exact cw_10_1
  | 2, _ => exact cw_10_2
  | 3, _ => exact cw_10_3
  | 4, _ => exact cw_10_4
  | 5, _ => exact cw_10_5
  | 6, _ => exact cw_10_6
  | 7, _ => exact cw_10_7
  | 8, _ => exact cw_10_8
  | 9, _ => exact cw_10_9
  | 10, _ => exact cw_10_10
  | k + 11, hk => exact absurd hk (by omega)
theorem cw_11_0 : u_lay (vRn 11) (vTb 11) 0 ∈ TBL := TBL_tb (List.mem_append_left _ (List.mem_of_getElem? (i := 146) rfl)) rfl
theorem cw_11_1 : u_lay (vRn 11) (vTb 11) 1 ∈ TBL := TBL_tb (List.mem_append_left _ (List.mem_of_getElem? (i := 148) rfl)) rfl
theorem cw_11_2 : u_lay (vRn 11) (vTb 11) 2 ∈ TBL := TBL_tb (List.mem_append_left _ (List.mem_of_getElem? (i := 150) rfl)) rfl
theorem cw_11_3 : u_lay (vRn 11) (vTb 11) 3 ∈ TBL := TBL_tb (List.mem_append_left _ (List.mem_of_getElem? (i := 152) rfl)) rfl
theorem cw_11_4 : u_lay (vRn 11) (vTb 11) 4 ∈ TBL := TBL_tb (List.mem_append_left _ (List.mem_of_getElem? (i := 154) rfl)) rfl
theorem cw_11_5 : u_lay (vRn 11) (vTb 11) 5 ∈ TBL := TBL_tb (List.mem_append_left _ (List.mem_of_getElem? (i := 156) rfl)) rfl
theorem cw_11_6 : u_lay (vRn 11) (vTb 11) 6 ∈ TBL := TBL_tb (List.mem_append_left _ (List.mem_of_getElem? (i := 158) rfl)) rfl
theorem cw_11_7 : u_lay (vRn 11) (vTb 11) 7 ∈ TBL := TBL_tb (List.mem_append_left _ (List.mem_of_getElem? (i := 160) rfl)) rfl
theorem cw_11_8 : u_lay (vRn 11) (vTb 11) 8 ∈ TBL := TBL_tb (List.mem_append_left _ (List.mem_of_getElem? (i := 162) rfl)) rfl
theorem cw_11_9 : u_lay (vRn 11) (vTb 11) 9 ∈ TBL := TBL_tb (List.mem_append_left _ (List.mem_of_getElem? (i := 164) rfl)) rfl
theorem cw_11_10 : u_lay (vRn 11) (vTb 11) 10 ∈ TBL := TBL_tb (List.mem_append_left _ (List.mem_of_getElem? (i := 166) rfl)) rfl
theorem cw_11_11 : u_lay (vRn 11) (vTb 11) 11 ∈ TBL := TBL_tb (List.mem_append_left _ (List.mem_of_getElem? (i := 168) rfl)) rfl
theorem cw_11_12 : u_lay (vRn 11) (vTb 11) 12 ∈ TBL := TBL_tb (List.mem_append_left _ (List.mem_of_getElem? (i := 170) rfl)) rfl
theorem cw_11 : ∀ w ∈ u_ws (vRn 11) (vTb 11) (vnn 11), w ∈ TBL := by
  intro w hw
  obtain ⟨k, hk, rfl⟩ := List.mem_map.mp hw
  have hk : k < 13 := List.mem_range.mp hk
  match k, hk with
  | 0, _ => exact cw_11_0
  | 1, _ => exact cw_11_1
  | 2, _ => exact cw_11_2
  | 3, _ => exact cw_11_3
  | 4, _ => exact cw_11_4
  | 5, _ => exact cw_11_5
  | 6, _ => exact cw_11_6
  | 7, _ => exact cw_11_7
  | 8, _ => exact cw_11_8
  | 9, _ => exact cw_11_9
  | 10, _ => exact cw_11_10
  | 11, _ => exact cw_11_11
  | 12, _ => exact cw_11_12
  | k + 13, hk => exact absurd hk (by omega)
theorem cw_12_0 : u_lay (vRn 12) (vTb 12) 0 ∈ TBL := TBL_tb (List.mem_append_right _ (List.mem_append_right _ (List.mem_append_right _ (List.mem_append_right _ (List.mem_append_right _ (List.mem_append_left _ (List.mem_of_getElem? (i := 86) rfl))))))) rfl
theorem cw_12_1 : u_lay (vRn 12) (vTb 12) 1 ∈ TBL := TBL_tb (List.mem_append_right _ (List.mem_append_right _ (List.mem_append_right _ (List.mem_append_right _ (List.mem_append_right _ (List.mem_append_left _ (List.mem_of_getElem? (i := 88) rfl))))))) rfl
theorem cw_12_2 : u_lay (vRn 12) (vTb 12) 2 ∈ TBL := TBL_tb (List.mem_append_right _ (List.mem_append_right _ (List.mem_append_right _ (List.mem_append_right _ (List.mem_append_right _ (List.mem_append_left _ (List.mem_of_getElem? (i := 90) rfl))))))) rfl
theorem cw_12_3 : u_lay (vRn 12) (vTb 12) 3 ∈ TBL := TBL_tb (List.mem_append_right _ (List.mem_append_right _ (List.mem_append_right _ (List.mem_append_right _ (List.mem_append_right _ (List.mem_append_left _ (List.mem_of_getElem? (i := 92) rfl))))))) rfl
theorem cw_12_4 : u_lay (vRn 12) (vTb 12) 4 ∈ TBL := TBL_tb (List.mem_append_right _ (List.mem_append_right _ (List.mem_append_right _ (List.mem_append_right _ (List.mem_append_right _ (List.mem_append_left _ (List.mem_of_getElem? (i := 94) rfl))))))) rfl
theorem cw_12_5 : u_lay (vRn 12) (vTb 12) 5 ∈ TBL := TBL_tb (List.mem_append_right _ (List.mem_append_right _ (List.mem_append_right _ (List.mem_append_right _ (List.mem_append_right _ (List.mem_append_left _ (List.mem_of_getElem? (i := 96) rfl))))))) rfl
theorem cw_12_6 : u_lay (vRn 12) (vTb 12) 6 ∈ TBL := TBL_tb (List.mem_append_right _ (List.mem_append_right _ (List.mem_append_right _ (List.mem_append_right _ (List.mem_append_right _ (List.mem_append_left _ (List.mem_of_getElem? (i := 98) rfl))))))) rfl
theorem cw_12_7 : u_lay (vRn 12) (vTb 12) 7 ∈ TBL := TBL_tb (List.mem_append_right _ (List.mem_append_right _ (List.mem_append_right _ (List.mem_append_right _ (List.mem_append_right _ (List.mem_append_left _ (List.mem_of_getElem? (i := 100) rfl))))))) rfl
theorem cw_12_8 : u_lay (vRn 12) (vTb 12) 8 ∈ TBL := TBL_tb (List.mem_append_right _ (List.mem_append_right _ (List.mem_append_right _ (List.mem_append_right _ (List.mem_append_right _ (List.mem_append_left _ (List.mem_of_getElem? (i := 102) rfl))))))) rfl
theorem cw_12_9 : u_lay (vRn 12) (vTb 12) 9 ∈ TBL := TBL_tb (List.mem_append_right _ (List.mem_append_right _ (List.mem_append_right _ (List.mem_append_right _ (List.mem_append_right _ (List.mem_append_left _ (List.mem_of_getElem? (i := 104) rfl))))))) rfl
theorem cw_12_10 : u_lay (vRn 12) (vTb 12) 10 ∈ TBL := TBL_tb (List.mem_append_right _ (List.mem_append_right _ (List.mem_append_right _ (List.mem_append_right _ (List.mem_append_right _ (List.mem_append_left _ (List.mem_of_getElem? (i := 106) rfl))))))) rfl
theorem cw_12_11 : u_lay (vRn 12) (vTb 12) 11 ∈ TBL := TBL_tb (List.mem_append_right _ (List.mem_append_right _ (List.mem_append_right _ (List.mem_append_right _ (List.mem_append_right _ (List.mem_append_left _ (List.mem_of_getElem? (i := 108) rfl))))))) rfl
theorem cw_12_12 : u_lay (vRn 12) (vTb 12) 12 ∈ TBL := TBL_tb (List.mem_append_right _ (List.mem_append_right _ (List.mem_append_right _ (List.mem_append_right _ (List.mem_append_right _ (List.mem_append_left _ (List.mem_of_getElem? (i := 110) rfl))))))) rfl
theorem cw_12_13 : u_lay (vRn 12) (vTb 12) 13 ∈ TBL := TBL_tb (List.mem_append_right _ (List.mem_append_right _ (List.mem_append_right _ (List.mem_append_right _ (List.mem_append_right _ (List.mem_append_left _ (List.mem_of_getElem? (i := 112) rfl))))))) rfl
theorem cw_12_14 : u_lay (vRn 12) (vTb 12) 14 ∈ TBL := TBL_tb (List.mem_append_right _ (List.mem_append_right _ (List.mem_append_right _ (List.mem_append_right _ (List.mem_append_right _ (List.mem_append_left _ (List.mem_of_getElem? (i := 114) rfl))))))) rfl
theorem cw_12_15 : u_lay (vRn 12) (vTb 12) 15 ∈ TBL := TBL_tb (List.mem_append_right _ (List.mem_append_right _ (List.mem_append_right _ (List.mem_append_right _ (List.mem_append_right _ (List.mem_append_left _ (List.mem_of_getElem? (i := 116) rfl))))))) rfl
theorem cw_12_16 : u_lay (vRn 12) (vTb 12) 16 ∈ TBL := TBL_tb (List.mem_append_right _ (List.mem_append_right _ (List.mem_append_right _ (List.mem_append_right _ (List.mem_append_right _ (List.mem_append_left _ (List.mem_of_getElem? (i := 118) rfl))))))) rfl
theorem cw_12_17 : u_lay (vRn 12) (vTb 12) 17 ∈ TBL := TBL_tb (List.mem_append_right _ (List.mem_append_right _ (List.mem_append_right _ (List.mem_append_right _ (List.mem_append_right _ (List.mem_append_left _ (List.mem_of_getElem? (i := 120) rfl))))))) rfl
theorem cw_12_18 : u_lay (vRn 12) (vTb 12) 18 ∈ TBL := TBL_tb (List.mem_append_right _ (List.mem_append_right _ (List.mem_append_right _ (List.mem_append_right _ (List.mem_append_right _ (List.mem_append_left _ (List.mem_of_getElem? (i := 122) rfl))))))) rfl
theorem cw_12_19 : u_lay (vRn 12) (vTb 12) 19 ∈ TBL := TBL_tb (List.mem_append_right _ (List.mem_append_right _ (List.mem_append_right _ (List.mem_append_right _ (List.mem_append_right _ (List.mem_append_left _ (List.mem_of_getElem? (i := 124) rfl))))))) rfl
theorem cw_12_20 : u_lay (vRn 12) (vTb 12) 20 ∈ TBL := TBL_tb (List.mem_append_right _ (List.mem_append_right _ (List.mem_append_right _ (List.mem_append_right _ (List.mem_append_right _ (List.mem_append_left _ (List.mem_of_getElem? (i := 126) rfl))))))) rfl
theorem cw_12_21 : u_lay (vRn 12) (vTb 12) 21 ∈ TBL := TBL_tb (List.mem_append_right _ (List.mem_append_right _ (List.mem_append_right _ (List.mem_append_right _ (List.mem_append_right _ (List.mem_append_left _ (List.mem_of_getElem? (i := 128) rfl))))))) rfl
theorem cw_12_22 : u_lay (vRn 12) (vTb 12) 22 ∈ TBL := TBL_tb (List.mem_append_right _ (List.mem_append_right _ (List.mem_append_right _ (List.mem_append_right _ (List.mem_append_right _ (List.mem_append_left _ (List.mem_of_getElem? (i := 130) rfl))))))) rfl
theorem cw_12_23 : u_lay (vRn 12) (vTb 12) 23 ∈ TBL := TBL_tb (List.mem_append_right _ (List.mem_append_right _ (List.mem_append_right _ (List.mem_append_right _ (List.mem_append_right _ (List.mem_append_left _ (List.mem_of_getElem? (i := 132) rfl))))))) rfl
theorem cw_12_24 : u_lay (vRn 12) (vTb 12) 24 ∈ TBL := TBL_tb (List.mem_append_right _ (List.mem_append_right _ (List.mem_append_right _ (List.mem_append_right _ (List.mem_append_right _ (List.mem_append_left _ (List.mem_of_getElem? (i := 134) rfl))))))) rfl
theorem cw_12_25 : u_lay (vRn 12) (vTb 12) 25 ∈ TBL := TBL_tb (List.mem_append_right _ (List.mem_append_right _ (List.mem_append_right _ (List.mem_append_right _ (List.mem_append_right _ (List.mem_append_left _ (List.mem_of_getElem? (i := 136) rfl))))))) rfl
theorem cw_12_26 : u_lay (vRn 12) (vTb 12) 26 ∈ TBL := TBL_tb (List.mem_append_right _ (List.mem_append_right _ (List.mem_append_right _ (List.mem_append_right _ (List.mem_append_right _ (List.mem_append_left _ (List.mem_of_getElem? (i := 138) rfl))))))) rfl
theorem cw_12_27 : u_lay (vRn 12) (vTb 12) 27 ∈ TBL := TBL_tb (List.mem_append_right _ (List.mem_append_right _ (List.mem_append_right _ (List.mem_append_right _ (List.mem_append_right _ (List.mem_append_left _ (List.mem_of_getElem? (i := 140) rfl))))))) rfl
theorem cw_12_28 : u_lay (vRn 12) (vTb 12) 28 ∈ TBL := TBL_tb (List.mem_append_right _ (List.mem_append_right _ (List.mem_append_right _ (List.mem_append_right _ (List.mem_append_right _ (List.mem_append_left _ (List.mem_of_getElem? (i := 142) rfl))))))) rfl
theorem cw_12_29 : u_lay (vRn 12) (vTb 12) 29 ∈ TBL := TBL_tb (List.mem_append_right _ (List.mem_append_right _ (List.mem_append_right _ (List.mem_append_right _ (List.mem_append_right _ (List.mem_append_left _ (List.mem_of_getElem? (i := 144) rfl))))))) rfl
theorem cw_12_30 : u_lay (vRn 12) (vTb 12) 30 ∈ TBL := TBL_tb (List.mem_append_right _ (List.mem_append_right _ (List.mem_append_right _ (List.mem_append_right _ (List.mem_append_right _ (List.mem_append_left _ (List.mem_of_getElem? (i := 146) rfl))))))) rfl
theorem cw_12_31 : u_lay (vRn 12) (vTb 12) 31 ∈ TBL := TBL_tb (List.mem_append_right _ (List.mem_append_right _ (List.mem_append_right _ (List.mem_append_right _ (List.mem_append_right _ (List.mem_append_left _ (List.mem_of_getElem? (i := 148) rfl))))))) rfl
theorem cw_12_32 : u_lay (vRn 12) (vTb 12) 32 ∈ TBL := TBL_tb (List.mem_append_right _ (List.mem_append_right _ (List.mem_append_right _ (List.mem_append_right _ (List.mem_append_right _ (List.mem_append_left _ (List.mem_of_getElem? (i := 150) rfl))))))) rfl
theorem cw_12_33 : u_lay (vRn 12) (vTb 12) 33 ∈ TBL := TBL_tb (List.mem_append_right _ (List.mem_append_right _ (List.mem_append_right _ (List.mem_append_right _ (List.mem_append_right _ (List.mem_append_left _ (List.mem_of_getElem? (i := 152) rfl))))))) rfl
theorem cw_12_34 : u_lay (vRn 12) (vTb 12) 34 ∈ TBL := TBL_tb (List.mem_append_right _ (List.mem_append_right _ (List.mem_append_right _ (List.mem_append_right _ (List.mem_append_right _ (List.mem_append_left _ (List.mem_of_getElem? (i := 154) rfl))))))) rfl
theorem cw_12_35 : u_lay (vRn 12) (vTb 12) 35 ∈ TBL := TBL_tb (List.mem_append_right _ (List.mem_append_right _ (List.mem_append_right _ (List.mem_append_right _ (List.mem_append_right _ (List.mem_append_left _ (List.mem_of_getElem? (i := 156) rfl))))))) rfl
theorem cw_12_36 : u_lay (vRn 12) (vTb 12) 36 ∈ TBL := TBL_tb (List.mem_append_right _ (List.mem_append_right _ (List.mem_append_right _ (List.mem_append_right _ (List.mem_append_right _ (List.mem_append_left _ (List.mem_of_getElem? (i := 158) rfl))))))) rfl
theorem cw_12_37 : u_lay (vRn 12) (vTb 12) 37 ∈ TBL := TBL_tb (List.mem_append_right _ (List.mem_append_right _ (List.mem_append_right _ (List.mem_append_right _ (List.mem_append_right _ (List.mem_append_left _ (List.mem_of_getElem? (i := 160) rfl))))))) rfl
theorem cw_12_38 : u_lay (vRn 12) (vTb 12) 38 ∈ TBL := TBL_tb (List.mem_append_right _ (List.mem_append_right _ (List.mem_append_right _ (List.mem_append_right _ (List.mem_append_right _ (List.mem_append_left _ (List.mem_of_getElem? (i := 162) rfl))))))) rfl
theorem cw_12_39 : u_lay (vRn 12) (vTb 12) 39 ∈ TBL := TBL_tb (List.mem_append_right _ (List.mem_append_right _ (List.mem_append_right _ (List.mem_append_right _ (List.mem_append_right _ (List.mem_append_left _ (List.mem_of_getElem? (i := 164) rfl))))))) rfl
theorem cw_12_40 : u_lay (vRn 12) (vTb 12) 40 ∈ TBL := TBL_tb (List.mem_append_right _ (List.mem_append_right _ (List.mem_append_right _ (List.mem_append_right _ (List.mem_append_right _ (List.mem_append_left _ (List.mem_of_getElem? (i := 166) rfl))))))) rfl
theorem cw_12_41 : u_lay (vRn 12) (vTb 12) 41 ∈ TBL := TBL_tb (List.mem_append_right _ (List.mem_append_right _ (List.mem_append_right _ (List.mem_append_right _ (List.mem_append_right _ (List.mem_append_left _ (List.mem_of_getElem? (i := 168) rfl))))))) rfl
theorem cw_12_42 : u_lay (vRn 12) (vTb 12) 42 ∈ TBL := TBL_tb (List.mem_append_right _ (List.mem_append_right _ (List.mem_append_right _ (List.mem_append_right _ (List.mem_append_right _ (List.mem_append_left _ (List.mem_of_getElem? (i := 170) rfl))))))) rfl
theorem cw_12_43 : u_lay (vRn 12) (vTb 12) 43 ∈ TBL := TBL_tb (List.mem_append_right _ (List.mem_append_right _ (List.mem_append_right _ (List.mem_append_right _ (List.mem_append_right _ (List.mem_append_left _ (List.mem_of_getElem? (i := 172) rfl))))))) rfl
theorem cw_12_44 : u_lay (vRn 12) (vTb 12) 44 ∈ TBL := TBL_tb (List.mem_append_right _ (List.mem_append_right _ (List.mem_append_right _ (List.mem_append_right _ (List.mem_append_right _ (List.mem_append_left _ (List.mem_of_getElem? (i := 174) rfl))))))) rfl
theorem cw_12_45 : u_lay (vRn 12) (vTb 12) 45 ∈ TBL := TBL_tb (List.mem_append_right _ (List.mem_append_right _ (List.mem_append_right _ (List.mem_append_right _ (List.mem_append_right _ (List.mem_append_left _ (List.mem_of_getElem? (i := 176) rfl))))))) rfl
theorem cw_12_46 : u_lay (vRn 12) (vTb 12) 46 ∈ TBL := TBL_tb (List.mem_append_right _ (List.mem_append_right _ (List.mem_append_right _ (List.mem_append_right _ (List.mem_append_right _ (List.mem_append_left _ (List.mem_of_getElem? (i := 178) rfl))))))) rfl
theorem cw_12_47 : u_lay (vRn 12) (vTb 12) 47 ∈ TBL := TBL_tb (List.mem_append_right _ (List.mem_append_right _ (List.mem_append_right _ (List.mem_append_right _ (List.mem_append_right _ (List.mem_append_left _ (List.mem_of_getElem? (i := 180) rfl))))))) rfl
theorem cw_12_48 : u_lay (vRn 12) (vTb 12) 48 ∈ TBL := TBL_tb (List.mem_append_right _ (List.mem_append_right _ (List.mem_append_right _ (List.mem_append_right _ (List.mem_append_right _ (List.mem_append_left _ (List.mem_of_getElem? (i := 182) rfl))))))) rfl
theorem cw_12_49 : u_lay (vRn 12) (vTb 12) 49 ∈ TBL := TBL_tb (List.mem_append_right _ (List.mem_append_right _ (List.mem_append_right _ (List.mem_append_right _ (List.mem_append_right _ (List.mem_append_left _ (List.mem_of_getElem? (i := 184) rfl))))))) rfl
theorem cw_12_50 : u_lay (vRn 12) (vTb 12) 50 ∈ TBL := TBL_tb (List.mem_append_right _ (List.mem_append_right _ (List.mem_append_right _ (List.mem_append_right _ (List.mem_append_right _ (List.mem_append_left _ (List.mem_of_getElem? (i := 186) rfl))))))) rfl
theorem cw_12_51 : u_lay (vRn 12) (vTb 12) 51 ∈ TBL := TBL_tb (List.mem_append_right _ (List.mem_append_right _ (List.mem_append_right _ (List.mem_append_right _ (List.mem_append_right _ (List.mem_append_left _ (List.mem_of_getElem? (i := 188) rfl))))))) rfl
theorem cw_12_52 : u_lay (vRn 12) (vTb 12) 52 ∈ TBL := TBL_tb (List.mem_append_right _ (List.mem_append_right _ (List.mem_append_right _ (List.mem_append_right _ (List.mem_append_right _ (List.mem_append_left _ (List.mem_of_getElem? (i := 190) rfl))))))) rfl
theorem cw_12_53 : u_lay (vRn 12) (vTb 12) 53 ∈ TBL := TBL_tb (List.mem_append_right _ (List.mem_append_right _ (List.mem_append_right _ (List.mem_append_right _ (List.mem_append_right _ (List.mem_append_left _ (List.mem_of_getElem? (i := 192) rfl))))))) rfl
theorem cw_12_54 : u_lay (vRn 12) (vTb 12) 54 ∈ TBL := TBL_tb (List.mem_append_right _ (List.mem_append_right _ (List.mem_append_right _ (List.mem_append_right _ (List.mem_append_right _ (List.mem_append_left _ (List.mem_of_getElem? (i := 194) rfl))))))) rfl
theorem cw_12_55 : u_lay (vRn 12) (vTb 12) 55 ∈ TBL := TBL_tb (List.mem_append_right _ (List.mem_append_right _ (List.mem_append_right _ (List.mem_append_right _ (List.mem_append_right _ (List.mem_append_left _ (List.mem_of_getElem? (i := 196) rfl))))))) rfl
theorem cw_12_56 : u_lay (vRn 12) (vTb 12) 56 ∈ TBL := TBL_tb (List.mem_append_right _ (List.mem_append_right _ (List.mem_append_right _ (List.mem_append_right _ (List.mem_append_right _ (List.mem_append_left _ (List.mem_of_getElem? (i := 198) rfl))))))) rfl
theorem cw_12_57 : u_lay (vRn 12) (vTb 12) 57 ∈ TBL := TBL_tb (List.mem_append_right _ (List.mem_append_right _ (List.mem_append_right _ (List.mem_append_right _ (List.mem_append_right _ (List.mem_append_left _ (List.mem_of_getElem? (i := 200) rfl))))))) rfl
theorem cw_12_58 : u_lay (vRn 12) (vTb 12) 58 ∈ TBL := TBL_tb (List.mem_append_right _ (List.mem_append_right _ (List.mem_append_right _ (List.mem_append_right _ (List.mem_append_right _ (List.mem_append_left _ (List.mem_of_getElem? (i := 202) rfl))))))) rfl
theorem cw_12 : ∀ w ∈ u_ws (vRn 12) (vTb 12) (vnn 12), w ∈ TBL := by
  intro w hw
  obtain ⟨k, hk, rfl⟩ := List.mem_map.mp hw
  have hk : k < 59 := List.mem_range.mp hk
  match k, hk with
  | 0, _ => exact cw_12_0
  | 1, _ => exact cw_12_1
  | 2, _ => exact cw_12_2
  | 3, _ => exact cw_12_3
  | 4, _ => exact cw_12_4
  | 5, _ => exact cw_12_5
  | 6, _ => exact cw_12_6
  | 7, _ => exact cw_12_7
  | 8, _ => exact cw_12_8
  | 9, _ => exact cw_12_9
  | 10, _ => exact cw_12_10
  | 11, _ => exact cw_12_11
  | 12, _ => exact cw_12_12
  | 13, _ => exact cw_12_13
  | 14, _ => exact cw_12_14
  | 15, _ => exact cw_12_15
  | 16, _ => exact cw_12_16
  | 17, _ => exact cw_12_17
  | 18, _ => exact cw_12_18
  | 19, _ => exact cw_12_19
  | 20, _ => exact cw_12_20
  | 21, _ => exact cw_12_21
  | 22, _ => exact cw_12_22
  | 23, _ => exact cw_12_23
  | 24, _ => exact cw_12_24
  | 25, _ => exact cw_12_25
  | 26, _ => exact cw_12_26
  | 27, _ => exact cw_12_27
  | 28, _ => exact cw_12_28
  | 29, _ => exact cw_12_29
  | 30, _ => exact cw_12_30
  | 31, _ => exact cw_12_31
  | 32, _ => exact cw_12_32
  | 33, _ => exact cw_12_33
  | 34, _ => exact cw_12_34
  | 35, _ => exact cw_12_35
  | 36, _ => exact cw_12_36
  | 37, _ => exact cw_12_37
  | 38, _ => exact cw_12_38
  | 39, _ => exact cw_12_39
  | 40, _ => exact cw_12_40
  | 41, _ => exact cw_12_41
  | 42, _ => exact cw_12_42
  | 43, _ => exact cw_12_43
  | 44, _ => exact cw_12_44
  | 45, _ => exact cw_12_45
  | 46, _ => exact cw_12_46
  | 47, _ => exact cw_12_47
  | 48, _ => exact cw_12_48
  | 49, _ => exact cw_12_49
  | 50, _ => exact cw_12_50
  | 51, _ => exact cw_12_51
  | 52, _ => exact cw_12_52
  | 53, _ => exact cw_12_53
  | 54, _ => exact cw_12_54
  | 55, _ => exact cw_12_55
  | 56, _ => exact cw_12_56
  | 57, _ => exact cw_12_57
  | 58, _ => exact cw_12_58
  | k + 59, hk => exact absurd hk (by omega)
theorem cw_all : ∀ c, c < 13 → ∀ w ∈ u_ws (vRn c) (vTb c) (vnn c), w ∈ TBL := by
  intro c hc
  match c, hc with
  | 0, _ => exact cw_0
  | 1, _ => exact cw_1
  | 2, _ => exact cw_2
  | 3, _ => exact cw_3
  | 4, _ => exact cw_4
  | 5, _ => exact cw_5
  | 6, _ => exact cw_6
  | 7, _ => exact cw_7
  | 8, _ => exact cw_8
  | 9, _ => exact cw_9
  | 10, _ => exact cw_10
  | 11, _ => exact cw_11
  | 12, _ => exact cw_12
  | c + 13, hc => exact absurd hc (by omega)
theorem cw_ty : ∀ c, c < 13 → ∀ k, k < vnn c → parseFieldDescriptor (vTb c k).2.2.1 = some (vty c k) := by
  intro c hc
  match c, hc with
  | 0, _ => exact tyJx4a65c_ok
  | 1, _ => exact tyX0_ok
  | 2, _ => exact tyX1_ok
  | 3, _ => exact tyX2_ok
  | 4, _ => exact tyX3_ok
  | 5, _ => exact tyX5_ok
  | 6, _ => exact tyX6_ok
  | 7, _ => exact tyX7_ok
  | 8, _ => exact tyX8_ok
  | 9, _ => exact tyX9_ok
  | 10, _ => exact tyX10_ok
  | 11, _ => exact tyX11_ok
  | 12, _ => exact tyX12_ok
  | c + 13, hc => exact absurd hc (by omega)
theorem cw_nm : ∀ c, c < 13 → ∀ a, a < vnn c → ∀ b, b < vnn c → a ≠ b → (vTb c a).2.1 ≠ (vTb c b).2.1 := by
  intro c hc
  match c, hc with
  | 0, _ => exact nmJx4a65c
  | 1, _ => exact nmX0
  | 2, _ => exact nmX1
  | 3, _ => exact nmX2
  | 4, _ => exact nmX3
  | 5, _ => exact nmX5
  | 6, _ => exact nmX6
  | 7, _ => exact nmX7
  | 8, _ => exact nmX8
  | 9, _ => exact nmX9
  | 10, _ => exact nmX10
  | 11, _ => exact nmX11
  | 12, _ => exact nmX12
  | c + 13, hc => exact absurd hc (by omega)
theorem ow_inst : Cond.instanceMethod Lib.objectInit ∈ TBL := TBL_tb (List.mem_append_left _ (List.mem_of_getElem? (i := 41) rfl)) rfl
theorem ow_code : Cond.code Lib.objectInit ⟨#[0xb1]⟩ 1 none ∈ TBL := TBL_tb (List.mem_append_left _ (List.mem_of_getElem? (i := 42) rfl)) rfl
theorem aw_int : Cond.arrayClass .int ∈ TBL := TBL_tb (List.mem_append_left _ (List.mem_of_getElem? (i := 94) rfl)) rfl
theorem aw_byte : Cond.arrayClass .byte ∈ TBL := TBL_tb (List.mem_append_left _ (List.mem_of_getElem? (i := 173) rfl)) rfl
theorem aw_long : Cond.arrayClass .long ∈ TBL := TBL_tb (List.mem_append_right _ (List.mem_append_right _ (List.mem_append_right _ (List.mem_append_right _ (List.mem_append_right _ (List.mem_append_right _ (List.mem_append_left _ (List.mem_of_getElem? (i := 220) rfl)))))))) rfl
theorem ca_0 : Cond.castable (vRn 0) "java/lang/Object" ∈ NGW := NGW_in (List.mem_append_right _ (List.mem_append_right _ (List.mem_append_right _ (List.mem_append_right _ (List.mem_append_right _ (List.mem_append_right _ (List.mem_append_left _ (List.mem_of_getElem? (i := 224) rfl)))))))) rfl
theorem ca_1 : Cond.castable (vRn 1) "java/lang/Object" ∈ NGW := NGW_in (List.mem_append_right _ (List.mem_append_right _ (List.mem_append_right _ (List.mem_append_right _ (List.mem_append_right _ (List.mem_append_right _ (List.mem_append_left _ (List.mem_of_getElem? (i := 225) rfl)))))))) rfl
theorem ca_2 : Cond.castable (vRn 2) "java/lang/Object" ∈ NGW := NGW_in (List.mem_append_right _ (List.mem_append_right _ (List.mem_append_right _ (List.mem_append_right _ (List.mem_append_right _ (List.mem_append_right _ (List.mem_append_left _ (List.mem_of_getElem? (i := 238) rfl)))))))) rfl
theorem ca_3 : Cond.castable (vRn 3) "java/lang/Object" ∈ NGW := NGW_in (List.mem_append_right _ (List.mem_append_right _ (List.mem_append_right _ (List.mem_append_right _ (List.mem_append_right _ (List.mem_append_right _ (List.mem_append_left _ (List.mem_of_getElem? (i := 239) rfl)))))))) rfl
theorem ca_4 : Cond.castable (vRn 4) "java/lang/Object" ∈ NGW := NGW_in (List.mem_append_right _ (List.mem_append_right _ (List.mem_append_right _ (List.mem_append_right _ (List.mem_append_right _ (List.mem_append_right _ (List.mem_append_left _ (List.mem_of_getElem? (i := 226) rfl)))))))) rfl
theorem ca_5 : Cond.castable (vRn 5) "java/lang/Object" ∈ NGW := NGW_in (List.mem_append_right _ (List.mem_append_right _ (List.mem_append_right _ (List.mem_append_right _ (List.mem_append_right _ (List.mem_append_right _ (List.mem_append_left _ (List.mem_of_getElem? (i := 230) rfl)))))))) rfl
theorem ca_6 : Cond.castable (vRn 6) "java/lang/Object" ∈ NGW := NGW_in (List.mem_append_right _ (List.mem_append_right _ (List.mem_append_right _ (List.mem_append_right _ (List.mem_append_right _ (List.mem_append_right _ (List.mem_append_left _ (List.mem_of_getElem? (i := 222) rfl)))))))) rfl
theorem ca_7 : Cond.castable (vRn 7) "java/lang/Object" ∈ NGW := NGW_in (List.mem_append_right _ (List.mem_append_right _ (List.mem_append_right _ (List.mem_append_right _ (List.mem_append_right _ (List.mem_append_right _ (List.mem_append_left _ (List.mem_of_getElem? (i := 236) rfl)))))))) rfl
theorem ca_8 : Cond.castable (vRn 8) "java/lang/Object" ∈ NGW := NGW_in (List.mem_append_right _ (List.mem_append_right _ (List.mem_append_right _ (List.mem_append_right _ (List.mem_append_right _ (List.mem_append_right _ (List.mem_append_left _ (List.mem_of_getElem? (i := 232) rfl)))))))) rfl
theorem ca_9 : Cond.castable (vRn 9) "java/lang/Object" ∈ NGW := NGW_in (List.mem_append_right _ (List.mem_append_right _ (List.mem_append_right _ (List.mem_append_right _ (List.mem_append_right _ (List.mem_append_right _ (List.mem_append_left _ (List.mem_of_getElem? (i := 234) rfl)))))))) rfl
theorem ca_10 : Cond.castable (vRn 10) "java/lang/Object" ∈ NGW := NGW_in (List.mem_append_right _ (List.mem_append_right _ (List.mem_append_right _ (List.mem_append_right _ (List.mem_append_right _ (List.mem_append_right _ (List.mem_append_left _ (List.mem_of_getElem? (i := 229) rfl)))))))) rfl
theorem ca_11 : Cond.castable (vRn 11) "java/lang/Object" ∈ NGW := NGW_in (List.mem_append_right _ (List.mem_append_right _ (List.mem_append_right _ (List.mem_append_right _ (List.mem_append_right _ (List.mem_append_right _ (List.mem_append_left _ (List.mem_of_getElem? (i := 223) rfl)))))))) rfl
theorem ca_12 : Cond.castable (vRn 12) "java/lang/Object" ∈ NGW := NGW_in (List.mem_append_right _ (List.mem_append_right _ (List.mem_append_right _ (List.mem_append_right _ (List.mem_append_right _ (List.mem_append_right _ (List.mem_append_left _ (List.mem_of_getElem? (i := 227) rfl)))))))) rfl
theorem ca_all : ∀ c, c < 13 → Cond.castable (vRn c) "java/lang/Object" ∈ NGW := by
  intro c hc
  match c, hc with
  | 0, _ => exact ca_0
  | 1, _ => exact ca_1
  | 2, _ => exact ca_2
  | 3, _ => exact ca_3
  | 4, _ => exact ca_4
  | 5, _ => exact ca_5
  | 6, _ => exact ca_6
  | 7, _ => exact ca_7
  | 8, _ => exact ca_8
  | 9, _ => exact ca_9
  | 10, _ => exact ca_10
  | 11, _ => exact ca_11
  | 12, _ => exact ca_12
  | c + 13, hc => exact absurd hc (by omega)
theorem gc_inst : Cond.instanceMethod ⟨"java/lang/Object", "getClass", "()Ljava/lang/Class;"⟩ ∈ TBL := TBL_tb (List.mem_append_left _ (List.mem_of_getElem? (i := 225) rfl)) rfl
theorem gc_nat : Cond.native ⟨"java/lang/Object", "getClass", "()Ljava/lang/Class;"⟩ ∈ TBL := TBL_tb (List.mem_append_right _ (List.mem_append_left _ (List.mem_of_getElem? (i := 5) rfl))) rfl
theorem gc_sel : Cond.selects "[Ljava/lang/Object;" ⟨"java/lang/Object", "getClass", "()Ljava/lang/Class;"⟩ ⟨"java/lang/Object", "getClass", "()Ljava/lang/Class;"⟩ ∈ TBL := TBL_tb (List.mem_append_right _ (List.mem_append_right _ (List.mem_append_right _ (List.mem_append_right _ (List.mem_append_right _ (List.mem_append_right _ (List.mem_append_right _ (List.mem_of_getElem? (i := 3) rfl)))))))) rfl
theorem gc_dec : Cond.declares ⟨"java/lang/Object", "getClass", "()Ljava/lang/Class;"⟩ ∈ NGW := NGW_in (List.mem_append_right _ (List.mem_append_right _ (List.mem_append_right _ (List.mem_append_right _ (List.mem_append_right _ (List.mem_append_right _ (List.mem_append_right _ (List.mem_of_getElem? (i := 4) rfl)))))))) rfl
theorem ac_nat : Cond.native arraycopyName ∈ TBL := TBL_tb (List.mem_append_right _ (List.mem_append_left _ (List.mem_of_getElem? (i := 17) rfl))) rfl
theorem ac_st : Cond.static arraycopyName ∈ TBL := TBL_tb (List.mem_append_right _ (List.mem_append_left _ (List.mem_of_getElem? (i := 16) rfl))) rfl
theorem ac_ini : Cond.initialized "java/lang/System" ∈ TBL := TBL_tb (List.mem_append_left _ (List.mem_of_getElem? (i := 16) rfl)) rfl
theorem mw_max : Cond.static Lib.Math.max.name ∈ TBL ∧ Cond.code Lib.Math.max.name Lib.Math.max.code 2 (some .int) ∈ TBL := ⟨TBL_tb (List.mem_append_left _ (List.mem_of_getElem? (i := 215) rfl)) rfl, TBL_tb (List.mem_append_left _ (List.mem_of_getElem? (i := 216) rfl)) rfl⟩
theorem mw_min : Cond.static Lib.Math.min.name ∈ TBL ∧ Cond.code Lib.Math.min.name Lib.Math.min.code 2 (some .int) ∈ TBL := ⟨TBL_tb (List.mem_append_right _ (List.mem_append_left _ (List.mem_of_getElem? (i := 13) rfl))) rfl, TBL_tb (List.mem_append_right _ (List.mem_append_left _ (List.mem_of_getElem? (i := 14) rfl))) rfl⟩
theorem mw_abs : Cond.static Lib.Math.abs.name ∈ TBL ∧ Cond.code Lib.Math.abs.name Lib.Math.abs.code 1 (some .int) ∈ TBL := ⟨TBL_tb (List.mem_append_right _ (List.mem_append_right _ (List.mem_append_right _ (List.mem_append_right _ (List.mem_append_left _ (List.mem_of_getElem? (i := 200) rfl)))))) rfl, TBL_tb (List.mem_append_right _ (List.mem_append_right _ (List.mem_append_right _ (List.mem_append_right _ (List.mem_append_left _ (List.mem_of_getElem? (i := 201) rfl)))))) rfl⟩
theorem mw_ini : Cond.initialized "java/lang/Math" ∈ TBL := TBL_tb (List.mem_append_left _ (List.mem_of_getElem? (i := 14) rfl)) rfl
theorem ao_obj : Cond.arrayOver (.object "java/lang/Object") ∈ NGW := NGW_in (List.mem_append_right _ (List.mem_append_left _ (List.mem_of_getElem? (i := 10) rfl))) rfl
theorem ao_loan : Cond.arrayOver (.object RX6) ∈ NGW := NGW_in (List.mem_append_left _ (List.mem_of_getElem? (i := 70) rfl)) rfl
def th13 : ByteArray := ⟨#[0x2a, 0x2b, 0xb7, 0x00, 0x0d, 0xb1]⟩
theorem xg_IllegalArgumentException : ((thA RX11 347 "java/lang/IllegalArgumentException" "java/lang/RuntimeException" 7 Bundle.six ["java/lang/Exception"]).filter goodWord).all (fun w => decide (w ∈ lw_tbl)) = true := by decide +kernel
theorem xn_IllegalArgumentException : ((thA RX11 347 "java/lang/IllegalArgumentException" "java/lang/RuntimeException" 7 Bundle.six ["java/lang/Exception"]).filter (fun w => !goodWord w)).all (fun w => decide (w ∈ tables_1) && isNG w) = true := by decide +kernel
theorem xo_IllegalArgumentException : (Cond.classLink RX11 343 "java/lang/IllegalArgumentException" :: Cond.initialized "java/lang/IllegalArgumentException" :: (thA RX11 347 "java/lang/IllegalArgumentException" "java/lang/RuntimeException" 7 Bundle.six ["java/lang/Exception"])).all (fun w => vx_ot w) = true := by decide +kernel
theorem xk_IllegalArgumentException : Cond.classLink RX11 343 "java/lang/IllegalArgumentException" ∈ TBL := TBL_tb (List.mem_append_right _ (List.mem_append_left _ (List.mem_of_getElem? (i := 75) rfl))) rfl
theorem xi_IllegalArgumentException : Cond.initialized "java/lang/IllegalArgumentException" ∈ TBL := TBL_tb (List.mem_append_left _ (List.mem_of_getElem? (i := 11) rfl)) rfl
theorem xg_NoSuchElementException : ((thA RX11 127 "java/util/NoSuchElementException" "java/lang/RuntimeException" 13 th13 ["java/lang/Exception"]).filter goodWord).all (fun w => decide (w ∈ lw_tbl)) = true := by decide +kernel
theorem xn_NoSuchElementException : ((thA RX11 127 "java/util/NoSuchElementException" "java/lang/RuntimeException" 13 th13 ["java/lang/Exception"]).filter (fun w => !goodWord w)).all (fun w => decide (w ∈ tables_1) && isNG w) = true := by decide +kernel
theorem xo_NoSuchElementException : (Cond.classLink RX11 123 "java/util/NoSuchElementException" :: Cond.initialized "java/util/NoSuchElementException" :: (thA RX11 127 "java/util/NoSuchElementException" "java/lang/RuntimeException" 13 th13 ["java/lang/Exception"])).all (fun w => vx_ot w) = true := by decide +kernel
theorem xk_NoSuchElementException : Cond.classLink RX11 123 "java/util/NoSuchElementException" ∈ TBL := TBL_tb (List.mem_append_right _ (List.mem_append_left _ (List.mem_of_getElem? (i := 234) rfl))) rfl
theorem xi_NoSuchElementException : Cond.initialized "java/util/NoSuchElementException" ∈ TBL := TBL_tb (List.mem_append_left _ (List.mem_of_getElem? (i := 18) rfl)) rfl
theorem xg_IndexOutOfBoundsException : ((thA RX11 358 "java/lang/IndexOutOfBoundsException" "java/lang/RuntimeException" 7 Bundle.six ["java/lang/Exception"]).filter goodWord).all (fun w => decide (w ∈ lw_tbl)) = true := by decide +kernel
theorem xn_IndexOutOfBoundsException : ((thA RX11 358 "java/lang/IndexOutOfBoundsException" "java/lang/RuntimeException" 7 Bundle.six ["java/lang/Exception"]).filter (fun w => !goodWord w)).all (fun w => decide (w ∈ tables_1) && isNG w) = true := by decide +kernel
theorem xo_IndexOutOfBoundsException : (Cond.classLink RX11 354 "java/lang/IndexOutOfBoundsException" :: Cond.initialized "java/lang/IndexOutOfBoundsException" :: (thA RX11 358 "java/lang/IndexOutOfBoundsException" "java/lang/RuntimeException" 7 Bundle.six ["java/lang/Exception"])).all (fun w => vx_ot w) = true := by decide +kernel
theorem xk_IndexOutOfBoundsException : Cond.classLink RX11 354 "java/lang/IndexOutOfBoundsException" ∈ TBL := TBL_tb (List.mem_append_right _ (List.mem_append_right _ (List.mem_append_left _ (List.mem_of_getElem? (i := 100) rfl)))) rfl
theorem xi_IndexOutOfBoundsException : Cond.initialized "java/lang/IndexOutOfBoundsException" ∈ TBL := TBL_tb (List.mem_append_left _ (List.mem_of_getElem? (i := 22) rfl)) rfl
theorem xg_IllegalStateException : ((thA RX11 196 "java/lang/IllegalStateException" "java/lang/RuntimeException" 7 Bundle.six ["java/lang/Exception"]).filter goodWord).all (fun w => decide (w ∈ lw_tbl)) = true := by decide +kernel
theorem xn_IllegalStateException : ((thA RX11 196 "java/lang/IllegalStateException" "java/lang/RuntimeException" 7 Bundle.six ["java/lang/Exception"]).filter (fun w => !goodWord w)).all (fun w => decide (w ∈ tables_1) && isNG w) = true := by decide +kernel
theorem xo_IllegalStateException : (Cond.classLink RX11 192 "java/lang/IllegalStateException" :: Cond.initialized "java/lang/IllegalStateException" :: (thA RX11 196 "java/lang/IllegalStateException" "java/lang/RuntimeException" 7 Bundle.six ["java/lang/Exception"])).all (fun w => vx_ot w) = true := by decide +kernel
theorem xk_IllegalStateException : Cond.classLink RX11 192 "java/lang/IllegalStateException" ∈ TBL := TBL_tb (List.mem_append_right _ (List.mem_append_right _ (List.mem_append_left _ (List.mem_of_getElem? (i := 165) rfl)))) rfl
theorem xi_IllegalStateException : Cond.initialized "java/lang/IllegalStateException" ∈ TBL := TBL_tb (List.mem_append_left _ (List.mem_of_getElem? (i := 24) rfl)) rfl
/-- what a throw asks of the tables -/
def XW (q : Nat × Nat × String) : Prop := ∃ (ix : Nat) (bytes : ByteArray), (decode bytes 0 = .ok (.aload_n 0, 1) ∧ decode bytes 1 = .ok (.aload_n 1, 1) ∧ decode bytes 2 = .ok (.invokespecial ix, 3) ∧ decode bytes 5 = .ok (.return_, 1)) ∧ Bundle.fit q.2.2 = true ∧ Cond.classLink RX11 q.1 q.2.2 ∈ TBL ∧ Cond.initialized q.2.2 ∈ TBL ∧ (∀ w ∈ Cond.classLink RX11 q.1 q.2.2 :: Cond.initialized q.2.2 :: (thA RX11 q.2.1 q.2.2 "java/lang/RuntimeException" ix bytes ["java/lang/Exception"]), vx_ot w = true) ∧ (∀ w ∈ (thA RX11 q.2.1 q.2.2 "java/lang/RuntimeException" ix bytes ["java/lang/Exception"]).filter goodWord, w ∈ TBL) ∧ (∀ w ∈ (thA RX11 q.2.1 q.2.2 "java/lang/RuntimeException" ix bytes ["java/lang/Exception"]).filter (fun w => !goodWord w), w ∈ NGW)
theorem xw_good {L : List Cond} (h : (L.filter goodWord).all (fun w => decide (w ∈ lw_tbl)) = true) : ∀ w ∈ L.filter goodWord, w ∈ TBL := fun w hw => TBL_in (of_decide_eq_true (List.all_eq_true.mp h w hw)) (List.mem_filter.mp hw).2
theorem xw_ng {L : List Cond} (h : L.all (fun w => decide (w ∈ tables_1) && isNG w) = true) : ∀ w ∈ L, w ∈ NGW := fun w hw => by
  have h1 := List.all_eq_true.mp h w hw
  rw [Bool.and_eq_true] at h1
  exact NGW_in (of_decide_eq_true h1.1) h1.2
theorem xw_all : ∀ q ∈ excs, XW q := List.forall_mem_cons.mpr ⟨⟨7, Bundle.six, ⟨by decide +kernel, by decide +kernel, by decide +kernel, by decide +kernel⟩, by decide +kernel, xk_IllegalArgumentException, xi_IllegalArgumentException, fun w hw => List.all_eq_true.mp xo_IllegalArgumentException w hw, xw_good xg_IllegalArgumentException, xw_ng xn_IllegalArgumentException⟩, List.forall_mem_cons.mpr ⟨⟨13, th13, ⟨by decide +kernel, by decide +kernel, by decide +kernel, by decide +kernel⟩, by decide +kernel, xk_NoSuchElementException, xi_NoSuchElementException, fun w hw => List.all_eq_true.mp xo_NoSuchElementException w hw, xw_good xg_NoSuchElementException, xw_ng xn_NoSuchElementException⟩, List.forall_mem_cons.mpr ⟨⟨7, Bundle.six, ⟨by decide +kernel, by decide +kernel, by decide +kernel, by decide +kernel⟩, by decide +kernel, xk_IndexOutOfBoundsException, xi_IndexOutOfBoundsException, fun w hw => List.all_eq_true.mp xo_IndexOutOfBoundsException w hw, xw_good xg_IndexOutOfBoundsException, xw_ng xn_IndexOutOfBoundsException⟩, List.forall_mem_cons.mpr ⟨⟨7, Bundle.six, ⟨by decide +kernel, by decide +kernel, by decide +kernel, by decide +kernel⟩, by decide +kernel, xk_IllegalStateException, xi_IllegalStateException, fun w hw => List.all_eq_true.mp xo_IllegalStateException w hw, xw_good xg_IllegalStateException, xw_ng xn_IllegalStateException⟩, fun _ h => absurd h List.not_mem_nil⟩⟩⟩⟩
