theorem mem_p {w : Cond} {i : Nat} (h : (k2_sels lw_privs)[i]? = some w) (g : goodWord w = true) : w ∈ mtbl := List.mem_filter.mpr ⟨List.mem_append_left _ (List.mem_of_getElem? h), g⟩
theorem mem_c1 {w : Cond} {i : Nat} (h : tables_1_1[i]? = some w) (g : goodWord w = true) : w ∈ mtbl := List.mem_filter.mpr ⟨List.mem_append_right _ (show w ∈ tables_1 from (List.mem_append_left _ (List.mem_of_getElem? h))), g⟩
theorem mem_c2 {w : Cond} {i : Nat} (h : tables_1_2[i]? = some w) (g : goodWord w = true) : w ∈ mtbl := List.mem_filter.mpr ⟨List.mem_append_right _ (show w ∈ tables_1 from (List.mem_append_right _ (List.mem_append_left _ (List.mem_of_getElem? h)))), g⟩
theorem mem_c3 {w : Cond} {i : Nat} (h : tables_1_3[i]? = some w) (g : goodWord w = true) : w ∈ mtbl := List.mem_filter.mpr ⟨List.mem_append_right _ (show w ∈ tables_1 from (List.mem_append_right _ (List.mem_append_right _ (List.mem_append_left _ (List.mem_of_getElem? h))))), g⟩
theorem mem_c4 {w : Cond} {i : Nat} (h : tables_1_4[i]? = some w) (g : goodWord w = true) : w ∈ mtbl := List.mem_filter.mpr ⟨List.mem_append_right _ (show w ∈ tables_1 from (List.mem_append_right _ (List.mem_append_right _ (List.mem_append_right _ (List.mem_append_left _ (List.mem_of_getElem? h)))))), g⟩
theorem mem_c5 {w : Cond} {i : Nat} (h : tables_1_5[i]? = some w) (g : goodWord w = true) : w ∈ mtbl := List.mem_filter.mpr ⟨List.mem_append_right _ (show w ∈ tables_1 from (List.mem_append_right _ (List.mem_append_right _ (List.mem_append_right _ (List.mem_append_right _ (List.mem_append_left _ (List.mem_of_getElem? h))))))), g⟩
theorem mem_c6 {w : Cond} {i : Nat} (h : tables_1_6[i]? = some w) (g : goodWord w = true) : w ∈ mtbl := List.mem_filter.mpr ⟨List.mem_append_right _ (show w ∈ tables_1 from (List.mem_append_right _ (List.mem_append_right _ (List.mem_append_right _ (List.mem_append_right _ (List.mem_append_right _ (List.mem_append_left _ (List.mem_of_getElem? h)))))))), g⟩
theorem mem_c7 {w : Cond} {i : Nat} (h : tables_1_7[i]? = some w) (g : goodWord w = true) : w ∈ mtbl := List.mem_filter.mpr ⟨List.mem_append_right _ (show w ∈ tables_1 from (List.mem_append_right _ (List.mem_append_right _ (List.mem_append_right _ (List.mem_append_right _ (List.mem_append_right _ (List.mem_append_right _ (List.mem_append_left _ (List.mem_of_getElem? h))))))))), g⟩
theorem mem_c8 {w : Cond} {i : Nat} (h : tables_1_8[i]? = some w) (g : goodWord w = true) : w ∈ mtbl := List.mem_filter.mpr ⟨List.mem_append_right _ (show w ∈ tables_1 from (List.mem_append_right _ (List.mem_append_right _ (List.mem_append_right _ (List.mem_append_right _ (List.mem_append_right _ (List.mem_append_right _ (List.mem_append_right _ (List.mem_append_left _ (List.mem_of_getElem? h)))))))))), g⟩
theorem mem_c9 {w : Cond} {i : Nat} (h : tables_1_9[i]? = some w) (g : goodWord w = true) : w ∈ mtbl := List.mem_filter.mpr ⟨List.mem_append_right _ (show w ∈ tables_1 from (List.mem_append_right _ (List.mem_append_right _ (List.mem_append_right _ (List.mem_append_right _ (List.mem_append_right _ (List.mem_append_right _ (List.mem_append_right _ (List.mem_append_right _ (List.mem_append_left _ (List.mem_of_getElem? h))))))))))), g⟩
theorem mem_c10 {w : Cond} {i : Nat} (h : tables_1_10[i]? = some w) (g : goodWord w = true) : w ∈ mtbl := List.mem_filter.mpr ⟨List.mem_append_right _ (show w ∈ tables_1 from (List.mem_append_right _ (List.mem_append_right _ (List.mem_append_right _ (List.mem_append_right _ (List.mem_append_right _ (List.mem_append_right _ (List.mem_append_right _ (List.mem_append_right _ (List.mem_append_right _ (List.mem_append_left _ (List.mem_of_getElem? h)))))))))))), g⟩
theorem mem_c11 {w : Cond} {i : Nat} (h : tables_1_11[i]? = some w) (g : goodWord w = true) : w ∈ mtbl := List.mem_filter.mpr ⟨List.mem_append_right _ (show w ∈ tables_1 from (List.mem_append_right _ (List.mem_append_right _ (List.mem_append_right _ (List.mem_append_right _ (List.mem_append_right _ (List.mem_append_right _ (List.mem_append_right _ (List.mem_append_right _ (List.mem_append_right _ (List.mem_append_right _ (List.mem_append_left _ (List.mem_of_getElem? h))))))))))))), g⟩
theorem mem_c12 {w : Cond} {i : Nat} (h : tables_1_12[i]? = some w) (g : goodWord w = true) : w ∈ mtbl := List.mem_filter.mpr ⟨List.mem_append_right _ (show w ∈ tables_1 from (List.mem_append_right _ (List.mem_append_right _ (List.mem_append_right _ (List.mem_append_right _ (List.mem_append_right _ (List.mem_append_right _ (List.mem_append_right _ (List.mem_append_right _ (List.mem_append_right _ (List.mem_append_right _ (List.mem_append_right _ (List.mem_append_left _ (List.mem_of_getElem? h)))))))))))))), g⟩
theorem mem_c13 {w : Cond} {i : Nat} (h : tables_1_13[i]? = some w) (g : goodWord w = true) : w ∈ mtbl := List.mem_filter.mpr ⟨List.mem_append_right _ (show w ∈ tables_1 from (List.mem_append_right _ (List.mem_append_right _ (List.mem_append_right _ (List.mem_append_right _ (List.mem_append_right _ (List.mem_append_right _ (List.mem_append_right _ (List.mem_append_right _ (List.mem_append_right _ (List.mem_append_right _ (List.mem_append_right _ (List.mem_append_right _ (List.mem_of_getElem? h)))))))))))))), g⟩
theorem lay_X0_0 : u_lay RX0 TX0 0 ∈ mtbl := mem_c1 (i := 58) (by decide +kernel) rfl
theorem lay_X0_1 : u_lay RX0 TX0 1 ∈ mtbl := mem_c1 (i := 60) (by decide +kernel) rfl
theorem lay_X0_2 : u_lay RX0 TX0 2 ∈ mtbl := mem_c1 (i := 62) (by decide +kernel) rfl
theorem inX0 : ∀ w ∈ u_ws RX0 TX0 3, w ∈ mtbl := by
  intro w hw
  obtain ⟨k, hk, rfl⟩ := List.mem_map.mp hw
  exact (show ∀ a, a < 3 → u_lay RX0 TX0 a ∈ mtbl from (lt_s (lt_s (lt_s lt_0 lay_X0_0) lay_X0_1) lay_X0_2)) k (List.mem_range.mp hk)
theorem lay_X1_0 : u_lay RX1 TX1 0 ∈ mtbl := mem_c2 (i := 39) (by decide +kernel) rfl
theorem lay_X1_1 : u_lay RX1 TX1 1 ∈ mtbl := mem_c2 (i := 41) (by decide +kernel) rfl
theorem lay_X1_2 : u_lay RX1 TX1 2 ∈ mtbl := mem_c2 (i := 43) (by decide +kernel) rfl
theorem lay_X1_3 : u_lay RX1 TX1 3 ∈ mtbl := mem_c2 (i := 45) (by decide +kernel) rfl
theorem lay_X1_4 : u_lay RX1 TX1 4 ∈ mtbl := mem_c2 (i := 47) (by decide +kernel) rfl
theorem lay_X1_5 : u_lay RX1 TX1 5 ∈ mtbl := mem_c2 (i := 49) (by decide +kernel) rfl
theorem inX1 : ∀ w ∈ u_ws RX1 TX1 6, w ∈ mtbl := by
  intro w hw
  obtain ⟨k, hk, rfl⟩ := List.mem_map.mp hw
  exact (show ∀ a, a < 6 → u_lay RX1 TX1 a ∈ mtbl from (lt_s (lt_s (lt_s (lt_s (lt_s (lt_s lt_0 lay_X1_0) lay_X1_1) lay_X1_2) lay_X1_3) lay_X1_4) lay_X1_5)) k (List.mem_range.mp hk)
theorem lay_X2_0 : u_lay RX2 TX2 0 ∈ mtbl := mem_c2 (i := 69) (by decide +kernel) rfl
theorem lay_X2_1 : u_lay RX2 TX2 1 ∈ mtbl := mem_c2 (i := 71) (by decide +kernel) rfl
theorem lay_X2_2 : u_lay RX2 TX2 2 ∈ mtbl := mem_c2 (i := 73) (by decide +kernel) rfl
theorem lay_X2_3 : u_lay RX2 TX2 3 ∈ mtbl := mem_c2 (i := 75) (by decide +kernel) rfl
theorem lay_X2_4 : u_lay RX2 TX2 4 ∈ mtbl := mem_c2 (i := 77) (by decide +kernel) rfl
theorem lay_X2_5 : u_lay RX2 TX2 5 ∈ mtbl := mem_c2 (i := 79) (by decide +kernel) rfl
theorem lay_X2_6 : u_lay RX2 TX2 6 ∈ mtbl := mem_c2 (i := 81) (by decide +kernel) rfl
theorem lay_X2_7 : u_lay RX2 TX2 7 ∈ mtbl := mem_c2 (i := 83) (by decide +kernel) rfl
theorem lay_X2_8 : u_lay RX2 TX2 8 ∈ mtbl := mem_c2 (i := 85) (by decide +kernel) rfl
theorem inX2 : ∀ w ∈ u_ws RX2 TX2 9, w ∈ mtbl := by
  intro w hw
  obtain ⟨k, hk, rfl⟩ := List.mem_map.mp hw
  exact (show ∀ a, a < 9 → u_lay RX2 TX2 a ∈ mtbl from (lt_s (lt_s (lt_s (lt_s (lt_s (lt_s (lt_s (lt_s (lt_s lt_0 lay_X2_0) lay_X2_1) lay_X2_2) lay_X2_3) lay_X2_4) lay_X2_5) lay_X2_6) lay_X2_7) lay_X2_8)) k (List.mem_range.mp hk)
theorem lay_X3_0 : u_lay RX3 TX3 0 ∈ mtbl := mem_c3 (i := 42) (by decide +kernel) rfl
theorem lay_X3_1 : u_lay RX3 TX3 1 ∈ mtbl := mem_c3 (i := 44) (by decide +kernel) rfl
theorem lay_X3_2 : u_lay RX3 TX3 2 ∈ mtbl := mem_c3 (i := 46) (by decide +kernel) rfl
theorem lay_X3_3 : u_lay RX3 TX3 3 ∈ mtbl := mem_c3 (i := 48) (by decide +kernel) rfl
theorem lay_X3_4 : u_lay RX3 TX3 4 ∈ mtbl := mem_c3 (i := 50) (by decide +kernel) rfl
theorem lay_X3_5 : u_lay RX3 TX3 5 ∈ mtbl := mem_c3 (i := 52) (by decide +kernel) rfl
theorem lay_X3_6 : u_lay RX3 TX3 6 ∈ mtbl := mem_c3 (i := 54) (by decide +kernel) rfl
theorem lay_X3_7 : u_lay RX3 TX3 7 ∈ mtbl := mem_c3 (i := 56) (by decide +kernel) rfl
theorem lay_X3_8 : u_lay RX3 TX3 8 ∈ mtbl := mem_c3 (i := 58) (by decide +kernel) rfl
theorem lay_X3_9 : u_lay RX3 TX3 9 ∈ mtbl := mem_c3 (i := 60) (by decide +kernel) rfl
theorem lay_X3_10 : u_lay RX3 TX3 10 ∈ mtbl := mem_c3 (i := 62) (by decide +kernel) rfl
theorem lay_X3_11 : u_lay RX3 TX3 11 ∈ mtbl := mem_c3 (i := 64) (by decide +kernel) rfl
theorem lay_X3_12 : u_lay RX3 TX3 12 ∈ mtbl := mem_c3 (i := 66) (by decide +kernel) rfl
theorem lay_X3_13 : u_lay RX3 TX3 13 ∈ mtbl := mem_c3 (i := 68) (by decide +kernel) rfl
theorem lay_X3_14 : u_lay RX3 TX3 14 ∈ mtbl := mem_c3 (i := 70) (by decide +kernel) rfl
theorem lay_X3_15 : u_lay RX3 TX3 15 ∈ mtbl := mem_c3 (i := 72) (by decide +kernel) rfl
theorem inX3 : ∀ w ∈ u_ws RX3 TX3 16, w ∈ mtbl := by
  intro w hw
  obtain ⟨k, hk, rfl⟩ := List.mem_map.mp hw
  exact (show ∀ a, a < 16 → u_lay RX3 TX3 a ∈ mtbl from (lt_s (lt_s (lt_s (lt_s (lt_s (lt_s (lt_s (lt_s (lt_s (lt_s (lt_s (lt_s (lt_s (lt_s (lt_s (lt_s lt_0 lay_X3_0) lay_X3_1) lay_X3_2) lay_X3_3) lay_X3_4) lay_X3_5) lay_X3_6) lay_X3_7) lay_X3_8) lay_X3_9) lay_X3_10) lay_X3_11) lay_X3_12) lay_X3_13) lay_X3_14) lay_X3_15)) k (List.mem_range.mp hk)
theorem lay_X4_0 : u_lay RX4 TX4 0 ∈ mtbl := mem_c2 (i := 1) (by decide +kernel) rfl
theorem lay_X4_1 : u_lay RX4 TX4 1 ∈ mtbl := mem_c2 (i := 3) (by decide +kernel) rfl
theorem lay_X4_2 : u_lay RX4 TX4 2 ∈ mtbl := mem_c2 (i := 5) (by decide +kernel) rfl
theorem lay_X4_3 : u_lay RX4 TX4 3 ∈ mtbl := mem_c2 (i := 7) (by decide +kernel) rfl
theorem lay_X4_4 : u_lay RX4 TX4 4 ∈ mtbl := mem_c2 (i := 9) (by decide +kernel) rfl
theorem lay_X4_5 : u_lay RX4 TX4 5 ∈ mtbl := mem_c2 (i := 11) (by decide +kernel) rfl
theorem lay_X4_6 : u_lay RX4 TX4 6 ∈ mtbl := mem_c2 (i := 13) (by decide +kernel) rfl
theorem lay_X4_7 : u_lay RX4 TX4 7 ∈ mtbl := mem_c2 (i := 15) (by decide +kernel) rfl
theorem lay_X4_8 : u_lay RX4 TX4 8 ∈ mtbl := mem_c2 (i := 17) (by decide +kernel) rfl
theorem lay_X4_9 : u_lay RX4 TX4 9 ∈ mtbl := mem_c2 (i := 19) (by decide +kernel) rfl
theorem lay_X4_10 : u_lay RX4 TX4 10 ∈ mtbl := mem_c2 (i := 21) (by decide +kernel) rfl
theorem inX4 : ∀ w ∈ u_ws RX4 TX4 11, w ∈ mtbl := by
  intro w hw
  obtain ⟨k, hk, rfl⟩ := List.mem_map.mp hw
  exact (show ∀ a, a < 11 → u_lay RX4 TX4 a ∈ mtbl from (lt_s (lt_s (lt_s (lt_s (lt_s (lt_s (lt_s (lt_s (lt_s (lt_s (lt_s lt_0 lay_X4_0) lay_X4_1) lay_X4_2) lay_X4_3) lay_X4_4) lay_X4_5) lay_X4_6) lay_X4_7) lay_X4_8) lay_X4_9) lay_X4_10)) k (List.mem_range.mp hk)
theorem lay_X5_0 : u_lay RX5 TX5 0 ∈ mtbl := mem_c1 (i := 201) (by decide +kernel) rfl
theorem lay_X5_1 : u_lay RX5 TX5 1 ∈ mtbl := mem_c1 (i := 203) (by decide +kernel) rfl
theorem lay_X5_2 : u_lay RX5 TX5 2 ∈ mtbl := mem_c1 (i := 205) (by decide +kernel) rfl
theorem lay_X5_3 : u_lay RX5 TX5 3 ∈ mtbl := mem_c1 (i := 207) (by decide +kernel) rfl
theorem lay_X5_4 : u_lay RX5 TX5 4 ∈ mtbl := mem_c1 (i := 209) (by decide +kernel) rfl
theorem lay_X5_5 : u_lay RX5 TX5 5 ∈ mtbl := mem_c1 (i := 211) (by decide +kernel) rfl
theorem lay_X5_6 : u_lay RX5 TX5 6 ∈ mtbl := mem_c1 (i := 213) (by decide +kernel) rfl
theorem lay_X5_7 : u_lay RX5 TX5 7 ∈ mtbl := mem_c1 (i := 215) (by decide +kernel) rfl
theorem lay_X5_8 : u_lay RX5 TX5 8 ∈ mtbl := mem_c1 (i := 217) (by decide +kernel) rfl
theorem lay_X5_9 : u_lay RX5 TX5 9 ∈ mtbl := mem_c1 (i := 219) (by decide +kernel) rfl
theorem inX5 : ∀ w ∈ u_ws RX5 TX5 10, w ∈ mtbl := by
  intro w hw
  obtain ⟨k, hk, rfl⟩ := List.mem_map.mp hw
  exact (show ∀ a, a < 10 → u_lay RX5 TX5 a ∈ mtbl from (lt_s (lt_s (lt_s (lt_s (lt_s (lt_s (lt_s (lt_s (lt_s (lt_s lt_0 lay_X5_0) lay_X5_1) lay_X5_2) lay_X5_3) lay_X5_4) lay_X5_5) lay_X5_6) lay_X5_7) lay_X5_8) lay_X5_9)) k (List.mem_range.mp hk)
theorem lay_X6_0 : u_lay RX6 TX6 0 ∈ mtbl := mem_c2 (i := 108) (by decide +kernel) rfl
theorem lay_X6_1 : u_lay RX6 TX6 1 ∈ mtbl := mem_c2 (i := 110) (by decide +kernel) rfl
theorem lay_X6_2 : u_lay RX6 TX6 2 ∈ mtbl := mem_c2 (i := 112) (by decide +kernel) rfl
theorem lay_X6_3 : u_lay RX6 TX6 3 ∈ mtbl := mem_c2 (i := 114) (by decide +kernel) rfl
theorem lay_X6_4 : u_lay RX6 TX6 4 ∈ mtbl := mem_c2 (i := 116) (by decide +kernel) rfl
theorem lay_X6_5 : u_lay RX6 TX6 5 ∈ mtbl := mem_c2 (i := 118) (by decide +kernel) rfl
theorem lay_X6_6 : u_lay RX6 TX6 6 ∈ mtbl := mem_c2 (i := 120) (by decide +kernel) rfl
theorem lay_X6_7 : u_lay RX6 TX6 7 ∈ mtbl := mem_c2 (i := 122) (by decide +kernel) rfl
theorem inX6 : ∀ w ∈ u_ws RX6 TX6 8, w ∈ mtbl := by
  intro w hw
  obtain ⟨k, hk, rfl⟩ := List.mem_map.mp hw
  exact (show ∀ a, a < 8 → u_lay RX6 TX6 a ∈ mtbl from (lt_s (lt_s (lt_s (lt_s (lt_s (lt_s (lt_s (lt_s lt_0 lay_X6_0) lay_X6_1) lay_X6_2) lay_X6_3) lay_X6_4) lay_X6_5) lay_X6_6) lay_X6_7)) k (List.mem_range.mp hk)
theorem lay_X7_0 : u_lay RX7 TX7 0 ∈ mtbl := mem_c1 (i := 152) (by decide +kernel) rfl
theorem lay_X7_1 : u_lay RX7 TX7 1 ∈ mtbl := mem_c1 (i := 154) (by decide +kernel) rfl
theorem lay_X7_2 : u_lay RX7 TX7 2 ∈ mtbl := mem_c1 (i := 156) (by decide +kernel) rfl
theorem lay_X7_3 : u_lay RX7 TX7 3 ∈ mtbl := mem_c1 (i := 158) (by decide +kernel) rfl
theorem lay_X7_4 : u_lay RX7 TX7 4 ∈ mtbl := mem_c1 (i := 160) (by decide +kernel) rfl
theorem lay_X7_5 : u_lay RX7 TX7 5 ∈ mtbl := mem_c1 (i := 162) (by decide +kernel) rfl
theorem lay_X7_6 : u_lay RX7 TX7 6 ∈ mtbl := mem_c1 (i := 164) (by decide +kernel) rfl
theorem lay_X7_7 : u_lay RX7 TX7 7 ∈ mtbl := mem_c1 (i := 166) (by decide +kernel) rfl
theorem lay_X7_8 : u_lay RX7 TX7 8 ∈ mtbl := mem_c1 (i := 168) (by decide +kernel) rfl
theorem inX7 : ∀ w ∈ u_ws RX7 TX7 9, w ∈ mtbl := by
  intro w hw
  obtain ⟨k, hk, rfl⟩ := List.mem_map.mp hw
  exact (show ∀ a, a < 9 → u_lay RX7 TX7 a ∈ mtbl from (lt_s (lt_s (lt_s (lt_s (lt_s (lt_s (lt_s (lt_s (lt_s lt_0 lay_X7_0) lay_X7_1) lay_X7_2) lay_X7_3) lay_X7_4) lay_X7_5) lay_X7_6) lay_X7_7) lay_X7_8)) k (List.mem_range.mp hk)
theorem lay_X8_0 : u_lay RX8 TX8 0 ∈ mtbl := mem_c2 (i := 133) (by decide +kernel) rfl
theorem lay_X8_1 : u_lay RX8 TX8 1 ∈ mtbl := mem_c2 (i := 135) (by decide +kernel) rfl
theorem lay_X8_2 : u_lay RX8 TX8 2 ∈ mtbl := mem_c2 (i := 137) (by decide +kernel) rfl
theorem lay_X8_3 : u_lay RX8 TX8 3 ∈ mtbl := mem_c2 (i := 139) (by decide +kernel) rfl
theorem lay_X8_4 : u_lay RX8 TX8 4 ∈ mtbl := mem_c2 (i := 141) (by decide +kernel) rfl
theorem lay_X8_5 : u_lay RX8 TX8 5 ∈ mtbl := mem_c2 (i := 143) (by decide +kernel) rfl
theorem inX8 : ∀ w ∈ u_ws RX8 TX8 6, w ∈ mtbl := by
  intro w hw
  obtain ⟨k, hk, rfl⟩ := List.mem_map.mp hw
  exact (show ∀ a, a < 6 → u_lay RX8 TX8 a ∈ mtbl from (lt_s (lt_s (lt_s (lt_s (lt_s (lt_s lt_0 lay_X8_0) lay_X8_1) lay_X8_2) lay_X8_3) lay_X8_4) lay_X8_5)) k (List.mem_range.mp hk)
theorem lay_X9_0 : u_lay RX9 TX9 0 ∈ mtbl := mem_c1 (i := 114) (by decide +kernel) rfl
theorem lay_X9_1 : u_lay RX9 TX9 1 ∈ mtbl := mem_c1 (i := 116) (by decide +kernel) rfl
theorem lay_X9_2 : u_lay RX9 TX9 2 ∈ mtbl := mem_c1 (i := 118) (by decide +kernel) rfl
theorem lay_X9_3 : u_lay RX9 TX9 3 ∈ mtbl := mem_c1 (i := 120) (by decide +kernel) rfl
theorem lay_X9_4 : u_lay RX9 TX9 4 ∈ mtbl := mem_c1 (i := 122) (by decide +kernel) rfl
theorem lay_X9_5 : u_lay RX9 TX9 5 ∈ mtbl := mem_c1 (i := 124) (by decide +kernel) rfl
theorem lay_X9_6 : u_lay RX9 TX9 6 ∈ mtbl := mem_c1 (i := 126) (by decide +kernel) rfl
theorem lay_X9_7 : u_lay RX9 TX9 7 ∈ mtbl := mem_c1 (i := 128) (by decide +kernel) rfl
theorem lay_X9_8 : u_lay RX9 TX9 8 ∈ mtbl := mem_c1 (i := 130) (by decide +kernel) rfl
theorem lay_X9_9 : u_lay RX9 TX9 9 ∈ mtbl := mem_c1 (i := 132) (by decide +kernel) rfl
theorem lay_X9_10 : u_lay RX9 TX9 10 ∈ mtbl := mem_c1 (i := 134) (by decide +kernel) rfl
theorem inX9 : ∀ w ∈ u_ws RX9 TX9 11, w ∈ mtbl := by
  intro w hw
  obtain ⟨k, hk, rfl⟩ := List.mem_map.mp hw
  exact (show ∀ a, a < 11 → u_lay RX9 TX9 a ∈ mtbl from (lt_s (lt_s (lt_s (lt_s (lt_s (lt_s (lt_s (lt_s (lt_s (lt_s (lt_s lt_0 lay_X9_0) lay_X9_1) lay_X9_2) lay_X9_3) lay_X9_4) lay_X9_5) lay_X9_6) lay_X9_7) lay_X9_8) lay_X9_9) lay_X9_10)) k (List.mem_range.mp hk)
theorem lay_X10_0 : u_lay RX10 TX10 0 ∈ mtbl := mem_c3 (i := 114) (by decide +kernel) rfl
theorem lay_X10_1 : u_lay RX10 TX10 1 ∈ mtbl := mem_c3 (i := 116) (by decide +kernel) rfl
theorem lay_X10_2 : u_lay RX10 TX10 2 ∈ mtbl := mem_c3 (i := 118) (by decide +kernel) rfl
theorem lay_X10_3 : u_lay RX10 TX10 3 ∈ mtbl := mem_c3 (i := 120) (by decide +kernel) rfl
theorem lay_X10_4 : u_lay RX10 TX10 4 ∈ mtbl := mem_c3 (i := 122) (by decide +kernel) rfl
theorem lay_X10_5 : u_lay RX10 TX10 5 ∈ mtbl := mem_c3 (i := 124) (by decide +kernel) rfl
theorem lay_X10_6 : u_lay RX10 TX10 6 ∈ mtbl := mem_c3 (i := 126) (by decide +kernel) rfl
theorem lay_X10_7 : u_lay RX10 TX10 7 ∈ mtbl := mem_c3 (i := 128) (by decide +kernel) rfl
theorem lay_X10_8 : u_lay RX10 TX10 8 ∈ mtbl := mem_c3 (i := 130) (by decide +kernel) rfl
theorem lay_X10_9 : u_lay RX10 TX10 9 ∈ mtbl := mem_c3 (i := 132) (by decide +kernel) rfl
theorem lay_X10_10 : u_lay RX10 TX10 10 ∈ mtbl := mem_c3 (i := 134) (by decide +kernel) rfl
theorem lay_X10_11 : u_lay RX10 TX10 11 ∈ mtbl := mem_c3 (i := 136) (by decide +kernel) rfl
theorem lay_X10_12 : u_lay RX10 TX10 12 ∈ mtbl := mem_c3 (i := 138) (by decide +kernel) rfl
theorem lay_X10_13 : u_lay RX10 TX10 13 ∈ mtbl := mem_c3 (i := 140) (by decide +kernel) rfl
theorem lay_X10_14 : u_lay RX10 TX10 14 ∈ mtbl := mem_c3 (i := 142) (by decide +kernel) rfl
theorem lay_X10_15 : u_lay RX10 TX10 15 ∈ mtbl := mem_c3 (i := 144) (by decide +kernel) rfl
theorem inX10 : ∀ w ∈ u_ws RX10 TX10 16, w ∈ mtbl := by
  intro w hw
  obtain ⟨k, hk, rfl⟩ := List.mem_map.mp hw
  exact (show ∀ a, a < 16 → u_lay RX10 TX10 a ∈ mtbl from (lt_s (lt_s (lt_s (lt_s (lt_s (lt_s (lt_s (lt_s (lt_s (lt_s (lt_s (lt_s (lt_s (lt_s (lt_s (lt_s lt_0 lay_X10_0) lay_X10_1) lay_X10_2) lay_X10_3) lay_X10_4) lay_X10_5) lay_X10_6) lay_X10_7) lay_X10_8) lay_X10_9) lay_X10_10) lay_X10_11) lay_X10_12) lay_X10_13) lay_X10_14) lay_X10_15)) k (List.mem_range.mp hk)
theorem lay_X11_0 : u_lay RX11 TX11 0 ∈ mtbl := mem_c3 (i := 165) (by decide +kernel) rfl
theorem lay_X11_1 : u_lay RX11 TX11 1 ∈ mtbl := mem_c3 (i := 167) (by decide +kernel) rfl
theorem lay_X11_2 : u_lay RX11 TX11 2 ∈ mtbl := mem_c3 (i := 169) (by decide +kernel) rfl
theorem lay_X11_3 : u_lay RX11 TX11 3 ∈ mtbl := mem_c3 (i := 171) (by decide +kernel) rfl
theorem lay_X11_4 : u_lay RX11 TX11 4 ∈ mtbl := mem_c3 (i := 173) (by decide +kernel) rfl
theorem lay_X11_5 : u_lay RX11 TX11 5 ∈ mtbl := mem_c3 (i := 175) (by decide +kernel) rfl
theorem lay_X11_6 : u_lay RX11 TX11 6 ∈ mtbl := mem_c3 (i := 177) (by decide +kernel) rfl
theorem lay_X11_7 : u_lay RX11 TX11 7 ∈ mtbl := mem_c3 (i := 179) (by decide +kernel) rfl
theorem lay_X11_8 : u_lay RX11 TX11 8 ∈ mtbl := mem_c3 (i := 181) (by decide +kernel) rfl
theorem lay_X11_9 : u_lay RX11 TX11 9 ∈ mtbl := mem_c3 (i := 183) (by decide +kernel) rfl
theorem lay_X11_10 : u_lay RX11 TX11 10 ∈ mtbl := mem_c3 (i := 185) (by decide +kernel) rfl
theorem lay_X11_11 : u_lay RX11 TX11 11 ∈ mtbl := mem_c3 (i := 187) (by decide +kernel) rfl
theorem lay_X11_12 : u_lay RX11 TX11 12 ∈ mtbl := mem_c3 (i := 189) (by decide +kernel) rfl
theorem lay_X11_13 : u_lay RX11 TX11 13 ∈ mtbl := mem_c3 (i := 191) (by decide +kernel) rfl
theorem lay_X11_14 : u_lay RX11 TX11 14 ∈ mtbl := mem_c3 (i := 193) (by decide +kernel) rfl
theorem lay_X11_15 : u_lay RX11 TX11 15 ∈ mtbl := mem_c3 (i := 195) (by decide +kernel) rfl
theorem lay_X11_16 : u_lay RX11 TX11 16 ∈ mtbl := mem_c3 (i := 197) (by decide +kernel) rfl
theorem lay_X11_17 : u_lay RX11 TX11 17 ∈ mtbl := mem_c3 (i := 199) (by decide +kernel) rfl
theorem inX11 : ∀ w ∈ u_ws RX11 TX11 18, w ∈ mtbl := by
  intro w hw
  obtain ⟨k, hk, rfl⟩ := List.mem_map.mp hw
  exact (show ∀ a, a < 18 → u_lay RX11 TX11 a ∈ mtbl from (lt_s (lt_s (lt_s (lt_s (lt_s (lt_s (lt_s (lt_s (lt_s (lt_s (lt_s (lt_s (lt_s (lt_s (lt_s (lt_s (lt_s (lt_s lt_0 lay_X11_0) lay_X11_1) lay_X11_2) lay_X11_3) lay_X11_4) lay_X11_5) lay_X11_6) lay_X11_7) lay_X11_8) lay_X11_9) lay_X11_10) lay_X11_11) lay_X11_12) lay_X11_13) lay_X11_14) lay_X11_15) lay_X11_16) lay_X11_17)) k (List.mem_range.mp hk)
theorem lay_X12_0 : u_lay RX12 TX12 0 ∈ mtbl := mem_c8 (i := 65) (by decide +kernel) rfl
theorem lay_X12_1 : u_lay RX12 TX12 1 ∈ mtbl := mem_c8 (i := 67) (by decide +kernel) rfl
theorem lay_X12_2 : u_lay RX12 TX12 2 ∈ mtbl := mem_c8 (i := 69) (by decide +kernel) rfl
theorem lay_X12_3 : u_lay RX12 TX12 3 ∈ mtbl := mem_c8 (i := 71) (by decide +kernel) rfl
theorem lay_X12_4 : u_lay RX12 TX12 4 ∈ mtbl := mem_c8 (i := 73) (by decide +kernel) rfl
theorem lay_X12_5 : u_lay RX12 TX12 5 ∈ mtbl := mem_c8 (i := 75) (by decide +kernel) rfl
theorem lay_X12_6 : u_lay RX12 TX12 6 ∈ mtbl := mem_c8 (i := 77) (by decide +kernel) rfl
theorem lay_X12_7 : u_lay RX12 TX12 7 ∈ mtbl := mem_c8 (i := 79) (by decide +kernel) rfl
theorem lay_X12_8 : u_lay RX12 TX12 8 ∈ mtbl := mem_c8 (i := 81) (by decide +kernel) rfl
theorem inX12 : ∀ w ∈ u_ws RX12 TX12 9, w ∈ mtbl := by
  intro w hw
  obtain ⟨k, hk, rfl⟩ := List.mem_map.mp hw
  exact (show ∀ a, a < 9 → u_lay RX12 TX12 a ∈ mtbl from (lt_s (lt_s (lt_s (lt_s (lt_s (lt_s (lt_s (lt_s (lt_s lt_0 lay_X12_0) lay_X12_1) lay_X12_2) lay_X12_3) lay_X12_4) lay_X12_5) lay_X12_6) lay_X12_7) lay_X12_8)) k (List.mem_range.mp hk)
theorem lay_X13_0 : u_lay RX13 TX13 0 ∈ mtbl := mem_c9 (i := 40) (by decide +kernel) rfl
theorem lay_X13_1 : u_lay RX13 TX13 1 ∈ mtbl := mem_c9 (i := 42) (by decide +kernel) rfl
theorem lay_X13_2 : u_lay RX13 TX13 2 ∈ mtbl := mem_c9 (i := 44) (by decide +kernel) rfl
theorem lay_X13_3 : u_lay RX13 TX13 3 ∈ mtbl := mem_c9 (i := 46) (by decide +kernel) rfl
theorem lay_X13_4 : u_lay RX13 TX13 4 ∈ mtbl := mem_c9 (i := 48) (by decide +kernel) rfl
theorem lay_X13_5 : u_lay RX13 TX13 5 ∈ mtbl := mem_c9 (i := 50) (by decide +kernel) rfl
theorem lay_X13_6 : u_lay RX13 TX13 6 ∈ mtbl := mem_c9 (i := 52) (by decide +kernel) rfl
theorem lay_X13_7 : u_lay RX13 TX13 7 ∈ mtbl := mem_c9 (i := 54) (by decide +kernel) rfl
theorem lay_X13_8 : u_lay RX13 TX13 8 ∈ mtbl := mem_c9 (i := 56) (by decide +kernel) rfl
theorem lay_X13_9 : u_lay RX13 TX13 9 ∈ mtbl := mem_c9 (i := 58) (by decide +kernel) rfl
theorem lay_X13_10 : u_lay RX13 TX13 10 ∈ mtbl := mem_c9 (i := 60) (by decide +kernel) rfl
theorem lay_X13_11 : u_lay RX13 TX13 11 ∈ mtbl := mem_c9 (i := 62) (by decide +kernel) rfl
theorem lay_X13_12 : u_lay RX13 TX13 12 ∈ mtbl := mem_c9 (i := 64) (by decide +kernel) rfl
theorem lay_X13_13 : u_lay RX13 TX13 13 ∈ mtbl := mem_c9 (i := 66) (by decide +kernel) rfl
theorem lay_X13_14 : u_lay RX13 TX13 14 ∈ mtbl := mem_c9 (i := 68) (by decide +kernel) rfl
theorem lay_X13_15 : u_lay RX13 TX13 15 ∈ mtbl := mem_c9 (i := 70) (by decide +kernel) rfl
theorem lay_X13_16 : u_lay RX13 TX13 16 ∈ mtbl := mem_c9 (i := 72) (by decide +kernel) rfl
theorem lay_X13_17 : u_lay RX13 TX13 17 ∈ mtbl := mem_c9 (i := 74) (by decide +kernel) rfl
theorem lay_X13_18 : u_lay RX13 TX13 18 ∈ mtbl := mem_c9 (i := 76) (by decide +kernel) rfl
theorem lay_X13_19 : u_lay RX13 TX13 19 ∈ mtbl := mem_c9 (i := 78) (by decide +kernel) rfl
theorem lay_X13_20 : u_lay RX13 TX13 20 ∈ mtbl := mem_c9 (i := 80) (by decide +kernel) rfl
theorem lay_X13_21 : u_lay RX13 TX13 21 ∈ mtbl := mem_c9 (i := 82) (by decide +kernel) rfl
theorem lay_X13_22 : u_lay RX13 TX13 22 ∈ mtbl := mem_c9 (i := 84) (by decide +kernel) rfl
theorem lay_X13_23 : u_lay RX13 TX13 23 ∈ mtbl := mem_c9 (i := 86) (by decide +kernel) rfl
theorem lay_X13_24 : u_lay RX13 TX13 24 ∈ mtbl := mem_c9 (i := 88) (by decide +kernel) rfl
theorem lay_X13_25 : u_lay RX13 TX13 25 ∈ mtbl := mem_c9 (i := 90) (by decide +kernel) rfl
theorem lay_X13_26 : u_lay RX13 TX13 26 ∈ mtbl := mem_c9 (i := 92) (by decide +kernel) rfl
theorem lay_X13_27 : u_lay RX13 TX13 27 ∈ mtbl := mem_c9 (i := 94) (by decide +kernel) rfl
theorem lay_X13_28 : u_lay RX13 TX13 28 ∈ mtbl := mem_c9 (i := 96) (by decide +kernel) rfl
theorem lay_X13_29 : u_lay RX13 TX13 29 ∈ mtbl := mem_c9 (i := 98) (by decide +kernel) rfl
theorem lay_X13_30 : u_lay RX13 TX13 30 ∈ mtbl := mem_c9 (i := 100) (by decide +kernel) rfl
theorem lay_X13_31 : u_lay RX13 TX13 31 ∈ mtbl := mem_c9 (i := 102) (by decide +kernel) rfl
theorem lay_X13_32 : u_lay RX13 TX13 32 ∈ mtbl := mem_c9 (i := 104) (by decide +kernel) rfl
theorem lay_X13_33 : u_lay RX13 TX13 33 ∈ mtbl := mem_c9 (i := 106) (by decide +kernel) rfl
theorem lay_X13_34 : u_lay RX13 TX13 34 ∈ mtbl := mem_c9 (i := 108) (by decide +kernel) rfl
theorem lay_X13_35 : u_lay RX13 TX13 35 ∈ mtbl := mem_c9 (i := 110) (by decide +kernel) rfl
theorem lay_X13_36 : u_lay RX13 TX13 36 ∈ mtbl := mem_c9 (i := 112) (by decide +kernel) rfl
theorem lay_X13_37 : u_lay RX13 TX13 37 ∈ mtbl := mem_c9 (i := 114) (by decide +kernel) rfl
theorem lay_X13_38 : u_lay RX13 TX13 38 ∈ mtbl := mem_c9 (i := 116) (by decide +kernel) rfl
theorem lay_X13_39 : u_lay RX13 TX13 39 ∈ mtbl := mem_c9 (i := 118) (by decide +kernel) rfl
theorem lay_X13_40 : u_lay RX13 TX13 40 ∈ mtbl := mem_c9 (i := 120) (by decide +kernel) rfl
theorem lay_X13_41 : u_lay RX13 TX13 41 ∈ mtbl := mem_c9 (i := 122) (by decide +kernel) rfl
theorem lay_X13_42 : u_lay RX13 TX13 42 ∈ mtbl := mem_c9 (i := 124) (by decide +kernel) rfl
theorem lay_X13_43 : u_lay RX13 TX13 43 ∈ mtbl := mem_c9 (i := 126) (by decide +kernel) rfl
theorem lay_X13_44 : u_lay RX13 TX13 44 ∈ mtbl := mem_c9 (i := 128) (by decide +kernel) rfl
theorem lay_X13_45 : u_lay RX13 TX13 45 ∈ mtbl := mem_c9 (i := 130) (by decide +kernel) rfl
theorem lay_X13_46 : u_lay RX13 TX13 46 ∈ mtbl := mem_c9 (i := 132) (by decide +kernel) rfl
theorem lay_X13_47 : u_lay RX13 TX13 47 ∈ mtbl := mem_c9 (i := 134) (by decide +kernel) rfl
theorem lay_X13_48 : u_lay RX13 TX13 48 ∈ mtbl := mem_c9 (i := 136) (by decide +kernel) rfl
theorem lay_X13_49 : u_lay RX13 TX13 49 ∈ mtbl := mem_c9 (i := 138) (by decide +kernel) rfl
theorem lay_X13_50 : u_lay RX13 TX13 50 ∈ mtbl := mem_c9 (i := 140) (by decide +kernel) rfl
theorem lay_X13_51 : u_lay RX13 TX13 51 ∈ mtbl := mem_c9 (i := 142) (by decide +kernel) rfl
theorem lay_X13_52 : u_lay RX13 TX13 52 ∈ mtbl := mem_c9 (i := 144) (by decide +kernel) rfl
theorem lay_X13_53 : u_lay RX13 TX13 53 ∈ mtbl := mem_c9 (i := 146) (by decide +kernel) rfl
theorem lay_X13_54 : u_lay RX13 TX13 54 ∈ mtbl := mem_c9 (i := 148) (by decide +kernel) rfl
theorem lay_X13_55 : u_lay RX13 TX13 55 ∈ mtbl := mem_c9 (i := 150) (by decide +kernel) rfl
theorem lay_X13_56 : u_lay RX13 TX13 56 ∈ mtbl := mem_c9 (i := 152) (by decide +kernel) rfl
theorem lay_X13_57 : u_lay RX13 TX13 57 ∈ mtbl := mem_c9 (i := 154) (by decide +kernel) rfl
theorem lay_X13_58 : u_lay RX13 TX13 58 ∈ mtbl := mem_c9 (i := 156) (by decide +kernel) rfl
theorem lay_X13_59 : u_lay RX13 TX13 59 ∈ mtbl := mem_c9 (i := 158) (by decide +kernel) rfl
theorem lay_X13_60 : u_lay RX13 TX13 60 ∈ mtbl := mem_c9 (i := 160) (by decide +kernel) rfl
theorem lay_X13_61 : u_lay RX13 TX13 61 ∈ mtbl := mem_c9 (i := 162) (by decide +kernel) rfl
theorem lay_X13_62 : u_lay RX13 TX13 62 ∈ mtbl := mem_c9 (i := 164) (by decide +kernel) rfl
theorem lay_X13_63 : u_lay RX13 TX13 63 ∈ mtbl := mem_c9 (i := 166) (by decide +kernel) rfl
theorem lay_X13_64 : u_lay RX13 TX13 64 ∈ mtbl := mem_c9 (i := 168) (by decide +kernel) rfl
theorem lay_X13_65 : u_lay RX13 TX13 65 ∈ mtbl := mem_c9 (i := 170) (by decide +kernel) rfl
theorem lay_X13_66 : u_lay RX13 TX13 66 ∈ mtbl := mem_c9 (i := 172) (by decide +kernel) rfl
theorem lay_X13_67 : u_lay RX13 TX13 67 ∈ mtbl := mem_c9 (i := 174) (by decide +kernel) rfl
theorem lay_X13_68 : u_lay RX13 TX13 68 ∈ mtbl := mem_c9 (i := 176) (by decide +kernel) rfl
theorem lay_X13_69 : u_lay RX13 TX13 69 ∈ mtbl := mem_c9 (i := 178) (by decide +kernel) rfl
theorem lay_X13_70 : u_lay RX13 TX13 70 ∈ mtbl := mem_c9 (i := 180) (by decide +kernel) rfl
theorem lay_X13_71 : u_lay RX13 TX13 71 ∈ mtbl := mem_c9 (i := 182) (by decide +kernel) rfl
theorem lay_X13_72 : u_lay RX13 TX13 72 ∈ mtbl := mem_c9 (i := 184) (by decide +kernel) rfl
theorem lay_X13_73 : u_lay RX13 TX13 73 ∈ mtbl := mem_c9 (i := 186) (by decide +kernel) rfl
theorem lay_X13_74 : u_lay RX13 TX13 74 ∈ mtbl := mem_c9 (i := 188) (by decide +kernel) rfl
theorem lay_X13_75 : u_lay RX13 TX13 75 ∈ mtbl := mem_c9 (i := 190) (by decide +kernel) rfl
theorem lay_X13_76 : u_lay RX13 TX13 76 ∈ mtbl := mem_c9 (i := 192) (by decide +kernel) rfl
theorem lay_X13_77 : u_lay RX13 TX13 77 ∈ mtbl := mem_c9 (i := 194) (by decide +kernel) rfl
theorem lay_X13_78 : u_lay RX13 TX13 78 ∈ mtbl := mem_c9 (i := 196) (by decide +kernel) rfl
theorem lay_X13_79 : u_lay RX13 TX13 79 ∈ mtbl := mem_c9 (i := 198) (by decide +kernel) rfl
theorem lay_X13_80 : u_lay RX13 TX13 80 ∈ mtbl := mem_c9 (i := 200) (by decide +kernel) rfl
theorem lay_X13_81 : u_lay RX13 TX13 81 ∈ mtbl := mem_c9 (i := 202) (by decide +kernel) rfl
theorem lay_X13_82 : u_lay RX13 TX13 82 ∈ mtbl := mem_c9 (i := 204) (by decide +kernel) rfl
theorem lay_X13_83 : u_lay RX13 TX13 83 ∈ mtbl := mem_c9 (i := 206) (by decide +kernel) rfl
theorem lay_X13_84 : u_lay RX13 TX13 84 ∈ mtbl := mem_c9 (i := 208) (by decide +kernel) rfl
theorem lay_X13_85 : u_lay RX13 TX13 85 ∈ mtbl := mem_c9 (i := 210) (by decide +kernel) rfl
theorem lay_X13_86 : u_lay RX13 TX13 86 ∈ mtbl := mem_c9 (i := 212) (by decide +kernel) rfl
theorem lay_X13_87 : u_lay RX13 TX13 87 ∈ mtbl := mem_c9 (i := 214) (by decide +kernel) rfl
theorem lay_X13_88 : u_lay RX13 TX13 88 ∈ mtbl := mem_c9 (i := 216) (by decide +kernel) rfl
theorem lay_X13_89 : u_lay RX13 TX13 89 ∈ mtbl := mem_c9 (i := 218) (by decide +kernel) rfl
theorem lay_X13_90 : u_lay RX13 TX13 90 ∈ mtbl := mem_c9 (i := 220) (by decide +kernel) rfl
theorem lay_X13_91 : u_lay RX13 TX13 91 ∈ mtbl := mem_c9 (i := 222) (by decide +kernel) rfl
theorem lay_X13_92 : u_lay RX13 TX13 92 ∈ mtbl := mem_c9 (i := 224) (by decide +kernel) rfl
theorem lay_X13_93 : u_lay RX13 TX13 93 ∈ mtbl := mem_c9 (i := 226) (by decide +kernel) rfl
theorem lay_X13_94 : u_lay RX13 TX13 94 ∈ mtbl := mem_c9 (i := 228) (by decide +kernel) rfl
theorem lay_X13_95 : u_lay RX13 TX13 95 ∈ mtbl := mem_c9 (i := 230) (by decide +kernel) rfl
theorem lay_X13_96 : u_lay RX13 TX13 96 ∈ mtbl := mem_c9 (i := 232) (by decide +kernel) rfl
theorem lay_X13_97 : u_lay RX13 TX13 97 ∈ mtbl := mem_c9 (i := 234) (by decide +kernel) rfl
theorem lay_X13_98 : u_lay RX13 TX13 98 ∈ mtbl := mem_c9 (i := 236) (by decide +kernel) rfl
theorem lay_X13_99 : u_lay RX13 TX13 99 ∈ mtbl := mem_c9 (i := 238) (by decide +kernel) rfl
theorem lay_X13_100 : u_lay RX13 TX13 100 ∈ mtbl := mem_c10 (i := 0) (by decide +kernel) rfl
theorem lay_X13_101 : u_lay RX13 TX13 101 ∈ mtbl := mem_c10 (i := 2) (by decide +kernel) rfl
theorem lay_X13_102 : u_lay RX13 TX13 102 ∈ mtbl := mem_c10 (i := 4) (by decide +kernel) rfl
theorem lay_X13_103 : u_lay RX13 TX13 103 ∈ mtbl := mem_c10 (i := 6) (by decide +kernel) rfl
theorem lay_X13_104 : u_lay RX13 TX13 104 ∈ mtbl := mem_c10 (i := 8) (by decide +kernel) rfl
theorem lay_X13_105 : u_lay RX13 TX13 105 ∈ mtbl := mem_c10 (i := 10) (by decide +kernel) rfl
theorem lay_X13_106 : u_lay RX13 TX13 106 ∈ mtbl := mem_c10 (i := 12) (by decide +kernel) rfl
theorem lay_X13_107 : u_lay RX13 TX13 107 ∈ mtbl := mem_c10 (i := 14) (by decide +kernel) rfl
theorem lay_X13_108 : u_lay RX13 TX13 108 ∈ mtbl := mem_c10 (i := 16) (by decide +kernel) rfl
theorem lay_X13_109 : u_lay RX13 TX13 109 ∈ mtbl := mem_c10 (i := 18) (by decide +kernel) rfl
theorem lay_X13_110 : u_lay RX13 TX13 110 ∈ mtbl := mem_c10 (i := 20) (by decide +kernel) rfl
theorem lay_X13_111 : u_lay RX13 TX13 111 ∈ mtbl := mem_c10 (i := 22) (by decide +kernel) rfl
theorem lay_X13_112 : u_lay RX13 TX13 112 ∈ mtbl := mem_c10 (i := 24) (by decide +kernel) rfl
theorem lay_X13_113 : u_lay RX13 TX13 113 ∈ mtbl := mem_c10 (i := 26) (by decide +kernel) rfl
theorem lay_X13_114 : u_lay RX13 TX13 114 ∈ mtbl := mem_c10 (i := 28) (by decide +kernel) rfl
theorem lay_X13_115 : u_lay RX13 TX13 115 ∈ mtbl := mem_c10 (i := 30) (by decide +kernel) rfl
theorem lay_X13_116 : u_lay RX13 TX13 116 ∈ mtbl := mem_c10 (i := 32) (by decide +kernel) rfl
theorem lay_X13_117 : u_lay RX13 TX13 117 ∈ mtbl := mem_c10 (i := 34) (by decide +kernel) rfl
theorem lay_X13_118 : u_lay RX13 TX13 118 ∈ mtbl := mem_c10 (i := 36) (by decide +kernel) rfl
theorem lay_X13_119 : u_lay RX13 TX13 119 ∈ mtbl := mem_c10 (i := 38) (by decide +kernel) rfl
theorem lay_X13_120 : u_lay RX13 TX13 120 ∈ mtbl := mem_c10 (i := 40) (by decide +kernel) rfl
theorem lay_X13_121 : u_lay RX13 TX13 121 ∈ mtbl := mem_c10 (i := 42) (by decide +kernel) rfl
theorem lay_X13_122 : u_lay RX13 TX13 122 ∈ mtbl := mem_c10 (i := 44) (by decide +kernel) rfl
theorem lay_X13_123 : u_lay RX13 TX13 123 ∈ mtbl := mem_c10 (i := 46) (by decide +kernel) rfl
theorem lay_X13_124 : u_lay RX13 TX13 124 ∈ mtbl := mem_c10 (i := 48) (by decide +kernel) rfl
theorem lay_X13_125 : u_lay RX13 TX13 125 ∈ mtbl := mem_c10 (i := 50) (by decide +kernel) rfl
theorem lay_X13_126 : u_lay RX13 TX13 126 ∈ mtbl := mem_c10 (i := 52) (by decide +kernel) rfl
theorem lay_X13_127 : u_lay RX13 TX13 127 ∈ mtbl := mem_c10 (i := 54) (by decide +kernel) rfl
theorem lay_X13_128 : u_lay RX13 TX13 128 ∈ mtbl := mem_c10 (i := 56) (by decide +kernel) rfl
theorem lay_X13_129 : u_lay RX13 TX13 129 ∈ mtbl := mem_c10 (i := 58) (by decide +kernel) rfl
theorem lay_X13_130 : u_lay RX13 TX13 130 ∈ mtbl := mem_c10 (i := 60) (by decide +kernel) rfl
theorem lay_X13_131 : u_lay RX13 TX13 131 ∈ mtbl := mem_c10 (i := 62) (by decide +kernel) rfl
theorem lay_X13_132 : u_lay RX13 TX13 132 ∈ mtbl := mem_c10 (i := 64) (by decide +kernel) rfl
theorem lay_X13_133 : u_lay RX13 TX13 133 ∈ mtbl := mem_c10 (i := 66) (by decide +kernel) rfl
theorem inX13 : ∀ w ∈ u_ws RX13 TX13 134, w ∈ mtbl := by
  intro w hw
  obtain ⟨k, hk, rfl⟩ := List.mem_map.mp hw
  exact (show ∀ a, a < 134 → u_lay RX13 TX13 a ∈ mtbl from (lt_s (lt_s (lt_s (lt_s (lt_s (lt_s (lt_s (lt_s (lt_s (lt_s (lt_s (lt_s (lt_s (lt_s (lt_s (lt_s (lt_s (lt_s (lt_s (lt_s (lt_s (lt_s (lt_s (lt_s (lt_s (lt_s (lt_s (lt_s (lt_s (lt_s (lt_s (lt_s (lt_s (lt_s (lt_s (lt_s (lt_s (lt_s (lt_s (lt_s (lt_s (lt_s (lt_s (lt_s (lt_s (lt_s (lt_s (lt_s (lt_s (lt_s (lt_s (lt_s (lt_s (lt_s (lt_s (lt_s (lt_s (lt_s (lt_s (lt_s (lt_s (lt_s (lt_s (lt_s (lt_s (lt_s (lt_s (lt_s (lt_s (lt_s (lt_s (lt_s (lt_s (lt_s (lt_s (lt_s (lt_s (lt_s (lt_s (lt_s (lt_s (lt_s (lt_s (lt_s (lt_s (lt_s (lt_s (lt_s (lt_s (lt_s (lt_s (lt_s (lt_s (lt_s (lt_s (lt_s (lt_s (lt_s (lt_s (lt_s (lt_s (lt_s (lt_s (lt_s (lt_s (lt_s (lt_s (lt_s (lt_s (lt_s (lt_s (lt_s (lt_s (lt_s (lt_s (lt_s (lt_s (lt_s (lt_s (lt_s (lt_s (lt_s (lt_s (lt_s (lt_s (lt_s (lt_s (lt_s (lt_s (lt_s (lt_s (lt_s (lt_s (lt_s lt_0 lay_X13_0) lay_X13_1) lay_X13_2) lay_X13_3) lay_X13_4) lay_X13_5) lay_X13_6) lay_X13_7) lay_X13_8) lay_X13_9) lay_X13_10) lay_X13_11) lay_X13_12) lay_X13_13) lay_X13_14) lay_X13_15) lay_X13_16) lay_X13_17) lay_X13_18) lay_X13_19) lay_X13_20) lay_X13_21) lay_X13_22) lay_X13_23) lay_X13_24) lay_X13_25) lay_X13_26) lay_X13_27) lay_X13_28) lay_X13_29) lay_X13_30) lay_X13_31) lay_X13_32) lay_X13_33) lay_X13_34) lay_X13_35) lay_X13_36) lay_X13_37) lay_X13_38) lay_X13_39) lay_X13_40) lay_X13_41) lay_X13_42) lay_X13_43) lay_X13_44) lay_X13_45) lay_X13_46) lay_X13_47) lay_X13_48) lay_X13_49) lay_X13_50) lay_X13_51) lay_X13_52) lay_X13_53) lay_X13_54) lay_X13_55) lay_X13_56) lay_X13_57) lay_X13_58) lay_X13_59) lay_X13_60) lay_X13_61) lay_X13_62) lay_X13_63) lay_X13_64) lay_X13_65) lay_X13_66) lay_X13_67) lay_X13_68) lay_X13_69) lay_X13_70) lay_X13_71) lay_X13_72) lay_X13_73) lay_X13_74) lay_X13_75) lay_X13_76) lay_X13_77) lay_X13_78) lay_X13_79) lay_X13_80) lay_X13_81) lay_X13_82) lay_X13_83) lay_X13_84) lay_X13_85) lay_X13_86) lay_X13_87) lay_X13_88) lay_X13_89) lay_X13_90) lay_X13_91) lay_X13_92) lay_X13_93) lay_X13_94) lay_X13_95) lay_X13_96) lay_X13_97) lay_X13_98) lay_X13_99) lay_X13_100) lay_X13_101) lay_X13_102) lay_X13_103) lay_X13_104) lay_X13_105) lay_X13_106) lay_X13_107) lay_X13_108) lay_X13_109) lay_X13_110) lay_X13_111) lay_X13_112) lay_X13_113) lay_X13_114) lay_X13_115) lay_X13_116) lay_X13_117) lay_X13_118) lay_X13_119) lay_X13_120) lay_X13_121) lay_X13_122) lay_X13_123) lay_X13_124) lay_X13_125) lay_X13_126) lay_X13_127) lay_X13_128) lay_X13_129) lay_X13_130) lay_X13_131) lay_X13_132) lay_X13_133)) k (List.mem_range.mp hk)
theorem kJ_J0_9 : Cond.fieldLink RJ0 9 "java/lang/String" "value" "[B" ∈ mtbl := mem_c13 (i := 128) (by decide +kernel) rfl
theorem kJ_J0_15 : Cond.fieldLink RJ0 15 "java/lang/String" "coder" "B" ∈ mtbl := mem_c13 (i := 129) (by decide +kernel) rfl
theorem kJ_J0_38 : Cond.fieldLink RJ0 38 "java/lang/String" "COMPACT_STRINGS" "Z" ∈ mtbl := mem_c2 (i := 170) (by decide +kernel) rfl
theorem kJ_J0_1053 : Cond.fieldLink RJ0 1053 "jdk/internal/util/Preconditions" "SIOOBE_FORMATTER" "Ljava/util/function/BiFunction;" ∈ mtbl := mem_c2 (i := 186) (by decide +kernel) rfl
theorem fG_X11_11 : fG RX11 11 11 0 := ⟨_, _, _, rfl, by decide, inX11, by decide, Or.inl (mem_c3 (i := 147) (by decide +kernel) rfl)⟩
theorem fP_X11_11 (nm : String) (h : nm ≠ nm ∨ nm = "<init>") : fP RX11 11 11 0 (.array (.object "SealedTokens$Bytes")) nm := ⟨_, _, _, tyX11, rfl, by decide, inX11, by decide, mem_c3 (i := 147) (by decide +kernel) rfl, tyX11_ok, nmX11, by decide +kernel, Or.inr ⟨rfl, h.elim (fun q => absurd rfl q) id, rfl⟩⟩
theorem fG_X11_18 : fG RX11 18 11 1 := ⟨_, _, _, rfl, by decide, inX11, by decide, Or.inl (mem_c3 (i := 148) (by decide +kernel) rfl)⟩
theorem fP_X11_18 (nm : String) (h : nm ≠ nm ∨ nm = "<init>") : fP RX11 18 11 1 (.object "SealedTokens$Bytes") nm := ⟨_, _, _, tyX11, rfl, by decide, inX11, by decide, mem_c3 (i := 148) (by decide +kernel) rfl, tyX11_ok, nmX11, by decide +kernel, Or.inr ⟨rfl, h.elim (fun q => absurd rfl q) id, rfl⟩⟩
theorem fG_X11_22 : fG RX11 22 11 2 := ⟨_, _, _, rfl, by decide, inX11, by decide, Or.inl (mem_c3 (i := 149) (by decide +kernel) rfl)⟩
theorem fP_X11_22 (nm : String) (h : nm ≠ nm ∨ nm = "<init>") : fP RX11 22 11 2 (.object "SealedTokens$Bytes") nm := ⟨_, _, _, tyX11, rfl, by decide, inX11, by decide, mem_c3 (i := 149) (by decide +kernel) rfl, tyX11_ok, nmX11, by decide +kernel, Or.inr ⟨rfl, h.elim (fun q => absurd rfl q) id, rfl⟩⟩
theorem fG_X11_25 : fG RX11 25 11 3 := ⟨_, _, _, rfl, by decide, inX11, by decide, Or.inl (mem_c3 (i := 150) (by decide +kernel) rfl)⟩
theorem fP_X11_25 (nm : String) (h : nm ≠ nm ∨ nm = "<init>") : fP RX11 25 11 3 (.object "SealedTokens$Bytes") nm := ⟨_, _, _, tyX11, rfl, by decide, inX11, by decide, mem_c3 (i := 150) (by decide +kernel) rfl, tyX11_ok, nmX11, by decide +kernel, Or.inr ⟨rfl, h.elim (fun q => absurd rfl q) id, rfl⟩⟩
theorem fG_X11_28 : fG RX11 28 11 4 := ⟨_, _, _, rfl, by decide, inX11, by decide, Or.inl (mem_c3 (i := 151) (by decide +kernel) rfl)⟩
theorem fP_X11_28 (nm : String) (h : nm ≠ nm ∨ nm = "<init>") : fP RX11 28 11 4 (.object "SealedTokens$Bytes") nm := ⟨_, _, _, tyX11, rfl, by decide, inX11, by decide, mem_c3 (i := 151) (by decide +kernel) rfl, tyX11_ok, nmX11, by decide +kernel, Or.inr ⟨rfl, h.elim (fun q => absurd rfl q) id, rfl⟩⟩
theorem fG_X11_31 : fG RX11 31 11 5 := ⟨_, _, _, rfl, by decide, inX11, by decide, Or.inl (mem_c3 (i := 152) (by decide +kernel) rfl)⟩
theorem fP_X11_31 (nm : String) (h : nm ≠ nm ∨ nm = "<init>") : fP RX11 31 11 5 (.object "SealedTokens$Bytes") nm := ⟨_, _, _, tyX11, rfl, by decide, inX11, by decide, mem_c3 (i := 152) (by decide +kernel) rfl, tyX11_ok, nmX11, by decide +kernel, Or.inr ⟨rfl, h.elim (fun q => absurd rfl q) id, rfl⟩⟩
theorem fG_X11_34 : fG RX11 34 11 6 := ⟨_, _, _, rfl, by decide, inX11, by decide, Or.inl (mem_c3 (i := 153) (by decide +kernel) rfl)⟩
theorem fP_X11_34 (nm : String) (h : nm ≠ nm ∨ nm = "<init>") : fP RX11 34 11 6 (.object "SealedTokens$Bytes") nm := ⟨_, _, _, tyX11, rfl, by decide, inX11, by decide, mem_c3 (i := 153) (by decide +kernel) rfl, tyX11_ok, nmX11, by decide +kernel, Or.inr ⟨rfl, h.elim (fun q => absurd rfl q) id, rfl⟩⟩
theorem fG_X11_40 : fG RX11 40 11 7 := ⟨_, _, _, rfl, by decide, inX11, by decide, Or.inl (mem_c3 (i := 154) (by decide +kernel) rfl)⟩
theorem fP_X11_40 (nm : String) : fP RX11 40 11 7 (.object "SealedTokens$Text") nm := ⟨_, _, _, tyX11, rfl, by decide, inX11, by decide, mem_c3 (i := 154) (by decide +kernel) rfl, tyX11_ok, nmX11, by decide +kernel, Or.inl rfl⟩
theorem fG_X11_44 : fG RX11 44 11 8 := ⟨_, _, _, rfl, by decide, inX11, by decide, Or.inl (mem_c3 (i := 155) (by decide +kernel) rfl)⟩
theorem fP_X11_44 (nm : String) : fP RX11 44 11 8 (.object "SealedTokens$Text") nm := ⟨_, _, _, tyX11, rfl, by decide, inX11, by decide, mem_c3 (i := 155) (by decide +kernel) rfl, tyX11_ok, nmX11, by decide +kernel, Or.inl rfl⟩
theorem fG_X11_52 : fG RX11 52 11 9 := ⟨_, _, _, rfl, by decide, inX11, by decide, Or.inl (mem_c3 (i := 156) (by decide +kernel) rfl)⟩
theorem fP_X11_52 (nm : String) (h : nm ≠ nm ∨ nm = "<init>") : fP RX11 52 11 9 (.object "SealedTokens$Reader") nm := ⟨_, _, _, tyX11, rfl, by decide, inX11, by decide, mem_c3 (i := 156) (by decide +kernel) rfl, tyX11_ok, nmX11, by decide +kernel, Or.inr ⟨rfl, h.elim (fun q => absurd rfl q) id, rfl⟩⟩
theorem fG_X11_58 : fG RX11 58 11 10 := ⟨_, _, _, rfl, by decide, inX11, by decide, Or.inl (mem_c3 (i := 157) (by decide +kernel) rfl)⟩
theorem fP_X11_58 (nm : String) (h : nm ≠ nm ∨ nm = "<init>") : fP RX11 58 11 10 (.array (.object "SealedTokens$Key")) nm := ⟨_, _, _, tyX11, rfl, by decide, inX11, by decide, mem_c3 (i := 157) (by decide +kernel) rfl, tyX11_ok, nmX11, by decide +kernel, Or.inr ⟨rfl, h.elim (fun q => absurd rfl q) id, rfl⟩⟩
theorem fG_X11_63 : fG RX11 63 11 11 := ⟨_, _, _, rfl, by decide, inX11, by decide, Or.inl (mem_c3 (i := 158) (by decide +kernel) rfl)⟩
theorem fP_X11_63 (nm : String) : fP RX11 63 11 11 (.object "SealedTokens$Key") nm := ⟨_, _, _, tyX11, rfl, by decide, inX11, by decide, mem_c3 (i := 158) (by decide +kernel) rfl, tyX11_ok, nmX11, by decide +kernel, Or.inl rfl⟩
theorem fG_X11_70 : fG RX11 70 11 12 := ⟨_, _, _, rfl, by decide, inX11, by decide, Or.inl (mem_c3 (i := 159) (by decide +kernel) rfl)⟩
theorem fP_X11_70 (nm : String) (h : nm ≠ nm ∨ nm = "<init>") : fP RX11 70 11 12 (.object "SealedTokens$Digest") nm := ⟨_, _, _, tyX11, rfl, by decide, inX11, by decide, mem_c3 (i := 159) (by decide +kernel) rfl, tyX11_ok, nmX11, by decide +kernel, Or.inr ⟨rfl, h.elim (fun q => absurd rfl q) id, rfl⟩⟩
theorem fG_X11_77 : fG RX11 77 11 13 := ⟨_, _, _, rfl, by decide, inX11, by decide, Or.inl (mem_c3 (i := 160) (by decide +kernel) rfl)⟩
theorem fP_X11_77 (nm : String) (h : nm ≠ nm ∨ nm = "<init>") : fP RX11 77 11 13 (.object "SealedTokens$Cipher") nm := ⟨_, _, _, tyX11, rfl, by decide, inX11, by decide, mem_c3 (i := 160) (by decide +kernel) rfl, tyX11_ok, nmX11, by decide +kernel, Or.inr ⟨rfl, h.elim (fun q => absurd rfl q) id, rfl⟩⟩
theorem fG_X11_86 : fG RX11 86 11 14 := ⟨_, _, _, rfl, by decide, inX11, by decide, Or.inl (mem_c3 (i := 161) (by decide +kernel) rfl)⟩
theorem fP_X11_86 (nm : String) (h : nm ≠ nm ∨ nm = "<init>") : fP RX11 86 11 14 (.object "SealedTokens$Content") nm := ⟨_, _, _, tyX11, rfl, by decide, inX11, by decide, mem_c3 (i := 161) (by decide +kernel) rfl, tyX11_ok, nmX11, by decide +kernel, Or.inr ⟨rfl, h.elim (fun q => absurd rfl q) id, rfl⟩⟩
theorem fG_X11_95 : fG RX11 95 11 15 := ⟨_, _, _, rfl, by decide, inX11, by decide, Or.inl (mem_c3 (i := 162) (by decide +kernel) rfl)⟩
theorem fP_X11_95 (nm : String) (h : nm ≠ nm ∨ nm = "<init>") : fP RX11 95 11 15 (.object "SealedTokens$Rsa") nm := ⟨_, _, _, tyX11, rfl, by decide, inX11, by decide, mem_c3 (i := 162) (by decide +kernel) rfl, tyX11_ok, nmX11, by decide +kernel, Or.inr ⟨rfl, h.elim (fun q => absurd rfl q) id, rfl⟩⟩
theorem fG_X11_102 : fG RX11 102 11 16 := ⟨_, _, _, rfl, by decide, inX11, by decide, Or.inl (mem_c3 (i := 163) (by decide +kernel) rfl)⟩
theorem fP_X11_102 (nm : String) (h : nm ≠ nm ∨ nm = "<init>") : fP RX11 102 11 16 (.object "SealedTokens$Curve") nm := ⟨_, _, _, tyX11, rfl, by decide, inX11, by decide, mem_c3 (i := 163) (by decide +kernel) rfl, tyX11_ok, nmX11, by decide +kernel, Or.inr ⟨rfl, h.elim (fun q => absurd rfl q) id, rfl⟩⟩
theorem fG_X11_109 : fG RX11 109 11 17 := ⟨_, _, _, rfl, by decide, inX11, by decide, Or.inl (mem_c3 (i := 164) (by decide +kernel) rfl)⟩
theorem fP_X11_109 (nm : String) (h : nm ≠ nm ∨ nm = "<init>") : fP RX11 109 11 17 (.object "SealedTokens$Token") nm := ⟨_, _, _, tyX11, rfl, by decide, inX11, by decide, mem_c3 (i := 164) (by decide +kernel) rfl, tyX11_ok, nmX11, by decide +kernel, Or.inr ⟨rfl, h.elim (fun q => absurd rfl q) id, rfl⟩⟩
theorem fG_X11_113 : fG RX11 113 0 1 := ⟨_, _, _, rfl, by decide, inX0, by decide, Or.inl (mem_c1 (i := 46) (by decide +kernel) rfl)⟩
theorem fP_X11_113 (nm : String) : fP RX11 113 0 1 .int nm := ⟨_, _, _, tyX0, rfl, by decide, inX0, by decide, mem_c1 (i := 46) (by decide +kernel) rfl, tyX0_ok, nmX0, by decide +kernel, Or.inl rfl⟩
theorem fG_X11_134 : fG RX11 134 0 0 := ⟨_, _, _, rfl, by decide, inX0, by decide, Or.inl (mem_c1 (i := 41) (by decide +kernel) rfl)⟩
theorem fG_X11_146 : fG RX11 146 9 0 := ⟨_, _, _, rfl, by decide, inX9, by decide, Or.inl (mem_c1 (i := 75) (by decide +kernel) rfl)⟩
theorem fP_X11_146 (nm : String) : fP RX11 146 9 0 .int nm := ⟨_, _, _, tyX9, rfl, by decide, inX9, by decide, mem_c1 (i := 75) (by decide +kernel) rfl, tyX9_ok, nmX9, by decide +kernel, Or.inl rfl⟩
theorem fG_X11_152 : fG RX11 152 9 1 := ⟨_, _, _, rfl, by decide, inX9, by decide, Or.inl (mem_c1 (i := 80) (by decide +kernel) rfl)⟩
theorem fG_X11_155 : fG RX11 155 9 5 := ⟨_, _, _, rfl, by decide, inX9, by decide, Or.inl (mem_c1 (i := 91) (by decide +kernel) rfl)⟩
theorem fG_X11_158 : fG RX11 158 9 7 := ⟨_, _, _, rfl, by decide, inX9, by decide, Or.inl (mem_c1 (i := 100) (by decide +kernel) rfl)⟩
theorem fG_X11_161 : fG RX11 161 9 2 := ⟨_, _, _, rfl, by decide, inX9, by decide, Or.inl (mem_c1 (i := 84) (by decide +kernel) rfl)⟩
theorem fG_X11_164 : fG RX11 164 9 3 := ⟨_, _, _, rfl, by decide, inX9, by decide, Or.inl (mem_c1 (i := 87) (by decide +kernel) rfl)⟩
theorem fG_X11_167 : fG RX11 167 9 4 := ⟨_, _, _, rfl, by decide, inX9, by decide, Or.inl (mem_c1 (i := 89) (by decide +kernel) rfl)⟩
theorem fG_X11_170 : fG RX11 170 9 10 := ⟨_, _, _, rfl, by decide, inX9, by decide, Or.inl (mem_c1 (i := 112) (by decide +kernel) rfl)⟩
theorem fG_X11_173 : fG RX11 173 9 6 := ⟨_, _, _, rfl, by decide, inX9, by decide, Or.inl (mem_c1 (i := 95) (by decide +kernel) rfl)⟩
theorem fG_X11_184 : fG RX11 184 9 8 := ⟨_, _, _, rfl, by decide, inX9, by decide, Or.inl (mem_c1 (i := 105) (by decide +kernel) rfl)⟩
theorem fG_X11_187 : fG RX11 187 9 9 := ⟨_, _, _, rfl, by decide, inX9, by decide, Or.inl (mem_c1 (i := 108) (by decide +kernel) rfl)⟩
theorem fG_X11_198 : fG RX11 198 0 2 := ⟨_, _, _, rfl, by decide, inX0, by decide, Or.inl (mem_c1 (i := 57) (by decide +kernel) rfl)⟩
theorem fP_X11_198 (nm : String) : fP RX11 198 0 2 .boolean nm := ⟨_, _, _, tyX0, rfl, by decide, inX0, by decide, mem_c1 (i := 57) (by decide +kernel) rfl, tyX0_ok, nmX0, by decide +kernel, Or.inl rfl⟩
theorem gS_X11_258 : gS RX11 258 7 := ⟨_, _, _, rfl, Or.inl (mem_c5 (i := 128) (by decide +kernel) rfl)⟩
theorem fG_X11_282 : fG RX11 282 3 0 := ⟨_, _, _, rfl, by decide, inX3, by decide, Or.inl (mem_c3 (i := 25) (by decide +kernel) rfl)⟩
theorem fG_X11_286 : fG RX11 286 3 1 := ⟨_, _, _, rfl, by decide, inX3, by decide, Or.inl (mem_c3 (i := 27) (by decide +kernel) rfl)⟩
theorem fG_X11_308 : fG RX11 308 5 0 := ⟨_, _, _, rfl, by decide, inX5, by decide, Or.inl (mem_c1 (i := 180) (by decide +kernel) rfl)⟩
theorem fP_X11_308 (nm : String) : fP RX11 308 5 0 .boolean nm := ⟨_, _, _, tyX5, rfl, by decide, inX5, by decide, mem_c1 (i := 180) (by decide +kernel) rfl, tyX5_ok, nmX5, by decide +kernel, Or.inl rfl⟩
theorem fG_X11_314 : fG RX11 314 5 1 := ⟨_, _, _, rfl, by decide, inX5, by decide, Or.inl (mem_c1 (i := 182) (by decide +kernel) rfl)⟩
theorem fP_X11_314 (nm : String) : fP RX11 314 5 1 .int nm := ⟨_, _, _, tyX5, rfl, by decide, inX5, by decide, mem_c1 (i := 182) (by decide +kernel) rfl, tyX5_ok, nmX5, by decide +kernel, Or.inl rfl⟩
theorem fG_X11_316 : fG RX11 316 5 6 := ⟨_, _, _, rfl, by decide, inX5, by decide, Or.inl (mem_c1 (i := 193) (by decide +kernel) rfl)⟩
theorem fG_X11_319 : fG RX11 319 5 5 := ⟨_, _, _, rfl, by decide, inX5, by decide, Or.inl (mem_c1 (i := 191) (by decide +kernel) rfl)⟩
theorem fP_X11_319 (nm : String) : fP RX11 319 5 5 .boolean nm := ⟨_, _, _, tyX5, rfl, by decide, inX5, by decide, mem_c1 (i := 191) (by decide +kernel) rfl, tyX5_ok, nmX5, by decide +kernel, Or.inl rfl⟩
theorem fG_X11_322 : fG RX11 322 5 2 := ⟨_, _, _, rfl, by decide, inX5, by decide, Or.inl (mem_c1 (i := 184) (by decide +kernel) rfl)⟩
theorem fP_X11_322 (nm : String) : fP RX11 322 5 2 .int nm := ⟨_, _, _, tyX5, rfl, by decide, inX5, by decide, mem_c1 (i := 184) (by decide +kernel) rfl, tyX5_ok, nmX5, by decide +kernel, Or.inl rfl⟩
theorem fG_X11_325 : fG RX11 325 5 4 := ⟨_, _, _, rfl, by decide, inX5, by decide, Or.inl (mem_c1 (i := 189) (by decide +kernel) rfl)⟩
theorem fP_X11_325 (nm : String) : fP RX11 325 5 4 .boolean nm := ⟨_, _, _, tyX5, rfl, by decide, inX5, by decide, mem_c1 (i := 189) (by decide +kernel) rfl, tyX5_ok, nmX5, by decide +kernel, Or.inl rfl⟩
theorem fG_X11_328 : fG RX11 328 5 9 := ⟨_, _, _, rfl, by decide, inX5, by decide, Or.inl (mem_c1 (i := 200) (by decide +kernel) rfl)⟩
theorem fP_X11_328 (nm : String) : fP RX11 328 5 9 (.object "SealedTokens$Bytes") nm := ⟨_, _, _, tyX5, rfl, by decide, inX5, by decide, mem_c1 (i := 200) (by decide +kernel) rfl, tyX5_ok, nmX5, by decide +kernel, Or.inl rfl⟩
theorem fG_X11_331 : fG RX11 331 5 3 := ⟨_, _, _, rfl, by decide, inX5, by decide, Or.inl (mem_c1 (i := 186) (by decide +kernel) rfl)⟩
theorem fP_X11_331 (nm : String) : fP RX11 331 5 3 .int nm := ⟨_, _, _, tyX5, rfl, by decide, inX5, by decide, mem_c1 (i := 186) (by decide +kernel) rfl, tyX5_ok, nmX5, by decide +kernel, Or.inl rfl⟩
theorem fG_X11_351 : fG RX11 351 10 1 := ⟨_, _, _, rfl, by decide, inX10, by decide, Or.inl (mem_c3 (i := 87) (by decide +kernel) rfl)⟩
theorem fP_X11_351 (nm : String) : fP RX11 351 10 1 .int nm := ⟨_, _, _, tyX10, rfl, by decide, inX10, by decide, mem_c3 (i := 87) (by decide +kernel) rfl, tyX10_ok, nmX10, by decide +kernel, Or.inl rfl⟩
theorem fG_X11_352 : fG RX11 352 10 0 := ⟨_, _, _, rfl, by decide, inX10, by decide, Or.inl (mem_c3 (i := 85) (by decide +kernel) rfl)⟩
theorem fG_X11_355 : fG RX11 355 10 3 := ⟨_, _, _, rfl, by decide, inX10, by decide, Or.inl (mem_c3 (i := 91) (by decide +kernel) rfl)⟩
theorem fP_X11_355 (nm : String) : fP RX11 355 10 3 .boolean nm := ⟨_, _, _, tyX10, rfl, by decide, inX10, by decide, mem_c3 (i := 91) (by decide +kernel) rfl, tyX10_ok, nmX10, by decide +kernel, Or.inl rfl⟩
theorem fG_X11_406 : fG RX11 406 10 7 := ⟨_, _, _, rfl, by decide, inX10, by decide, Or.inl (mem_c3 (i := 99) (by decide +kernel) rfl)⟩
theorem fG_X11_412 : fG RX11 412 10 6 := ⟨_, _, _, rfl, by decide, inX10, by decide, Or.inl (mem_c3 (i := 97) (by decide +kernel) rfl)⟩
theorem fG_X11_425 : fG RX11 425 10 9 := ⟨_, _, _, rfl, by decide, inX10, by decide, Or.inl (mem_c3 (i := 103) (by decide +kernel) rfl)⟩
theorem fG_X11_428 : fG RX11 428 10 11 := ⟨_, _, _, rfl, by decide, inX10, by decide, Or.inl (mem_c3 (i := 107) (by decide +kernel) rfl)⟩
theorem fG_X11_431 : fG RX11 431 10 10 := ⟨_, _, _, rfl, by decide, inX10, by decide, Or.inl (mem_c3 (i := 105) (by decide +kernel) rfl)⟩
theorem fG_X11_444 : fG RX11 444 10 2 := ⟨_, _, _, rfl, by decide, inX10, by decide, Or.inl (mem_c3 (i := 89) (by decide +kernel) rfl)⟩
theorem fP_X11_444 (nm : String) : fP RX11 444 10 2 .int nm := ⟨_, _, _, tyX10, rfl, by decide, inX10, by decide, mem_c3 (i := 89) (by decide +kernel) rfl, tyX10_ok, nmX10, by decide +kernel, Or.inl rfl⟩
theorem gS_X11_450 : gS RX11 450 5 := ⟨_, _, _, rfl, Or.inl (mem_c5 (i := 121) (by decide +kernel) rfl)⟩
theorem gS_X11_453 : gS RX11 453 6 := ⟨_, _, _, rfl, Or.inl (mem_c5 (i := 123) (by decide +kernel) rfl)⟩
theorem fG_X11_456 : fG RX11 456 5 7 := ⟨_, _, _, rfl, by decide, inX5, by decide, Or.inl (mem_c1 (i := 195) (by decide +kernel) rfl)⟩
theorem fG_X11_459 : fG RX11 459 5 8 := ⟨_, _, _, rfl, by decide, inX5, by decide, Or.inl (mem_c1 (i := 197) (by decide +kernel) rfl)⟩
theorem fG_X11_530 : fG RX11 530 10 12 := ⟨_, _, _, rfl, by decide, inX10, by decide, Or.inl (mem_c3 (i := 109) (by decide +kernel) rfl)⟩
theorem fG_X11_533 : fG RX11 533 10 13 := ⟨_, _, _, rfl, by decide, inX10, by decide, Or.inl (mem_c3 (i := 111) (by decide +kernel) rfl)⟩
theorem fG_X11_550 : fG RX11 550 10 8 := ⟨_, _, _, rfl, by decide, inX10, by decide, Or.inl (mem_c3 (i := 101) (by decide +kernel) rfl)⟩
theorem fG_X11_557 : fG RX11 557 10 4 := ⟨_, _, _, rfl, by decide, inX10, by decide, Or.inl (mem_c3 (i := 93) (by decide +kernel) rfl)⟩
theorem fG_X11_560 : fG RX11 560 10 5 := ⟨_, _, _, rfl, by decide, inX10, by decide, Or.inl (mem_c3 (i := 95) (by decide +kernel) rfl)⟩
theorem fG_X0_15 : fG RX0 15 0 0 := ⟨_, _, _, rfl, by decide, inX0, by decide, Or.inl (mem_c1 (i := 40) (by decide +kernel) rfl)⟩
theorem fP_X0_15 (nm : String) (h : nm ≠ nm ∨ nm = "<init>") : fP RX0 15 0 0 (.array .int) nm := ⟨_, _, _, tyX0, rfl, by decide, inX0, by decide, mem_c1 (i := 40) (by decide +kernel) rfl, tyX0_ok, nmX0, by decide +kernel, Or.inr ⟨rfl, h.elim (fun q => absurd rfl q) id, rfl⟩⟩
theorem fG_X0_21 : fG RX0 21 0 1 := ⟨_, _, _, rfl, by decide, inX0, by decide, Or.inl (mem_c1 (i := 45) (by decide +kernel) rfl)⟩
theorem fP_X0_21 (nm : String) : fP RX0 21 0 1 .int nm := ⟨_, _, _, tyX0, rfl, by decide, inX0, by decide, mem_c1 (i := 45) (by decide +kernel) rfl, tyX0_ok, nmX0, by decide +kernel, Or.inl rfl⟩
theorem fG_X0_25 : fG RX0 25 0 2 := ⟨_, _, _, rfl, by decide, inX0, by decide, Or.inl (mem_c1 (i := 56) (by decide +kernel) rfl)⟩
theorem fP_X0_25 (nm : String) : fP RX0 25 0 2 .boolean nm := ⟨_, _, _, tyX0, rfl, by decide, inX0, by decide, mem_c1 (i := 56) (by decide +kernel) rfl, tyX0_ok, nmX0, by decide +kernel, Or.inl rfl⟩
theorem fG_X1_7 : fG RX1 7 1 0 := ⟨_, _, _, rfl, by decide, inX1, by decide, Or.inl (mem_c2 (i := 33) (by decide +kernel) rfl)⟩
theorem fP_X1_7 (nm : String) (h : nm ≠ nm ∨ nm = "<init>") : fP RX1 7 1 0 (.array .int) nm := ⟨_, _, _, tyX1, rfl, by decide, inX1, by decide, mem_c2 (i := 33) (by decide +kernel) rfl, tyX1_ok, nmX1, by decide +kernel, Or.inr ⟨rfl, h.elim (fun q => absurd rfl q) id, rfl⟩⟩
theorem fG_X1_13 : fG RX1 13 1 1 := ⟨_, _, _, rfl, by decide, inX1, by decide, Or.inl (mem_c2 (i := 34) (by decide +kernel) rfl)⟩
theorem fP_X1_13 (nm : String) (h : nm ≠ nm ∨ nm = "<init>") : fP RX1 13 1 1 (.array .int) nm := ⟨_, _, _, tyX1, rfl, by decide, inX1, by decide, mem_c2 (i := 34) (by decide +kernel) rfl, tyX1_ok, nmX1, by decide +kernel, Or.inr ⟨rfl, h.elim (fun q => absurd rfl q) id, rfl⟩⟩
theorem fG_X1_16 : fG RX1 16 1 3 := ⟨_, _, _, rfl, by decide, inX1, by decide, Or.inl (mem_c2 (i := 36) (by decide +kernel) rfl)⟩
theorem fP_X1_16 (nm : String) (h : nm ≠ nm ∨ nm = "<init>") : fP RX1 16 1 3 (.array .int) nm := ⟨_, _, _, tyX1, rfl, by decide, inX1, by decide, mem_c2 (i := 36) (by decide +kernel) rfl, tyX1_ok, nmX1, by decide +kernel, Or.inr ⟨rfl, h.elim (fun q => absurd rfl q) id, rfl⟩⟩
theorem fG_X1_19 : fG RX1 19 1 4 := ⟨_, _, _, rfl, by decide, inX1, by decide, Or.inl (mem_c2 (i := 37) (by decide +kernel) rfl)⟩
theorem fP_X1_19 (nm : String) (h : nm ≠ nm ∨ nm = "<init>") : fP RX1 19 1 4 (.array .int) nm := ⟨_, _, _, tyX1, rfl, by decide, inX1, by decide, mem_c2 (i := 37) (by decide +kernel) rfl, tyX1_ok, nmX1, by decide +kernel, Or.inr ⟨rfl, h.elim (fun q => absurd rfl q) id, rfl⟩⟩
theorem fG_X1_22 : fG RX1 22 1 5 := ⟨_, _, _, rfl, by decide, inX1, by decide, Or.inl (mem_c2 (i := 38) (by decide +kernel) rfl)⟩
theorem fP_X1_22 (nm : String) (h : nm ≠ nm ∨ nm = "<init>") : fP RX1 22 1 5 (.array .int) nm := ⟨_, _, _, tyX1, rfl, by decide, inX1, by decide, mem_c2 (i := 38) (by decide +kernel) rfl, tyX1_ok, nmX1, by decide +kernel, Or.inr ⟨rfl, h.elim (fun q => absurd rfl q) id, rfl⟩⟩
theorem gS_X1_25 : gS RX1 25 0 := ⟨_, _, _, rfl, Or.inl (mem_c2 (i := 31) (by decide +kernel) rfl)⟩
theorem fG_X1_28 : fG RX1 28 1 2 := ⟨_, _, _, rfl, by decide, inX1, by decide, Or.inl (mem_c2 (i := 35) (by decide +kernel) rfl)⟩
theorem fP_X1_28 (nm : String) : fP RX1 28 1 2 .int nm := ⟨_, _, _, tyX1, rfl, by decide, inX1, by decide, mem_c2 (i := 35) (by decide +kernel) rfl, tyX1_ok, nmX1, by decide +kernel, Or.inl rfl⟩
theorem fG_X1_68 : fG RX1 68 0 1 := ⟨_, _, _, rfl, by decide, inX0, by decide, Or.inl (mem_c1 (i := 55) (by decide +kernel) rfl)⟩
theorem fP_X1_68 (nm : String) : fP RX1 68 0 1 .int nm := ⟨_, _, _, tyX0, rfl, by decide, inX0, by decide, mem_c1 (i := 55) (by decide +kernel) rfl, tyX0_ok, nmX0, by decide +kernel, Or.inl rfl⟩
theorem fG_X2_11 : fG RX2 11 2 2 := ⟨_, _, _, rfl, by decide, inX2, by decide, Or.inl (mem_c2 (i := 62) (by decide +kernel) rfl)⟩
theorem fP_X2_11 (nm : String) (h : nm ≠ nm ∨ nm = "<init>") : fP RX2 11 2 2 (.array .int) nm := ⟨_, _, _, tyX2, rfl, by decide, inX2, by decide, mem_c2 (i := 62) (by decide +kernel) rfl, tyX2_ok, nmX2, by decide +kernel, Or.inr ⟨rfl, h.elim (fun q => absurd rfl q) id, rfl⟩⟩
theorem fG_X2_17 : fG RX2 17 2 3 := ⟨_, _, _, rfl, by decide, inX2, by decide, Or.inl (mem_c2 (i := 63) (by decide +kernel) rfl)⟩
theorem fP_X2_17 (nm : String) (h : nm ≠ nm ∨ nm = "<init>") : fP RX2 17 2 3 (.array .int) nm := ⟨_, _, _, tyX2, rfl, by decide, inX2, by decide, mem_c2 (i := 63) (by decide +kernel) rfl, tyX2_ok, nmX2, by decide +kernel, Or.inr ⟨rfl, h.elim (fun q => absurd rfl q) id, rfl⟩⟩
theorem fG_X2_25 : fG RX2 25 2 4 := ⟨_, _, _, rfl, by decide, inX2, by decide, Or.inl (mem_c2 (i := 64) (by decide +kernel) rfl)⟩
theorem fP_X2_25 (nm : String) (h : nm ≠ nm ∨ nm = "<init>") : fP RX2 25 2 4 (.object "SealedTokens$Bytes") nm := ⟨_, _, _, tyX2, rfl, by decide, inX2, by decide, mem_c2 (i := 64) (by decide +kernel) rfl, tyX2_ok, nmX2, by decide +kernel, Or.inr ⟨rfl, h.elim (fun q => absurd rfl q) id, rfl⟩⟩
theorem fG_X2_29 : fG RX2 29 2 0 := ⟨_, _, _, rfl, by decide, inX2, by decide, Or.inl (mem_c2 (i := 60) (by decide +kernel) rfl)⟩
theorem fP_X2_29 (nm : String) (h : nm ≠ nm ∨ nm = "<init>") : fP RX2 29 2 0 (.object "SealedTokens$Digest") nm := ⟨_, _, _, tyX2, rfl, by decide, inX2, by decide, mem_c2 (i := 60) (by decide +kernel) rfl, tyX2_ok, nmX2, by decide +kernel, Or.inr ⟨rfl, h.elim (fun q => absurd rfl q) id, rfl⟩⟩
theorem fG_X2_33 : fG RX2 33 2 1 := ⟨_, _, _, rfl, by decide, inX2, by decide, Or.inl (mem_c2 (i := 61) (by decide +kernel) rfl)⟩
theorem fP_X2_33 (nm : String) (h : nm ≠ nm ∨ nm = "<init>") : fP RX2 33 2 1 (.object "SealedTokens$Cipher") nm := ⟨_, _, _, tyX2, rfl, by decide, inX2, by decide, mem_c2 (i := 61) (by decide +kernel) rfl, tyX2_ok, nmX2, by decide +kernel, Or.inr ⟨rfl, h.elim (fun q => absurd rfl q) id, rfl⟩⟩
theorem fG_X2_44 : fG RX2 44 0 1 := ⟨_, _, _, rfl, by decide, inX0, by decide, Or.inl (mem_c1 (i := 50) (by decide +kernel) rfl)⟩
theorem fP_X2_44 (nm : String) : fP RX2 44 0 1 .int nm := ⟨_, _, _, tyX0, rfl, by decide, inX0, by decide, mem_c1 (i := 50) (by decide +kernel) rfl, tyX0_ok, nmX0, by decide +kernel, Or.inl rfl⟩
theorem fG_X2_130 : fG RX2 130 2 5 := ⟨_, _, _, rfl, by decide, inX2, by decide, Or.inl (mem_c2 (i := 65) (by decide +kernel) rfl)⟩
theorem fP_X2_130 (nm : String) : fP RX2 130 2 5 .long nm := ⟨_, _, _, tyX2, rfl, by decide, inX2, by decide, mem_c2 (i := 65) (by decide +kernel) rfl, tyX2_ok, nmX2, by decide +kernel, Or.inl rfl⟩
theorem fG_X2_134 : fG RX2 134 2 6 := ⟨_, _, _, rfl, by decide, inX2, by decide, Or.inl (mem_c2 (i := 66) (by decide +kernel) rfl)⟩
theorem fP_X2_134 (nm : String) : fP RX2 134 2 6 .long nm := ⟨_, _, _, tyX2, rfl, by decide, inX2, by decide, mem_c2 (i := 66) (by decide +kernel) rfl, tyX2_ok, nmX2, by decide +kernel, Or.inl rfl⟩
theorem fG_X2_137 : fG RX2 137 2 7 := ⟨_, _, _, rfl, by decide, inX2, by decide, Or.inl (mem_c2 (i := 67) (by decide +kernel) rfl)⟩
theorem fP_X2_137 (nm : String) : fP RX2 137 2 7 .long nm := ⟨_, _, _, tyX2, rfl, by decide, inX2, by decide, mem_c2 (i := 67) (by decide +kernel) rfl, tyX2_ok, nmX2, by decide +kernel, Or.inl rfl⟩
theorem fG_X2_140 : fG RX2 140 2 8 := ⟨_, _, _, rfl, by decide, inX2, by decide, Or.inl (mem_c2 (i := 68) (by decide +kernel) rfl)⟩
theorem fP_X2_140 (nm : String) : fP RX2 140 2 8 .long nm := ⟨_, _, _, tyX2, rfl, by decide, inX2, by decide, mem_c2 (i := 68) (by decide +kernel) rfl, tyX2_ok, nmX2, by decide +kernel, Or.inl rfl⟩
theorem fG_X3_11 : fG RX3 11 3 0 := ⟨_, _, _, rfl, by decide, inX3, by decide, Or.inl (mem_c3 (i := 24) (by decide +kernel) rfl)⟩
theorem fP_X3_11 (nm : String) (h : nm ≠ nm ∨ nm = "<init>") : fP RX3 11 3 0 (.array (.array .long)) nm := ⟨_, _, _, tyX3, rfl, by decide, inX3, by decide, mem_c3 (i := 24) (by decide +kernel) rfl, tyX3_ok, nmX3, by decide +kernel, Or.inr ⟨rfl, h.elim (fun q => absurd rfl q) id, rfl⟩⟩
theorem fG_X3_14 : fG RX3 14 3 1 := ⟨_, _, _, rfl, by decide, inX3, by decide, Or.inl (mem_c3 (i := 26) (by decide +kernel) rfl)⟩
theorem fP_X3_14 (nm : String) (h : nm ≠ nm ∨ nm = "<init>") : fP RX3 14 3 1 (.array (.array .long)) nm := ⟨_, _, _, tyX3, rfl, by decide, inX3, by decide, mem_c3 (i := 26) (by decide +kernel) rfl, tyX3_ok, nmX3, by decide +kernel, Or.inr ⟨rfl, h.elim (fun q => absurd rfl q) id, rfl⟩⟩
theorem fG_X3_20 : fG RX3 20 3 2 := ⟨_, _, _, rfl, by decide, inX3, by decide, Or.inl (mem_c3 (i := 28) (by decide +kernel) rfl)⟩
theorem fP_X3_20 (nm : String) (h : nm ≠ nm ∨ nm = "<init>") : fP RX3 20 3 2 (.object "SealedTokens$Modulus") nm := ⟨_, _, _, tyX3, rfl, by decide, inX3, by decide, mem_c3 (i := 28) (by decide +kernel) rfl, tyX3_ok, nmX3, by decide +kernel, Or.inr ⟨rfl, h.elim (fun q => absurd rfl q) id, rfl⟩⟩
theorem fG_X3_24 : fG RX3 24 3 3 := ⟨_, _, _, rfl, by decide, inX3, by decide, Or.inl (mem_c3 (i := 29) (by decide +kernel) rfl)⟩
theorem fP_X3_24 (nm : String) (h : nm ≠ nm ∨ nm = "<init>") : fP RX3 24 3 3 (.object "SealedTokens$Modulus") nm := ⟨_, _, _, tyX3, rfl, by decide, inX3, by decide, mem_c3 (i := 29) (by decide +kernel) rfl, tyX3_ok, nmX3, by decide +kernel, Or.inr ⟨rfl, h.elim (fun q => absurd rfl q) id, rfl⟩⟩
theorem fG_X3_33 : fG RX3 33 3 4 := ⟨_, _, _, rfl, by decide, inX3, by decide, Or.inl (mem_c3 (i := 30) (by decide +kernel) rfl)⟩
theorem fP_X3_33 (nm : String) (h : nm ≠ nm ∨ nm = "<init>") : fP RX3 33 3 4 (.object "SealedTokens$Bytes") nm := ⟨_, _, _, tyX3, rfl, by decide, inX3, by decide, mem_c3 (i := 30) (by decide +kernel) rfl, tyX3_ok, nmX3, by decide +kernel, Or.inr ⟨rfl, h.elim (fun q => absurd rfl q) id, rfl⟩⟩
theorem fG_X3_39 : fG RX3 39 3 5 := ⟨_, _, _, rfl, by decide, inX3, by decide, Or.inl (mem_c3 (i := 31) (by decide +kernel) rfl)⟩
theorem fP_X3_39 (nm : String) (h : nm ≠ nm ∨ nm = "<init>") : fP RX3 39 3 5 (.object "SealedTokens$Bytes") nm := ⟨_, _, _, tyX3, rfl, by decide, inX3, by decide, mem_c3 (i := 31) (by decide +kernel) rfl, tyX3_ok, nmX3, by decide +kernel, Or.inr ⟨rfl, h.elim (fun q => absurd rfl q) id, rfl⟩⟩
theorem fG_X3_44 : fG RX3 44 3 6 := ⟨_, _, _, rfl, by decide, inX3, by decide, Or.inl (mem_c3 (i := 32) (by decide +kernel) rfl)⟩
theorem fP_X3_44 (nm : String) (h : nm ≠ nm ∨ nm = "<init>") : fP RX3 44 3 6 (.object "SealedTokens$Bytes") nm := ⟨_, _, _, tyX3, rfl, by decide, inX3, by decide, mem_c3 (i := 32) (by decide +kernel) rfl, tyX3_ok, nmX3, by decide +kernel, Or.inr ⟨rfl, h.elim (fun q => absurd rfl q) id, rfl⟩⟩
theorem fG_X3_49 : fG RX3 49 3 7 := ⟨_, _, _, rfl, by decide, inX3, by decide, Or.inl (mem_c3 (i := 33) (by decide +kernel) rfl)⟩
theorem fP_X3_49 (nm : String) (h : nm ≠ nm ∨ nm = "<init>") : fP RX3 49 3 7 (.object "SealedTokens$Bytes") nm := ⟨_, _, _, tyX3, rfl, by decide, inX3, by decide, mem_c3 (i := 33) (by decide +kernel) rfl, tyX3_ok, nmX3, by decide +kernel, Or.inr ⟨rfl, h.elim (fun q => absurd rfl q) id, rfl⟩⟩
theorem fG_X3_52 : fG RX3 52 3 8 := ⟨_, _, _, rfl, by decide, inX3, by decide, Or.inl (mem_c3 (i := 34) (by decide +kernel) rfl)⟩
theorem fP_X3_52 (nm : String) (h : nm ≠ nm ∨ nm = "<init>") : fP RX3 52 3 8 (.array .long) nm := ⟨_, _, _, tyX3, rfl, by decide, inX3, by decide, mem_c3 (i := 34) (by decide +kernel) rfl, tyX3_ok, nmX3, by decide +kernel, Or.inr ⟨rfl, h.elim (fun q => absurd rfl q) id, rfl⟩⟩
theorem fG_X3_56 : fG RX3 56 3 9 := ⟨_, _, _, rfl, by decide, inX3, by decide, Or.inl (mem_c3 (i := 35) (by decide +kernel) rfl)⟩
theorem fP_X3_56 (nm : String) (h : nm ≠ nm ∨ nm = "<init>") : fP RX3 56 3 9 (.array .long) nm := ⟨_, _, _, tyX3, rfl, by decide, inX3, by decide, mem_c3 (i := 35) (by decide +kernel) rfl, tyX3_ok, nmX3, by decide +kernel, Or.inr ⟨rfl, h.elim (fun q => absurd rfl q) id, rfl⟩⟩
theorem fG_X3_59 : fG RX3 59 3 10 := ⟨_, _, _, rfl, by decide, inX3, by decide, Or.inl (mem_c3 (i := 36) (by decide +kernel) rfl)⟩
theorem fP_X3_59 (nm : String) (h : nm ≠ nm ∨ nm = "<init>") : fP RX3 59 3 10 (.array (.array .long)) nm := ⟨_, _, _, tyX3, rfl, by decide, inX3, by decide, mem_c3 (i := 36) (by decide +kernel) rfl, tyX3_ok, nmX3, by decide +kernel, Or.inr ⟨rfl, h.elim (fun q => absurd rfl q) id, rfl⟩⟩
theorem fG_X3_62 : fG RX3 62 3 11 := ⟨_, _, _, rfl, by decide, inX3, by decide, Or.inl (mem_c3 (i := 37) (by decide +kernel) rfl)⟩
theorem fP_X3_62 (nm : String) (h : nm ≠ nm ∨ nm = "<init>") : fP RX3 62 3 11 (.array (.array .long)) nm := ⟨_, _, _, tyX3, rfl, by decide, inX3, by decide, mem_c3 (i := 37) (by decide +kernel) rfl, tyX3_ok, nmX3, by decide +kernel, Or.inr ⟨rfl, h.elim (fun q => absurd rfl q) id, rfl⟩⟩
theorem fG_X3_70 : fG RX3 70 3 12 := ⟨_, _, _, rfl, by decide, inX3, by decide, Or.inl (mem_c3 (i := 38) (by decide +kernel) rfl)⟩
theorem fP_X3_70 (nm : String) (h : nm ≠ nm ∨ nm = "<init>") : fP RX3 70 3 12 (.object "SealedTokens$Bytes") nm := ⟨_, _, _, tyX3, rfl, by decide, inX3, by decide, mem_c3 (i := 38) (by decide +kernel) rfl, tyX3_ok, nmX3, by decide +kernel, Or.inr ⟨rfl, h.elim (fun q => absurd rfl q) id, rfl⟩⟩
theorem fG_X3_73 : fG RX3 73 3 13 := ⟨_, _, _, rfl, by decide, inX3, by decide, Or.inl (mem_c3 (i := 39) (by decide +kernel) rfl)⟩
theorem fP_X3_73 (nm : String) (h : nm ≠ nm ∨ nm = "<init>") : fP RX3 73 3 13 (.object "SealedTokens$Bytes") nm := ⟨_, _, _, tyX3, rfl, by decide, inX3, by decide, mem_c3 (i := 39) (by decide +kernel) rfl, tyX3_ok, nmX3, by decide +kernel, Or.inr ⟨rfl, h.elim (fun q => absurd rfl q) id, rfl⟩⟩
theorem fG_X3_76 : fG RX3 76 3 14 := ⟨_, _, _, rfl, by decide, inX3, by decide, Or.inl (mem_c3 (i := 40) (by decide +kernel) rfl)⟩
theorem fP_X3_76 (nm : String) (h : nm ≠ nm ∨ nm = "<init>") : fP RX3 76 3 14 (.object "SealedTokens$Bytes") nm := ⟨_, _, _, tyX3, rfl, by decide, inX3, by decide, mem_c3 (i := 40) (by decide +kernel) rfl, tyX3_ok, nmX3, by decide +kernel, Or.inr ⟨rfl, h.elim (fun q => absurd rfl q) id, rfl⟩⟩
theorem fG_X3_79 : fG RX3 79 3 15 := ⟨_, _, _, rfl, by decide, inX3, by decide, Or.inl (mem_c3 (i := 41) (by decide +kernel) rfl)⟩
theorem fP_X3_79 (nm : String) (h : nm ≠ nm ∨ nm = "<init>") : fP RX3 79 3 15 (.object "SealedTokens$Bytes") nm := ⟨_, _, _, tyX3, rfl, by decide, inX3, by decide, mem_c3 (i := 41) (by decide +kernel) rfl, tyX3_ok, nmX3, by decide +kernel, Or.inr ⟨rfl, h.elim (fun q => absurd rfl q) id, rfl⟩⟩
theorem fG_X3_186 : fG RX3 186 0 1 := ⟨_, _, _, rfl, by decide, inX0, by decide, Or.inl (mem_c1 (i := 52) (by decide +kernel) rfl)⟩
theorem fP_X3_186 (nm : String) : fP RX3 186 0 1 .int nm := ⟨_, _, _, tyX0, rfl, by decide, inX0, by decide, mem_c1 (i := 52) (by decide +kernel) rfl, tyX0_ok, nmX0, by decide +kernel, Or.inl rfl⟩
theorem fG_X4_7 : fG RX4 7 4 1 := ⟨_, _, _, rfl, by decide, inX4, by decide, Or.inl (mem_c1 (i := 231) (by decide +kernel) rfl)⟩
theorem fP_X4_7 (nm : String) : fP RX4 7 4 1 .int nm := ⟨_, _, _, tyX4, rfl, by decide, inX4, by decide, mem_c1 (i := 231) (by decide +kernel) rfl, tyX4_ok, nmX4, by decide +kernel, Or.inl rfl⟩
theorem fG_X4_13 : fG RX4 13 4 2 := ⟨_, _, _, rfl, by decide, inX4, by decide, Or.inl (mem_c1 (i := 232) (by decide +kernel) rfl)⟩
theorem fP_X4_13 (nm : String) (h : nm ≠ nm ∨ nm = "<init>") : fP RX4 13 4 2 (.array .int) nm := ⟨_, _, _, tyX4, rfl, by decide, inX4, by decide, mem_c1 (i := 232) (by decide +kernel) rfl, tyX4_ok, nmX4, by decide +kernel, Or.inr ⟨rfl, h.elim (fun q => absurd rfl q) id, rfl⟩⟩
theorem fG_X4_17 : fG RX4 17 4 5 := ⟨_, _, _, rfl, by decide, inX4, by decide, Or.inl (mem_c1 (i := 235) (by decide +kernel) rfl)⟩
theorem fP_X4_17 (nm : String) (h : nm ≠ nm ∨ nm = "<init>") : fP RX4 17 4 5 (.array .int) nm := ⟨_, _, _, tyX4, rfl, by decide, inX4, by decide, mem_c1 (i := 235) (by decide +kernel) rfl, tyX4_ok, nmX4, by decide +kernel, Or.inr ⟨rfl, h.elim (fun q => absurd rfl q) id, rfl⟩⟩
theorem fG_X4_20 : fG RX4 20 4 6 := ⟨_, _, _, rfl, by decide, inX4, by decide, Or.inl (mem_c1 (i := 236) (by decide +kernel) rfl)⟩
theorem fP_X4_20 (nm : String) (h : nm ≠ nm ∨ nm = "<init>") : fP RX4 20 4 6 (.array .int) nm := ⟨_, _, _, tyX4, rfl, by decide, inX4, by decide, mem_c1 (i := 236) (by decide +kernel) rfl, tyX4_ok, nmX4, by decide +kernel, Or.inr ⟨rfl, h.elim (fun q => absurd rfl q) id, rfl⟩⟩
theorem fG_X4_23 : fG RX4 23 4 7 := ⟨_, _, _, rfl, by decide, inX4, by decide, Or.inl (mem_c1 (i := 237) (by decide +kernel) rfl)⟩
theorem fP_X4_23 (nm : String) (h : nm ≠ nm ∨ nm = "<init>") : fP RX4 23 4 7 (.array .long) nm := ⟨_, _, _, tyX4, rfl, by decide, inX4, by decide, mem_c1 (i := 237) (by decide +kernel) rfl, tyX4_ok, nmX4, by decide +kernel, Or.inr ⟨rfl, h.elim (fun q => absurd rfl q) id, rfl⟩⟩
theorem fG_X4_27 : fG RX4 27 4 8 := ⟨_, _, _, rfl, by decide, inX4, by decide, Or.inl (mem_c1 (i := 238) (by decide +kernel) rfl)⟩
theorem fP_X4_27 (nm : String) (h : nm ≠ nm ∨ nm = "<init>") : fP RX4 27 4 8 (.array .long) nm := ⟨_, _, _, tyX4, rfl, by decide, inX4, by decide, mem_c1 (i := 238) (by decide +kernel) rfl, tyX4_ok, nmX4, by decide +kernel, Or.inr ⟨rfl, h.elim (fun q => absurd rfl q) id, rfl⟩⟩
theorem fG_X4_30 : fG RX4 30 4 9 := ⟨_, _, _, rfl, by decide, inX4, by decide, Or.inl (mem_c1 (i := 239) (by decide +kernel) rfl)⟩
theorem fP_X4_30 (nm : String) (h : nm ≠ nm ∨ nm = "<init>") : fP RX4 30 4 9 (.array .int) nm := ⟨_, _, _, tyX4, rfl, by decide, inX4, by decide, mem_c1 (i := 239) (by decide +kernel) rfl, tyX4_ok, nmX4, by decide +kernel, Or.inr ⟨rfl, h.elim (fun q => absurd rfl q) id, rfl⟩⟩
theorem fG_X4_38 : fG RX4 38 4 10 := ⟨_, _, _, rfl, by decide, inX4, by decide, Or.inl (mem_c2 (i := 0) (by decide +kernel) rfl)⟩
theorem fP_X4_38 (nm : String) (h : nm ≠ nm ∨ nm = "<init>") : fP RX4 38 4 10 (.object "SealedTokens$Bytes") nm := ⟨_, _, _, tyX4, rfl, by decide, inX4, by decide, mem_c2 (i := 0) (by decide +kernel) rfl, tyX4_ok, nmX4, by decide +kernel, Or.inr ⟨rfl, h.elim (fun q => absurd rfl q) id, rfl⟩⟩
theorem fG_X4_42 : fG RX4 42 4 0 := ⟨_, _, _, rfl, by decide, inX4, by decide, Or.inl (mem_c1 (i := 230) (by decide +kernel) rfl)⟩
theorem fP_X4_42 (nm : String) : fP RX4 42 4 0 .boolean nm := ⟨_, _, _, tyX4, rfl, by decide, inX4, by decide, mem_c1 (i := 230) (by decide +kernel) rfl, tyX4_ok, nmX4, by decide +kernel, Or.inl rfl⟩
theorem fG_X4_46 : fG RX4 46 4 3 := ⟨_, _, _, rfl, by decide, inX4, by decide, Or.inl (mem_c1 (i := 233) (by decide +kernel) rfl)⟩
theorem fP_X4_46 (nm : String) : fP RX4 46 4 3 .int nm := ⟨_, _, _, tyX4, rfl, by decide, inX4, by decide, mem_c1 (i := 233) (by decide +kernel) rfl, tyX4_ok, nmX4, by decide +kernel, Or.inl rfl⟩
theorem fG_X4_49 : fG RX4 49 4 4 := ⟨_, _, _, rfl, by decide, inX4, by decide, Or.inl (mem_c1 (i := 234) (by decide +kernel) rfl)⟩
theorem fP_X4_49 (nm : String) : fP RX4 49 4 4 .int nm := ⟨_, _, _, tyX4, rfl, by decide, inX4, by decide, mem_c1 (i := 234) (by decide +kernel) rfl, tyX4_ok, nmX4, by decide +kernel, Or.inl rfl⟩
theorem gS_X4_52 : gS RX4 52 1 := ⟨_, _, _, rfl, Or.inl (mem_c4 (i := 238) (by decide +kernel) rfl)⟩
theorem gS_X4_61 : gS RX4 61 2 := ⟨_, _, _, rfl, Or.inl (mem_c5 (i := 1) (by decide +kernel) rfl)⟩
theorem gS_X4_80 : gS RX4 80 4 := ⟨_, _, _, rfl, Or.inl (mem_c5 (i := 23) (by decide +kernel) rfl)⟩
theorem gS_X4_85 : gS RX4 85 3 := ⟨_, _, _, rfl, Or.inl (mem_c5 (i := 17) (by decide +kernel) rfl)⟩
theorem fG_X4_105 : fG RX4 105 0 1 := ⟨_, _, _, rfl, by decide, inX0, by decide, Or.inl (mem_c1 (i := 53) (by decide +kernel) rfl)⟩
theorem fP_X4_105 (nm : String) : fP RX4 105 0 1 .int nm := ⟨_, _, _, tyX0, rfl, by decide, inX0, by decide, mem_c1 (i := 53) (by decide +kernel) rfl, tyX0_ok, nmX0, by decide +kernel, Or.inl rfl⟩
theorem fG_X5_9 : fG RX5 9 5 3 := ⟨_, _, _, rfl, by decide, inX5, by decide, Or.inl (mem_c1 (i := 185) (by decide +kernel) rfl)⟩
theorem fP_X5_9 (nm : String) : fP RX5 9 5 3 .int nm := ⟨_, _, _, tyX5, rfl, by decide, inX5, by decide, mem_c1 (i := 185) (by decide +kernel) rfl, tyX5_ok, nmX5, by decide +kernel, Or.inl rfl⟩
theorem fG_X5_22 : fG RX5 22 5 6 := ⟨_, _, _, rfl, by decide, inX5, by decide, Or.inl (mem_c1 (i := 192) (by decide +kernel) rfl)⟩
theorem fP_X5_22 (nm : String) (h : nm ≠ nm ∨ nm = "<init>") : fP RX5 22 5 6 (.object "SealedTokens$Bytes") nm := ⟨_, _, _, tyX5, rfl, by decide, inX5, by decide, mem_c1 (i := 192) (by decide +kernel) rfl, tyX5_ok, nmX5, by decide +kernel, Or.inr ⟨rfl, h.elim (fun q => absurd rfl q) id, rfl⟩⟩
theorem fG_X5_26 : fG RX5 26 5 7 := ⟨_, _, _, rfl, by decide, inX5, by decide, Or.inl (mem_c1 (i := 194) (by decide +kernel) rfl)⟩
theorem fP_X5_26 (nm : String) (h : nm ≠ nm ∨ nm = "<init>") : fP RX5 26 5 7 (.object "SealedTokens$Bytes") nm := ⟨_, _, _, tyX5, rfl, by decide, inX5, by decide, mem_c1 (i := 194) (by decide +kernel) rfl, tyX5_ok, nmX5, by decide +kernel, Or.inr ⟨rfl, h.elim (fun q => absurd rfl q) id, rfl⟩⟩
theorem fG_X5_29 : fG RX5 29 5 8 := ⟨_, _, _, rfl, by decide, inX5, by decide, Or.inl (mem_c1 (i := 196) (by decide +kernel) rfl)⟩
theorem fP_X5_29 (nm : String) (h : nm ≠ nm ∨ nm = "<init>") : fP RX5 29 5 8 (.object "SealedTokens$Bytes") nm := ⟨_, _, _, tyX5, rfl, by decide, inX5, by decide, mem_c1 (i := 196) (by decide +kernel) rfl, tyX5_ok, nmX5, by decide +kernel, Or.inr ⟨rfl, h.elim (fun q => absurd rfl q) id, rfl⟩⟩
theorem fG_X5_32 : fG RX5 32 5 9 := ⟨_, _, _, rfl, by decide, inX5, by decide, Or.inl (mem_c1 (i := 198) (by decide +kernel) rfl)⟩
theorem fP_X5_32 (nm : String) : fP RX5 32 5 9 (.object "SealedTokens$Bytes") nm := ⟨_, _, _, tyX5, rfl, by decide, inX5, by decide, mem_c1 (i := 198) (by decide +kernel) rfl, tyX5_ok, nmX5, by decide +kernel, Or.inl rfl⟩
theorem fG_X5_57 : fG RX5 57 5 1 := ⟨_, _, _, rfl, by decide, inX5, by decide, Or.inl (mem_c1 (i := 181) (by decide +kernel) rfl)⟩
theorem fP_X5_57 (nm : String) : fP RX5 57 5 1 .int nm := ⟨_, _, _, tyX5, rfl, by decide, inX5, by decide, mem_c1 (i := 181) (by decide +kernel) rfl, tyX5_ok, nmX5, by decide +kernel, Or.inl rfl⟩
theorem fG_X5_70 : fG RX5 70 5 5 := ⟨_, _, _, rfl, by decide, inX5, by decide, Or.inl (mem_c1 (i := 190) (by decide +kernel) rfl)⟩
theorem fP_X5_70 (nm : String) : fP RX5 70 5 5 .boolean nm := ⟨_, _, _, tyX5, rfl, by decide, inX5, by decide, mem_c1 (i := 190) (by decide +kernel) rfl, tyX5_ok, nmX5, by decide +kernel, Or.inl rfl⟩
theorem fG_X5_138 : fG RX5 138 5 2 := ⟨_, _, _, rfl, by decide, inX5, by decide, Or.inl (mem_c1 (i := 183) (by decide +kernel) rfl)⟩
theorem fP_X5_138 (nm : String) : fP RX5 138 5 2 .int nm := ⟨_, _, _, tyX5, rfl, by decide, inX5, by decide, mem_c1 (i := 183) (by decide +kernel) rfl, tyX5_ok, nmX5, by decide +kernel, Or.inl rfl⟩
theorem fG_X5_144 : fG RX5 144 5 4 := ⟨_, _, _, rfl, by decide, inX5, by decide, Or.inl (mem_c1 (i := 187) (by decide +kernel) rfl)⟩
theorem fP_X5_144 (nm : String) : fP RX5 144 5 4 .boolean nm := ⟨_, _, _, tyX5, rfl, by decide, inX5, by decide, mem_c1 (i := 187) (by decide +kernel) rfl, tyX5_ok, nmX5, by decide +kernel, Or.inl rfl⟩
theorem fG_X5_147 : fG RX5 147 9 7 := ⟨_, _, _, rfl, by decide, inX9, by decide, Or.inl (mem_c1 (i := 99) (by decide +kernel) rfl)⟩
theorem fG_X5_154 : fG RX5 154 9 10 := ⟨_, _, _, rfl, by decide, inX9, by decide, Or.inl (mem_c1 (i := 110) (by decide +kernel) rfl)⟩
theorem fG_X5_157 : fG RX5 157 9 6 := ⟨_, _, _, rfl, by decide, inX9, by decide, Or.inl (mem_c1 (i := 94) (by decide +kernel) rfl)⟩
theorem fG_X5_164 : fG RX5 164 0 0 := ⟨_, _, _, rfl, by decide, inX0, by decide, Or.inl (mem_c1 (i := 43) (by decide +kernel) rfl)⟩
theorem fG_X5_173 : fG RX5 173 0 1 := ⟨_, _, _, rfl, by decide, inX0, by decide, Or.inl (mem_c1 (i := 54) (by decide +kernel) rfl)⟩
theorem fP_X5_173 (nm : String) : fP RX5 173 0 1 .int nm := ⟨_, _, _, tyX0, rfl, by decide, inX0, by decide, mem_c1 (i := 54) (by decide +kernel) rfl, tyX0_ok, nmX0, by decide +kernel, Or.inl rfl⟩
theorem fG_X6_7 : fG RX6 7 6 0 := ⟨_, _, _, rfl, by decide, inX6, by decide, Or.inl (mem_c2 (i := 100) (by decide +kernel) rfl)⟩
theorem fP_X6_7 (nm : String) : fP RX6 7 6 0 .int nm := ⟨_, _, _, tyX6, rfl, by decide, inX6, by decide, mem_c2 (i := 100) (by decide +kernel) rfl, tyX6_ok, nmX6, by decide +kernel, Or.inl rfl⟩
theorem fG_X6_13 : fG RX6 13 6 2 := ⟨_, _, _, rfl, by decide, inX6, by decide, Or.inl (mem_c2 (i := 102) (by decide +kernel) rfl)⟩
theorem fP_X6_13 (nm : String) (h : nm ≠ nm ∨ nm = "<init>") : fP RX6 13 6 2 (.array .long) nm := ⟨_, _, _, tyX6, rfl, by decide, inX6, by decide, mem_c2 (i := 102) (by decide +kernel) rfl, tyX6_ok, nmX6, by decide +kernel, Or.inr ⟨rfl, h.elim (fun q => absurd rfl q) id, rfl⟩⟩
theorem fG_X6_17 : fG RX6 17 6 3 := ⟨_, _, _, rfl, by decide, inX6, by decide, Or.inl (mem_c2 (i := 103) (by decide +kernel) rfl)⟩
theorem fP_X6_17 (nm : String) (h : nm ≠ nm ∨ nm = "<init>") : fP RX6 17 6 3 (.array .long) nm := ⟨_, _, _, tyX6, rfl, by decide, inX6, by decide, mem_c2 (i := 103) (by decide +kernel) rfl, tyX6_ok, nmX6, by decide +kernel, Or.inr ⟨rfl, h.elim (fun q => absurd rfl q) id, rfl⟩⟩
theorem fG_X6_20 : fG RX6 20 6 4 := ⟨_, _, _, rfl, by decide, inX6, by decide, Or.inl (mem_c2 (i := 104) (by decide +kernel) rfl)⟩
theorem fP_X6_20 (nm : String) (h : nm ≠ nm ∨ nm = "<init>") : fP RX6 20 6 4 (.array .long) nm := ⟨_, _, _, tyX6, rfl, by decide, inX6, by decide, mem_c2 (i := 104) (by decide +kernel) rfl, tyX6_ok, nmX6, by decide +kernel, Or.inr ⟨rfl, h.elim (fun q => absurd rfl q) id, rfl⟩⟩
theorem fG_X6_23 : fG RX6 23 6 5 := ⟨_, _, _, rfl, by decide, inX6, by decide, Or.inl (mem_c2 (i := 105) (by decide +kernel) rfl)⟩
theorem fP_X6_23 (nm : String) (h : nm ≠ nm ∨ nm = "<init>") : fP RX6 23 6 5 (.array .long) nm := ⟨_, _, _, tyX6, rfl, by decide, inX6, by decide, mem_c2 (i := 105) (by decide +kernel) rfl, tyX6_ok, nmX6, by decide +kernel, Or.inr ⟨rfl, h.elim (fun q => absurd rfl q) id, rfl⟩⟩
theorem fG_X6_26 : fG RX6 26 6 6 := ⟨_, _, _, rfl, by decide, inX6, by decide, Or.inl (mem_c2 (i := 106) (by decide +kernel) rfl)⟩
theorem fP_X6_26 (nm : String) (h : nm ≠ nm ∨ nm = "<init>") : fP RX6 26 6 6 (.array .long) nm := ⟨_, _, _, tyX6, rfl, by decide, inX6, by decide, mem_c2 (i := 106) (by decide +kernel) rfl, tyX6_ok, nmX6, by decide +kernel, Or.inr ⟨rfl, h.elim (fun q => absurd rfl q) id, rfl⟩⟩
theorem fG_X6_29 : fG RX6 29 6 7 := ⟨_, _, _, rfl, by decide, inX6, by decide, Or.inl (mem_c2 (i := 107) (by decide +kernel) rfl)⟩
theorem fP_X6_29 (nm : String) (h : nm ≠ nm ∨ nm = "<init>") : fP RX6 29 6 7 (.array .long) nm := ⟨_, _, _, tyX6, rfl, by decide, inX6, by decide, mem_c2 (i := 107) (by decide +kernel) rfl, tyX6_ok, nmX6, by decide +kernel, Or.inr ⟨rfl, h.elim (fun q => absurd rfl q) id, rfl⟩⟩
theorem fG_X6_32 : fG RX6 32 0 1 := ⟨_, _, _, rfl, by decide, inX0, by decide, Or.inl (mem_c1 (i := 44) (by decide +kernel) rfl)⟩
theorem fP_X6_32 (nm : String) : fP RX6 32 0 1 .int nm := ⟨_, _, _, tyX0, rfl, by decide, inX0, by decide, mem_c1 (i := 44) (by decide +kernel) rfl, tyX0_ok, nmX0, by decide +kernel, Or.inl rfl⟩
theorem fG_X6_58 : fG RX6 58 6 1 := ⟨_, _, _, rfl, by decide, inX6, by decide, Or.inl (mem_c2 (i := 101) (by decide +kernel) rfl)⟩
theorem fP_X6_58 (nm : String) : fP RX6 58 6 1 .long nm := ⟨_, _, _, tyX6, rfl, by decide, inX6, by decide, mem_c2 (i := 101) (by decide +kernel) rfl, tyX6_ok, nmX6, by decide +kernel, Or.inl rfl⟩
theorem fG_X7_9 : fG RX7 9 7 0 := ⟨_, _, _, rfl, by decide, inX7, by decide, Or.inl (mem_c1 (i := 143) (by decide +kernel) rfl)⟩
theorem fP_X7_9 (nm : String) : fP RX7 9 7 0 (.object "SealedTokens$Bytes") nm := ⟨_, _, _, tyX7, rfl, by decide, inX7, by decide, mem_c1 (i := 143) (by decide +kernel) rfl, tyX7_ok, nmX7, by decide +kernel, Or.inl rfl⟩
theorem fG_X7_15 : fG RX7 15 7 1 := ⟨_, _, _, rfl, by decide, inX7, by decide, Or.inl (mem_c1 (i := 144) (by decide +kernel) rfl)⟩
theorem fP_X7_15 (nm : String) : fP RX7 15 7 1 (.object "SealedTokens$Text") nm := ⟨_, _, _, tyX7, rfl, by decide, inX7, by decide, mem_c1 (i := 144) (by decide +kernel) rfl, tyX7_ok, nmX7, by decide +kernel, Or.inl rfl⟩
theorem fG_X7_24 : fG RX7 24 7 2 := ⟨_, _, _, rfl, by decide, inX7, by decide, Or.inl (mem_c1 (i := 145) (by decide +kernel) rfl)⟩
theorem fP_X7_24 (nm : String) : fP RX7 24 7 2 .int nm := ⟨_, _, _, tyX7, rfl, by decide, inX7, by decide, mem_c1 (i := 145) (by decide +kernel) rfl, tyX7_ok, nmX7, by decide +kernel, Or.inl rfl⟩
theorem fG_X7_28 : fG RX7 28 7 3 := ⟨_, _, _, rfl, by decide, inX7, by decide, Or.inl (mem_c1 (i := 146) (by decide +kernel) rfl)⟩
theorem fP_X7_28 (nm : String) : fP RX7 28 7 3 .int nm := ⟨_, _, _, tyX7, rfl, by decide, inX7, by decide, mem_c1 (i := 146) (by decide +kernel) rfl, tyX7_ok, nmX7, by decide +kernel, Or.inl rfl⟩
theorem fG_X7_31 : fG RX7 31 7 4 := ⟨_, _, _, rfl, by decide, inX7, by decide, Or.inl (mem_c1 (i := 147) (by decide +kernel) rfl)⟩
theorem fP_X7_31 (nm : String) : fP RX7 31 7 4 .int nm := ⟨_, _, _, tyX7, rfl, by decide, inX7, by decide, mem_c1 (i := 147) (by decide +kernel) rfl, tyX7_ok, nmX7, by decide +kernel, Or.inl rfl⟩
theorem fG_X7_34 : fG RX7 34 7 5 := ⟨_, _, _, rfl, by decide, inX7, by decide, Or.inl (mem_c1 (i := 148) (by decide +kernel) rfl)⟩
theorem fP_X7_34 (nm : String) : fP RX7 34 7 5 .int nm := ⟨_, _, _, tyX7, rfl, by decide, inX7, by decide, mem_c1 (i := 148) (by decide +kernel) rfl, tyX7_ok, nmX7, by decide +kernel, Or.inl rfl⟩
theorem fG_X7_37 : fG RX7 37 7 6 := ⟨_, _, _, rfl, by decide, inX7, by decide, Or.inl (mem_c1 (i := 149) (by decide +kernel) rfl)⟩
theorem fP_X7_37 (nm : String) : fP RX7 37 7 6 .int nm := ⟨_, _, _, tyX7, rfl, by decide, inX7, by decide, mem_c1 (i := 149) (by decide +kernel) rfl, tyX7_ok, nmX7, by decide +kernel, Or.inl rfl⟩
theorem fG_X7_40 : fG RX7 40 0 1 := ⟨_, _, _, rfl, by decide, inX0, by decide, Or.inl (mem_c1 (i := 49) (by decide +kernel) rfl)⟩
theorem fP_X7_40 (nm : String) : fP RX7 40 0 1 .int nm := ⟨_, _, _, tyX0, rfl, by decide, inX0, by decide, mem_c1 (i := 49) (by decide +kernel) rfl, tyX0_ok, nmX0, by decide +kernel, Or.inl rfl⟩
theorem fG_X7_81 : fG RX7 81 9 2 := ⟨_, _, _, rfl, by decide, inX9, by decide, Or.inl (mem_c1 (i := 83) (by decide +kernel) rfl)⟩
theorem fG_X7_85 : fG RX7 85 9 1 := ⟨_, _, _, rfl, by decide, inX9, by decide, Or.inl (mem_c1 (i := 79) (by decide +kernel) rfl)⟩
theorem fG_X7_88 : fG RX7 88 9 10 := ⟨_, _, _, rfl, by decide, inX9, by decide, Or.inl (mem_c1 (i := 111) (by decide +kernel) rfl)⟩
theorem fG_X7_91 : fG RX7 91 7 7 := ⟨_, _, _, rfl, by decide, inX7, by decide, Or.inl (mem_c1 (i := 150) (by decide +kernel) rfl)⟩
theorem fP_X7_91 (nm : String) : fP RX7 91 7 7 .int nm := ⟨_, _, _, tyX7, rfl, by decide, inX7, by decide, mem_c1 (i := 150) (by decide +kernel) rfl, tyX7_ok, nmX7, by decide +kernel, Or.inl rfl⟩
theorem fG_X7_97 : fG RX7 97 7 8 := ⟨_, _, _, rfl, by decide, inX7, by decide, Or.inl (mem_c1 (i := 151) (by decide +kernel) rfl)⟩
theorem fP_X7_97 (nm : String) : fP RX7 97 7 8 .int nm := ⟨_, _, _, tyX7, rfl, by decide, inX7, by decide, mem_c1 (i := 151) (by decide +kernel) rfl, tyX7_ok, nmX7, by decide +kernel, Or.inl rfl⟩
theorem fG_X7_107 : fG RX7 107 9 0 := ⟨_, _, _, rfl, by decide, inX9, by decide, Or.inl (mem_c1 (i := 76) (by decide +kernel) rfl)⟩
theorem fP_X7_107 (nm : String) : fP RX7 107 9 0 .int nm := ⟨_, _, _, tyX9, rfl, by decide, inX9, by decide, mem_c1 (i := 76) (by decide +kernel) rfl, tyX9_ok, nmX9, by decide +kernel, Or.inl rfl⟩
theorem fG_X7_113 : fG RX7 113 9 8 := ⟨_, _, _, rfl, by decide, inX9, by decide, Or.inl (mem_c1 (i := 104) (by decide +kernel) rfl)⟩
theorem fG_X7_115 : fG RX7 115 9 9 := ⟨_, _, _, rfl, by decide, inX9, by decide, Or.inl (mem_c1 (i := 107) (by decide +kernel) rfl)⟩
theorem fG_X7_130 : fG RX7 130 9 7 := ⟨_, _, _, rfl, by decide, inX9, by decide, Or.inl (mem_c1 (i := 101) (by decide +kernel) rfl)⟩
theorem fG_X7_133 : fG RX7 133 9 6 := ⟨_, _, _, rfl, by decide, inX9, by decide, Or.inl (mem_c1 (i := 96) (by decide +kernel) rfl)⟩
theorem fG_X8_10 : fG RX8 10 8 1 := ⟨_, _, _, rfl, by decide, inX8, by decide, Or.inl (mem_c2 (i := 128) (by decide +kernel) rfl)⟩
theorem fP_X8_10 (nm : String) (h : nm ≠ nm ∨ nm = "<init>") : fP RX8 10 8 1 (.object "SealedTokens$Modulus") nm := ⟨_, _, _, tyX8, rfl, by decide, inX8, by decide, mem_c2 (i := 128) (by decide +kernel) rfl, tyX8_ok, nmX8, by decide +kernel, Or.inr ⟨rfl, h.elim (fun q => absurd rfl q) id, rfl⟩⟩
theorem fG_X8_16 : fG RX8 16 8 2 := ⟨_, _, _, rfl, by decide, inX8, by decide, Or.inl (mem_c2 (i := 129) (by decide +kernel) rfl)⟩
theorem fP_X8_16 (nm : String) (h : nm ≠ nm ∨ nm = "<init>") : fP RX8 16 8 2 (.array .long) nm := ⟨_, _, _, tyX8, rfl, by decide, inX8, by decide, mem_c2 (i := 129) (by decide +kernel) rfl, tyX8_ok, nmX8, by decide +kernel, Or.inr ⟨rfl, h.elim (fun q => absurd rfl q) id, rfl⟩⟩
theorem fG_X8_25 : fG RX8 25 8 3 := ⟨_, _, _, rfl, by decide, inX8, by decide, Or.inl (mem_c2 (i := 130) (by decide +kernel) rfl)⟩
theorem fP_X8_25 (nm : String) (h : nm ≠ nm ∨ nm = "<init>") : fP RX8 25 8 3 (.object "SealedTokens$Bytes") nm := ⟨_, _, _, tyX8, rfl, by decide, inX8, by decide, mem_c2 (i := 130) (by decide +kernel) rfl, tyX8_ok, nmX8, by decide +kernel, Or.inr ⟨rfl, h.elim (fun q => absurd rfl q) id, rfl⟩⟩
theorem fG_X8_29 : fG RX8 29 8 4 := ⟨_, _, _, rfl, by decide, inX8, by decide, Or.inl (mem_c2 (i := 131) (by decide +kernel) rfl)⟩
theorem fP_X8_29 (nm : String) (h : nm ≠ nm ∨ nm = "<init>") : fP RX8 29 8 4 (.object "SealedTokens$Bytes") nm := ⟨_, _, _, tyX8, rfl, by decide, inX8, by decide, mem_c2 (i := 131) (by decide +kernel) rfl, tyX8_ok, nmX8, by decide +kernel, Or.inr ⟨rfl, h.elim (fun q => absurd rfl q) id, rfl⟩⟩
theorem fG_X8_32 : fG RX8 32 8 5 := ⟨_, _, _, rfl, by decide, inX8, by decide, Or.inl (mem_c2 (i := 132) (by decide +kernel) rfl)⟩
theorem fP_X8_32 (nm : String) (h : nm ≠ nm ∨ nm = "<init>") : fP RX8 32 8 5 (.object "SealedTokens$Bytes") nm := ⟨_, _, _, tyX8, rfl, by decide, inX8, by decide, mem_c2 (i := 132) (by decide +kernel) rfl, tyX8_ok, nmX8, by decide +kernel, Or.inr ⟨rfl, h.elim (fun q => absurd rfl q) id, rfl⟩⟩
theorem fG_X8_35 : fG RX8 35 8 0 := ⟨_, _, _, rfl, by decide, inX8, by decide, Or.inl (mem_c2 (i := 127) (by decide +kernel) rfl)⟩
theorem fP_X8_35 (nm : String) (h : nm ≠ nm ∨ nm = "<init>") : fP RX8 35 8 0 (.object "SealedTokens$Digest") nm := ⟨_, _, _, tyX8, rfl, by decide, inX8, by decide, mem_c2 (i := 127) (by decide +kernel) rfl, tyX8_ok, nmX8, by decide +kernel, Or.inr ⟨rfl, h.elim (fun q => absurd rfl q) id, rfl⟩⟩
theorem fG_X8_43 : fG RX8 43 0 1 := ⟨_, _, _, rfl, by decide, inX0, by decide, Or.inl (mem_c1 (i := 47) (by decide +kernel) rfl)⟩
theorem fP_X8_43 (nm : String) : fP RX8 43 0 1 .int nm := ⟨_, _, _, tyX0, rfl, by decide, inX0, by decide, mem_c1 (i := 47) (by decide +kernel) rfl, tyX0_ok, nmX0, by decide +kernel, Or.inl rfl⟩
theorem gS_X8_72 : gS RX8 72 8 := ⟨_, _, _, rfl, Or.inl (mem_c7 (i := 63) (by decide +kernel) rfl)⟩
theorem fG_X9_11 : fG RX9 11 9 1 := ⟨_, _, _, rfl, by decide, inX9, by decide, Or.inl (mem_c1 (i := 78) (by decide +kernel) rfl)⟩
theorem fP_X9_11 (nm : String) (h : nm ≠ nm ∨ nm = "<init>") : fP RX9 11 9 1 (.array .int) nm := ⟨_, _, _, tyX9, rfl, by decide, inX9, by decide, mem_c1 (i := 78) (by decide +kernel) rfl, tyX9_ok, nmX9, by decide +kernel, Or.inr ⟨rfl, h.elim (fun q => absurd rfl q) id, rfl⟩⟩
theorem fG_X9_15 : fG RX9 15 9 2 := ⟨_, _, _, rfl, by decide, inX9, by decide, Or.inl (mem_c1 (i := 82) (by decide +kernel) rfl)⟩
theorem fP_X9_15 (nm : String) (h : nm ≠ nm ∨ nm = "<init>") : fP RX9 15 9 2 (.array .int) nm := ⟨_, _, _, tyX9, rfl, by decide, inX9, by decide, mem_c1 (i := 82) (by decide +kernel) rfl, tyX9_ok, nmX9, by decide +kernel, Or.inr ⟨rfl, h.elim (fun q => absurd rfl q) id, rfl⟩⟩
theorem fG_X9_18 : fG RX9 18 9 3 := ⟨_, _, _, rfl, by decide, inX9, by decide, Or.inl (mem_c1 (i := 86) (by decide +kernel) rfl)⟩
theorem fP_X9_18 (nm : String) (h : nm ≠ nm ∨ nm = "<init>") : fP RX9 18 9 3 (.array .int) nm := ⟨_, _, _, tyX9, rfl, by decide, inX9, by decide, mem_c1 (i := 86) (by decide +kernel) rfl, tyX9_ok, nmX9, by decide +kernel, Or.inr ⟨rfl, h.elim (fun q => absurd rfl q) id, rfl⟩⟩
theorem fG_X9_21 : fG RX9 21 9 4 := ⟨_, _, _, rfl, by decide, inX9, by decide, Or.inl (mem_c1 (i := 88) (by decide +kernel) rfl)⟩
theorem fP_X9_21 (nm : String) (h : nm ≠ nm ∨ nm = "<init>") : fP RX9 21 9 4 (.array .int) nm := ⟨_, _, _, tyX9, rfl, by decide, inX9, by decide, mem_c1 (i := 88) (by decide +kernel) rfl, tyX9_ok, nmX9, by decide +kernel, Or.inr ⟨rfl, h.elim (fun q => absurd rfl q) id, rfl⟩⟩
theorem fG_X9_24 : fG RX9 24 9 5 := ⟨_, _, _, rfl, by decide, inX9, by decide, Or.inl (mem_c1 (i := 90) (by decide +kernel) rfl)⟩
theorem fP_X9_24 (nm : String) (h : nm ≠ nm ∨ nm = "<init>") : fP RX9 24 9 5 (.array .int) nm := ⟨_, _, _, tyX9, rfl, by decide, inX9, by decide, mem_c1 (i := 90) (by decide +kernel) rfl, tyX9_ok, nmX9, by decide +kernel, Or.inr ⟨rfl, h.elim (fun q => absurd rfl q) id, rfl⟩⟩
theorem fG_X9_27 : fG RX9 27 9 6 := ⟨_, _, _, rfl, by decide, inX9, by decide, Or.inl (mem_c1 (i := 93) (by decide +kernel) rfl)⟩
theorem fP_X9_27 (nm : String) (h : nm ≠ nm ∨ nm = "<init>") : fP RX9 27 9 6 (.array .int) nm := ⟨_, _, _, tyX9, rfl, by decide, inX9, by decide, mem_c1 (i := 93) (by decide +kernel) rfl, tyX9_ok, nmX9, by decide +kernel, Or.inr ⟨rfl, h.elim (fun q => absurd rfl q) id, rfl⟩⟩
theorem fG_X9_30 : fG RX9 30 9 7 := ⟨_, _, _, rfl, by decide, inX9, by decide, Or.inl (mem_c1 (i := 98) (by decide +kernel) rfl)⟩
theorem fP_X9_30 (nm : String) (h : nm ≠ nm ∨ nm = "<init>") : fP RX9 30 9 7 (.array .int) nm := ⟨_, _, _, tyX9, rfl, by decide, inX9, by decide, mem_c1 (i := 98) (by decide +kernel) rfl, tyX9_ok, nmX9, by decide +kernel, Or.inr ⟨rfl, h.elim (fun q => absurd rfl q) id, rfl⟩⟩
theorem fG_X9_33 : fG RX9 33 9 8 := ⟨_, _, _, rfl, by decide, inX9, by decide, Or.inl (mem_c1 (i := 103) (by decide +kernel) rfl)⟩
theorem fP_X9_33 (nm : String) (h : nm ≠ nm ∨ nm = "<init>") : fP RX9 33 9 8 (.array .int) nm := ⟨_, _, _, tyX9, rfl, by decide, inX9, by decide, mem_c1 (i := 103) (by decide +kernel) rfl, tyX9_ok, nmX9, by decide +kernel, Or.inr ⟨rfl, h.elim (fun q => absurd rfl q) id, rfl⟩⟩
theorem fG_X9_36 : fG RX9 36 9 9 := ⟨_, _, _, rfl, by decide, inX9, by decide, Or.inl (mem_c1 (i := 106) (by decide +kernel) rfl)⟩
theorem fP_X9_36 (nm : String) (h : nm ≠ nm ∨ nm = "<init>") : fP RX9 36 9 9 (.array .int) nm := ⟨_, _, _, tyX9, rfl, by decide, inX9, by decide, mem_c1 (i := 106) (by decide +kernel) rfl, tyX9_ok, nmX9, by decide +kernel, Or.inr ⟨rfl, h.elim (fun q => absurd rfl q) id, rfl⟩⟩
theorem fG_X9_44 : fG RX9 44 9 10 := ⟨_, _, _, rfl, by decide, inX9, by decide, Or.inl (mem_c1 (i := 109) (by decide +kernel) rfl)⟩
theorem fP_X9_44 (nm : String) (h : nm ≠ nm ∨ nm = "<init>") : fP RX9 44 9 10 (.object "SealedTokens$Bytes") nm := ⟨_, _, _, tyX9, rfl, by decide, inX9, by decide, mem_c1 (i := 109) (by decide +kernel) rfl, tyX9_ok, nmX9, by decide +kernel, Or.inr ⟨rfl, h.elim (fun q => absurd rfl q) id, rfl⟩⟩
theorem fG_X9_48 : fG RX9 48 9 0 := ⟨_, _, _, rfl, by decide, inX9, by decide, Or.inl (mem_c1 (i := 74) (by decide +kernel) rfl)⟩
theorem fP_X9_48 (nm : String) : fP RX9 48 9 0 .int nm := ⟨_, _, _, tyX9, rfl, by decide, inX9, by decide, mem_c1 (i := 74) (by decide +kernel) rfl, tyX9_ok, nmX9, by decide +kernel, Or.inl rfl⟩
theorem fG_X9_59 : fG RX9 59 0 1 := ⟨_, _, _, rfl, by decide, inX0, by decide, Or.inl (mem_c1 (i := 51) (by decide +kernel) rfl)⟩
theorem fP_X9_59 (nm : String) : fP RX9 59 0 1 .int nm := ⟨_, _, _, tyX0, rfl, by decide, inX0, by decide, mem_c1 (i := 51) (by decide +kernel) rfl, tyX0_ok, nmX0, by decide +kernel, Or.inl rfl⟩
theorem fG_X10_14 : fG RX10 14 10 0 := ⟨_, _, _, rfl, by decide, inX10, by decide, Or.inl (mem_c3 (i := 84) (by decide +kernel) rfl)⟩
theorem fP_X10_14 (nm : String) (h : nm ≠ nm ∨ nm = "<init>") : fP RX10 14 10 0 (.object "SealedTokens$Bytes") nm := ⟨_, _, _, tyX10, rfl, by decide, inX10, by decide, mem_c3 (i := 84) (by decide +kernel) rfl, tyX10_ok, nmX10, by decide +kernel, Or.inr ⟨rfl, h.elim (fun q => absurd rfl q) id, rfl⟩⟩
theorem fG_X10_20 : fG RX10 20 10 4 := ⟨_, _, _, rfl, by decide, inX10, by decide, Or.inl (mem_c3 (i := 92) (by decide +kernel) rfl)⟩
theorem fP_X10_20 (nm : String) (h : nm ≠ nm ∨ nm = "<init>") : fP RX10 20 10 4 (.object "SealedTokens$Bytes") nm := ⟨_, _, _, tyX10, rfl, by decide, inX10, by decide, mem_c3 (i := 92) (by decide +kernel) rfl, tyX10_ok, nmX10, by decide +kernel, Or.inr ⟨rfl, h.elim (fun q => absurd rfl q) id, rfl⟩⟩
theorem fG_X10_23 : fG RX10 23 10 5 := ⟨_, _, _, rfl, by decide, inX10, by decide, Or.inl (mem_c3 (i := 94) (by decide +kernel) rfl)⟩
theorem fP_X10_23 (nm : String) (h : nm ≠ nm ∨ nm = "<init>") : fP RX10 23 10 5 (.object "SealedTokens$Bytes") nm := ⟨_, _, _, tyX10, rfl, by decide, inX10, by decide, mem_c3 (i := 94) (by decide +kernel) rfl, tyX10_ok, nmX10, by decide +kernel, Or.inr ⟨rfl, h.elim (fun q => absurd rfl q) id, rfl⟩⟩
theorem fG_X10_28 : fG RX10 28 10 6 := ⟨_, _, _, rfl, by decide, inX10, by decide, Or.inl (mem_c3 (i := 96) (by decide +kernel) rfl)⟩
theorem fP_X10_28 (nm : String) (h : nm ≠ nm ∨ nm = "<init>") : fP RX10 28 10 6 (.object "SealedTokens$Bytes") nm := ⟨_, _, _, tyX10, rfl, by decide, inX10, by decide, mem_c3 (i := 96) (by decide +kernel) rfl, tyX10_ok, nmX10, by decide +kernel, Or.inr ⟨rfl, h.elim (fun q => absurd rfl q) id, rfl⟩⟩
theorem fG_X10_31 : fG RX10 31 10 7 := ⟨_, _, _, rfl, by decide, inX10, by decide, Or.inl (mem_c3 (i := 98) (by decide +kernel) rfl)⟩
theorem fP_X10_31 (nm : String) (h : nm ≠ nm ∨ nm = "<init>") : fP RX10 31 10 7 (.object "SealedTokens$Bytes") nm := ⟨_, _, _, tyX10, rfl, by decide, inX10, by decide, mem_c3 (i := 98) (by decide +kernel) rfl, tyX10_ok, nmX10, by decide +kernel, Or.inr ⟨rfl, h.elim (fun q => absurd rfl q) id, rfl⟩⟩
theorem fG_X10_36 : fG RX10 36 10 8 := ⟨_, _, _, rfl, by decide, inX10, by decide, Or.inl (mem_c3 (i := 100) (by decide +kernel) rfl)⟩
theorem fP_X10_36 (nm : String) (h : nm ≠ nm ∨ nm = "<init>") : fP RX10 36 10 8 (.object "SealedTokens$Bytes") nm := ⟨_, _, _, tyX10, rfl, by decide, inX10, by decide, mem_c3 (i := 100) (by decide +kernel) rfl, tyX10_ok, nmX10, by decide +kernel, Or.inr ⟨rfl, h.elim (fun q => absurd rfl q) id, rfl⟩⟩
theorem fG_X10_39 : fG RX10 39 10 9 := ⟨_, _, _, rfl, by decide, inX10, by decide, Or.inl (mem_c3 (i := 102) (by decide +kernel) rfl)⟩
theorem fP_X10_39 (nm : String) (h : nm ≠ nm ∨ nm = "<init>") : fP RX10 39 10 9 (.object "SealedTokens$Bytes") nm := ⟨_, _, _, tyX10, rfl, by decide, inX10, by decide, mem_c3 (i := 102) (by decide +kernel) rfl, tyX10_ok, nmX10, by decide +kernel, Or.inr ⟨rfl, h.elim (fun q => absurd rfl q) id, rfl⟩⟩
theorem fG_X10_44 : fG RX10 44 10 10 := ⟨_, _, _, rfl, by decide, inX10, by decide, Or.inl (mem_c3 (i := 104) (by decide +kernel) rfl)⟩
theorem fP_X10_44 (nm : String) (h : nm ≠ nm ∨ nm = "<init>") : fP RX10 44 10 10 (.object "SealedTokens$Bytes") nm := ⟨_, _, _, tyX10, rfl, by decide, inX10, by decide, mem_c3 (i := 104) (by decide +kernel) rfl, tyX10_ok, nmX10, by decide +kernel, Or.inr ⟨rfl, h.elim (fun q => absurd rfl q) id, rfl⟩⟩
theorem fG_X10_47 : fG RX10 47 10 11 := ⟨_, _, _, rfl, by decide, inX10, by decide, Or.inl (mem_c3 (i := 106) (by decide +kernel) rfl)⟩
theorem fP_X10_47 (nm : String) (h : nm ≠ nm ∨ nm = "<init>") : fP RX10 47 10 11 (.object "SealedTokens$Bytes") nm := ⟨_, _, _, tyX10, rfl, by decide, inX10, by decide, mem_c3 (i := 106) (by decide +kernel) rfl, tyX10_ok, nmX10, by decide +kernel, Or.inr ⟨rfl, h.elim (fun q => absurd rfl q) id, rfl⟩⟩
theorem fG_X10_50 : fG RX10 50 10 12 := ⟨_, _, _, rfl, by decide, inX10, by decide, Or.inl (mem_c3 (i := 108) (by decide +kernel) rfl)⟩
theorem fP_X10_50 (nm : String) (h : nm ≠ nm ∨ nm = "<init>") : fP RX10 50 10 12 (.object "SealedTokens$Bytes") nm := ⟨_, _, _, tyX10, rfl, by decide, inX10, by decide, mem_c3 (i := 108) (by decide +kernel) rfl, tyX10_ok, nmX10, by decide +kernel, Or.inr ⟨rfl, h.elim (fun q => absurd rfl q) id, rfl⟩⟩
theorem fG_X10_53 : fG RX10 53 10 13 := ⟨_, _, _, rfl, by decide, inX10, by decide, Or.inl (mem_c3 (i := 110) (by decide +kernel) rfl)⟩
theorem fP_X10_53 (nm : String) (h : nm ≠ nm ∨ nm = "<init>") : fP RX10 53 10 13 (.object "SealedTokens$Bytes") nm := ⟨_, _, _, tyX10, rfl, by decide, inX10, by decide, mem_c3 (i := 110) (by decide +kernel) rfl, tyX10_ok, nmX10, by decide +kernel, Or.inr ⟨rfl, h.elim (fun q => absurd rfl q) id, rfl⟩⟩
theorem fG_X10_56 : fG RX10 56 10 14 := ⟨_, _, _, rfl, by decide, inX10, by decide, Or.inl (mem_c3 (i := 112) (by decide +kernel) rfl)⟩
theorem fP_X10_56 (nm : String) (h : nm ≠ nm ∨ nm = "<init>") : fP RX10 56 10 14 (.array .int) nm := ⟨_, _, _, tyX10, rfl, by decide, inX10, by decide, mem_c3 (i := 112) (by decide +kernel) rfl, tyX10_ok, nmX10, by decide +kernel, Or.inr ⟨rfl, h.elim (fun q => absurd rfl q) id, rfl⟩⟩
theorem fG_X10_60 : fG RX10 60 0 1 := ⟨_, _, _, rfl, by decide, inX0, by decide, Or.inl (mem_c1 (i := 48) (by decide +kernel) rfl)⟩
theorem fP_X10_60 (nm : String) : fP RX10 60 0 1 .int nm := ⟨_, _, _, tyX0, rfl, by decide, inX0, by decide, mem_c1 (i := 48) (by decide +kernel) rfl, tyX0_ok, nmX0, by decide +kernel, Or.inl rfl⟩
theorem fG_X10_91 : fG RX10 91 0 0 := ⟨_, _, _, rfl, by decide, inX0, by decide, Or.inl (mem_c1 (i := 42) (by decide +kernel) rfl)⟩
theorem fG_X10_97 : fG RX10 97 10 2 := ⟨_, _, _, rfl, by decide, inX10, by decide, Or.inl (mem_c3 (i := 88) (by decide +kernel) rfl)⟩
theorem fP_X10_97 (nm : String) : fP RX10 97 10 2 .int nm := ⟨_, _, _, tyX10, rfl, by decide, inX10, by decide, mem_c3 (i := 88) (by decide +kernel) rfl, tyX10_ok, nmX10, by decide +kernel, Or.inl rfl⟩
theorem fG_X10_107 : fG RX10 107 10 15 := ⟨_, _, _, rfl, by decide, inX10, by decide, Or.inl (mem_c3 (i := 113) (by decide +kernel) rfl)⟩
theorem fP_X10_107 (nm : String) : fP RX10 107 10 15 .int nm := ⟨_, _, _, tyX10, rfl, by decide, inX10, by decide, mem_c3 (i := 113) (by decide +kernel) rfl, tyX10_ok, nmX10, by decide +kernel, Or.inl rfl⟩
theorem fG_X10_110 : fG RX10 110 5 4 := ⟨_, _, _, rfl, by decide, inX5, by decide, Or.inl (mem_c1 (i := 188) (by decide +kernel) rfl)⟩
theorem fP_X10_110 (nm : String) : fP RX10 110 5 4 .boolean nm := ⟨_, _, _, tyX5, rfl, by decide, inX5, by decide, mem_c1 (i := 188) (by decide +kernel) rfl, tyX5_ok, nmX5, by decide +kernel, Or.inl rfl⟩
theorem fG_X10_116 : fG RX10 116 5 9 := ⟨_, _, _, rfl, by decide, inX5, by decide, Or.inl (mem_c1 (i := 199) (by decide +kernel) rfl)⟩
theorem fP_X10_116 (nm : String) : fP RX10 116 5 9 (.object "SealedTokens$Bytes") nm := ⟨_, _, _, tyX5, rfl, by decide, inX5, by decide, mem_c1 (i := 199) (by decide +kernel) rfl, tyX5_ok, nmX5, by decide +kernel, Or.inl rfl⟩
theorem fG_X10_143 : fG RX10 143 9 5 := ⟨_, _, _, rfl, by decide, inX9, by decide, Or.inl (mem_c1 (i := 92) (by decide +kernel) rfl)⟩
theorem fG_X10_146 : fG RX10 146 9 0 := ⟨_, _, _, rfl, by decide, inX9, by decide, Or.inl (mem_c1 (i := 77) (by decide +kernel) rfl)⟩
theorem fP_X10_146 (nm : String) : fP RX10 146 9 0 .int nm := ⟨_, _, _, tyX9, rfl, by decide, inX9, by decide, mem_c1 (i := 77) (by decide +kernel) rfl, tyX9_ok, nmX9, by decide +kernel, Or.inl rfl⟩
theorem fG_X10_149 : fG RX10 149 9 2 := ⟨_, _, _, rfl, by decide, inX9, by decide, Or.inl (mem_c1 (i := 85) (by decide +kernel) rfl)⟩
theorem fG_X10_152 : fG RX10 152 9 1 := ⟨_, _, _, rfl, by decide, inX9, by decide, Or.inl (mem_c1 (i := 81) (by decide +kernel) rfl)⟩
theorem fG_X10_159 : fG RX10 159 9 7 := ⟨_, _, _, rfl, by decide, inX9, by decide, Or.inl (mem_c1 (i := 102) (by decide +kernel) rfl)⟩
theorem fG_X10_162 : fG RX10 162 9 10 := ⟨_, _, _, rfl, by decide, inX9, by decide, Or.inl (mem_c1 (i := 113) (by decide +kernel) rfl)⟩
theorem fG_X10_165 : fG RX10 165 9 6 := ⟨_, _, _, rfl, by decide, inX9, by decide, Or.inl (mem_c1 (i := 97) (by decide +kernel) rfl)⟩
theorem fG_X10_179 : fG RX10 179 10 3 := ⟨_, _, _, rfl, by decide, inX10, by decide, Or.inl (mem_c3 (i := 90) (by decide +kernel) rfl)⟩
theorem fP_X10_179 (nm : String) : fP RX10 179 10 3 .boolean nm := ⟨_, _, _, tyX10, rfl, by decide, inX10, by decide, mem_c3 (i := 90) (by decide +kernel) rfl, tyX10_ok, nmX10, by decide +kernel, Or.inl rfl⟩
theorem fG_X10_190 : fG RX10 190 10 1 := ⟨_, _, _, rfl, by decide, inX10, by decide, Or.inl (mem_c3 (i := 86) (by decide +kernel) rfl)⟩
theorem fP_X10_190 (nm : String) : fP RX10 190 10 1 .int nm := ⟨_, _, _, tyX10, rfl, by decide, inX10, by decide, mem_c3 (i := 86) (by decide +kernel) rfl, tyX10_ok, nmX10, by decide +kernel, Or.inl rfl⟩
theorem fG_X13_7 : fG RX13 7 13 0 := ⟨_, _, _, rfl, by decide, inX13, by decide, Or.inl (mem_c8 (i := 146) (by decide +kernel) rfl)⟩
theorem fP_X13_7 (nm : String) (h : nm ≠ nm ∨ nm = "<init>") : fP RX13 7 13 0 (.array .byte) nm := ⟨_, _, _, tyX13, rfl, by decide, inX13, by decide, mem_c8 (i := 146) (by decide +kernel) rfl, tyX13_ok, nmX13, by decide +kernel, Or.inr ⟨rfl, h.elim (fun q => absurd rfl q) id, rfl⟩⟩
theorem fG_X13_14 : fG RX13 14 13 2 := ⟨_, _, _, rfl, by decide, inX13, by decide, Or.inl (mem_c8 (i := 148) (by decide +kernel) rfl)⟩
theorem fP_X13_14 (nm : String) (h : nm ≠ nm ∨ nm = "<init>") : fP RX13 14 13 2 (.array .byte) nm := ⟨_, _, _, tyX13, rfl, by decide, inX13, by decide, mem_c8 (i := 148) (by decide +kernel) rfl, tyX13_ok, nmX13, by decide +kernel, Or.inr ⟨rfl, h.elim (fun q => absurd rfl q) id, rfl⟩⟩
theorem fG_X13_17 : fG RX13 17 13 3 := ⟨_, _, _, rfl, by decide, inX13, by decide, Or.inl (mem_c8 (i := 149) (by decide +kernel) rfl)⟩
theorem fP_X13_17 (nm : String) (h : nm ≠ nm ∨ nm = "<init>") : fP RX13 17 13 3 (.array .int) nm := ⟨_, _, _, tyX13, rfl, by decide, inX13, by decide, mem_c8 (i := 149) (by decide +kernel) rfl, tyX13_ok, nmX13, by decide +kernel, Or.inr ⟨rfl, h.elim (fun q => absurd rfl q) id, rfl⟩⟩
theorem fG_X13_21 : fG RX13 21 13 4 := ⟨_, _, _, rfl, by decide, inX13, by decide, Or.inl (mem_c8 (i := 150) (by decide +kernel) rfl)⟩
theorem fP_X13_21 (nm : String) (h : nm ≠ nm ∨ nm = "<init>") : fP RX13 21 13 4 (.array .byte) nm := ⟨_, _, _, tyX13, rfl, by decide, inX13, by decide, mem_c8 (i := 150) (by decide +kernel) rfl, tyX13_ok, nmX13, by decide +kernel, Or.inr ⟨rfl, h.elim (fun q => absurd rfl q) id, rfl⟩⟩
theorem fG_X13_24 : fG RX13 24 13 6 := ⟨_, _, _, rfl, by decide, inX13, by decide, Or.inl (mem_c8 (i := 152) (by decide +kernel) rfl)⟩
theorem fP_X13_24 (nm : String) (h : nm ≠ nm ∨ nm = "<init>") : fP RX13 24 13 6 (.array .int) nm := ⟨_, _, _, tyX13, rfl, by decide, inX13, by decide, mem_c8 (i := 152) (by decide +kernel) rfl, tyX13_ok, nmX13, by decide +kernel, Or.inr ⟨rfl, h.elim (fun q => absurd rfl q) id, rfl⟩⟩
theorem fG_X13_27 : fG RX13 27 13 7 := ⟨_, _, _, rfl, by decide, inX13, by decide, Or.inl (mem_c8 (i := 153) (by decide +kernel) rfl)⟩
theorem fP_X13_27 (nm : String) (h : nm ≠ nm ∨ nm = "<init>") : fP RX13 27 13 7 (.array .int) nm := ⟨_, _, _, tyX13, rfl, by decide, inX13, by decide, mem_c8 (i := 153) (by decide +kernel) rfl, tyX13_ok, nmX13, by decide +kernel, Or.inr ⟨rfl, h.elim (fun q => absurd rfl q) id, rfl⟩⟩
theorem fG_X13_30 : fG RX13 30 13 8 := ⟨_, _, _, rfl, by decide, inX13, by decide, Or.inl (mem_c8 (i := 154) (by decide +kernel) rfl)⟩
theorem fP_X13_30 (nm : String) (h : nm ≠ nm ∨ nm = "<init>") : fP RX13 30 13 8 (.array .int) nm := ⟨_, _, _, tyX13, rfl, by decide, inX13, by decide, mem_c8 (i := 154) (by decide +kernel) rfl, tyX13_ok, nmX13, by decide +kernel, Or.inr ⟨rfl, h.elim (fun q => absurd rfl q) id, rfl⟩⟩
theorem fG_X13_33 : fG RX13 33 13 9 := ⟨_, _, _, rfl, by decide, inX13, by decide, Or.inl (mem_c8 (i := 155) (by decide +kernel) rfl)⟩
theorem fP_X13_33 (nm : String) (h : nm ≠ nm ∨ nm = "<init>") : fP RX13 33 13 9 (.array .int) nm := ⟨_, _, _, tyX13, rfl, by decide, inX13, by decide, mem_c8 (i := 155) (by decide +kernel) rfl, tyX13_ok, nmX13, by decide +kernel, Or.inr ⟨rfl, h.elim (fun q => absurd rfl q) id, rfl⟩⟩
theorem fG_X13_36 : fG RX13 36 13 10 := ⟨_, _, _, rfl, by decide, inX13, by decide, Or.inl (mem_c8 (i := 156) (by decide +kernel) rfl)⟩
theorem fP_X13_36 (nm : String) (h : nm ≠ nm ∨ nm = "<init>") : fP RX13 36 13 10 (.array .int) nm := ⟨_, _, _, tyX13, rfl, by decide, inX13, by decide, mem_c8 (i := 156) (by decide +kernel) rfl, tyX13_ok, nmX13, by decide +kernel, Or.inr ⟨rfl, h.elim (fun q => absurd rfl q) id, rfl⟩⟩
theorem fG_X13_39 : fG RX13 39 13 11 := ⟨_, _, _, rfl, by decide, inX13, by decide, Or.inl (mem_c8 (i := 157) (by decide +kernel) rfl)⟩
theorem fP_X13_39 (nm : String) (h : nm ≠ nm ∨ nm = "<init>") : fP RX13 39 13 11 (.array .int) nm := ⟨_, _, _, tyX13, rfl, by decide, inX13, by decide, mem_c8 (i := 157) (by decide +kernel) rfl, tyX13_ok, nmX13, by decide +kernel, Or.inr ⟨rfl, h.elim (fun q => absurd rfl q) id, rfl⟩⟩
theorem fG_X13_42 : fG RX13 42 13 12 := ⟨_, _, _, rfl, by decide, inX13, by decide, Or.inl (mem_c8 (i := 158) (by decide +kernel) rfl)⟩
theorem fP_X13_42 (nm : String) (h : nm ≠ nm ∨ nm = "<init>") : fP RX13 42 13 12 (.array .int) nm := ⟨_, _, _, tyX13, rfl, by decide, inX13, by decide, mem_c8 (i := 158) (by decide +kernel) rfl, tyX13_ok, nmX13, by decide +kernel, Or.inr ⟨rfl, h.elim (fun q => absurd rfl q) id, rfl⟩⟩
theorem fG_X13_45 : fG RX13 45 13 13 := ⟨_, _, _, rfl, by decide, inX13, by decide, Or.inl (mem_c8 (i := 159) (by decide +kernel) rfl)⟩
theorem fP_X13_45 (nm : String) (h : nm ≠ nm ∨ nm = "<init>") : fP RX13 45 13 13 (.array .int) nm := ⟨_, _, _, tyX13, rfl, by decide, inX13, by decide, mem_c8 (i := 159) (by decide +kernel) rfl, tyX13_ok, nmX13, by decide +kernel, Or.inr ⟨rfl, h.elim (fun q => absurd rfl q) id, rfl⟩⟩
theorem fG_X13_48 : fG RX13 48 13 14 := ⟨_, _, _, rfl, by decide, inX13, by decide, Or.inl (mem_c8 (i := 160) (by decide +kernel) rfl)⟩
theorem fP_X13_48 (nm : String) (h : nm ≠ nm ∨ nm = "<init>") : fP RX13 48 13 14 (.array .int) nm := ⟨_, _, _, tyX13, rfl, by decide, inX13, by decide, mem_c8 (i := 160) (by decide +kernel) rfl, tyX13_ok, nmX13, by decide +kernel, Or.inr ⟨rfl, h.elim (fun q => absurd rfl q) id, rfl⟩⟩
theorem fG_X13_51 : fG RX13 51 13 15 := ⟨_, _, _, rfl, by decide, inX13, by decide, Or.inl (mem_c8 (i := 161) (by decide +kernel) rfl)⟩
theorem fP_X13_51 (nm : String) (h : nm ≠ nm ∨ nm = "<init>") : fP RX13 51 13 15 (.array .byte) nm := ⟨_, _, _, tyX13, rfl, by decide, inX13, by decide, mem_c8 (i := 161) (by decide +kernel) rfl, tyX13_ok, nmX13, by decide +kernel, Or.inr ⟨rfl, h.elim (fun q => absurd rfl q) id, rfl⟩⟩
theorem fG_X13_54 : fG RX13 54 13 16 := ⟨_, _, _, rfl, by decide, inX13, by decide, Or.inl (mem_c8 (i := 162) (by decide +kernel) rfl)⟩
theorem fP_X13_54 (nm : String) (h : nm ≠ nm ∨ nm = "<init>") : fP RX13 54 13 16 (.array .int) nm := ⟨_, _, _, tyX13, rfl, by decide, inX13, by decide, mem_c8 (i := 162) (by decide +kernel) rfl, tyX13_ok, nmX13, by decide +kernel, Or.inr ⟨rfl, h.elim (fun q => absurd rfl q) id, rfl⟩⟩
theorem fG_X13_57 : fG RX13 57 13 27 := ⟨_, _, _, rfl, by decide, inX13, by decide, Or.inl (mem_c8 (i := 173) (by decide +kernel) rfl)⟩
theorem fP_X13_57 (nm : String) (h : nm ≠ nm ∨ nm = "<init>") : fP RX13 57 13 27 (.array .byte) nm := ⟨_, _, _, tyX13, rfl, by decide, inX13, by decide, mem_c8 (i := 173) (by decide +kernel) rfl, tyX13_ok, nmX13, by decide +kernel, Or.inr ⟨rfl, h.elim (fun q => absurd rfl q) id, rfl⟩⟩
theorem fG_X13_60 : fG RX13 60 13 30 := ⟨_, _, _, rfl, by decide, inX13, by decide, Or.inl (mem_c8 (i := 176) (by decide +kernel) rfl)⟩
theorem fP_X13_60 (nm : String) (h : nm ≠ nm ∨ nm = "<init>") : fP RX13 60 13 30 (.array .byte) nm := ⟨_, _, _, tyX13, rfl, by decide, inX13, by decide, mem_c8 (i := 176) (by decide +kernel) rfl, tyX13_ok, nmX13, by decide +kernel, Or.inr ⟨rfl, h.elim (fun q => absurd rfl q) id, rfl⟩⟩
theorem fG_X13_63 : fG RX13 63 13 31 := ⟨_, _, _, rfl, by decide, inX13, by decide, Or.inl (mem_c8 (i := 177) (by decide +kernel) rfl)⟩
theorem fP_X13_63 (nm : String) (h : nm ≠ nm ∨ nm = "<init>") : fP RX13 63 13 31 (.array .int) nm := ⟨_, _, _, tyX13, rfl, by decide, inX13, by decide, mem_c8 (i := 177) (by decide +kernel) rfl, tyX13_ok, nmX13, by decide +kernel, Or.inr ⟨rfl, h.elim (fun q => absurd rfl q) id, rfl⟩⟩
theorem fG_X13_66 : fG RX13 66 13 32 := ⟨_, _, _, rfl, by decide, inX13, by decide, Or.inl (mem_c8 (i := 178) (by decide +kernel) rfl)⟩
theorem fP_X13_66 (nm : String) (h : nm ≠ nm ∨ nm = "<init>") : fP RX13 66 13 32 (.array .int) nm := ⟨_, _, _, tyX13, rfl, by decide, inX13, by decide, mem_c8 (i := 178) (by decide +kernel) rfl, tyX13_ok, nmX13, by decide +kernel, Or.inr ⟨rfl, h.elim (fun q => absurd rfl q) id, rfl⟩⟩
theorem fG_X13_69 : fG RX13 69 13 33 := ⟨_, _, _, rfl, by decide, inX13, by decide, Or.inl (mem_c8 (i := 179) (by decide +kernel) rfl)⟩
theorem fP_X13_69 (nm : String) (h : nm ≠ nm ∨ nm = "<init>") : fP RX13 69 13 33 (.array .long) nm := ⟨_, _, _, tyX13, rfl, by decide, inX13, by decide, mem_c8 (i := 179) (by decide +kernel) rfl, tyX13_ok, nmX13, by decide +kernel, Or.inr ⟨rfl, h.elim (fun q => absurd rfl q) id, rfl⟩⟩
theorem fG_X13_73 : fG RX13 73 13 34 := ⟨_, _, _, rfl, by decide, inX13, by decide, Or.inl (mem_c8 (i := 180) (by decide +kernel) rfl)⟩
theorem fP_X13_73 (nm : String) (h : nm ≠ nm ∨ nm = "<init>") : fP RX13 73 13 34 (.array .long) nm := ⟨_, _, _, tyX13, rfl, by decide, inX13, by decide, mem_c8 (i := 180) (by decide +kernel) rfl, tyX13_ok, nmX13, by decide +kernel, Or.inr ⟨rfl, h.elim (fun q => absurd rfl q) id, rfl⟩⟩
theorem fG_X13_76 : fG RX13 76 13 35 := ⟨_, _, _, rfl, by decide, inX13, by decide, Or.inl (mem_c8 (i := 181) (by decide +kernel) rfl)⟩
theorem fP_X13_76 (nm : String) (h : nm ≠ nm ∨ nm = "<init>") : fP RX13 76 13 35 (.array .byte) nm := ⟨_, _, _, tyX13, rfl, by decide, inX13, by decide, mem_c8 (i := 181) (by decide +kernel) rfl, tyX13_ok, nmX13, by decide +kernel, Or.inr ⟨rfl, h.elim (fun q => absurd rfl q) id, rfl⟩⟩
theorem fG_X13_80 : fG RX13 80 13 36 := ⟨_, _, _, rfl, by decide, inX13, by decide, Or.inl (mem_c8 (i := 182) (by decide +kernel) rfl)⟩
theorem fP_X13_80 (nm : String) (h : nm ≠ nm ∨ nm = "<init>") : fP RX13 80 13 36 (.array .byte) nm := ⟨_, _, _, tyX13, rfl, by decide, inX13, by decide, mem_c8 (i := 182) (by decide +kernel) rfl, tyX13_ok, nmX13, by decide +kernel, Or.inr ⟨rfl, h.elim (fun q => absurd rfl q) id, rfl⟩⟩
theorem fG_X13_83 : fG RX13 83 13 38 := ⟨_, _, _, rfl, by decide, inX13, by decide, Or.inl (mem_c8 (i := 184) (by decide +kernel) rfl)⟩
theorem fP_X13_83 (nm : String) (h : nm ≠ nm ∨ nm = "<init>") : fP RX13 83 13 38 (.array .byte) nm := ⟨_, _, _, tyX13, rfl, by decide, inX13, by decide, mem_c8 (i := 184) (by decide +kernel) rfl, tyX13_ok, nmX13, by decide +kernel, Or.inr ⟨rfl, h.elim (fun q => absurd rfl q) id, rfl⟩⟩
theorem fG_X13_86 : fG RX13 86 13 40 := ⟨_, _, _, rfl, by decide, inX13, by decide, Or.inl (mem_c8 (i := 186) (by decide +kernel) rfl)⟩
theorem fP_X13_86 (nm : String) (h : nm ≠ nm ∨ nm = "<init>") : fP RX13 86 13 40 (.array .byte) nm := ⟨_, _, _, tyX13, rfl, by decide, inX13, by decide, mem_c8 (i := 186) (by decide +kernel) rfl, tyX13_ok, nmX13, by decide +kernel, Or.inr ⟨rfl, h.elim (fun q => absurd rfl q) id, rfl⟩⟩
theorem fG_X13_89 : fG RX13 89 13 41 := ⟨_, _, _, rfl, by decide, inX13, by decide, Or.inl (mem_c8 (i := 187) (by decide +kernel) rfl)⟩
theorem fP_X13_89 (nm : String) (h : nm ≠ nm ∨ nm = "<init>") : fP RX13 89 13 41 (.array .int) nm := ⟨_, _, _, tyX13, rfl, by decide, inX13, by decide, mem_c8 (i := 187) (by decide +kernel) rfl, tyX13_ok, nmX13, by decide +kernel, Or.inr ⟨rfl, h.elim (fun q => absurd rfl q) id, rfl⟩⟩
theorem fG_X13_92 : fG RX13 92 13 42 := ⟨_, _, _, rfl, by decide, inX13, by decide, Or.inl (mem_c8 (i := 188) (by decide +kernel) rfl)⟩
theorem fP_X13_92 (nm : String) (h : nm ≠ nm ∨ nm = "<init>") : fP RX13 92 13 42 (.array .int) nm := ⟨_, _, _, tyX13, rfl, by decide, inX13, by decide, mem_c8 (i := 188) (by decide +kernel) rfl, tyX13_ok, nmX13, by decide +kernel, Or.inr ⟨rfl, h.elim (fun q => absurd rfl q) id, rfl⟩⟩
theorem fG_X13_95 : fG RX13 95 13 43 := ⟨_, _, _, rfl, by decide, inX13, by decide, Or.inl (mem_c8 (i := 189) (by decide +kernel) rfl)⟩
theorem fP_X13_95 (nm : String) (h : nm ≠ nm ∨ nm = "<init>") : fP RX13 95 13 43 (.array .int) nm := ⟨_, _, _, tyX13, rfl, by decide, inX13, by decide, mem_c8 (i := 189) (by decide +kernel) rfl, tyX13_ok, nmX13, by decide +kernel, Or.inr ⟨rfl, h.elim (fun q => absurd rfl q) id, rfl⟩⟩
theorem fG_X13_98 : fG RX13 98 13 45 := ⟨_, _, _, rfl, by decide, inX13, by decide, Or.inl (mem_c8 (i := 191) (by decide +kernel) rfl)⟩
theorem fP_X13_98 (nm : String) (h : nm ≠ nm ∨ nm = "<init>") : fP RX13 98 13 45 (.array .int) nm := ⟨_, _, _, tyX13, rfl, by decide, inX13, by decide, mem_c8 (i := 191) (by decide +kernel) rfl, tyX13_ok, nmX13, by decide +kernel, Or.inr ⟨rfl, h.elim (fun q => absurd rfl q) id, rfl⟩⟩
theorem fG_X13_101 : fG RX13 101 13 46 := ⟨_, _, _, rfl, by decide, inX13, by decide, Or.inl (mem_c8 (i := 192) (by decide +kernel) rfl)⟩
theorem fP_X13_101 (nm : String) (h : nm ≠ nm ∨ nm = "<init>") : fP RX13 101 13 46 (.array .int) nm := ⟨_, _, _, tyX13, rfl, by decide, inX13, by decide, mem_c8 (i := 192) (by decide +kernel) rfl, tyX13_ok, nmX13, by decide +kernel, Or.inr ⟨rfl, h.elim (fun q => absurd rfl q) id, rfl⟩⟩
theorem fG_X13_104 : fG RX13 104 13 47 := ⟨_, _, _, rfl, by decide, inX13, by decide, Or.inl (mem_c8 (i := 193) (by decide +kernel) rfl)⟩
theorem fP_X13_104 (nm : String) (h : nm ≠ nm ∨ nm = "<init>") : fP RX13 104 13 47 (.array .byte) nm := ⟨_, _, _, tyX13, rfl, by decide, inX13, by decide, mem_c8 (i := 193) (by decide +kernel) rfl, tyX13_ok, nmX13, by decide +kernel, Or.inr ⟨rfl, h.elim (fun q => absurd rfl q) id, rfl⟩⟩
theorem fG_X13_107 : fG RX13 107 13 48 := ⟨_, _, _, rfl, by decide, inX13, by decide, Or.inl (mem_c8 (i := 194) (by decide +kernel) rfl)⟩
theorem fP_X13_107 (nm : String) (h : nm ≠ nm ∨ nm = "<init>") : fP RX13 107 13 48 (.array .byte) nm := ⟨_, _, _, tyX13, rfl, by decide, inX13, by decide, mem_c8 (i := 194) (by decide +kernel) rfl, tyX13_ok, nmX13, by decide +kernel, Or.inr ⟨rfl, h.elim (fun q => absurd rfl q) id, rfl⟩⟩
theorem fG_X13_110 : fG RX13 110 13 49 := ⟨_, _, _, rfl, by decide, inX13, by decide, Or.inl (mem_c8 (i := 195) (by decide +kernel) rfl)⟩
theorem fP_X13_110 (nm : String) (h : nm ≠ nm ∨ nm = "<init>") : fP RX13 110 13 49 (.array .byte) nm := ⟨_, _, _, tyX13, rfl, by decide, inX13, by decide, mem_c8 (i := 195) (by decide +kernel) rfl, tyX13_ok, nmX13, by decide +kernel, Or.inr ⟨rfl, h.elim (fun q => absurd rfl q) id, rfl⟩⟩
theorem fG_X13_113 : fG RX13 113 13 51 := ⟨_, _, _, rfl, by decide, inX13, by decide, Or.inl (mem_c8 (i := 197) (by decide +kernel) rfl)⟩
theorem fP_X13_113 (nm : String) (h : nm ≠ nm ∨ nm = "<init>") : fP RX13 113 13 51 (.array .byte) nm := ⟨_, _, _, tyX13, rfl, by decide, inX13, by decide, mem_c8 (i := 197) (by decide +kernel) rfl, tyX13_ok, nmX13, by decide +kernel, Or.inr ⟨rfl, h.elim (fun q => absurd rfl q) id, rfl⟩⟩
theorem fG_X13_116 : fG RX13 116 13 52 := ⟨_, _, _, rfl, by decide, inX13, by decide, Or.inl (mem_c8 (i := 198) (by decide +kernel) rfl)⟩
theorem fP_X13_116 (nm : String) (h : nm ≠ nm ∨ nm = "<init>") : fP RX13 116 13 52 (.array .byte) nm := ⟨_, _, _, tyX13, rfl, by decide, inX13, by decide, mem_c8 (i := 198) (by decide +kernel) rfl, tyX13_ok, nmX13, by decide +kernel, Or.inr ⟨rfl, h.elim (fun q => absurd rfl q) id, rfl⟩⟩
theorem fG_X13_122 : fG RX13 122 13 57 := ⟨_, _, _, rfl, by decide, inX13, by decide, Or.inl (mem_c8 (i := 203) (by decide +kernel) rfl)⟩
theorem fP_X13_122 (nm : String) (h : nm ≠ nm ∨ nm = "<init>") : fP RX13 122 13 57 (.object "SealedTokensModel$Mod") nm := ⟨_, _, _, tyX13, rfl, by decide, inX13, by decide, mem_c8 (i := 203) (by decide +kernel) rfl, tyX13_ok, nmX13, by decide +kernel, Or.inr ⟨rfl, h.elim (fun q => absurd rfl q) id, rfl⟩⟩
theorem fG_X13_126 : fG RX13 126 13 58 := ⟨_, _, _, rfl, by decide, inX13, by decide, Or.inl (mem_c8 (i := 204) (by decide +kernel) rfl)⟩
theorem fP_X13_126 (nm : String) (h : nm ≠ nm ∨ nm = "<init>") : fP RX13 126 13 58 (.object "SealedTokensModel$Mod") nm := ⟨_, _, _, tyX13, rfl, by decide, inX13, by decide, mem_c8 (i := 204) (by decide +kernel) rfl, tyX13_ok, nmX13, by decide +kernel, Or.inr ⟨rfl, h.elim (fun q => absurd rfl q) id, rfl⟩⟩
theorem fG_X13_129 : fG RX13 129 13 59 := ⟨_, _, _, rfl, by decide, inX13, by decide, Or.inl (mem_c8 (i := 205) (by decide +kernel) rfl)⟩
theorem fP_X13_129 (nm : String) (h : nm ≠ nm ∨ nm = "<init>") : fP RX13 129 13 59 (.object "SealedTokensModel$Mod") nm := ⟨_, _, _, tyX13, rfl, by decide, inX13, by decide, mem_c8 (i := 205) (by decide +kernel) rfl, tyX13_ok, nmX13, by decide +kernel, Or.inr ⟨rfl, h.elim (fun q => absurd rfl q) id, rfl⟩⟩
theorem fG_X13_132 : fG RX13 132 13 60 := ⟨_, _, _, rfl, by decide, inX13, by decide, Or.inl (mem_c8 (i := 206) (by decide +kernel) rfl)⟩
theorem fP_X13_132 (nm : String) (h : nm ≠ nm ∨ nm = "<init>") : fP RX13 132 13 60 (.array .int) nm := ⟨_, _, _, tyX13, rfl, by decide, inX13, by decide, mem_c8 (i := 206) (by decide +kernel) rfl, tyX13_ok, nmX13, by decide +kernel, Or.inr ⟨rfl, h.elim (fun q => absurd rfl q) id, rfl⟩⟩
theorem fG_X13_135 : fG RX13 135 13 61 := ⟨_, _, _, rfl, by decide, inX13, by decide, Or.inl (mem_c8 (i := 207) (by decide +kernel) rfl)⟩
theorem fP_X13_135 (nm : String) (h : nm ≠ nm ∨ nm = "<init>") : fP RX13 135 13 61 (.array .int) nm := ⟨_, _, _, tyX13, rfl, by decide, inX13, by decide, mem_c8 (i := 207) (by decide +kernel) rfl, tyX13_ok, nmX13, by decide +kernel, Or.inr ⟨rfl, h.elim (fun q => absurd rfl q) id, rfl⟩⟩
theorem fG_X13_138 : fG RX13 138 13 62 := ⟨_, _, _, rfl, by decide, inX13, by decide, Or.inl (mem_c8 (i := 208) (by decide +kernel) rfl)⟩
theorem fP_X13_138 (nm : String) (h : nm ≠ nm ∨ nm = "<init>") : fP RX13 138 13 62 (.array .byte) nm := ⟨_, _, _, tyX13, rfl, by decide, inX13, by decide, mem_c8 (i := 208) (by decide +kernel) rfl, tyX13_ok, nmX13, by decide +kernel, Or.inr ⟨rfl, h.elim (fun q => absurd rfl q) id, rfl⟩⟩
theorem fG_X13_141 : fG RX13 141 13 63 := ⟨_, _, _, rfl, by decide, inX13, by decide, Or.inl (mem_c8 (i := 209) (by decide +kernel) rfl)⟩
theorem fP_X13_141 (nm : String) (h : nm ≠ nm ∨ nm = "<init>") : fP RX13 141 13 63 (.array .byte) nm := ⟨_, _, _, tyX13, rfl, by decide, inX13, by decide, mem_c8 (i := 209) (by decide +kernel) rfl, tyX13_ok, nmX13, by decide +kernel, Or.inr ⟨rfl, h.elim (fun q => absurd rfl q) id, rfl⟩⟩
theorem fG_X13_144 : fG RX13 144 13 64 := ⟨_, _, _, rfl, by decide, inX13, by decide, Or.inl (mem_c8 (i := 210) (by decide +kernel) rfl)⟩
theorem fP_X13_144 (nm : String) (h : nm ≠ nm ∨ nm = "<init>") : fP RX13 144 13 64 (.array .byte) nm := ⟨_, _, _, tyX13, rfl, by decide, inX13, by decide, mem_c8 (i := 210) (by decide +kernel) rfl, tyX13_ok, nmX13, by decide +kernel, Or.inr ⟨rfl, h.elim (fun q => absurd rfl q) id, rfl⟩⟩
theorem fG_X13_147 : fG RX13 147 13 65 := ⟨_, _, _, rfl, by decide, inX13, by decide, Or.inl (mem_c8 (i := 211) (by decide +kernel) rfl)⟩
theorem fP_X13_147 (nm : String) (h : nm ≠ nm ∨ nm = "<init>") : fP RX13 147 13 65 (.array .byte) nm := ⟨_, _, _, tyX13, rfl, by decide, inX13, by decide, mem_c8 (i := 211) (by decide +kernel) rfl, tyX13_ok, nmX13, by decide +kernel, Or.inr ⟨rfl, h.elim (fun q => absurd rfl q) id, rfl⟩⟩
theorem fG_X13_150 : fG RX13 150 13 66 := ⟨_, _, _, rfl, by decide, inX13, by decide, Or.inl (mem_c8 (i := 212) (by decide +kernel) rfl)⟩
theorem fP_X13_150 (nm : String) (h : nm ≠ nm ∨ nm = "<init>") : fP RX13 150 13 66 (.array .int) nm := ⟨_, _, _, tyX13, rfl, by decide, inX13, by decide, mem_c8 (i := 212) (by decide +kernel) rfl, tyX13_ok, nmX13, by decide +kernel, Or.inr ⟨rfl, h.elim (fun q => absurd rfl q) id, rfl⟩⟩
theorem fG_X13_153 : fG RX13 153 13 67 := ⟨_, _, _, rfl, by decide, inX13, by decide, Or.inl (mem_c8 (i := 213) (by decide +kernel) rfl)⟩
theorem fP_X13_153 (nm : String) (h : nm ≠ nm ∨ nm = "<init>") : fP RX13 153 13 67 (.array .byte) nm := ⟨_, _, _, tyX13, rfl, by decide, inX13, by decide, mem_c8 (i := 213) (by decide +kernel) rfl, tyX13_ok, nmX13, by decide +kernel, Or.inr ⟨rfl, h.elim (fun q => absurd rfl q) id, rfl⟩⟩
theorem fG_X13_156 : fG RX13 156 13 68 := ⟨_, _, _, rfl, by decide, inX13, by decide, Or.inl (mem_c8 (i := 214) (by decide +kernel) rfl)⟩
theorem fP_X13_156 (nm : String) (h : nm ≠ nm ∨ nm = "<init>") : fP RX13 156 13 68 (.array .int) nm := ⟨_, _, _, tyX13, rfl, by decide, inX13, by decide, mem_c8 (i := 214) (by decide +kernel) rfl, tyX13_ok, nmX13, by decide +kernel, Or.inr ⟨rfl, h.elim (fun q => absurd rfl q) id, rfl⟩⟩
theorem fG_X13_159 : fG RX13 159 13 69 := ⟨_, _, _, rfl, by decide, inX13, by decide, Or.inl (mem_c8 (i := 215) (by decide +kernel) rfl)⟩
theorem fP_X13_159 (nm : String) (h : nm ≠ nm ∨ nm = "<init>") : fP RX13 159 13 69 (.array .int) nm := ⟨_, _, _, tyX13, rfl, by decide, inX13, by decide, mem_c8 (i := 215) (by decide +kernel) rfl, tyX13_ok, nmX13, by decide +kernel, Or.inr ⟨rfl, h.elim (fun q => absurd rfl q) id, rfl⟩⟩
theorem fG_X13_162 : fG RX13 162 13 70 := ⟨_, _, _, rfl, by decide, inX13, by decide, Or.inl (mem_c8 (i := 216) (by decide +kernel) rfl)⟩
theorem fP_X13_162 (nm : String) (h : nm ≠ nm ∨ nm = "<init>") : fP RX13 162 13 70 (.array .int) nm := ⟨_, _, _, tyX13, rfl, by decide, inX13, by decide, mem_c8 (i := 216) (by decide +kernel) rfl, tyX13_ok, nmX13, by decide +kernel, Or.inr ⟨rfl, h.elim (fun q => absurd rfl q) id, rfl⟩⟩
theorem fG_X13_165 : fG RX13 165 13 71 := ⟨_, _, _, rfl, by decide, inX13, by decide, Or.inl (mem_c8 (i := 217) (by decide +kernel) rfl)⟩
theorem fP_X13_165 (nm : String) (h : nm ≠ nm ∨ nm = "<init>") : fP RX13 165 13 71 (.array .int) nm := ⟨_, _, _, tyX13, rfl, by decide, inX13, by decide, mem_c8 (i := 217) (by decide +kernel) rfl, tyX13_ok, nmX13, by decide +kernel, Or.inr ⟨rfl, h.elim (fun q => absurd rfl q) id, rfl⟩⟩
theorem fG_X13_168 : fG RX13 168 13 72 := ⟨_, _, _, rfl, by decide, inX13, by decide, Or.inl (mem_c8 (i := 218) (by decide +kernel) rfl)⟩
theorem fP_X13_168 (nm : String) (h : nm ≠ nm ∨ nm = "<init>") : fP RX13 168 13 72 (.array .int) nm := ⟨_, _, _, tyX13, rfl, by decide, inX13, by decide, mem_c8 (i := 218) (by decide +kernel) rfl, tyX13_ok, nmX13, by decide +kernel, Or.inr ⟨rfl, h.elim (fun q => absurd rfl q) id, rfl⟩⟩
theorem fG_X13_171 : fG RX13 171 13 74 := ⟨_, _, _, rfl, by decide, inX13, by decide, Or.inl (mem_c8 (i := 220) (by decide +kernel) rfl)⟩
theorem fP_X13_171 (nm : String) (h : nm ≠ nm ∨ nm = "<init>") : fP RX13 171 13 74 (.array .int) nm := ⟨_, _, _, tyX13, rfl, by decide, inX13, by decide, mem_c8 (i := 220) (by decide +kernel) rfl, tyX13_ok, nmX13, by decide +kernel, Or.inr ⟨rfl, h.elim (fun q => absurd rfl q) id, rfl⟩⟩
theorem fG_X13_174 : fG RX13 174 13 75 := ⟨_, _, _, rfl, by decide, inX13, by decide, Or.inl (mem_c8 (i := 221) (by decide +kernel) rfl)⟩
theorem fP_X13_174 (nm : String) (h : nm ≠ nm ∨ nm = "<init>") : fP RX13 174 13 75 (.array .int) nm := ⟨_, _, _, tyX13, rfl, by decide, inX13, by decide, mem_c8 (i := 221) (by decide +kernel) rfl, tyX13_ok, nmX13, by decide +kernel, Or.inr ⟨rfl, h.elim (fun q => absurd rfl q) id, rfl⟩⟩
theorem fG_X13_177 : fG RX13 177 13 76 := ⟨_, _, _, rfl, by decide, inX13, by decide, Or.inl (mem_c8 (i := 222) (by decide +kernel) rfl)⟩
theorem fP_X13_177 (nm : String) (h : nm ≠ nm ∨ nm = "<init>") : fP RX13 177 13 76 (.array .int) nm := ⟨_, _, _, tyX13, rfl, by decide, inX13, by decide, mem_c8 (i := 222) (by decide +kernel) rfl, tyX13_ok, nmX13, by decide +kernel, Or.inr ⟨rfl, h.elim (fun q => absurd rfl q) id, rfl⟩⟩
theorem fG_X13_180 : fG RX13 180 13 77 := ⟨_, _, _, rfl, by decide, inX13, by decide, Or.inl (mem_c8 (i := 223) (by decide +kernel) rfl)⟩
theorem fP_X13_180 (nm : String) (h : nm ≠ nm ∨ nm = "<init>") : fP RX13 180 13 77 (.array .int) nm := ⟨_, _, _, tyX13, rfl, by decide, inX13, by decide, mem_c8 (i := 223) (by decide +kernel) rfl, tyX13_ok, nmX13, by decide +kernel, Or.inr ⟨rfl, h.elim (fun q => absurd rfl q) id, rfl⟩⟩
theorem fG_X13_183 : fG RX13 183 13 78 := ⟨_, _, _, rfl, by decide, inX13, by decide, Or.inl (mem_c8 (i := 224) (by decide +kernel) rfl)⟩
theorem fP_X13_183 (nm : String) (h : nm ≠ nm ∨ nm = "<init>") : fP RX13 183 13 78 (.array .int) nm := ⟨_, _, _, tyX13, rfl, by decide, inX13, by decide, mem_c8 (i := 224) (by decide +kernel) rfl, tyX13_ok, nmX13, by decide +kernel, Or.inr ⟨rfl, h.elim (fun q => absurd rfl q) id, rfl⟩⟩
theorem fG_X13_186 : fG RX13 186 13 79 := ⟨_, _, _, rfl, by decide, inX13, by decide, Or.inl (mem_c8 (i := 225) (by decide +kernel) rfl)⟩
theorem fP_X13_186 (nm : String) (h : nm ≠ nm ∨ nm = "<init>") : fP RX13 186 13 79 (.array .byte) nm := ⟨_, _, _, tyX13, rfl, by decide, inX13, by decide, mem_c8 (i := 225) (by decide +kernel) rfl, tyX13_ok, nmX13, by decide +kernel, Or.inr ⟨rfl, h.elim (fun q => absurd rfl q) id, rfl⟩⟩
theorem fG_X13_189 : fG RX13 189 13 80 := ⟨_, _, _, rfl, by decide, inX13, by decide, Or.inl (mem_c8 (i := 226) (by decide +kernel) rfl)⟩
theorem fP_X13_189 (nm : String) (h : nm ≠ nm ∨ nm = "<init>") : fP RX13 189 13 80 (.array .byte) nm := ⟨_, _, _, tyX13, rfl, by decide, inX13, by decide, mem_c8 (i := 226) (by decide +kernel) rfl, tyX13_ok, nmX13, by decide +kernel, Or.inr ⟨rfl, h.elim (fun q => absurd rfl q) id, rfl⟩⟩
theorem fG_X13_192 : fG RX13 192 13 81 := ⟨_, _, _, rfl, by decide, inX13, by decide, Or.inl (mem_c8 (i := 227) (by decide +kernel) rfl)⟩
theorem fP_X13_192 (nm : String) (h : nm ≠ nm ∨ nm = "<init>") : fP RX13 192 13 81 (.array .byte) nm := ⟨_, _, _, tyX13, rfl, by decide, inX13, by decide, mem_c8 (i := 227) (by decide +kernel) rfl, tyX13_ok, nmX13, by decide +kernel, Or.inr ⟨rfl, h.elim (fun q => absurd rfl q) id, rfl⟩⟩
theorem fG_X13_195 : fG RX13 195 13 82 := ⟨_, _, _, rfl, by decide, inX13, by decide, Or.inl (mem_c8 (i := 228) (by decide +kernel) rfl)⟩
theorem fP_X13_195 (nm : String) (h : nm ≠ nm ∨ nm = "<init>") : fP RX13 195 13 82 (.array .byte) nm := ⟨_, _, _, tyX13, rfl, by decide, inX13, by decide, mem_c8 (i := 228) (by decide +kernel) rfl, tyX13_ok, nmX13, by decide +kernel, Or.inr ⟨rfl, h.elim (fun q => absurd rfl q) id, rfl⟩⟩
theorem fG_X13_198 : fG RX13 198 13 83 := ⟨_, _, _, rfl, by decide, inX13, by decide, Or.inl (mem_c8 (i := 229) (by decide +kernel) rfl)⟩
theorem fP_X13_198 (nm : String) (h : nm ≠ nm ∨ nm = "<init>") : fP RX13 198 13 83 (.array .boolean) nm := ⟨_, _, _, tyX13, rfl, by decide, inX13, by decide, mem_c8 (i := 229) (by decide +kernel) rfl, tyX13_ok, nmX13, by decide +kernel, Or.inr ⟨rfl, h.elim (fun q => absurd rfl q) id, rfl⟩⟩
theorem fG_X13_202 : fG RX13 202 13 84 := ⟨_, _, _, rfl, by decide, inX13, by decide, Or.inl (mem_c8 (i := 230) (by decide +kernel) rfl)⟩
theorem fP_X13_202 (nm : String) (h : nm ≠ nm ∨ nm = "<init>") : fP RX13 202 13 84 (.array .int) nm := ⟨_, _, _, tyX13, rfl, by decide, inX13, by decide, mem_c8 (i := 230) (by decide +kernel) rfl, tyX13_ok, nmX13, by decide +kernel, Or.inr ⟨rfl, h.elim (fun q => absurd rfl q) id, rfl⟩⟩
theorem fG_X13_205 : fG RX13 205 13 85 := ⟨_, _, _, rfl, by decide, inX13, by decide, Or.inl (mem_c8 (i := 231) (by decide +kernel) rfl)⟩
theorem fP_X13_205 (nm : String) (h : nm ≠ nm ∨ nm = "<init>") : fP RX13 205 13 85 (.array .byte) nm := ⟨_, _, _, tyX13, rfl, by decide, inX13, by decide, mem_c8 (i := 231) (by decide +kernel) rfl, tyX13_ok, nmX13, by decide +kernel, Or.inr ⟨rfl, h.elim (fun q => absurd rfl q) id, rfl⟩⟩
theorem fG_X13_208 : fG RX13 208 13 86 := ⟨_, _, _, rfl, by decide, inX13, by decide, Or.inl (mem_c8 (i := 232) (by decide +kernel) rfl)⟩
theorem fP_X13_208 (nm : String) (h : nm ≠ nm ∨ nm = "<init>") : fP RX13 208 13 86 (.array .int) nm := ⟨_, _, _, tyX13, rfl, by decide, inX13, by decide, mem_c8 (i := 232) (by decide +kernel) rfl, tyX13_ok, nmX13, by decide +kernel, Or.inr ⟨rfl, h.elim (fun q => absurd rfl q) id, rfl⟩⟩
theorem fG_X13_211 : fG RX13 211 13 87 := ⟨_, _, _, rfl, by decide, inX13, by decide, Or.inl (mem_c8 (i := 233) (by decide +kernel) rfl)⟩
theorem fP_X13_211 (nm : String) (h : nm ≠ nm ∨ nm = "<init>") : fP RX13 211 13 87 (.array .byte) nm := ⟨_, _, _, tyX13, rfl, by decide, inX13, by decide, mem_c8 (i := 233) (by decide +kernel) rfl, tyX13_ok, nmX13, by decide +kernel, Or.inr ⟨rfl, h.elim (fun q => absurd rfl q) id, rfl⟩⟩
theorem fG_X13_214 : fG RX13 214 13 88 := ⟨_, _, _, rfl, by decide, inX13, by decide, Or.inl (mem_c8 (i := 234) (by decide +kernel) rfl)⟩
theorem fP_X13_214 (nm : String) (h : nm ≠ nm ∨ nm = "<init>") : fP RX13 214 13 88 (.array .int) nm := ⟨_, _, _, tyX13, rfl, by decide, inX13, by decide, mem_c8 (i := 234) (by decide +kernel) rfl, tyX13_ok, nmX13, by decide +kernel, Or.inr ⟨rfl, h.elim (fun q => absurd rfl q) id, rfl⟩⟩
theorem fG_X13_217 : fG RX13 217 13 89 := ⟨_, _, _, rfl, by decide, inX13, by decide, Or.inl (mem_c8 (i := 235) (by decide +kernel) rfl)⟩
theorem fP_X13_217 (nm : String) (h : nm ≠ nm ∨ nm = "<init>") : fP RX13 217 13 89 (.array .byte) nm := ⟨_, _, _, tyX13, rfl, by decide, inX13, by decide, mem_c8 (i := 235) (by decide +kernel) rfl, tyX13_ok, nmX13, by decide +kernel, Or.inr ⟨rfl, h.elim (fun q => absurd rfl q) id, rfl⟩⟩
theorem fG_X13_220 : fG RX13 220 13 90 := ⟨_, _, _, rfl, by decide, inX13, by decide, Or.inl (mem_c8 (i := 236) (by decide +kernel) rfl)⟩
theorem fP_X13_220 (nm : String) (h : nm ≠ nm ∨ nm = "<init>") : fP RX13 220 13 90 (.array .int) nm := ⟨_, _, _, tyX13, rfl, by decide, inX13, by decide, mem_c8 (i := 236) (by decide +kernel) rfl, tyX13_ok, nmX13, by decide +kernel, Or.inr ⟨rfl, h.elim (fun q => absurd rfl q) id, rfl⟩⟩
theorem fG_X13_223 : fG RX13 223 13 91 := ⟨_, _, _, rfl, by decide, inX13, by decide, Or.inl (mem_c8 (i := 237) (by decide +kernel) rfl)⟩
theorem fP_X13_223 (nm : String) (h : nm ≠ nm ∨ nm = "<init>") : fP RX13 223 13 91 (.array .int) nm := ⟨_, _, _, tyX13, rfl, by decide, inX13, by decide, mem_c8 (i := 237) (by decide +kernel) rfl, tyX13_ok, nmX13, by decide +kernel, Or.inr ⟨rfl, h.elim (fun q => absurd rfl q) id, rfl⟩⟩
theorem fG_X13_227 : fG RX13 227 13 92 := ⟨_, _, _, rfl, by decide, inX13, by decide, Or.inl (mem_c8 (i := 238) (by decide +kernel) rfl)⟩
theorem fP_X13_227 (nm : String) (h : nm ≠ nm ∨ nm = "<init>") : fP RX13 227 13 92 (.array .byte) nm := ⟨_, _, _, tyX13, rfl, by decide, inX13, by decide, mem_c8 (i := 238) (by decide +kernel) rfl, tyX13_ok, nmX13, by decide +kernel, Or.inr ⟨rfl, h.elim (fun q => absurd rfl q) id, rfl⟩⟩
theorem fG_X13_230 : fG RX13 230 13 93 := ⟨_, _, _, rfl, by decide, inX13, by decide, Or.inl (mem_c8 (i := 239) (by decide +kernel) rfl)⟩
theorem fP_X13_230 (nm : String) (h : nm ≠ nm ∨ nm = "<init>") : fP RX13 230 13 93 (.array .int) nm := ⟨_, _, _, tyX13, rfl, by decide, inX13, by decide, mem_c8 (i := 239) (by decide +kernel) rfl, tyX13_ok, nmX13, by decide +kernel, Or.inr ⟨rfl, h.elim (fun q => absurd rfl q) id, rfl⟩⟩
theorem fG_X13_233 : fG RX13 233 13 94 := ⟨_, _, _, rfl, by decide, inX13, by decide, Or.inl (mem_c9 (i := 0) (by decide +kernel) rfl)⟩
theorem fP_X13_233 (nm : String) (h : nm ≠ nm ∨ nm = "<init>") : fP RX13 233 13 94 (.array .byte) nm := ⟨_, _, _, tyX13, rfl, by decide, inX13, by decide, mem_c9 (i := 0) (by decide +kernel) rfl, tyX13_ok, nmX13, by decide +kernel, Or.inr ⟨rfl, h.elim (fun q => absurd rfl q) id, rfl⟩⟩
theorem fG_X13_236 : fG RX13 236 13 95 := ⟨_, _, _, rfl, by decide, inX13, by decide, Or.inl (mem_c9 (i := 1) (by decide +kernel) rfl)⟩
theorem fP_X13_236 (nm : String) (h : nm ≠ nm ∨ nm = "<init>") : fP RX13 236 13 95 (.array .int) nm := ⟨_, _, _, tyX13, rfl, by decide, inX13, by decide, mem_c9 (i := 1) (by decide +kernel) rfl, tyX13_ok, nmX13, by decide +kernel, Or.inr ⟨rfl, h.elim (fun q => absurd rfl q) id, rfl⟩⟩
theorem fG_X13_239 : fG RX13 239 13 96 := ⟨_, _, _, rfl, by decide, inX13, by decide, Or.inl (mem_c9 (i := 2) (by decide +kernel) rfl)⟩
theorem fP_X13_239 (nm : String) (h : nm ≠ nm ∨ nm = "<init>") : fP RX13 239 13 96 (.array .byte) nm := ⟨_, _, _, tyX13, rfl, by decide, inX13, by decide, mem_c9 (i := 2) (by decide +kernel) rfl, tyX13_ok, nmX13, by decide +kernel, Or.inr ⟨rfl, h.elim (fun q => absurd rfl q) id, rfl⟩⟩
theorem fG_X13_242 : fG RX13 242 13 97 := ⟨_, _, _, rfl, by decide, inX13, by decide, Or.inl (mem_c9 (i := 3) (by decide +kernel) rfl)⟩
theorem fP_X13_242 (nm : String) (h : nm ≠ nm ∨ nm = "<init>") : fP RX13 242 13 97 (.array .byte) nm := ⟨_, _, _, tyX13, rfl, by decide, inX13, by decide, mem_c9 (i := 3) (by decide +kernel) rfl, tyX13_ok, nmX13, by decide +kernel, Or.inr ⟨rfl, h.elim (fun q => absurd rfl q) id, rfl⟩⟩
theorem fG_X13_245 : fG RX13 245 13 98 := ⟨_, _, _, rfl, by decide, inX13, by decide, Or.inl (mem_c9 (i := 4) (by decide +kernel) rfl)⟩
theorem fP_X13_245 (nm : String) (h : nm ≠ nm ∨ nm = "<init>") : fP RX13 245 13 98 (.array .byte) nm := ⟨_, _, _, tyX13, rfl, by decide, inX13, by decide, mem_c9 (i := 4) (by decide +kernel) rfl, tyX13_ok, nmX13, by decide +kernel, Or.inr ⟨rfl, h.elim (fun q => absurd rfl q) id, rfl⟩⟩
theorem fG_X13_248 : fG RX13 248 13 107 := ⟨_, _, _, rfl, by decide, inX13, by decide, Or.inl (mem_c9 (i := 13) (by decide +kernel) rfl)⟩
theorem fP_X13_248 (nm : String) (h : nm ≠ nm ∨ nm = "<init>") : fP RX13 248 13 107 (.array .byte) nm := ⟨_, _, _, tyX13, rfl, by decide, inX13, by decide, mem_c9 (i := 13) (by decide +kernel) rfl, tyX13_ok, nmX13, by decide +kernel, Or.inr ⟨rfl, h.elim (fun q => absurd rfl q) id, rfl⟩⟩
theorem fG_X13_251 : fG RX13 251 13 108 := ⟨_, _, _, rfl, by decide, inX13, by decide, Or.inl (mem_c9 (i := 14) (by decide +kernel) rfl)⟩
theorem fP_X13_251 (nm : String) (h : nm ≠ nm ∨ nm = "<init>") : fP RX13 251 13 108 (.array .byte) nm := ⟨_, _, _, tyX13, rfl, by decide, inX13, by decide, mem_c9 (i := 14) (by decide +kernel) rfl, tyX13_ok, nmX13, by decide +kernel, Or.inr ⟨rfl, h.elim (fun q => absurd rfl q) id, rfl⟩⟩
theorem fG_X13_254 : fG RX13 254 13 109 := ⟨_, _, _, rfl, by decide, inX13, by decide, Or.inl (mem_c9 (i := 15) (by decide +kernel) rfl)⟩
theorem fP_X13_254 (nm : String) (h : nm ≠ nm ∨ nm = "<init>") : fP RX13 254 13 109 (.array .byte) nm := ⟨_, _, _, tyX13, rfl, by decide, inX13, by decide, mem_c9 (i := 15) (by decide +kernel) rfl, tyX13_ok, nmX13, by decide +kernel, Or.inr ⟨rfl, h.elim (fun q => absurd rfl q) id, rfl⟩⟩
theorem fG_X13_257 : fG RX13 257 13 112 := ⟨_, _, _, rfl, by decide, inX13, by decide, Or.inl (mem_c9 (i := 18) (by decide +kernel) rfl)⟩
theorem fP_X13_257 (nm : String) (h : nm ≠ nm ∨ nm = "<init>") : fP RX13 257 13 112 (.array .byte) nm := ⟨_, _, _, tyX13, rfl, by decide, inX13, by decide, mem_c9 (i := 18) (by decide +kernel) rfl, tyX13_ok, nmX13, by decide +kernel, Or.inr ⟨rfl, h.elim (fun q => absurd rfl q) id, rfl⟩⟩
theorem fG_X13_260 : fG RX13 260 13 114 := ⟨_, _, _, rfl, by decide, inX13, by decide, Or.inl (mem_c9 (i := 20) (by decide +kernel) rfl)⟩
theorem fP_X13_260 (nm : String) (h : nm ≠ nm ∨ nm = "<init>") : fP RX13 260 13 114 (.array .byte) nm := ⟨_, _, _, tyX13, rfl, by decide, inX13, by decide, mem_c9 (i := 20) (by decide +kernel) rfl, tyX13_ok, nmX13, by decide +kernel, Or.inr ⟨rfl, h.elim (fun q => absurd rfl q) id, rfl⟩⟩
theorem fG_X13_263 : fG RX13 263 13 115 := ⟨_, _, _, rfl, by decide, inX13, by decide, Or.inl (mem_c9 (i := 21) (by decide +kernel) rfl)⟩
theorem fP_X13_263 (nm : String) (h : nm ≠ nm ∨ nm = "<init>") : fP RX13 263 13 115 (.array .byte) nm := ⟨_, _, _, tyX13, rfl, by decide, inX13, by decide, mem_c9 (i := 21) (by decide +kernel) rfl, tyX13_ok, nmX13, by decide +kernel, Or.inr ⟨rfl, h.elim (fun q => absurd rfl q) id, rfl⟩⟩
theorem fG_X13_266 : fG RX13 266 13 116 := ⟨_, _, _, rfl, by decide, inX13, by decide, Or.inl (mem_c9 (i := 22) (by decide +kernel) rfl)⟩
theorem fP_X13_266 (nm : String) (h : nm ≠ nm ∨ nm = "<init>") : fP RX13 266 13 116 (.array .int) nm := ⟨_, _, _, tyX13, rfl, by decide, inX13, by decide, mem_c9 (i := 22) (by decide +kernel) rfl, tyX13_ok, nmX13, by decide +kernel, Or.inr ⟨rfl, h.elim (fun q => absurd rfl q) id, rfl⟩⟩
theorem fG_X13_269 : fG RX13 269 13 117 := ⟨_, _, _, rfl, by decide, inX13, by decide, Or.inl (mem_c9 (i := 23) (by decide +kernel) rfl)⟩
theorem fP_X13_269 (nm : String) (h : nm ≠ nm ∨ nm = "<init>") : fP RX13 269 13 117 (.array .int) nm := ⟨_, _, _, tyX13, rfl, by decide, inX13, by decide, mem_c9 (i := 23) (by decide +kernel) rfl, tyX13_ok, nmX13, by decide +kernel, Or.inr ⟨rfl, h.elim (fun q => absurd rfl q) id, rfl⟩⟩
theorem fG_X13_272 : fG RX13 272 13 118 := ⟨_, _, _, rfl, by decide, inX13, by decide, Or.inl (mem_c9 (i := 24) (by decide +kernel) rfl)⟩
theorem fP_X13_272 (nm : String) (h : nm ≠ nm ∨ nm = "<init>") : fP RX13 272 13 118 (.array .int) nm := ⟨_, _, _, tyX13, rfl, by decide, inX13, by decide, mem_c9 (i := 24) (by decide +kernel) rfl, tyX13_ok, nmX13, by decide +kernel, Or.inr ⟨rfl, h.elim (fun q => absurd rfl q) id, rfl⟩⟩
theorem fG_X13_275 : fG RX13 275 13 119 := ⟨_, _, _, rfl, by decide, inX13, by decide, Or.inl (mem_c9 (i := 25) (by decide +kernel) rfl)⟩
theorem fP_X13_275 (nm : String) (h : nm ≠ nm ∨ nm = "<init>") : fP RX13 275 13 119 (.array .byte) nm := ⟨_, _, _, tyX13, rfl, by decide, inX13, by decide, mem_c9 (i := 25) (by decide +kernel) rfl, tyX13_ok, nmX13, by decide +kernel, Or.inr ⟨rfl, h.elim (fun q => absurd rfl q) id, rfl⟩⟩
theorem fG_X13_279 : fG RX13 279 13 121 := ⟨_, _, _, rfl, by decide, inX13, by decide, Or.inl (mem_c9 (i := 27) (by decide +kernel) rfl)⟩
theorem fP_X13_279 (nm : String) (h : nm ≠ nm ∨ nm = "<init>") : fP RX13 279 13 121 (.array .byte) nm := ⟨_, _, _, tyX13, rfl, by decide, inX13, by decide, mem_c9 (i := 27) (by decide +kernel) rfl, tyX13_ok, nmX13, by decide +kernel, Or.inr ⟨rfl, h.elim (fun q => absurd rfl q) id, rfl⟩⟩
theorem fG_X13_282 : fG RX13 282 13 123 := ⟨_, _, _, rfl, by decide, inX13, by decide, Or.inl (mem_c9 (i := 29) (by decide +kernel) rfl)⟩
theorem fP_X13_282 (nm : String) (h : nm ≠ nm ∨ nm = "<init>") : fP RX13 282 13 123 (.array .int) nm := ⟨_, _, _, tyX13, rfl, by decide, inX13, by decide, mem_c9 (i := 29) (by decide +kernel) rfl, tyX13_ok, nmX13, by decide +kernel, Or.inr ⟨rfl, h.elim (fun q => absurd rfl q) id, rfl⟩⟩
theorem fG_X13_285 : fG RX13 285 13 124 := ⟨_, _, _, rfl, by decide, inX13, by decide, Or.inl (mem_c9 (i := 30) (by decide +kernel) rfl)⟩
theorem fP_X13_285 (nm : String) (h : nm ≠ nm ∨ nm = "<init>") : fP RX13 285 13 124 (.array .byte) nm := ⟨_, _, _, tyX13, rfl, by decide, inX13, by decide, mem_c9 (i := 30) (by decide +kernel) rfl, tyX13_ok, nmX13, by decide +kernel, Or.inr ⟨rfl, h.elim (fun q => absurd rfl q) id, rfl⟩⟩
theorem fG_X13_288 : fG RX13 288 13 125 := ⟨_, _, _, rfl, by decide, inX13, by decide, Or.inl (mem_c9 (i := 31) (by decide +kernel) rfl)⟩
theorem fP_X13_288 (nm : String) (h : nm ≠ nm ∨ nm = "<init>") : fP RX13 288 13 125 (.array .byte) nm := ⟨_, _, _, tyX13, rfl, by decide, inX13, by decide, mem_c9 (i := 31) (by decide +kernel) rfl, tyX13_ok, nmX13, by decide +kernel, Or.inr ⟨rfl, h.elim (fun q => absurd rfl q) id, rfl⟩⟩
theorem fG_X13_291 : fG RX13 291 13 126 := ⟨_, _, _, rfl, by decide, inX13, by decide, Or.inl (mem_c9 (i := 32) (by decide +kernel) rfl)⟩
theorem fP_X13_291 (nm : String) (h : nm ≠ nm ∨ nm = "<init>") : fP RX13 291 13 126 (.array .byte) nm := ⟨_, _, _, tyX13, rfl, by decide, inX13, by decide, mem_c9 (i := 32) (by decide +kernel) rfl, tyX13_ok, nmX13, by decide +kernel, Or.inr ⟨rfl, h.elim (fun q => absurd rfl q) id, rfl⟩⟩
theorem fG_X13_294 : fG RX13 294 13 128 := ⟨_, _, _, rfl, by decide, inX13, by decide, Or.inl (mem_c9 (i := 34) (by decide +kernel) rfl)⟩
theorem fP_X13_294 (nm : String) (h : nm ≠ nm ∨ nm = "<init>") : fP RX13 294 13 128 (.array .byte) nm := ⟨_, _, _, tyX13, rfl, by decide, inX13, by decide, mem_c9 (i := 34) (by decide +kernel) rfl, tyX13_ok, nmX13, by decide +kernel, Or.inr ⟨rfl, h.elim (fun q => absurd rfl q) id, rfl⟩⟩
theorem fG_X13_297 : fG RX13 297 13 130 := ⟨_, _, _, rfl, by decide, inX13, by decide, Or.inl (mem_c9 (i := 36) (by decide +kernel) rfl)⟩
theorem fP_X13_297 (nm : String) (h : nm ≠ nm ∨ nm = "<init>") : fP RX13 297 13 130 (.array .byte) nm := ⟨_, _, _, tyX13, rfl, by decide, inX13, by decide, mem_c9 (i := 36) (by decide +kernel) rfl, tyX13_ok, nmX13, by decide +kernel, Or.inr ⟨rfl, h.elim (fun q => absurd rfl q) id, rfl⟩⟩
theorem fG_X13_300 : fG RX13 300 13 131 := ⟨_, _, _, rfl, by decide, inX13, by decide, Or.inl (mem_c9 (i := 37) (by decide +kernel) rfl)⟩
theorem fP_X13_300 (nm : String) (h : nm ≠ nm ∨ nm = "<init>") : fP RX13 300 13 131 (.array .byte) nm := ⟨_, _, _, tyX13, rfl, by decide, inX13, by decide, mem_c9 (i := 37) (by decide +kernel) rfl, tyX13_ok, nmX13, by decide +kernel, Or.inr ⟨rfl, h.elim (fun q => absurd rfl q) id, rfl⟩⟩
theorem fG_X13_303 : fG RX13 303 13 132 := ⟨_, _, _, rfl, by decide, inX13, by decide, Or.inl (mem_c9 (i := 38) (by decide +kernel) rfl)⟩
theorem fP_X13_303 (nm : String) (h : nm ≠ nm ∨ nm = "<init>") : fP RX13 303 13 132 (.array .byte) nm := ⟨_, _, _, tyX13, rfl, by decide, inX13, by decide, mem_c9 (i := 38) (by decide +kernel) rfl, tyX13_ok, nmX13, by decide +kernel, Or.inr ⟨rfl, h.elim (fun q => absurd rfl q) id, rfl⟩⟩
theorem fG_X13_306 : fG RX13 306 13 133 := ⟨_, _, _, rfl, by decide, inX13, by decide, Or.inl (mem_c9 (i := 39) (by decide +kernel) rfl)⟩
theorem fP_X13_306 (nm : String) (h : nm ≠ nm ∨ nm = "<init>") : fP RX13 306 13 133 (.array .byte) nm := ⟨_, _, _, tyX13, rfl, by decide, inX13, by decide, mem_c9 (i := 39) (by decide +kernel) rfl, tyX13_ok, nmX13, by decide +kernel, Or.inr ⟨rfl, h.elim (fun q => absurd rfl q) id, rfl⟩⟩
theorem fG_X13_321 : fG RX13 321 13 5 := ⟨_, _, _, rfl, by decide, inX13, by decide, Or.inl (mem_c8 (i := 151) (by decide +kernel) rfl)⟩
theorem fP_X13_321 (nm : String) : fP RX13 321 13 5 .int nm := ⟨_, _, _, tyX13, rfl, by decide, inX13, by decide, mem_c8 (i := 151) (by decide +kernel) rfl, tyX13_ok, nmX13, by decide +kernel, Or.inl rfl⟩
theorem fG_X13_325 : fG RX13 325 13 1 := ⟨_, _, _, rfl, by decide, inX13, by decide, Or.inl (mem_c8 (i := 147) (by decide +kernel) rfl)⟩
theorem fP_X13_325 (nm : String) : fP RX13 325 13 1 .int nm := ⟨_, _, _, tyX13, rfl, by decide, inX13, by decide, mem_c8 (i := 147) (by decide +kernel) rfl, tyX13_ok, nmX13, by decide +kernel, Or.inl rfl⟩
theorem fG_X13_336 : fG RX13 336 13 22 := ⟨_, _, _, rfl, by decide, inX13, by decide, Or.inl (mem_c8 (i := 168) (by decide +kernel) rfl)⟩
theorem fP_X13_336 (nm : String) : fP RX13 336 13 22 .int nm := ⟨_, _, _, tyX13, rfl, by decide, inX13, by decide, mem_c8 (i := 168) (by decide +kernel) rfl, tyX13_ok, nmX13, by decide +kernel, Or.inl rfl⟩
theorem fG_X13_339 : fG RX13 339 13 21 := ⟨_, _, _, rfl, by decide, inX13, by decide, Or.inl (mem_c8 (i := 167) (by decide +kernel) rfl)⟩
theorem fP_X13_339 (nm : String) : fP RX13 339 13 21 .int nm := ⟨_, _, _, tyX13, rfl, by decide, inX13, by decide, mem_c8 (i := 167) (by decide +kernel) rfl, tyX13_ok, nmX13, by decide +kernel, Or.inl rfl⟩
theorem fG_X13_342 : fG RX13 342 13 19 := ⟨_, _, _, rfl, by decide, inX13, by decide, Or.inl (mem_c8 (i := 165) (by decide +kernel) rfl)⟩
theorem fP_X13_342 (nm : String) : fP RX13 342 13 19 (.array .byte) nm := ⟨_, _, _, tyX13, rfl, by decide, inX13, by decide, mem_c8 (i := 165) (by decide +kernel) rfl, tyX13_ok, nmX13, by decide +kernel, Or.inl rfl⟩
theorem fG_X13_345 : fG RX13 345 13 20 := ⟨_, _, _, rfl, by decide, inX13, by decide, Or.inl (mem_c8 (i := 166) (by decide +kernel) rfl)⟩
theorem fP_X13_345 (nm : String) : fP RX13 345 13 20 .int nm := ⟨_, _, _, tyX13, rfl, by decide, inX13, by decide, mem_c8 (i := 166) (by decide +kernel) rfl, tyX13_ok, nmX13, by decide +kernel, Or.inl rfl⟩
theorem fG_X13_348 : fG RX13 348 13 23 := ⟨_, _, _, rfl, by decide, inX13, by decide, Or.inl (mem_c8 (i := 169) (by decide +kernel) rfl)⟩
theorem fP_X13_348 (nm : String) : fP RX13 348 13 23 .int nm := ⟨_, _, _, tyX13, rfl, by decide, inX13, by decide, mem_c8 (i := 169) (by decide +kernel) rfl, tyX13_ok, nmX13, by decide +kernel, Or.inl rfl⟩
theorem fG_X13_355 : fG RX13 355 13 24 := ⟨_, _, _, rfl, by decide, inX13, by decide, Or.inl (mem_c8 (i := 170) (by decide +kernel) rfl)⟩
theorem fP_X13_355 (nm : String) : fP RX13 355 13 24 .int nm := ⟨_, _, _, tyX13, rfl, by decide, inX13, by decide, mem_c8 (i := 170) (by decide +kernel) rfl, tyX13_ok, nmX13, by decide +kernel, Or.inl rfl⟩
theorem fG_X13_358 : fG RX13 358 13 25 := ⟨_, _, _, rfl, by decide, inX13, by decide, Or.inl (mem_c8 (i := 171) (by decide +kernel) rfl)⟩
theorem fP_X13_358 (nm : String) : fP RX13 358 13 25 .int nm := ⟨_, _, _, tyX13, rfl, by decide, inX13, by decide, mem_c8 (i := 171) (by decide +kernel) rfl, tyX13_ok, nmX13, by decide +kernel, Or.inl rfl⟩
theorem fG_X13_361 : fG RX13 361 13 26 := ⟨_, _, _, rfl, by decide, inX13, by decide, Or.inl (mem_c8 (i := 172) (by decide +kernel) rfl)⟩
theorem fP_X13_361 (nm : String) : fP RX13 361 13 26 .int nm := ⟨_, _, _, tyX13, rfl, by decide, inX13, by decide, mem_c8 (i := 172) (by decide +kernel) rfl, tyX13_ok, nmX13, by decide +kernel, Or.inl rfl⟩
theorem fG_X13_449 : fG RX13 449 13 17 := ⟨_, _, _, rfl, by decide, inX13, by decide, Or.inl (mem_c8 (i := 163) (by decide +kernel) rfl)⟩
theorem fP_X13_449 (nm : String) : fP RX13 449 13 17 .int nm := ⟨_, _, _, tyX13, rfl, by decide, inX13, by decide, mem_c8 (i := 163) (by decide +kernel) rfl, tyX13_ok, nmX13, by decide +kernel, Or.inl rfl⟩
theorem fG_X13_456 : fG RX13 456 13 18 := ⟨_, _, _, rfl, by decide, inX13, by decide, Or.inl (mem_c8 (i := 164) (by decide +kernel) rfl)⟩
theorem fP_X13_456 (nm : String) : fP RX13 456 13 18 .boolean nm := ⟨_, _, _, tyX13, rfl, by decide, inX13, by decide, mem_c8 (i := 164) (by decide +kernel) rfl, tyX13_ok, nmX13, by decide +kernel, Or.inl rfl⟩
theorem fG_X13_467 : fG RX13 467 13 28 := ⟨_, _, _, rfl, by decide, inX13, by decide, Or.inl (mem_c8 (i := 174) (by decide +kernel) rfl)⟩
theorem fP_X13_467 (nm : String) : fP RX13 467 13 28 .int nm := ⟨_, _, _, tyX13, rfl, by decide, inX13, by decide, mem_c8 (i := 174) (by decide +kernel) rfl, tyX13_ok, nmX13, by decide +kernel, Or.inl rfl⟩
theorem fG_X13_496 : fG RX13 496 13 29 := ⟨_, _, _, rfl, by decide, inX13, by decide, Or.inl (mem_c8 (i := 175) (by decide +kernel) rfl)⟩
theorem fP_X13_496 (nm : String) : fP RX13 496 13 29 .int nm := ⟨_, _, _, tyX13, rfl, by decide, inX13, by decide, mem_c8 (i := 175) (by decide +kernel) rfl, tyX13_ok, nmX13, by decide +kernel, Or.inl rfl⟩
theorem fG_X13_507 : fG RX13 507 13 37 := ⟨_, _, _, rfl, by decide, inX13, by decide, Or.inl (mem_c8 (i := 183) (by decide +kernel) rfl)⟩
theorem fP_X13_507 (nm : String) : fP RX13 507 13 37 .int nm := ⟨_, _, _, tyX13, rfl, by decide, inX13, by decide, mem_c8 (i := 183) (by decide +kernel) rfl, tyX13_ok, nmX13, by decide +kernel, Or.inl rfl⟩
theorem gS_X13_555 : gS RX13 555 10 := ⟨_, _, _, rfl, Or.inl (mem_c11 (i := 140) (by decide +kernel) rfl)⟩
theorem gS_X13_567 : gS RX13 567 9 := ⟨_, _, _, rfl, Or.inl (mem_c11 (i := 131) (by decide +kernel) rfl)⟩
theorem fG_X13_579 : fG RX13 579 13 39 := ⟨_, _, _, rfl, by decide, inX13, by decide, Or.inl (mem_c8 (i := 185) (by decide +kernel) rfl)⟩
theorem fP_X13_579 (nm : String) : fP RX13 579 13 39 .int nm := ⟨_, _, _, tyX13, rfl, by decide, inX13, by decide, mem_c8 (i := 185) (by decide +kernel) rfl, tyX13_ok, nmX13, by decide +kernel, Or.inl rfl⟩
theorem fG_X13_595 : fG RX13 595 13 44 := ⟨_, _, _, rfl, by decide, inX13, by decide, Or.inl (mem_c8 (i := 190) (by decide +kernel) rfl)⟩
theorem fP_X13_595 (nm : String) : fP RX13 595 13 44 .int nm := ⟨_, _, _, tyX13, rfl, by decide, inX13, by decide, mem_c8 (i := 190) (by decide +kernel) rfl, tyX13_ok, nmX13, by decide +kernel, Or.inl rfl⟩
theorem fG_X13_635 : fG RX13 635 13 53 := ⟨_, _, _, rfl, by decide, inX13, by decide, Or.inl (mem_c8 (i := 199) (by decide +kernel) rfl)⟩
theorem fP_X13_635 (nm : String) : fP RX13 635 13 53 .long nm := ⟨_, _, _, tyX13, rfl, by decide, inX13, by decide, mem_c8 (i := 199) (by decide +kernel) rfl, tyX13_ok, nmX13, by decide +kernel, Or.inl rfl⟩
theorem fG_X13_639 : fG RX13 639 13 54 := ⟨_, _, _, rfl, by decide, inX13, by decide, Or.inl (mem_c8 (i := 200) (by decide +kernel) rfl)⟩
theorem fP_X13_639 (nm : String) : fP RX13 639 13 54 .long nm := ⟨_, _, _, tyX13, rfl, by decide, inX13, by decide, mem_c8 (i := 200) (by decide +kernel) rfl, tyX13_ok, nmX13, by decide +kernel, Or.inl rfl⟩
theorem fG_X13_642 : fG RX13 642 13 55 := ⟨_, _, _, rfl, by decide, inX13, by decide, Or.inl (mem_c8 (i := 201) (by decide +kernel) rfl)⟩
theorem fP_X13_642 (nm : String) : fP RX13 642 13 55 .long nm := ⟨_, _, _, tyX13, rfl, by decide, inX13, by decide, mem_c8 (i := 201) (by decide +kernel) rfl, tyX13_ok, nmX13, by decide +kernel, Or.inl rfl⟩
theorem fG_X13_645 : fG RX13 645 13 56 := ⟨_, _, _, rfl, by decide, inX13, by decide, Or.inl (mem_c8 (i := 202) (by decide +kernel) rfl)⟩
theorem fP_X13_645 (nm : String) : fP RX13 645 13 56 .long nm := ⟨_, _, _, tyX13, rfl, by decide, inX13, by decide, mem_c8 (i := 202) (by decide +kernel) rfl, tyX13_ok, nmX13, by decide +kernel, Or.inl rfl⟩
theorem fG_X13_659 : fG RX13 659 13 50 := ⟨_, _, _, rfl, by decide, inX13, by decide, Or.inl (mem_c8 (i := 196) (by decide +kernel) rfl)⟩
theorem fP_X13_659 (nm : String) : fP RX13 659 13 50 .int nm := ⟨_, _, _, tyX13, rfl, by decide, inX13, by decide, mem_c8 (i := 196) (by decide +kernel) rfl, tyX13_ok, nmX13, by decide +kernel, Or.inl rfl⟩
theorem fG_X13_746 : fG RX13 746 13 73 := ⟨_, _, _, rfl, by decide, inX13, by decide, Or.inl (mem_c8 (i := 219) (by decide +kernel) rfl)⟩
theorem fP_X13_746 (nm : String) : fP RX13 746 13 73 .boolean nm := ⟨_, _, _, tyX13, rfl, by decide, inX13, by decide, mem_c8 (i := 219) (by decide +kernel) rfl, tyX13_ok, nmX13, by decide +kernel, Or.inl rfl⟩
theorem fG_X13_818 : fG RX13 818 13 100 := ⟨_, _, _, rfl, by decide, inX13, by decide, Or.inl (mem_c9 (i := 6) (by decide +kernel) rfl)⟩
theorem fP_X13_818 (nm : String) : fP RX13 818 13 100 .int nm := ⟨_, _, _, tyX13, rfl, by decide, inX13, by decide, mem_c9 (i := 6) (by decide +kernel) rfl, tyX13_ok, nmX13, by decide +kernel, Or.inl rfl⟩
theorem fG_X13_821 : fG RX13 821 13 101 := ⟨_, _, _, rfl, by decide, inX13, by decide, Or.inl (mem_c9 (i := 7) (by decide +kernel) rfl)⟩
theorem fP_X13_821 (nm : String) : fP RX13 821 13 101 .int nm := ⟨_, _, _, tyX13, rfl, by decide, inX13, by decide, mem_c9 (i := 7) (by decide +kernel) rfl, tyX13_ok, nmX13, by decide +kernel, Or.inl rfl⟩
theorem fG_X13_838 : fG RX13 838 13 99 := ⟨_, _, _, rfl, by decide, inX13, by decide, Or.inl (mem_c9 (i := 5) (by decide +kernel) rfl)⟩
theorem fP_X13_838 (nm : String) : fP RX13 838 13 99 .int nm := ⟨_, _, _, tyX13, rfl, by decide, inX13, by decide, mem_c9 (i := 5) (by decide +kernel) rfl, tyX13_ok, nmX13, by decide +kernel, Or.inl rfl⟩
theorem fG_X13_906 : fG RX13 906 13 104 := ⟨_, _, _, rfl, by decide, inX13, by decide, Or.inl (mem_c9 (i := 10) (by decide +kernel) rfl)⟩
theorem fP_X13_906 (nm : String) : fP RX13 906 13 104 .boolean nm := ⟨_, _, _, tyX13, rfl, by decide, inX13, by decide, mem_c9 (i := 10) (by decide +kernel) rfl, tyX13_ok, nmX13, by decide +kernel, Or.inl rfl⟩
theorem fG_X13_919 : fG RX13 919 13 102 := ⟨_, _, _, rfl, by decide, inX13, by decide, Or.inl (mem_c9 (i := 8) (by decide +kernel) rfl)⟩
theorem fP_X13_919 (nm : String) : fP RX13 919 13 102 .int nm := ⟨_, _, _, tyX13, rfl, by decide, inX13, by decide, mem_c9 (i := 8) (by decide +kernel) rfl, tyX13_ok, nmX13, by decide +kernel, Or.inl rfl⟩
theorem fG_X13_924 : fG RX13 924 13 103 := ⟨_, _, _, rfl, by decide, inX13, by decide, Or.inl (mem_c9 (i := 9) (by decide +kernel) rfl)⟩
theorem fP_X13_924 (nm : String) : fP RX13 924 13 103 .int nm := ⟨_, _, _, tyX13, rfl, by decide, inX13, by decide, mem_c9 (i := 9) (by decide +kernel) rfl, tyX13_ok, nmX13, by decide +kernel, Or.inl rfl⟩
theorem fG_X13_927 : fG RX13 927 13 105 := ⟨_, _, _, rfl, by decide, inX13, by decide, Or.inl (mem_c9 (i := 11) (by decide +kernel) rfl)⟩
theorem fP_X13_927 (nm : String) : fP RX13 927 13 105 .int nm := ⟨_, _, _, tyX13, rfl, by decide, inX13, by decide, mem_c9 (i := 11) (by decide +kernel) rfl, tyX13_ok, nmX13, by decide +kernel, Or.inl rfl⟩
theorem fG_X13_930 : fG RX13 930 13 106 := ⟨_, _, _, rfl, by decide, inX13, by decide, Or.inl (mem_c9 (i := 12) (by decide +kernel) rfl)⟩
theorem fP_X13_930 (nm : String) : fP RX13 930 13 106 .int nm := ⟨_, _, _, tyX13, rfl, by decide, inX13, by decide, mem_c9 (i := 12) (by decide +kernel) rfl, tyX13_ok, nmX13, by decide +kernel, Or.inl rfl⟩
theorem fG_X13_942 : fG RX13 942 13 110 := ⟨_, _, _, rfl, by decide, inX13, by decide, Or.inl (mem_c9 (i := 16) (by decide +kernel) rfl)⟩
theorem fP_X13_942 (nm : String) : fP RX13 942 13 110 .int nm := ⟨_, _, _, tyX13, rfl, by decide, inX13, by decide, mem_c9 (i := 16) (by decide +kernel) rfl, tyX13_ok, nmX13, by decide +kernel, Or.inl rfl⟩
theorem fG_X13_947 : fG RX13 947 13 111 := ⟨_, _, _, rfl, by decide, inX13, by decide, Or.inl (mem_c9 (i := 17) (by decide +kernel) rfl)⟩
theorem fP_X13_947 (nm : String) : fP RX13 947 13 111 .int nm := ⟨_, _, _, tyX13, rfl, by decide, inX13, by decide, mem_c9 (i := 17) (by decide +kernel) rfl, tyX13_ok, nmX13, by decide +kernel, Or.inl rfl⟩
theorem fG_X13_954 : fG RX13 954 13 113 := ⟨_, _, _, rfl, by decide, inX13, by decide, Or.inl (mem_c9 (i := 19) (by decide +kernel) rfl)⟩
theorem fP_X13_954 (nm : String) : fP RX13 954 13 113 .int nm := ⟨_, _, _, tyX13, rfl, by decide, inX13, by decide, mem_c9 (i := 19) (by decide +kernel) rfl, tyX13_ok, nmX13, by decide +kernel, Or.inl rfl⟩
theorem fG_X13_992 : fG RX13 992 13 122 := ⟨_, _, _, rfl, by decide, inX13, by decide, Or.inl (mem_c9 (i := 28) (by decide +kernel) rfl)⟩
theorem fP_X13_992 (nm : String) : fP RX13 992 13 122 .int nm := ⟨_, _, _, tyX13, rfl, by decide, inX13, by decide, mem_c9 (i := 28) (by decide +kernel) rfl, tyX13_ok, nmX13, by decide +kernel, Or.inl rfl⟩
theorem fG_X13_1007 : fG RX13 1007 13 120 := ⟨_, _, _, rfl, by decide, inX13, by decide, Or.inl (mem_c9 (i := 26) (by decide +kernel) rfl)⟩
theorem fP_X13_1007 (nm : String) : fP RX13 1007 13 120 .int nm := ⟨_, _, _, tyX13, rfl, by decide, inX13, by decide, mem_c9 (i := 26) (by decide +kernel) rfl, tyX13_ok, nmX13, by decide +kernel, Or.inl rfl⟩
theorem fG_X13_1038 : fG RX13 1038 13 127 := ⟨_, _, _, rfl, by decide, inX13, by decide, Or.inl (mem_c9 (i := 33) (by decide +kernel) rfl)⟩
theorem fP_X13_1038 (nm : String) : fP RX13 1038 13 127 .int nm := ⟨_, _, _, tyX13, rfl, by decide, inX13, by decide, mem_c9 (i := 33) (by decide +kernel) rfl, tyX13_ok, nmX13, by decide +kernel, Or.inl rfl⟩
theorem fG_X13_1067 : fG RX13 1067 13 129 := ⟨_, _, _, rfl, by decide, inX13, by decide, Or.inl (mem_c9 (i := 35) (by decide +kernel) rfl)⟩
theorem fP_X13_1067 (nm : String) : fP RX13 1067 13 129 .int nm := ⟨_, _, _, tyX13, rfl, by decide, inX13, by decide, mem_c9 (i := 35) (by decide +kernel) rfl, tyX13_ok, nmX13, by decide +kernel, Or.inl rfl⟩
theorem fG_X12_7 : fG RX12 7 12 0 := ⟨_, _, _, rfl, by decide, inX12, by decide, Or.inl (mem_c8 (i := 54) (by decide +kernel) rfl)⟩
theorem fP_X12_7 (nm : String) (h : nm ≠ nm ∨ nm = "<init>") : fP RX12 7 12 0 (.array .int) nm := ⟨_, _, _, tyX12, rfl, by decide, inX12, by decide, mem_c8 (i := 54) (by decide +kernel) rfl, tyX12_ok, nmX12, by decide +kernel, Or.inr ⟨rfl, h.elim (fun q => absurd rfl q) id, rfl⟩⟩
theorem fG_X12_13 : fG RX12 13 12 3 := ⟨_, _, _, rfl, by decide, inX12, by decide, Or.inl (mem_c8 (i := 58) (by decide +kernel) rfl)⟩
theorem fP_X12_13 (nm : String) (h : nm ≠ nm ∨ nm = "<init>") : fP RX12 13 12 3 (.array .int) nm := ⟨_, _, _, tyX12, rfl, by decide, inX12, by decide, mem_c8 (i := 58) (by decide +kernel) rfl, tyX12_ok, nmX12, by decide +kernel, Or.inr ⟨rfl, h.elim (fun q => absurd rfl q) id, rfl⟩⟩
theorem fG_X12_16 : fG RX12 16 12 4 := ⟨_, _, _, rfl, by decide, inX12, by decide, Or.inl (mem_c8 (i := 60) (by decide +kernel) rfl)⟩
theorem fP_X12_16 (nm : String) (h : nm ≠ nm ∨ nm = "<init>") : fP RX12 16 12 4 (.array .int) nm := ⟨_, _, _, tyX12, rfl, by decide, inX12, by decide, mem_c8 (i := 60) (by decide +kernel) rfl, tyX12_ok, nmX12, by decide +kernel, Or.inr ⟨rfl, h.elim (fun q => absurd rfl q) id, rfl⟩⟩
theorem fG_X12_19 : fG RX12 19 12 5 := ⟨_, _, _, rfl, by decide, inX12, by decide, Or.inl (mem_c8 (i := 61) (by decide +kernel) rfl)⟩
theorem fP_X12_19 (nm : String) (h : nm ≠ nm ∨ nm = "<init>") : fP RX12 19 12 5 (.array .int) nm := ⟨_, _, _, tyX12, rfl, by decide, inX12, by decide, mem_c8 (i := 61) (by decide +kernel) rfl, tyX12_ok, nmX12, by decide +kernel, Or.inr ⟨rfl, h.elim (fun q => absurd rfl q) id, rfl⟩⟩
theorem fG_X12_22 : fG RX12 22 12 6 := ⟨_, _, _, rfl, by decide, inX12, by decide, Or.inl (mem_c8 (i := 62) (by decide +kernel) rfl)⟩
theorem fP_X12_22 (nm : String) (h : nm ≠ nm ∨ nm = "<init>") : fP RX12 22 12 6 (.array .int) nm := ⟨_, _, _, tyX12, rfl, by decide, inX12, by decide, mem_c8 (i := 62) (by decide +kernel) rfl, tyX12_ok, nmX12, by decide +kernel, Or.inr ⟨rfl, h.elim (fun q => absurd rfl q) id, rfl⟩⟩
theorem fG_X12_25 : fG RX12 25 12 7 := ⟨_, _, _, rfl, by decide, inX12, by decide, Or.inl (mem_c8 (i := 63) (by decide +kernel) rfl)⟩
theorem fP_X12_25 (nm : String) (h : nm ≠ nm ∨ nm = "<init>") : fP RX12 25 12 7 (.array .int) nm := ⟨_, _, _, tyX12, rfl, by decide, inX12, by decide, mem_c8 (i := 63) (by decide +kernel) rfl, tyX12_ok, nmX12, by decide +kernel, Or.inr ⟨rfl, h.elim (fun q => absurd rfl q) id, rfl⟩⟩
theorem fG_X12_28 : fG RX12 28 12 8 := ⟨_, _, _, rfl, by decide, inX12, by decide, Or.inl (mem_c8 (i := 64) (by decide +kernel) rfl)⟩
theorem fP_X12_28 (nm : String) (h : nm ≠ nm ∨ nm = "<init>") : fP RX12 28 12 8 (.array .int) nm := ⟨_, _, _, tyX12, rfl, by decide, inX12, by decide, mem_c8 (i := 64) (by decide +kernel) rfl, tyX12_ok, nmX12, by decide +kernel, Or.inr ⟨rfl, h.elim (fun q => absurd rfl q) id, rfl⟩⟩
theorem fG_X12_31 : fG RX12 31 12 1 := ⟨_, _, _, rfl, by decide, inX12, by decide, Or.inl (mem_c8 (i := 56) (by decide +kernel) rfl)⟩
theorem fP_X12_31 (nm : String) : fP RX12 31 12 1 .int nm := ⟨_, _, _, tyX12, rfl, by decide, inX12, by decide, mem_c8 (i := 56) (by decide +kernel) rfl, tyX12_ok, nmX12, by decide +kernel, Or.inl rfl⟩
theorem fG_X12_39 : fG RX12 39 12 2 := ⟨_, _, _, rfl, by decide, inX12, by decide, Or.inl (mem_c8 (i := 57) (by decide +kernel) rfl)⟩
theorem fP_X12_39 (nm : String) : fP RX12 39 12 2 .int nm := ⟨_, _, _, tyX12, rfl, by decide, inX12, by decide, mem_c8 (i := 57) (by decide +kernel) rfl, tyX12_ok, nmX12, by decide +kernel, Or.inl rfl⟩
theorem gS_X2_64 : gS RX2 64 7 := ⟨_, _, _, rfl, Or.inr ⟨"SealedTokens", by decide +kernel⟩⟩
theorem gS_X2_67 : gS RX2 67 5 := ⟨_, _, _, rfl, Or.inr ⟨"SealedTokens", by decide +kernel⟩⟩
theorem gS_X5_176 : gS RX5 176 5 := ⟨_, _, _, rfl, Or.inr ⟨"SealedTokens", by decide +kernel⟩⟩
theorem gS_X10_94 : gS RX10 94 6 := ⟨_, _, _, rfl, Or.inr ⟨"SealedTokens", by decide +kernel⟩⟩
theorem gS_X10_100 : gS RX10 100 7 := ⟨_, _, _, rfl, Or.inr ⟨"SealedTokens", by decide +kernel⟩⟩
theorem gS_X10_279 : gS RX10 279 5 := ⟨_, _, _, rfl, Or.inr ⟨"SealedTokens", by decide +kernel⟩⟩
theorem fG_X13_729 : fG RX13 729 12 0 := ⟨_, _, _, rfl, by decide, inX12, by decide, Or.inr ⟨"SealedTokensModel", by decide +kernel⟩⟩
theorem fG_X13_753 : fG RX13 753 12 3 := ⟨_, _, _, rfl, by decide, inX12, by decide, Or.inr ⟨"SealedTokensModel", by decide +kernel⟩⟩
theorem kI_X0_70 : Jvm.Cond.constant RX0 70 (65535) ∈ mtbl := mem_c4 (i := 214) (by decide +kernel) rfl
theorem kI_X7_173 : Jvm.Cond.constant RX7 173 (55296) ∈ mtbl := mem_c4 (i := 97) (by decide +kernel) rfl
theorem kI_X7_174 : Jvm.Cond.constant RX7 174 (56319) ∈ mtbl := mem_c4 (i := 98) (by decide +kernel) rfl
theorem kI_X7_177 : Jvm.Cond.constant RX7 177 (65536) ∈ mtbl := mem_c4 (i := 100) (by decide +kernel) rfl
theorem kI_X7_178 : Jvm.Cond.constant RX7 178 (56320) ∈ mtbl := mem_c4 (i := 101) (by decide +kernel) rfl
theorem kI_X13_13 : Jvm.Cond.constant RX13 13 (65536) ∈ mtbl := mem_c8 (i := 46) (by decide +kernel) rfl
theorem kI_X13_79 : Jvm.Cond.constant RX13 79 (33100) ∈ mtbl := mem_c8 (i := 47) (by decide +kernel) rfl
theorem kI_X13_226 : Jvm.Cond.constant RX13 226 (131200) ∈ mtbl := mem_c8 (i := 84) (by decide +kernel) rfl
theorem kI_X13_278 : Jvm.Cond.constant RX13 278 (60000) ∈ mtbl := mem_c8 (i := 85) (by decide +kernel) rfl
theorem kI_X13_440 : Jvm.Cond.constant RX13 440 (55296) ∈ mtbl := mem_c10 (i := 215) (by decide +kernel) rfl
theorem kI_X13_441 : Jvm.Cond.constant RX13 441 (56319) ∈ mtbl := mem_c10 (i := 216) (by decide +kernel) rfl
theorem kI_X13_442 : Jvm.Cond.constant RX13 442 (56320) ∈ mtbl := mem_c10 (i := 217) (by decide +kernel) rfl
theorem kI_X13_499 : Jvm.Cond.constant RX13 499 (65535) ∈ mtbl := mem_c11 (i := 77) (by decide +kernel) rfl
theorem kI_X12_46 : Jvm.Cond.constant RX12 46 (-2147483648) ∈ mtbl := mem_c8 (i := 130) (by decide +kernel) rfl
theorem kL_X2_146 : Jvm.Cond.constantLong RX2 146 (8) ∈ mtbl := mem_c5 (i := 182) (by decide +kernel) rfl
theorem kL_X2_159 : Jvm.Cond.constantLong RX2 159 (-2233785415175766016) ∈ mtbl := mem_c5 (i := 181) (by decide +kernel) rfl
theorem kL_X4_83 : Jvm.Cond.constantLong RX4 83 (-1) ∈ mtbl := mem_c5 (i := 16) (by decide +kernel) rfl
theorem kL_X6_54 : Jvm.Cond.constantLong RX6 54 (2) ∈ mtbl := mem_c2 (i := 236) (by decide +kernel) rfl
theorem kL_X6_56 : Jvm.Cond.constantLong RX6 56 (4294967295) ∈ mtbl := mem_c2 (i := 237) (by decide +kernel) rfl
theorem kL_X13_315 : Jvm.Cond.constantLong RX13 315 (255) ∈ mtbl := mem_c11 (i := 122) (by decide +kernel) rfl
theorem kL_X13_510 : Jvm.Cond.constantLong RX13 510 (8) ∈ mtbl := mem_c11 (i := 102) (by decide +kernel) rfl
theorem kL_X13_512 : Jvm.Cond.constantLong RX13 512 (128) ∈ mtbl := mem_c11 (i := 103) (by decide +kernel) rfl
theorem kL_X13_535 : Jvm.Cond.constantLong RX13 535 (7640891576956012808) ∈ mtbl := mem_c11 (i := 111) (by decide +kernel) rfl
theorem kL_X13_537 : Jvm.Cond.constantLong RX13 537 (-4942790177534073029) ∈ mtbl := mem_c11 (i := 112) (by decide +kernel) rfl
theorem kL_X13_539 : Jvm.Cond.constantLong RX13 539 (4354685564936845355) ∈ mtbl := mem_c11 (i := 113) (by decide +kernel) rfl
theorem kL_X13_541 : Jvm.Cond.constantLong RX13 541 (-6534734903238641935) ∈ mtbl := mem_c11 (i := 114) (by decide +kernel) rfl
theorem kL_X13_543 : Jvm.Cond.constantLong RX13 543 (5840696475078001361) ∈ mtbl := mem_c11 (i := 115) (by decide +kernel) rfl
theorem kL_X13_545 : Jvm.Cond.constantLong RX13 545 (-7276294671716946913) ∈ mtbl := mem_c11 (i := 116) (by decide +kernel) rfl
theorem kL_X13_547 : Jvm.Cond.constantLong RX13 547 (2270897969802886507) ∈ mtbl := mem_c11 (i := 117) (by decide +kernel) rfl
theorem kL_X13_549 : Jvm.Cond.constantLong RX13 549 (6620516959819538809) ∈ mtbl := mem_c11 (i := 118) (by decide +kernel) rfl
theorem kL_X13_565 : Jvm.Cond.constantLong RX13 565 (-1) ∈ mtbl := mem_c11 (i := 130) (by decide +kernel) rfl
theorem kL_X13_617 : Jvm.Cond.constantLong RX13 617 (-6438275382588823898) ∈ mtbl := mem_c11 (i := 202) (by decide +kernel) rfl
theorem kL_X13_648 : Jvm.Cond.constantLong RX13 648 (-2233785415175766016) ∈ mtbl := mem_c12 (i := 4) (by decide +kernel) rfl
theorem kL_X12_47 : Jvm.Cond.constantLong RX12 47 (4294967295) ∈ mtbl := mem_c8 (i := 135) (by decide +kernel) rfl
theorem mY_X11_init : mYI yX11_init cX11_init 2 none 0 := ⟨mem_c1 (i := 26) rfl rfl, mem_c1 (i := 25) (by decide +kernel) rfl, mem_c1 (i := 1) (by decide +kernel) rfl, rfl, rfl, by decide, by decide, by decide +kernel⟩
theorem mY_X11_agree : mYV yX11_agree cX11_agree 5 none 4 := ⟨mem_c7 (i := 209) rfl rfl, mem_c7 (i := 208) (by decide +kernel) rfl, mem_p (i := 65) (by decide +kernel) rfl, mem_c1 (i := 1) (by decide +kernel) rfl, by decide, by decide, by decide +kernel⟩
theorem mY_X11_algName : mYS yX11_algName cX11_algName 1 (some (.object "java/lang/String")) 1 := ⟨mem_c6 (i := 141) rfl rfl, mem_c6 (i := 140) (by decide +kernel) rfl, mem_c1 (i := 1) (by decide +kernel) rfl, by decide, by decide, by decide +kernel⟩
theorem mY_X11_block : mYV yX11_block cX11_block 4 (some .int) 3 := ⟨mem_c5 (i := 53) rfl rfl, mem_c5 (i := 51) (by decide +kernel) rfl, mem_c5 (i := 52) (by decide +kernel) rfl, mem_c1 (i := 1) (by decide +kernel) rfl, by decide, by decide, by decide +kernel⟩
theorem mY_X11_code : mYV yX11_code cX11_code 4 (some .int) 3 := ⟨mem_c5 (i := 33) rfl rfl, mem_c5 (i := 31) (by decide +kernel) rfl, mem_c5 (i := 32) (by decide +kernel) rfl, mem_c1 (i := 1) (by decide +kernel) rfl, by decide, by decide, by decide +kernel⟩
theorem mY_X11_codeWork : mYV yX11_codeWork cX11_codeWork 4 none 3 := ⟨mem_c7 (i := 50) rfl rfl, mem_c7 (i := 49) (by decide +kernel) rfl, mem_p (i := 55) (by decide +kernel) rfl, mem_c1 (i := 1) (by decide +kernel) rfl, by decide, by decide, by decide +kernel⟩
theorem mY_X11_contentKeyComes : mYV yX11_contentKeyComes cX11_contentKeyComes 2 (some .boolean) 1 := ⟨mem_c8 (i := 35) rfl rfl, mem_c8 (i := 34) (by decide +kernel) rfl, mem_p (i := 68) (by decide +kernel) rfl, mem_c1 (i := 1) (by decide +kernel) rfl, by decide, by decide, by decide +kernel⟩
theorem mY_X11_decode : mYV yX11_decode cX11_decode 3 (some .int) 1 := ⟨mem_c4 (i := 219) rfl rfl, mem_c4 (i := 217) (by decide +kernel) rfl, mem_c4 (i := 218) (by decide +kernel) rfl, mem_c1 (i := 1) (by decide +kernel) rfl, by decide, by decide, by decide +kernel⟩
theorem mY_X11_decrypt : mYV yX11_decrypt cX11_decrypt 7 (some .int) 1 := ⟨mem_c7 (i := 236) rfl rfl, mem_c7 (i := 234) (by decide +kernel) rfl, mem_c7 (i := 235) (by decide +kernel) rfl, mem_c1 (i := 1) (by decide +kernel) rfl, by decide, by decide, by decide +kernel⟩
theorem mY_X11_derive : mYV yX11_derive cX11_derive 6 (some .int) 5 := ⟨mem_c6 (i := 45) rfl rfl, mem_c6 (i := 43) (by decide +kernel) rfl, mem_c6 (i := 44) (by decide +kernel) rfl, mem_c1 (i := 1) (by decide +kernel) rfl, by decide, by decide, by decide +kernel⟩
theorem mY_X11_drop : mYV yX11_drop cX11_drop 2 (some .int) 1 := ⟨mem_c6 (i := 187) rfl rfl, mem_c6 (i := 185) (by decide +kernel) rfl, mem_c6 (i := 186) (by decide +kernel) rfl, mem_c1 (i := 1) (by decide +kernel) rfl, by decide, by decide, by decide +kernel⟩
theorem mY_X11_encode : mYV yX11_encode cX11_encode 2 (some .int) 1 := ⟨mem_c4 (i := 206) rfl rfl, mem_c4 (i := 204) (by decide +kernel) rfl, mem_c4 (i := 205) (by decide +kernel) rfl, mem_c1 (i := 1) (by decide +kernel) rfl, by decide, by decide, by decide +kernel⟩
theorem mY_X11_encrypt : mYV yX11_encrypt cX11_encrypt 9 (some .int) 7 := ⟨mem_c7 (i := 167) rfl rfl, mem_c7 (i := 165) (by decide +kernel) rfl, mem_c7 (i := 166) (by decide +kernel) rfl, mem_c1 (i := 1) (by decide +kernel) rfl, by decide, by decide, by decide +kernel⟩
theorem mY_X11_end : mYV yX11_end cX11_end 2 (some .int) 1 := ⟨mem_c3 (i := 214) rfl rfl, mem_c3 (i := 212) (by decide +kernel) rfl, mem_c3 (i := 213) (by decide +kernel) rfl, mem_c1 (i := 1) (by decide +kernel) rfl, by decide, by decide, by decide +kernel⟩
theorem mY_X11_feed : mYV yX11_feed cX11_feed 6 (some .int) 5 := ⟨mem_c3 (i := 205) rfl rfl, mem_c3 (i := 203) (by decide +kernel) rfl, mem_c3 (i := 204) (by decide +kernel) rfl, mem_c1 (i := 1) (by decide +kernel) rfl, by decide, by decide, by decide +kernel⟩
theorem mY_X11_hash : mYV yX11_hash cX11_hash 3 (some .int) 2 := ⟨mem_c4 (i := 233) rfl rfl, mem_c4 (i := 231) (by decide +kernel) rfl, mem_c4 (i := 232) (by decide +kernel) rfl, mem_c1 (i := 1) (by decide +kernel) rfl, by decide, by decide, by decide +kernel⟩
theorem mY_X11_hashWork : mYV yX11_hashWork cX11_hashWork 2 none 1 := ⟨mem_c7 (i := 54) rfl rfl, mem_c7 (i := 53) (by decide +kernel) rfl, mem_p (i := 56) (by decide +kernel) rfl, mem_c1 (i := 1) (by decide +kernel) rfl, by decide, by decide, by decide +kernel⟩
theorem mY_X11_isCipherKey : mYV yX11_isCipherKey cX11_isCipherKey 2 (some .boolean) 1 := ⟨mem_c5 (i := 57) rfl rfl, mem_c5 (i := 56) (by decide +kernel) rfl, mem_p (i := 25) (by decide +kernel) rfl, mem_c1 (i := 1) (by decide +kernel) rfl, by decide, by decide, by decide +kernel⟩
theorem mY_X11_isKey : mYV yX11_isKey cX11_isKey 2 (some .boolean) 1 := ⟨mem_c6 (i := 191) rfl rfl, mem_c6 (i := 190) (by decide +kernel) rfl, mem_p (i := 47) (by decide +kernel) rfl, mem_c1 (i := 1) (by decide +kernel) rfl, by decide, by decide, by decide +kernel⟩
theorem mY_X11_isRow : mYV yX11_isRow cX11_isRow 2 (some .boolean) 1 := ⟨mem_c3 (i := 227) rfl rfl, mem_c3 (i := 226) (by decide +kernel) rfl, mem_p (i := 2) (by decide +kernel) rfl, mem_c1 (i := 1) (by decide +kernel) rfl, by decide, by decide, by decide +kernel⟩
theorem mY_X11_isRowOrNone : mYV yX11_isRowOrNone cX11_isRowOrNone 2 (some .boolean) 1 := ⟨mem_c6 (i := 225) rfl rfl, mem_c6 (i := 224) (by decide +kernel) rfl, mem_p (i := 48) (by decide +kernel) rfl, mem_c1 (i := 1) (by decide +kernel) rfl, by decide, by decide, by decide +kernel⟩
theorem mY_X11_json : mYV yX11_json cX11_json 4 (some .int) 1 := ⟨mem_c4 (i := 25) rfl rfl, mem_c4 (i := 23) (by decide +kernel) rfl, mem_c4 (i := 24) (by decide +kernel) rfl, mem_c1 (i := 1) (by decide +kernel) rfl, by decide, by decide, by decide +kernel⟩
theorem mY_X11_keep : mYV yX11_keep cX11_keep 2 (some .int) 1 := ⟨mem_c4 (i := 5) rfl rfl, mem_c4 (i := 3) (by decide +kernel) rfl, mem_c4 (i := 4) (by decide +kernel) rfl, mem_c1 (i := 1) (by decide +kernel) rfl, by decide, by decide, by decide +kernel⟩
theorem mY_X11_key : mYV yX11_key cX11_key 5 (some .int) 1 := ⟨mem_c6 (i := 56) rfl rfl, mem_c6 (i := 54) (by decide +kernel) rfl, mem_c6 (i := 55) (by decide +kernel) rfl, mem_c1 (i := 1) (by decide +kernel) rfl, by decide, by decide, by decide +kernel⟩
theorem mY_X11_makeSealedKey : mYV yX11_makeSealedKey cX11_makeSealedKey 4 none 3 := ⟨mem_c7 (i := 205) rfl rfl, mem_c7 (i := 204) (by decide +kernel) rfl, mem_p (i := 64) (by decide +kernel) rfl, mem_c1 (i := 1) (by decide +kernel) rfl, by decide, by decide, by decide +kernel⟩
theorem mY_X11_makeSignature : mYV yX11_makeSignature cX11_makeSignature 4 (some .boolean) 3 := ⟨mem_c7 (i := 46) rfl rfl, mem_c7 (i := 45) (by decide +kernel) rfl, mem_p (i := 54) (by decide +kernel) rfl, mem_c1 (i := 1) (by decide +kernel) rfl, by decide, by decide, by decide +kernel⟩
theorem mY_X11_member : mYV yX11_member cX11_member 3 (some .int) 2 := ⟨mem_c4 (i := 166) rfl rfl, mem_c4 (i := 164) (by decide +kernel) rfl, mem_c4 (i := 165) (by decide +kernel) rfl, mem_c1 (i := 1) (by decide +kernel) rfl, by decide, by decide, by decide +kernel⟩
theorem mY_X11_multiply : mYV yX11_multiply cX11_multiply 3 (some .int) 2 := ⟨mem_c5 (i := 237) rfl rfl, mem_c5 (i := 235) (by decide +kernel) rfl, mem_c5 (i := 236) (by decide +kernel) rfl, mem_c1 (i := 1) (by decide +kernel) rfl, by decide, by decide, by decide +kernel⟩
theorem mY_X11_name : mYV yX11_name cX11_name 2 (some .int) 1 := ⟨mem_c4 (i := 161) rfl rfl, mem_c4 (i := 159) (by decide +kernel) rfl, mem_c4 (i := 160) (by decide +kernel) rfl, mem_c1 (i := 1) (by decide +kernel) rfl, by decide, by decide, by decide +kernel⟩
theorem mY_X11_numbersBelong : mYV yX11_numbersBelong cX11_numbersBelong 2 (some .boolean) 1 := ⟨mem_c6 (i := 162) rfl rfl, mem_c6 (i := 161) (by decide +kernel) rfl, mem_p (i := 46) (by decide +kernel) rfl, mem_c1 (i := 1) (by decide +kernel) rfl, by decide, by decide, by decide +kernel⟩
theorem mY_X11_open : mYV yX11_open cX11_open 6 (some .int) 5 := ⟨mem_c5 (i := 195) rfl rfl, mem_c5 (i := 193) (by decide +kernel) rfl, mem_c5 (i := 194) (by decide +kernel) rfl, mem_c1 (i := 1) (by decide +kernel) rfl, by decide, by decide, by decide +kernel⟩
theorem mY_X11_out : mYV yX11_out cX11_out 2 (some .int) 1 := ⟨mem_c4 (i := 17) rfl rfl, mem_c4 (i := 15) (by decide +kernel) rfl, mem_c4 (i := 16) (by decide +kernel) rfl, mem_c1 (i := 1) (by decide +kernel) rfl, by decide, by decide, by decide +kernel⟩
theorem mY_X11_poke : mYV yX11_poke cX11_poke 4 (some .int) 3 := ⟨mem_c4 (i := 9) rfl rfl, mem_c4 (i := 7) (by decide +kernel) rfl, mem_c4 (i := 8) (by decide +kernel) rfl, mem_c1 (i := 1) (by decide +kernel) rfl, by decide, by decide, by decide +kernel⟩
theorem mY_X11_power : mYV yX11_power cX11_power 4 (some .int) 3 := ⟨mem_c5 (i := 214) rfl rfl, mem_c5 (i := 212) (by decide +kernel) rfl, mem_c5 (i := 213) (by decide +kernel) rfl, mem_c1 (i := 1) (by decide +kernel) rfl, by decide, by decide, by decide +kernel⟩
theorem mY_X11_print : mYV yX11_print cX11_print 2 (some .int) 1 := ⟨mem_c6 (i := 199) rfl rfl, mem_c6 (i := 197) (by decide +kernel) rfl, mem_c6 (i := 198) (by decide +kernel) rfl, mem_c1 (i := 1) (by decide +kernel) rfl, by decide, by decide, by decide +kernel⟩
theorem mY_X11_row : mYV yX11_row cX11_row 2 (some .int) 1 := ⟨mem_c3 (i := 223) rfl rfl, mem_c3 (i := 221) (by decide +kernel) rfl, mem_c3 (i := 222) (by decide +kernel) rfl, mem_c1 (i := 1) (by decide +kernel) rfl, by decide, by decide, by decide +kernel⟩
theorem mY_X11_seal : mYV yX11_seal cX11_seal 6 (some .int) 5 := ⟨mem_c5 (i := 116) rfl rfl, mem_c5 (i := 114) (by decide +kernel) rfl, mem_c5 (i := 115) (by decide +kernel) rfl, mem_c1 (i := 1) (by decide +kernel) rfl, by decide, by decide, by decide +kernel⟩
theorem mY_X11_show : mYV yX11_show cX11_show 4 (some .int) 3 := ⟨mem_c4 (i := 156) rfl rfl, mem_c4 (i := 155) (by decide +kernel) rfl, mem_p (i := 18) (by decide +kernel) rfl, mem_c1 (i := 1) (by decide +kernel) rfl, by decide, by decide, by decide +kernel⟩
theorem mY_X11_showPayload : mYV yX11_showPayload cX11_showPayload 2 none 1 := ⟨mem_c7 (i := 162) rfl rfl, mem_c7 (i := 161) (by decide +kernel) rfl, mem_p (i := 62) (by decide +kernel) rfl, mem_c1 (i := 1) (by decide +kernel) rfl, by decide, by decide, by decide +kernel⟩
theorem mY_X11_sign : mYV yX11_sign cX11_sign 9 (some .int) 5 := ⟨mem_c6 (i := 221) rfl rfl, mem_c6 (i := 219) (by decide +kernel) rfl, mem_c6 (i := 220) (by decide +kernel) rfl, mem_c1 (i := 1) (by decide +kernel) rfl, by decide, by decide, by decide +kernel⟩
theorem mY_X11_signatureIsRight : mYV yX11_signatureIsRight cX11_signatureIsRight 2 (some .boolean) 1 := ⟨mem_c7 (i := 138) rfl rfl, mem_c7 (i := 137) (by decide +kernel) rfl, mem_p (i := 60) (by decide +kernel) rfl, mem_c1 (i := 1) (by decide +kernel) rfl, by decide, by decide, by decide +kernel⟩
theorem mY_X11_size : mYV yX11_size cX11_size 2 (some .int) 1 := ⟨mem_c4 (i := 13) rfl rfl, mem_c4 (i := 11) (by decide +kernel) rfl, mem_c4 (i := 12) (by decide +kernel) rfl, mem_c1 (i := 1) (by decide +kernel) rfl, by decide, by decide, by decide +kernel⟩
theorem mY_X11_text : mYV yX11_text cX11_text 2 (some .int) 1 := ⟨mem_c4 (i := 152) rfl rfl, mem_c4 (i := 150) (by decide +kernel) rfl, mem_c4 (i := 151) (by decide +kernel) rfl, mem_c1 (i := 1) (by decide +kernel) rfl, by decide, by decide, by decide +kernel⟩
theorem mY_X11_told : mYV yX11_told cX11_told 4 (some .int) 2 := ⟨mem_c6 (i := 195) rfl rfl, mem_c6 (i := 193) (by decide +kernel) rfl, mem_c6 (i := 194) (by decide +kernel) rfl, mem_c1 (i := 1) (by decide +kernel) rfl, by decide, by decide, by decide +kernel⟩
theorem mY_X11_unwrap : mYV yX11_unwrap cX11_unwrap 3 (some .int) 2 := ⟨mem_c5 (i := 108) rfl rfl, mem_c5 (i := 106) (by decide +kernel) rfl, mem_c5 (i := 107) (by decide +kernel) rfl, mem_c1 (i := 1) (by decide +kernel) rfl, by decide, by decide, by decide +kernel⟩
theorem mY_X11_value : mYV yX11_value cX11_value 3 (some .int) 2 := ⟨mem_c4 (i := 147) rfl rfl, mem_c4 (i := 145) (by decide +kernel) rfl, mem_c4 (i := 146) (by decide +kernel) rfl, mem_c1 (i := 1) (by decide +kernel) rfl, by decide, by decide, by decide +kernel⟩
theorem mY_X11_verify : mYV yX11_verify cX11_verify 6 (some .int) 1 := ⟨mem_c7 (i := 102) rfl rfl, mem_c7 (i := 100) (by decide +kernel) rfl, mem_c7 (i := 101) (by decide +kernel) rfl, mem_c1 (i := 1) (by decide +kernel) rfl, by decide, by decide, by decide +kernel⟩
theorem mY_X11_wayName : mYS yX11_wayName cX11_wayName 1 (some (.object "java/lang/String")) 1 := ⟨mem_c7 (i := 188) rfl rfl, mem_c7 (i := 187) (by decide +kernel) rfl, mem_c1 (i := 1) (by decide +kernel) rfl, by decide, by decide, by decide +kernel⟩
theorem mY_X11_waySuits : mYV yX11_waySuits cX11_waySuits 4 (some .boolean) 3 := ⟨mem_c5 (i := 120) rfl rfl, mem_c5 (i := 119) (by decide +kernel) rfl, mem_p (i := 27) (by decide +kernel) rfl, mem_c1 (i := 1) (by decide +kernel) rfl, by decide, by decide, by decide +kernel⟩
theorem mY_X11_wrap : mYV yX11_wrap cX11_wrap 3 (some .int) 2 := ⟨mem_c5 (i := 93) rfl rfl, mem_c5 (i := 91) (by decide +kernel) rfl, mem_c5 (i := 92) (by decide +kernel) rfl, mem_c1 (i := 1) (by decide +kernel) rfl, by decide, by decide, by decide +kernel⟩
theorem mY_X11_write : mYV yX11_write cX11_write 2 (some .int) 1 := ⟨mem_c4 (i := 171) rfl rfl, mem_c4 (i := 169) (by decide +kernel) rfl, mem_c4 (i := 170) (by decide +kernel) rfl, mem_c1 (i := 1) (by decide +kernel) rfl, by decide, by decide, by decide +kernel⟩
theorem mY_X0_init : mYI yX0_init cX0_init 2 none 1 := ⟨mem_c1 (i := 35) rfl rfl, mem_c1 (i := 34) (by decide +kernel) rfl, mem_c1 (i := 2) (by decide +kernel) rfl, rfl, rfl, by decide, by decide, by decide +kernel⟩
theorem mY_X0_become : mYV yX0_become cX0_become 2 none 1 := ⟨mem_c3 (i := 231) rfl rfl, mem_c3 (i := 229) (by decide +kernel) rfl, mem_c3 (i := 230) (by decide +kernel) rfl, mem_c1 (i := 2) (by decide +kernel) rfl, by decide, by decide, by decide +kernel⟩
theorem mY_X0_bytesFor : mYS yX0_bytesFor cX0_bytesFor 1 (some .int) 1 := ⟨mem_c6 (i := 114) rfl rfl, mem_c6 (i := 113) (by decide +kernel) rfl, mem_c1 (i := 2) (by decide +kernel) rfl, by decide, by decide, by decide +kernel⟩
theorem mY_X0_clear : mYV yX0_clear cX0_clear 1 none 0 := ⟨mem_c3 (i := 235) rfl rfl, mem_c3 (i := 233) (by decide +kernel) rfl, mem_c3 (i := 234) (by decide +kernel) rfl, mem_c1 (i := 2) (by decide +kernel) rfl, by decide, by decide, by decide +kernel⟩
theorem mY_X0_compare : mYS yX0_compare cX0_compare 8 (some .int) 5 := ⟨mem_c4 (i := 138) rfl rfl, mem_c4 (i := 137) (by decide +kernel) rfl, mem_c1 (i := 2) (by decide +kernel) rfl, by decide, by decide, by decide +kernel⟩
theorem mY_X0_cutTo : mYV yX0_cutTo cX0_cutTo 2 none 1 := ⟨mem_c3 (i := 218) rfl rfl, mem_c3 (i := 216) (by decide +kernel) rfl, mem_c3 (i := 217) (by decide +kernel) rfl, mem_c1 (i := 2) (by decide +kernel) rfl, by decide, by decide, by decide +kernel⟩
theorem mY_X0_get : mYV yX0_get cX0_get 2 (some .int) 1 := ⟨mem_c2 (i := 235) rfl rfl, mem_c2 (i := 233) (by decide +kernel) rfl, mem_c2 (i := 234) (by decide +kernel) rfl, mem_c1 (i := 2) (by decide +kernel) rfl, by decide, by decide, by decide +kernel⟩
theorem mY_X0_holds : mYV yX0_holds cX0_holds 3 (some .boolean) 1 := ⟨mem_c7 (i := 40) rfl rfl, mem_c7 (i := 38) (by decide +kernel) rfl, mem_c7 (i := 39) (by decide +kernel) rfl, mem_c1 (i := 2) (by decide +kernel) rfl, by decide, by decide, by decide +kernel⟩
theorem mY_X0_isBelow : mYS yX0_isBelow cX0_isBelow 2 (some .boolean) 2 := ⟨mem_c6 (i := 123) rfl rfl, mem_c6 (i := 122) (by decide +kernel) rfl, mem_c1 (i := 2) (by decide +kernel) rfl, by decide, by decide, by decide +kernel⟩
theorem mY_X0_letterFault : mYS yX0_letterFault cX0_letterFault 7 (some .int) 3 := ⟨mem_c4 (i := 222) rfl rfl, mem_c4 (i := 221) (by decide +kernel) rfl, mem_c1 (i := 2) (by decide +kernel) rfl, by decide, by decide, by decide +kernel⟩
theorem mY_X0_letterValue : mYS yX0_letterValue cX0_letterValue 1 (some .int) 1 := ⟨mem_c4 (i := 225) rfl rfl, mem_c4 (i := 224) (by decide +kernel) rfl, mem_c1 (i := 2) (by decide +kernel) rfl, by decide, by decide, by decide +kernel⟩
theorem mY_X0_lettersFor : mYS yX0_lettersFor cX0_lettersFor 1 (some .int) 1 := ⟨mem_c4 (i := 209) rfl rfl, mem_c4 (i := 208) (by decide +kernel) rfl, mem_c1 (i := 2) (by decide +kernel) rfl, by decide, by decide, by decide +kernel⟩
theorem mY_X0_peek : mYV yX0_peek cX0_peek 2 (some .int) 1 := ⟨mem_c4 (i := 21) rfl rfl, mem_c4 (i := 19) (by decide +kernel) rfl, mem_c4 (i := 20) (by decide +kernel) rfl, mem_c1 (i := 2) (by decide +kernel) rfl, by decide, by decide, by decide +kernel⟩
theorem mY_X0_put : mYV yX0_put cX0_put 2 none 1 := ⟨mem_c2 (i := 216) rfl rfl, mem_c2 (i := 214) (by decide +kernel) rfl, mem_c2 (i := 215) (by decide +kernel) rfl, mem_c1 (i := 2) (by decide +kernel) rfl, by decide, by decide, by decide +kernel⟩
theorem mY_X0_putAll : mYV yX0_putAll cX0_putAll 2 none 1 := ⟨mem_c5 (i := 191) rfl rfl, mem_c5 (i := 189) (by decide +kernel) rfl, mem_c5 (i := 190) (by decide +kernel) rfl, mem_c1 (i := 2) (by decide +kernel) rfl, by decide, by decide, by decide +kernel⟩
theorem mY_X0_putLetterPart : mYV yX0_putLetterPart cX0_putLetterPart 4 none 3 := ⟨mem_c7 (i := 231) rfl rfl, mem_c7 (i := 229) (by decide +kernel) rfl, mem_c7 (i := 230) (by decide +kernel) rfl, mem_c1 (i := 2) (by decide +kernel) rfl, by decide, by decide, by decide +kernel⟩
theorem mY_X0_putLetters : mYV yX0_putLetters cX0_putLetters 7 none 3 := ⟨mem_c4 (i := 213) rfl rfl, mem_c4 (i := 211) (by decide +kernel) rfl, mem_c4 (i := 212) (by decide +kernel) rfl, mem_c1 (i := 2) (by decide +kernel) rfl, by decide, by decide, by decide +kernel⟩
theorem mY_X0_putPart : mYV yX0_putPart cX0_putPart 5 none 3 := ⟨mem_c3 (i := 239) rfl rfl, mem_c3 (i := 237) (by decide +kernel) rfl, mem_c3 (i := 238) (by decide +kernel) rfl, mem_c1 (i := 2) (by decide +kernel) rfl, by decide, by decide, by decide +kernel⟩
theorem mY_X0_putSame : mYV yX0_putSame cX0_putSame 4 none 2 := ⟨mem_c7 (i := 68) rfl rfl, mem_c7 (i := 66) (by decide +kernel) rfl, mem_c7 (i := 67) (by decide +kernel) rfl, mem_c1 (i := 2) (by decide +kernel) rfl, by decide, by decide, by decide +kernel⟩
theorem mY_X0_putText : mYV yX0_putText cX0_putText 3 none 1 := ⟨mem_c4 (i := 192) rfl rfl, mem_c4 (i := 190) (by decide +kernel) rfl, mem_c4 (i := 191) (by decide +kernel) rfl, mem_c1 (i := 2) (by decide +kernel) rfl, by decide, by decide, by decide +kernel⟩
theorem mY_X0_putUnlettered : mYV yX0_putUnlettered cX0_putUnlettered 7 none 3 := ⟨mem_c4 (i := 229) rfl rfl, mem_c4 (i := 227) (by decide +kernel) rfl, mem_c4 (i := 228) (by decide +kernel) rfl, mem_c1 (i := 2) (by decide +kernel) rfl, by decide, by decide, by decide +kernel⟩
theorem mY_X0_putWord : mYV yX0_putWord cX0_putWord 2 none 1 := ⟨mem_c3 (i := 209) rfl rfl, mem_c3 (i := 207) (by decide +kernel) rfl, mem_c3 (i := 208) (by decide +kernel) rfl, mem_c1 (i := 2) (by decide +kernel) rfl, by decide, by decide, by decide +kernel⟩
theorem mY_X0_same : mYV yX0_same cX0_same 2 (some .boolean) 1 := ⟨mem_c6 (i := 183) rfl rfl, mem_c6 (i := 181) (by decide +kernel) rfl, mem_c6 (i := 182) (by decide +kernel) rfl, mem_c1 (i := 2) (by decide +kernel) rfl, by decide, by decide, by decide +kernel⟩
theorem mY_X0_set : mYV yX0_set cX0_set 3 none 2 := ⟨mem_c7 (i := 93) rfl rfl, mem_c7 (i := 91) (by decide +kernel) rfl, mem_c7 (i := 92) (by decide +kernel) rfl, mem_c1 (i := 2) (by decide +kernel) rfl, by decide, by decide, by decide +kernel⟩
theorem mY_X1_init : mYI yX1_init cX1_init 2 none 0 := ⟨mem_c2 (i := 29) rfl rfl, mem_c2 (i := 28) (by decide +kernel) rfl, mem_c1 (i := 8) (by decide +kernel) rfl, rfl, rfl, by decide, by decide, by decide +kernel⟩
theorem mY_X1_addRoundKey : mYV yX1_addRoundKey cX1_addRoundKey 4 none 2 := ⟨mem_c5 (i := 77) rfl rfl, mem_c5 (i := 76) (by decide +kernel) rfl, mem_p (i := 26) (by decide +kernel) rfl, mem_c1 (i := 8) (by decide +kernel) rfl, by decide, by decide, by decide +kernel⟩
theorem mY_X1_backward : mYV yX1_backward cX1_backward 4 none 1 := ⟨mem_c5 (i := 73) rfl rfl, mem_c5 (i := 71) (by decide +kernel) rfl, mem_c5 (i := 72) (by decide +kernel) rfl, mem_c1 (i := 8) (by decide +kernel) rfl, by decide, by decide, by decide +kernel⟩
theorem mY_X1_become : mYV yX1_become cX1_become 14 none 3 := ⟨mem_c5 (i := 61) rfl rfl, mem_c5 (i := 59) (by decide +kernel) rfl, mem_c5 (i := 60) (by decide +kernel) rfl, mem_c1 (i := 8) (by decide +kernel) rfl, by decide, by decide, by decide +kernel⟩
theorem mY_X1_forward : mYV yX1_forward cX1_forward 4 none 1 := ⟨mem_c5 (i := 88) rfl rfl, mem_c5 (i := 86) (by decide +kernel) rfl, mem_c5 (i := 87) (by decide +kernel) rfl, mem_c1 (i := 8) (by decide +kernel) rfl, by decide, by decide, by decide +kernel⟩
theorem mY_X1_mayWrap : mYS yX1_mayWrap cX1_mayWrap 1 (some .boolean) 1 := ⟨mem_c5 (i := 96) rfl rfl, mem_c5 (i := 95) (by decide +kernel) rfl, mem_c1 (i := 8) (by decide +kernel) rfl, by decide, by decide, by decide +kernel⟩
theorem mY_X1_mixColumns : mYS yX1_mixColumns cX1_mixColumns 4 none 1 := ⟨mem_c5 (i := 83) rfl rfl, mem_c5 (i := 82) (by decide +kernel) rfl, mem_c1 (i := 8) (by decide +kernel) rfl, by decide, by decide, by decide +kernel⟩
theorem mY_X1_putBlock : mYV yX1_putBlock cX1_putBlock 5 none 3 := ⟨mem_c5 (i := 69) rfl rfl, mem_c5 (i := 67) (by decide +kernel) rfl, mem_c5 (i := 68) (by decide +kernel) rfl, mem_c1 (i := 8) (by decide +kernel) rfl, by decide, by decide, by decide +kernel⟩
theorem mY_X1_putUnwrapped : mYV yX1_putUnwrapped cX1_putUnwrapped 8 (some .boolean) 3 := ⟨mem_c5 (i := 112) rfl rfl, mem_c5 (i := 110) (by decide +kernel) rfl, mem_c5 (i := 111) (by decide +kernel) rfl, mem_c1 (i := 8) (by decide +kernel) rfl, by decide, by decide, by decide +kernel⟩
theorem mY_X1_putWrapped : mYV yX1_putWrapped cX1_putWrapped 7 none 3 := ⟨mem_c5 (i := 100) rfl rfl, mem_c5 (i := 98) (by decide +kernel) rfl, mem_c5 (i := 99) (by decide +kernel) rfl, mem_c1 (i := 8) (by decide +kernel) rfl, by decide, by decide, by decide +kernel⟩
theorem mY_X1_twice : mYS yX1_twice cX1_twice 1 (some .int) 1 := ⟨mem_c5 (i := 65) rfl rfl, mem_c5 (i := 64) (by decide +kernel) rfl, mem_c1 (i := 8) (by decide +kernel) rfl, by decide, by decide, by decide +kernel⟩
theorem mY_X1_unmixColumns : mYS yX1_unmixColumns cX1_unmixColumns 4 none 1 := ⟨mem_c5 (i := 80) rfl rfl, mem_c5 (i := 79) (by decide +kernel) rfl, mem_c1 (i := 8) (by decide +kernel) rfl, by decide, by decide, by decide +kernel⟩
theorem mY_X2_init : mYI yX2_init cX2_init 3 none 2 := ⟨mem_c2 (i := 56) rfl rfl, mem_c2 (i := 55) (by decide +kernel) rfl, mem_c1 (i := 9) (by decide +kernel) rfl, rfl, rfl, by decide, by decide, by decide +kernel⟩
theorem mY_X2_addToSum : mYV yX2_addToSum cX2_addToSum 5 none 2 := ⟨mem_c5 (i := 176) rfl rfl, mem_c5 (i := 175) (by decide +kernel) rfl, mem_p (i := 34) (by decide +kernel) rfl, mem_c1 (i := 9) (by decide +kernel) rfl, by decide, by decide, by decide +kernel⟩
theorem mY_X2_half : mYV yX2_half cX2_half 5 (some .long) 1 := ⟨mem_c5 (i := 172) rfl rfl, mem_c5 (i := 171) (by decide +kernel) rfl, mem_p (i := 33) (by decide +kernel) rfl, mem_c1 (i := 9) (by decide +kernel) rfl, by decide, by decide, by decide +kernel⟩
theorem mY_X2_lock : mYV yX2_lock cX2_lock 7 none 6 := ⟨mem_c5 (i := 133) rfl rfl, mem_c5 (i := 131) (by decide +kernel) rfl, mem_c5 (i := 132) (by decide +kernel) rfl, mem_c1 (i := 9) (by decide +kernel) rfl, by decide, by decide, by decide +kernel⟩
theorem mY_X2_markByCode : mYV yX2_markByCode cX2_markByCode 7 none 6 := ⟨mem_c5 (i := 147) rfl rfl, mem_c5 (i := 146) (by decide +kernel) rfl, mem_p (i := 29) (by decide +kernel) rfl, mem_c1 (i := 9) (by decide +kernel) rfl, by decide, by decide, by decide +kernel⟩
theorem mY_X2_markByField : mYV yX2_markByField cX2_markByField 6 none 4 := ⟨mem_c5 (i := 168) rfl rfl, mem_c5 (i := 167) (by decide +kernel) rfl, mem_p (i := 32) (by decide +kernel) rfl, mem_c1 (i := 9) (by decide +kernel) rfl, by decide, by decide, by decide +kernel⟩
theorem mY_X2_markStands : mYV yX2_markStands cX2_markStands 3 (some .boolean) 2 := ⟨mem_c5 (i := 204) rfl rfl, mem_c5 (i := 203) (by decide +kernel) rfl, mem_p (i := 37) (by decide +kernel) rfl, mem_c1 (i := 9) (by decide +kernel) rfl, by decide, by decide, by decide +kernel⟩
theorem mY_X2_putChained : mYV yX2_putChained cX2_putChained 9 none 4 := ⟨mem_c5 (i := 138) rfl rfl, mem_c5 (i := 137) (by decide +kernel) rfl, mem_p (i := 28) (by decide +kernel) rfl, mem_c1 (i := 9) (by decide +kernel) rfl, by decide, by decide, by decide +kernel⟩
theorem mY_X2_putCounted : mYV yX2_putCounted cX2_putCounted 8 none 5 := ⟨mem_c5 (i := 160) rfl rfl, mem_c5 (i := 159) (by decide +kernel) rfl, mem_p (i := 30) (by decide +kernel) rfl, mem_c1 (i := 9) (by decide +kernel) rfl, by decide, by decide, by decide +kernel⟩
theorem mY_X2_putMarkHalf : mYV yX2_putMarkHalf cX2_putMarkHalf 3 none 1 := ⟨mem_c5 (i := 186) rfl rfl, mem_c5 (i := 185) (by decide +kernel) rfl, mem_p (i := 36) (by decide +kernel) rfl, mem_c1 (i := 9) (by decide +kernel) rfl, by decide, by decide, by decide +kernel⟩
theorem mY_X2_putUnchained : mYV yX2_putUnchained cX2_putUnchained 8 (some .boolean) 5 := ⟨mem_c5 (i := 209) rfl rfl, mem_c5 (i := 208) (by decide +kernel) rfl, mem_p (i := 38) (by decide +kernel) rfl, mem_c1 (i := 9) (by decide +kernel) rfl, by decide, by decide, by decide +kernel⟩
theorem mY_X2_sealedBytes : mYS yX2_sealedBytes cX2_sealedBytes 2 (some .int) 2 := ⟨mem_c5 (i := 127) rfl rfl, mem_c5 (i := 126) (by decide +kernel) rfl, mem_c1 (i := 9) (by decide +kernel) rfl, by decide, by decide, by decide +kernel⟩
theorem mY_X2_startCounter : mYV yX2_startCounter cX2_startCounter 4 none 2 := ⟨mem_c5 (i := 164) rfl rfl, mem_c5 (i := 163) (by decide +kernel) rfl, mem_p (i := 31) (by decide +kernel) rfl, mem_c1 (i := 9) (by decide +kernel) rfl, by decide, by decide, by decide +kernel⟩
theorem mY_X2_timesFactor : mYV yX2_timesFactor cX2_timesFactor 15 none 2 := ⟨mem_c5 (i := 180) rfl rfl, mem_c5 (i := 179) (by decide +kernel) rfl, mem_p (i := 35) (by decide +kernel) rfl, mem_c1 (i := 9) (by decide +kernel) rfl, by decide, by decide, by decide +kernel⟩
theorem mY_X2_unlock : mYV yX2_unlock cX2_unlock 8 (some .boolean) 6 := ⟨mem_c5 (i := 199) rfl rfl, mem_c5 (i := 197) (by decide +kernel) rfl, mem_c5 (i := 198) (by decide +kernel) rfl, mem_c1 (i := 9) (by decide +kernel) rfl, by decide, by decide, by decide +kernel⟩
theorem mY_X3_init : mYI yX3_init cX3_init 1 none 0 := ⟨mem_c2 (i := 150) rfl rfl, mem_c2 (i := 149) (by decide +kernel) rfl, mem_c1 (i := 12) (by decide +kernel) rfl, rfl, rfl, by decide, by decide, by decide +kernel⟩
theorem mY_X3_add : mYV yX3_add cX3_add 5 (some .boolean) 1 := ⟨mem_c6 (i := 25) rfl rfl, mem_c6 (i := 24) (by decide +kernel) rfl, mem_p (i := 40) (by decide +kernel) rfl, mem_c1 (i := 12) (by decide +kernel) rfl, by decide, by decide, by decide +kernel⟩
theorem mY_X3_isPair : mYV yX3_isPair cX3_isPair 3 (some .boolean) 2 := ⟨mem_c6 (i := 173) rfl rfl, mem_c6 (i := 171) (by decide +kernel) rfl, mem_c6 (i := 172) (by decide +kernel) rfl, mem_c1 (i := 12) (by decide +kernel) rfl, by decide, by decide, by decide +kernel⟩
theorem mY_X3_isSecret : mYV yX3_isSecret cX3_isSecret 3 (some .boolean) 2 := ⟨mem_c6 (i := 177) rfl rfl, mem_c6 (i := 175) (by decide +kernel) rfl, mem_c6 (i := 176) (by decide +kernel) rfl, mem_c1 (i := 12) (by decide +kernel) rfl, by decide, by decide, by decide +kernel⟩
theorem mY_X3_isSignatureRight : mYV yX3_isSignatureRight cX3_isSignatureRight 6 (some .boolean) 3 := ⟨mem_c7 (i := 157) rfl rfl, mem_c7 (i := 155) (by decide +kernel) rfl, mem_c7 (i := 156) (by decide +kernel) rfl, mem_c1 (i := 12) (by decide +kernel) rfl, by decide, by decide, by decide +kernel⟩
theorem mY_X3_load : mYV yX3_load cX3_load 4 (some .boolean) 1 := ⟨mem_c6 (i := 1) rfl rfl, mem_c5 (i := 239) (by decide +kernel) rfl, mem_c6 (i := 0) (by decide +kernel) rfl, mem_c1 (i := 12) (by decide +kernel) rfl, by decide, by decide, by decide +kernel⟩
theorem mY_X3_ofDigits : mYS yX3_ofDigits cX3_ofDigits 3 (some (.object "SealedTokens$Bytes")) 1 := ⟨mem_c2 (i := 159) rfl rfl, mem_c2 (i := 158) (by decide +kernel) rfl, mem_c1 (i := 12) (by decide +kernel) rfl, by decide, by decide, by decide +kernel⟩
theorem mY_X3_putSignature : mYV yX3_putSignature cX3_putSignature 8 (some .boolean) 4 := ⟨mem_c7 (i := 97) rfl rfl, mem_c7 (i := 95) (by decide +kernel) rfl, mem_c7 (i := 96) (by decide +kernel) rfl, mem_c1 (i := 12) (by decide +kernel) rfl, by decide, by decide, by decide +kernel⟩
theorem mY_X3_putSum : mYV yX3_putSum cX3_putSum 2 (some .boolean) 1 := ⟨mem_c6 (i := 34) rfl rfl, mem_c6 (i := 32) (by decide +kernel) rfl, mem_c6 (i := 33) (by decide +kernel) rfl, mem_c1 (i := 12) (by decide +kernel) rfl, by decide, by decide, by decide +kernel⟩
theorem mY_X3_sumUp : mYV yX3_sumUp cX3_sumUp 7 none 4 := ⟨mem_c6 (i := 16) rfl rfl, mem_c6 (i := 14) (by decide +kernel) rfl, mem_c6 (i := 15) (by decide +kernel) rfl, mem_c1 (i := 12) (by decide +kernel) rfl, by decide, by decide, by decide +kernel⟩
theorem mY_X3_twice : mYV yX3_twice cX3_twice 4 none 0 := ⟨mem_c6 (i := 20) rfl rfl, mem_c6 (i := 19) (by decide +kernel) rfl, mem_p (i := 39) (by decide +kernel) rfl, mem_c1 (i := 12) (by decide +kernel) rfl, by decide, by decide, by decide +kernel⟩
theorem mY_X4_init : mYI yX4_init cX4_init 1 none 0 := ⟨mem_c1 (i := 226) rfl rfl, mem_c1 (i := 225) (by decide +kernel) rfl, mem_c1 (i := 7) (by decide +kernel) rfl, rfl, rfl, by decide, by decide, by decide +kernel⟩
theorem mY_X4_add : mYV yX4_add cX4_add 5 none 3 := ⟨mem_c5 (i := 6) rfl rfl, mem_c5 (i := 4) (by decide +kernel) rfl, mem_c5 (i := 5) (by decide +kernel) rfl, mem_c1 (i := 7) (by decide +kernel) rfl, by decide, by decide, by decide +kernel⟩
theorem mY_X4_addByte : mYV yX4_addByte cX4_addByte 2 none 1 := ⟨mem_c5 (i := 11) rfl rfl, mem_c5 (i := 10) (by decide +kernel) rfl, mem_p (i := 21) (by decide +kernel) rfl, mem_c1 (i := 7) (by decide +kernel) rfl, by decide, by decide, by decide +kernel⟩
theorem mY_X4_addKeyBlock : mYV yX4_addKeyBlock cX4_addKeyBlock 3 none 1 := ⟨mem_c5 (i := 45) rfl rfl, mem_c5 (i := 44) (by decide +kernel) rfl, mem_p (i := 24) (by decide +kernel) rfl, mem_c1 (i := 7) (by decide +kernel) rfl, by decide, by decide, by decide +kernel⟩
theorem mY_X4_addWord : mYV yX4_addWord cX4_addWord 2 none 1 := ⟨mem_c5 (i := 153) rfl rfl, mem_c5 (i := 151) (by decide +kernel) rfl, mem_c5 (i := 152) (by decide +kernel) rfl, mem_c1 (i := 7) (by decide +kernel) rfl, by decide, by decide, by decide +kernel⟩
theorem mY_X4_finish : mYV yX4_finish cX4_finish 5 none 1 := ⟨mem_c5 (i := 28) rfl rfl, mem_c5 (i := 26) (by decide +kernel) rfl, mem_c5 (i := 27) (by decide +kernel) rfl, mem_c1 (i := 7) (by decide +kernel) rfl, by decide, by decide, by decide +kernel⟩
theorem mY_X4_finishCode : mYV yX4_finishCode cX4_finishCode 2 none 1 := ⟨mem_c5 (i := 49) rfl rfl, mem_c5 (i := 47) (by decide +kernel) rfl, mem_c5 (i := 48) (by decide +kernel) rfl, mem_c1 (i := 7) (by decide +kernel) rfl, by decide, by decide, by decide +kernel⟩
theorem mY_X4_mix : mYV yX4_mix cX4_mix 15 none 0 := ⟨mem_c5 (i := 22) rfl rfl, mem_c5 (i := 21) (by decide +kernel) rfl, mem_p (i := 23) (by decide +kernel) rfl, mem_c1 (i := 7) (by decide +kernel) rfl, by decide, by decide, by decide +kernel⟩
theorem mY_X4_mixWide : mYV yX4_mixWide cX4_mixWide 27 none 0 := ⟨mem_c5 (i := 15) rfl rfl, mem_c5 (i := 14) (by decide +kernel) rfl, mem_p (i := 22) (by decide +kernel) rfl, mem_c1 (i := 7) (by decide +kernel) rfl, by decide, by decide, by decide +kernel⟩
theorem mY_X4_putDerived : mYV yX4_putDerived cX4_putDerived 8 none 6 := ⟨mem_c6 (i := 49) rfl rfl, mem_c6 (i := 47) (by decide +kernel) rfl, mem_c6 (i := 48) (by decide +kernel) rfl, mem_c1 (i := 7) (by decide +kernel) rfl, by decide, by decide, by decide +kernel⟩
theorem mY_X4_start : mYV yX4_start cX4_start 2 none 1 := ⟨mem_c4 (i := 237) rfl rfl, mem_c4 (i := 235) (by decide +kernel) rfl, mem_c4 (i := 236) (by decide +kernel) rfl, mem_c1 (i := 7) (by decide +kernel) rfl, by decide, by decide, by decide +kernel⟩
theorem mY_X4_startCode : mYV yX4_startCode cX4_startCode 7 none 4 := ⟨mem_c5 (i := 37) rfl rfl, mem_c5 (i := 35) (by decide +kernel) rfl, mem_c5 (i := 36) (by decide +kernel) rfl, mem_c1 (i := 7) (by decide +kernel) rfl, by decide, by decide, by decide +kernel⟩
theorem mY_X5_init : mYI yX5_init cX5_init 1 none 0 := ⟨mem_c1 (i := 176) rfl rfl, mem_c1 (i := 175) (by decide +kernel) rfl, mem_c1 (i := 6) (by decide +kernel) rfl, rfl, rfl, by decide, by decide, by decide +kernel⟩
theorem mY_X5_areLettersThere : mYV yX5_areLettersThere cX5_areLettersThere 3 (some .boolean) 1 := ⟨mem_c6 (i := 91) rfl rfl, mem_c6 (i := 90) (by decide +kernel) rfl, mem_p (i := 41) (by decide +kernel) rfl, mem_c1 (i := 6) (by decide +kernel) rfl, by decide, by decide, by decide +kernel⟩
theorem mY_X5_isPointThere : mYS yX5_isPointThere cX5_isPointThere 2 (some .boolean) 2 := ⟨mem_c6 (i := 102) rfl rfl, mem_c6 (i := 101) (by decide +kernel) rfl, mem_c1 (i := 6) (by decide +kernel) rfl, by decide, by decide, by decide +kernel⟩
theorem mY_X5_makeKidRoom : mYV yX5_makeKidRoom cX5_makeKidRoom 3 none 1 := ⟨mem_c6 (i := 156) rfl rfl, mem_c6 (i := 155) (by decide +kernel) rfl, mem_p (i := 45) (by decide +kernel) rfl, mem_c1 (i := 6) (by decide +kernel) rfl, by decide, by decide, by decide +kernel⟩
theorem mY_X5_maySeal : mYV yX5_maySeal cX5_maySeal 5 (some .boolean) 3 := ⟨mem_c7 (i := 171) rfl rfl, mem_c7 (i := 169) (by decide +kernel) rfl, mem_c7 (i := 170) (by decide +kernel) rfl, mem_c1 (i := 6) (by decide +kernel) rfl, by decide, by decide, by decide +kernel⟩
theorem mY_X5_maySign : mYV yX5_maySign cX5_maySign 5 (some .boolean) 2 := ⟨mem_c6 (i := 229) rfl rfl, mem_c6 (i := 227) (by decide +kernel) rfl, mem_c6 (i := 228) (by decide +kernel) rfl, mem_c1 (i := 6) (by decide +kernel) rfl, by decide, by decide, by decide +kernel⟩
theorem mY_X5_putPointMembers : mYS yX5_putPointMembers cX5_putPointMembers 2 none 2 := ⟨mem_c6 (i := 214) rfl rfl, mem_c6 (i := 213) (by decide +kernel) rfl, mem_c1 (i := 6) (by decide +kernel) rfl, by decide, by decide, by decide +kernel⟩
theorem mY_X5_putPrinted : mYV yX5_putPrinted cX5_putPrinted 2 none 1 := ⟨mem_c6 (i := 203) rfl rfl, mem_c6 (i := 201) (by decide +kernel) rfl, mem_c6 (i := 202) (by decide +kernel) rfl, mem_c1 (i := 6) (by decide +kernel) rfl, by decide, by decide, by decide +kernel⟩
theorem mY_X5_reasonAgainst : mYV yX5_reasonAgainst cX5_reasonAgainst 4 (some .int) 1 := ⟨mem_c6 (i := 60) rfl rfl, mem_c6 (i := 58) (by decide +kernel) rfl, mem_c6 (i := 59) (by decide +kernel) rfl, mem_c1 (i := 6) (by decide +kernel) rfl, by decide, by decide, by decide +kernel⟩
theorem mY_X5_takeCurveSecret : mYV yX5_takeCurveSecret cX5_takeCurveSecret 2 (some .boolean) 1 := ⟨mem_c6 (i := 132) rfl rfl, mem_c6 (i := 131) (by decide +kernel) rfl, mem_p (i := 43) (by decide +kernel) rfl, mem_c1 (i := 6) (by decide +kernel) rfl, by decide, by decide, by decide +kernel⟩
theorem mY_X5_takePoint : mYS yX5_takePoint cX5_takePoint 3 (some .boolean) 3 := ⟨mem_c6 (i := 128) rfl rfl, mem_c6 (i := 127) (by decide +kernel) rfl, mem_c1 (i := 6) (by decide +kernel) rfl, by decide, by decide, by decide +kernel⟩
theorem mY_X5_takeRsa : mYV yX5_takeRsa cX5_takeRsa 2 (some .boolean) 1 := ⟨mem_c6 (i := 119) rfl rfl, mem_c6 (i := 118) (by decide +kernel) rfl, mem_p (i := 42) (by decide +kernel) rfl, mem_c1 (i := 6) (by decide +kernel) rfl, by decide, by decide, by decide +kernel⟩
theorem mY_X5_takeUse : mYV yX5_takeUse cX5_takeUse 5 none 1 := ⟨mem_c6 (i := 136) rfl rfl, mem_c6 (i := 135) (by decide +kernel) rfl, mem_p (i := 44) (by decide +kernel) rfl, mem_c1 (i := 6) (by decide +kernel) rfl, by decide, by decide, by decide +kernel⟩
theorem mY_X6_init : mYI yX6_init cX6_init 1 none 0 := ⟨mem_c2 (i := 98) rfl rfl, mem_c2 (i := 97) (by decide +kernel) rfl, mem_c1 (i := 11) (by decide +kernel) rfl, rfl, rfl, by decide, by decide, by decide +kernel⟩
theorem mY_X6_areSame : mYV yX6_areSame cX6_areSame 4 (some .boolean) 2 := ⟨mem_c6 (i := 12) rfl rfl, mem_c6 (i := 10) (by decide +kernel) rfl, mem_c6 (i := 11) (by decide +kernel) rfl, mem_c1 (i := 11) (by decide +kernel) rfl, by decide, by decide, by decide +kernel⟩
theorem mY_X6_become : mYV yX6_become cX6_become 5 none 1 := ⟨mem_c2 (i := 223) rfl rfl, mem_c2 (i := 221) (by decide +kernel) rfl, mem_c2 (i := 222) (by decide +kernel) rfl, mem_c1 (i := 11) (by decide +kernel) rfl, by decide, by decide, by decide +kernel⟩
theorem mY_X6_give : mYV yX6_give cX6_give 5 none 3 := ⟨mem_c5 (i := 232) rfl rfl, mem_c5 (i := 230) (by decide +kernel) rfl, mem_c5 (i := 231) (by decide +kernel) rfl, mem_c1 (i := 11) (by decide +kernel) rfl, by decide, by decide, by decide +kernel⟩
theorem mY_X6_isZero : mYV yX6_isZero cX6_isZero 3 (some .boolean) 1 := ⟨mem_c6 (i := 29) rfl rfl, mem_c6 (i := 27) (by decide +kernel) rfl, mem_c6 (i := 28) (by decide +kernel) rfl, mem_c1 (i := 11) (by decide +kernel) rfl, by decide, by decide, by decide +kernel⟩
theorem mY_X6_lead : mYV yX6_lead cX6_lead 2 none 1 := ⟨mem_c3 (i := 23) rfl rfl, mem_c3 (i := 21) (by decide +kernel) rfl, mem_c3 (i := 22) (by decide +kernel) rfl, mem_c1 (i := 11) (by decide +kernel) rfl, by decide, by decide, by decide +kernel⟩
theorem mY_X6_leadBack : mYV yX6_leadBack cX6_leadBack 2 none 1 := ⟨mem_c6 (i := 38) rfl rfl, mem_c6 (i := 36) (by decide +kernel) rfl, mem_c6 (i := 37) (by decide +kernel) rfl, mem_c1 (i := 11) (by decide +kernel) rfl, by decide, by decide, by decide +kernel⟩
theorem mY_X6_loadLimbs : mYV yX6_loadLimbs cX6_loadLimbs 6 none 4 := ⟨mem_c2 (i := 231) rfl rfl, mem_c2 (i := 230) (by decide +kernel) rfl, mem_p (i := 0) (by decide +kernel) rfl, mem_c1 (i := 11) (by decide +kernel) rfl, by decide, by decide, by decide +kernel⟩
theorem mY_X6_minus : mYV yX6_minus cX6_minus 7 none 3 := ⟨mem_c6 (i := 7) rfl rfl, mem_c6 (i := 5) (by decide +kernel) rfl, mem_c6 (i := 6) (by decide +kernel) rfl, mem_c1 (i := 11) (by decide +kernel) rfl, by decide, by decide, by decide +kernel⟩
theorem mY_X6_plus : mYV yX6_plus cX6_plus 7 none 3 := ⟨mem_c3 (i := 1) rfl rfl, mem_c2 (i := 239) (by decide +kernel) rfl, mem_c3 (i := 0) (by decide +kernel) rfl, mem_c1 (i := 11) (by decide +kernel) rfl, by decide, by decide, by decide +kernel⟩
theorem mY_X6_raise : mYV yX6_raise cX6_raise 6 none 3 := ⟨mem_c5 (i := 227) rfl rfl, mem_c5 (i := 225) (by decide +kernel) rfl, mem_c5 (i := 226) (by decide +kernel) rfl, mem_c1 (i := 11) (by decide +kernel) rfl, by decide, by decide, by decide +kernel⟩
theorem mY_X6_settle : mYV yX6_settle cX6_settle 5 none 1 := ⟨mem_c3 (i := 5) rfl rfl, mem_c3 (i := 4) (by decide +kernel) rfl, mem_p (i := 1) (by decide +kernel) rfl, mem_c1 (i := 11) (by decide +kernel) rfl, by decide, by decide, by decide +kernel⟩
theorem mY_X6_suits : mYS yX6_suits cX6_suits 1 (some .boolean) 1 := ⟨mem_c5 (i := 217) rfl rfl, mem_c5 (i := 216) (by decide +kernel) rfl, mem_c1 (i := 11) (by decide +kernel) rfl, by decide, by decide, by decide +kernel⟩
theorem mY_X6_take : mYV yX6_take cX6_take 10 none 4 := ⟨mem_c3 (i := 17) rfl rfl, mem_c3 (i := 15) (by decide +kernel) rfl, mem_c3 (i := 16) (by decide +kernel) rfl, mem_c1 (i := 11) (by decide +kernel) rfl, by decide, by decide, by decide +kernel⟩
theorem mY_X6_times : mYV yX6_times cX6_times 12 none 3 := ⟨mem_c3 (i := 12) rfl rfl, mem_c3 (i := 10) (by decide +kernel) rfl, mem_c3 (i := 11) (by decide +kernel) rfl, mem_c1 (i := 11) (by decide +kernel) rfl, by decide, by decide, by decide +kernel⟩
theorem mY_X7_init : mYI yX7_init cX7_init 3 none 2 := ⟨mem_c1 (i := 141) rfl rfl, mem_c1 (i := 140) (by decide +kernel) rfl, mem_c1 (i := 5) (by decide +kernel) rfl, rfl, rfl, by decide, by decide, by decide +kernel⟩
theorem mY_X7_after : mYV yX7_after cX7_after 3 (some .boolean) 1 := ⟨mem_c4 (i := 143) rfl rfl, mem_c4 (i := 142) (by decide +kernel) rfl, mem_p (i := 17) (by decide +kernel) rfl, mem_c1 (i := 5) (by decide +kernel) rfl, by decide, by decide, by decide +kernel⟩
theorem mY_X7_begin : mYV yX7_begin cX7_begin 5 (some .boolean) 1 := ⟨mem_c4 (i := 47) rfl rfl, mem_c4 (i := 46) (by decide +kernel) rfl, mem_p (i := 4) (by decide +kernel) rfl, mem_c1 (i := 5) (by decide +kernel) rfl, by decide, by decide, by decide +kernel⟩
theorem mY_X7_close : mYV yX7_close cX7_close 1 (some .boolean) 0 := ⟨mem_c4 (i := 114) rfl rfl, mem_c4 (i := 113) (by decide +kernel) rfl, mem_p (i := 15) (by decide +kernel) rfl, mem_c1 (i := 5) (by decide +kernel) rfl, by decide, by decide, by decide +kernel⟩
theorem mY_X7_digits : mYV yX7_digits cX7_digits 2 (some .boolean) 0 := ⟨mem_c4 (i := 79) rfl rfl, mem_c4 (i := 78) (by decide +kernel) rfl, mem_p (i := 9) (by decide +kernel) rfl, mem_c1 (i := 5) (by decide +kernel) rfl, by decide, by decide, by decide +kernel⟩
theorem mY_X7_escape : mYV yX7_escape cX7_escape 4 (some .int) 0 := ⟨mem_c4 (i := 88) rfl rfl, mem_c4 (i := 87) (by decide +kernel) rfl, mem_p (i := 11) (by decide +kernel) rfl, mem_c1 (i := 5) (by decide +kernel) rfl, by decide, by decide, by decide +kernel⟩
theorem mY_X7_fourDigits : mYV yX7_fourDigits cX7_fourDigits 6 (some .int) 1 := ⟨mem_c4 (i := 95) rfl rfl, mem_c4 (i := 94) (by decide +kernel) rfl, mem_p (i := 12) (by decide +kernel) rfl, mem_c1 (i := 5) (by decide +kernel) rfl, by decide, by decide, by decide +kernel⟩
theorem mY_X7_goOn : mYV yX7_goOn cX7_goOn 2 (some .boolean) 1 := ⟨mem_c4 (i := 62) rfl rfl, mem_c4 (i := 61) (by decide +kernel) rfl, mem_p (i := 6) (by decide +kernel) rfl, mem_c1 (i := 5) (by decide +kernel) rfl, by decide, by decide, by decide +kernel⟩
theorem mY_X7_hexValue : mYS yX7_hexValue cX7_hexValue 1 (some .int) 1 := ⟨mem_c2 (i := 212) rfl rfl, mem_c2 (i := 211) (by decide +kernel) rfl, mem_c1 (i := 5) (by decide +kernel) rfl, by decide, by decide, by decide +kernel⟩
theorem mY_X7_isBlank : mYS yX7_isBlank cX7_isBlank 1 (some .boolean) 1 := ⟨mem_c4 (i := 42) rfl rfl, mem_c4 (i := 41) (by decide +kernel) rfl, mem_c1 (i := 5) (by decide +kernel) rfl, by decide, by decide, by decide +kernel⟩
theorem mY_X7_kindBegunBy : mYS yX7_kindBegunBy cX7_kindBegunBy 1 (some .int) 1 := ⟨mem_c4 (i := 50) rfl rfl, mem_c4 (i := 49) (by decide +kernel) rfl, mem_c1 (i := 5) (by decide +kernel) rfl, by decide, by decide, by decide +kernel⟩
theorem mY_X7_longForm : mYV yX7_longForm cX7_longForm 7 (some .boolean) 1 := ⟨mem_c4 (i := 110) rfl rfl, mem_c4 (i := 109) (by decide +kernel) rfl, mem_p (i := 14) (by decide +kernel) rfl, mem_c1 (i := 5) (by decide +kernel) rfl, by decide, by decide, by decide +kernel⟩
theorem mY_X7_memberName : mYV yX7_memberName cX7_memberName 3 (some .boolean) 1 := ⟨mem_c4 (i := 122) rfl rfl, mem_c4 (i := 121) (by decide +kernel) rfl, mem_p (i := 16) (by decide +kernel) rfl, mem_c1 (i := 5) (by decide +kernel) rfl, by decide, by decide, by decide +kernel⟩
theorem mY_X7_number : mYV yX7_number cX7_number 2 (some .boolean) 0 := ⟨mem_c4 (i := 75) rfl rfl, mem_c4 (i := 74) (by decide +kernel) rfl, mem_p (i := 8) (by decide +kernel) rfl, mem_c1 (i := 5) (by decide +kernel) rfl, by decide, by decide, by decide +kernel⟩
theorem mY_X7_putPoint : mYV yX7_putPoint cX7_putPoint 3 none 1 := ⟨mem_c4 (i := 105) rfl rfl, mem_c4 (i := 104) (by decide +kernel) rfl, mem_p (i := 13) (by decide +kernel) rfl, mem_c1 (i := 5) (by decide +kernel) rfl, by decide, by decide, by decide +kernel⟩
theorem mY_X7_read : mYV yX7_read cX7_read 6 (some .int) 2 := ⟨mem_c4 (i := 29) rfl rfl, mem_c4 (i := 27) (by decide +kernel) rfl, mem_c4 (i := 28) (by decide +kernel) rfl, mem_c1 (i := 5) (by decide +kernel) rfl, by decide, by decide, by decide +kernel⟩
theorem mY_X7_shortEscaped : mYS yX7_shortEscaped cX7_shortEscaped 1 (some .int) 1 := ⟨mem_c4 (i := 91) rfl rfl, mem_c4 (i := 90) (by decide +kernel) rfl, mem_c1 (i := 5) (by decide +kernel) rfl, by decide, by decide, by decide +kernel⟩
theorem mY_X7_skipBlanks : mYV yX7_skipBlanks cX7_skipBlanks 1 none 0 := ⟨mem_c4 (i := 38) rfl rfl, mem_c4 (i := 37) (by decide +kernel) rfl, mem_p (i := 3) (by decide +kernel) rfl, mem_c1 (i := 5) (by decide +kernel) rfl, by decide, by decide, by decide +kernel⟩
theorem mY_X7_string : mYV yX7_string cX7_string 4 (some .boolean) 0 := ⟨mem_c4 (i := 84) rfl rfl, mem_c4 (i := 83) (by decide +kernel) rfl, mem_p (i := 10) (by decide +kernel) rfl, mem_c1 (i := 5) (by decide +kernel) rfl, by decide, by decide, by decide +kernel⟩
theorem mY_X7_word : mYV yX7_word cX7_word 3 (some .boolean) 1 := ⟨mem_c4 (i := 67) rfl rfl, mem_c4 (i := 66) (by decide +kernel) rfl, mem_p (i := 7) (by decide +kernel) rfl, mem_c1 (i := 5) (by decide +kernel) rfl, by decide, by decide, by decide +kernel⟩
theorem mY_X7_wrong : mYV yX7_wrong cX7_wrong 2 (some .boolean) 1 := ⟨mem_c4 (i := 54) rfl rfl, mem_c4 (i := 53) (by decide +kernel) rfl, mem_p (i := 5) (by decide +kernel) rfl, mem_c1 (i := 5) (by decide +kernel) rfl, by decide, by decide, by decide +kernel⟩
theorem mY_X8_init : mYI yX8_init cX8_init 2 none 1 := ⟨mem_c2 (i := 92) rfl rfl, mem_c2 (i := 91) (by decide +kernel) rfl, mem_c1 (i := 10) (by decide +kernel) rfl, rfl, rfl, by decide, by decide, by decide +kernel⟩
theorem mY_X8_bitsOf : mYS yX8_bitsOf cX8_bitsOf 3 (some .int) 1 := ⟨mem_c7 (i := 76) rfl rfl, mem_c7 (i := 75) (by decide +kernel) rfl, mem_c1 (i := 10) (by decide +kernel) rfl, by decide, by decide, by decide +kernel⟩
theorem mY_X8_framePkcs : mYV yX8_framePkcs cX8_framePkcs 4 none 2 := ⟨mem_c7 (i := 62) rfl rfl, mem_c7 (i := 61) (by decide +kernel) rfl, mem_p (i := 57) (by decide +kernel) rfl, mem_c1 (i := 10) (by decide +kernel) rfl, by decide, by decide, by decide +kernel⟩
theorem mY_X8_hashSalted : mYV yX8_hashSalted cX8_hashSalted 5 none 4 := ⟨mem_c7 (i := 81) rfl rfl, mem_c7 (i := 80) (by decide +kernel) rfl, mem_p (i := 58) (by decide +kernel) rfl, mem_c1 (i := 10) (by decide +kernel) rfl, by decide, by decide, by decide +kernel⟩
theorem mY_X8_isNumberOf : mYV yX8_isNumberOf cX8_isNumberOf 3 (some .boolean) 2 := ⟨mem_c7 (i := 147) rfl rfl, mem_c7 (i := 146) (by decide +kernel) rfl, mem_p (i := 61) (by decide +kernel) rfl, mem_c1 (i := 10) (by decide +kernel) rfl, by decide, by decide, by decide +kernel⟩
theorem mY_X8_isPair : mYV yX8_isPair cX8_isPair 5 (some .boolean) 3 := ⟨mem_c6 (i := 166) rfl rfl, mem_c6 (i := 164) (by decide +kernel) rfl, mem_c6 (i := 165) (by decide +kernel) rfl, mem_c1 (i := 10) (by decide +kernel) rfl, by decide, by decide, by decide +kernel⟩
theorem mY_X8_isPkcsRight : mYV yX8_isPkcsRight cX8_isPkcsRight 5 (some .boolean) 4 := ⟨mem_c7 (i := 143) rfl rfl, mem_c7 (i := 141) (by decide +kernel) rfl, mem_c7 (i := 142) (by decide +kernel) rfl, mem_c1 (i := 10) (by decide +kernel) rfl, by decide, by decide, by decide +kernel⟩
theorem mY_X8_isPssRight : mYV yX8_isPssRight cX8_isPssRight 12 (some .boolean) 4 := ⟨mem_c7 (i := 153) rfl rfl, mem_c7 (i := 151) (by decide +kernel) rfl, mem_c7 (i := 152) (by decide +kernel) rfl, mem_c1 (i := 10) (by decide +kernel) rfl, by decide, by decide, by decide +kernel⟩
theorem mY_X8_maskFrame : mYV yX8_maskFrame cX8_maskFrame 7 none 4 := ⟨mem_c7 (i := 89) rfl rfl, mem_c7 (i := 88) (by decide +kernel) rfl, mem_p (i := 59) (by decide +kernel) rfl, mem_c1 (i := 10) (by decide +kernel) rfl, by decide, by decide, by decide +kernel⟩
theorem mY_X8_openOaep : mYV yX8_openOaep cX8_openOaep 7 (some .boolean) 4 := ⟨mem_c8 (i := 39) rfl rfl, mem_c8 (i := 37) (by decide +kernel) rfl, mem_c8 (i := 38) (by decide +kernel) rfl, mem_c1 (i := 10) (by decide +kernel) rfl, by decide, by decide, by decide +kernel⟩
theorem mY_X8_putEmptyHash : mYV yX8_putEmptyHash cX8_putEmptyHash 2 none 1 := ⟨mem_c7 (i := 220) rfl rfl, mem_c7 (i := 219) (by decide +kernel) rfl, mem_p (i := 66) (by decide +kernel) rfl, mem_c1 (i := 10) (by decide +kernel) rfl, by decide, by decide, by decide +kernel⟩
theorem mY_X8_raise : mYV yX8_raise cX8_raise 5 none 4 := ⟨mem_c5 (i := 221) rfl rfl, mem_c5 (i := 219) (by decide +kernel) rfl, mem_c5 (i := 220) (by decide +kernel) rfl, mem_c1 (i := 10) (by decide +kernel) rfl, by decide, by decide, by decide +kernel⟩
theorem mY_X8_sealOaep : mYV yX8_sealOaep cX8_sealOaep 6 none 5 := ⟨mem_c7 (i := 216) rfl rfl, mem_c7 (i := 214) (by decide +kernel) rfl, mem_c7 (i := 215) (by decide +kernel) rfl, mem_c1 (i := 10) (by decide +kernel) rfl, by decide, by decide, by decide +kernel⟩
theorem mY_X8_signPkcs : mYV yX8_signPkcs cX8_signPkcs 5 none 4 := ⟨mem_c7 (i := 58) rfl rfl, mem_c7 (i := 56) (by decide +kernel) rfl, mem_c7 (i := 57) (by decide +kernel) rfl, mem_c1 (i := 10) (by decide +kernel) rfl, by decide, by decide, by decide +kernel⟩
theorem mY_X8_signPss : mYV yX8_signPss cX8_signPss 9 (some .boolean) 5 := ⟨mem_c7 (i := 73) rfl rfl, mem_c7 (i := 71) (by decide +kernel) rfl, mem_c7 (i := 72) (by decide +kernel) rfl, mem_c1 (i := 10) (by decide +kernel) rfl, by decide, by decide, by decide +kernel⟩
theorem mY_X9_init : mYI yX9_init cX9_init 1 none 0 := ⟨mem_c1 (i := 70) rfl rfl, mem_c1 (i := 69) (by decide +kernel) rfl, mem_c1 (i := 4) (by decide +kernel) rfl, rfl, rfl, by decide, by decide, by decide +kernel⟩
theorem mY_X9_areLetters : mYV yX9_areLetters cX9_areLetters 2 (some .boolean) 1 := ⟨mem_c6 (i := 96) rfl rfl, mem_c6 (i := 94) (by decide +kernel) rfl, mem_c6 (i := 95) (by decide +kernel) rfl, mem_c1 (i := 4) (by decide +kernel) rfl, by decide, by decide, by decide +kernel⟩
theorem mY_X9_begin : mYV yX9_begin cX9_begin 5 (some .int) 3 := ⟨mem_c4 (i := 58) rfl rfl, mem_c4 (i := 56) (by decide +kernel) rfl, mem_c4 (i := 57) (by decide +kernel) rfl, mem_c1 (i := 4) (by decide +kernel) rfl, by decide, by decide, by decide +kernel⟩
theorem mY_X9_clear : mYV yX9_clear cX9_clear 1 none 0 := ⟨mem_c4 (i := 33) rfl rfl, mem_c4 (i := 31) (by decide +kernel) rfl, mem_c4 (i := 32) (by decide +kernel) rfl, mem_c1 (i := 4) (by decide +kernel) rfl, by decide, by decide, by decide +kernel⟩
theorem mY_X9_closeTo : mYV yX9_closeTo cX9_closeTo 6 (some .int) 3 := ⟨mem_c4 (i := 179) rfl rfl, mem_c4 (i := 178) (by decide +kernel) rfl, mem_p (i := 19) (by decide +kernel) rfl, mem_c1 (i := 4) (by decide +kernel) rfl, by decide, by decide, by decide +kernel⟩
theorem mY_X9_find : mYV yX9_find cX9_find 4 (some .int) 2 := ⟨mem_c6 (i := 66) rfl rfl, mem_c6 (i := 64) (by decide +kernel) rfl, mem_c6 (i := 65) (by decide +kernel) rfl, mem_c1 (i := 4) (by decide +kernel) rfl, by decide, by decide, by decide +kernel⟩
theorem mY_X9_has : mYV yX9_has cX9_has 2 (some .boolean) 1 := ⟨mem_c4 (i := 118) rfl rfl, mem_c4 (i := 116) (by decide +kernel) rfl, mem_c4 (i := 117) (by decide +kernel) rfl, mem_c1 (i := 4) (by decide +kernel) rfl, by decide, by decide, by decide +kernel⟩
theorem mY_X9_isKind : mYV yX9_isKind cX9_isKind 3 (some .boolean) 2 := ⟨mem_c4 (i := 130) rfl rfl, mem_c4 (i := 128) (by decide +kernel) rfl, mem_c4 (i := 129) (by decide +kernel) rfl, mem_c1 (i := 4) (by decide +kernel) rfl, by decide, by decide, by decide +kernel⟩
theorem mY_X9_isStringOrNone : mYV yX9_isStringOrNone cX9_isStringOrNone 2 (some .boolean) 1 := ⟨mem_c6 (i := 84) rfl rfl, mem_c6 (i := 82) (by decide +kernel) rfl, mem_c6 (i := 83) (by decide +kernel) rfl, mem_c1 (i := 4) (by decide +kernel) rfl, by decide, by decide, by decide +kernel⟩
theorem mY_X9_named : mYV yX9_named cX9_named 6 (some .int) 4 := ⟨mem_c4 (i := 126) rfl rfl, mem_c4 (i := 124) (by decide +kernel) rfl, mem_c4 (i := 125) (by decide +kernel) rfl, mem_c1 (i := 4) (by decide +kernel) rfl, by decide, by decide, by decide +kernel⟩
theorem mY_X9_poolSays : mYV yX9_poolSays cX9_poolSays 6 (some .boolean) 5 := ⟨mem_c4 (i := 135) rfl rfl, mem_c4 (i := 133) (by decide +kernel) rfl, mem_c4 (i := 134) (by decide +kernel) rfl, mem_c1 (i := 4) (by decide +kernel) rfl, by decide, by decide, by decide +kernel⟩
theorem mY_X9_poolSpells : mYV yX9_poolSpells cX9_poolSpells 5 (some .boolean) 3 := ⟨mem_c6 (i := 70) rfl rfl, mem_c6 (i := 68) (by decide +kernel) rfl, mem_c6 (i := 69) (by decide +kernel) rfl, mem_c1 (i := 4) (by decide +kernel) rfl, by decide, by decide, by decide +kernel⟩
theorem mY_X9_putLettered : mYV yX9_putLettered cX9_putLettered 6 (some .boolean) 4 := ⟨mem_c6 (i := 111) rfl rfl, mem_c6 (i := 109) (by decide +kernel) rfl, mem_c6 (i := 110) (by decide +kernel) rfl, mem_c1 (i := 4) (by decide +kernel) rfl, by decide, by decide, by decide +kernel⟩
theorem mY_X9_putStart : mYV yX9_putStart cX9_putStart 3 none 2 := ⟨mem_c4 (i := 198) rfl rfl, mem_c4 (i := 197) (by decide +kernel) rfl, mem_p (i := 20) (by decide +kernel) rfl, mem_c1 (i := 4) (by decide +kernel) rfl, by decide, by decide, by decide +kernel⟩
theorem mY_X9_putString : mYS yX9_putString cX9_putString 7 none 4 := ⟨mem_c4 (i := 183) rfl rfl, mem_c4 (i := 182) (by decide +kernel) rfl, mem_c1 (i := 4) (by decide +kernel) rfl, by decide, by decide, by decide +kernel⟩
theorem mY_X9_putValue : mYV yX9_putValue cX9_putValue 5 none 2 := ⟨mem_c4 (i := 175) rfl rfl, mem_c4 (i := 173) (by decide +kernel) rfl, mem_c4 (i := 174) (by decide +kernel) rfl, mem_c1 (i := 4) (by decide +kernel) rfl, by decide, by decide, by decide +kernel⟩
theorem mY_X9_says : mYV yX9_says cX9_says 3 (some .boolean) 2 := ⟨mem_c6 (i := 77) rfl rfl, mem_c6 (i := 75) (by decide +kernel) rfl, mem_c6 (i := 76) (by decide +kernel) rfl, mem_c1 (i := 4) (by decide +kernel) rfl, by decide, by decide, by decide +kernel⟩
theorem mY_X9_saysSame : mYV yX9_saysSame cX9_saysSame 3 (some .boolean) 2 := ⟨mem_c7 (i := 134) rfl rfl, mem_c7 (i := 132) (by decide +kernel) rfl, mem_c7 (i := 133) (by decide +kernel) rfl, mem_c1 (i := 4) (by decide +kernel) rfl, by decide, by decide, by decide +kernel⟩
theorem mY_X9_shortEscape : mYS yX9_shortEscape cX9_shortEscape 1 (some .int) 1 := ⟨mem_c4 (i := 187) rfl rfl, mem_c4 (i := 186) (by decide +kernel) rfl, mem_c1 (i := 4) (by decide +kernel) rfl, by decide, by decide, by decide +kernel⟩
theorem mY_X10_init : mYI yX10_init cX10_init 1 none 0 := ⟨mem_c3 (i := 80) rfl rfl, mem_c3 (i := 79) (by decide +kernel) rfl, mem_c1 (i := 18) (by decide +kernel) rfl, rfl, rfl, by decide, by decide, by decide +kernel⟩
theorem mY_X10_draw : mYV yX10_draw cX10_draw 7 (some .boolean) 3 := ⟨mem_c7 (i := 176) rfl rfl, mem_c7 (i := 174) (by decide +kernel) rfl, mem_c7 (i := 175) (by decide +kernel) rfl, mem_c1 (i := 18) (by decide +kernel) rfl, by decide, by decide, by decide +kernel⟩
theorem mY_X10_isCritSound : mYV yX10_isCritSound cX10_isCritSound 4 (some .boolean) 2 := ⟨mem_c7 (i := 26) rfl rfl, mem_c7 (i := 25) (by decide +kernel) rfl, mem_p (i := 52) (by decide +kernel) rfl, mem_c1 (i := 18) (by decide +kernel) rfl, by decide, by decide, by decide +kernel⟩
theorem mY_X10_isFaulty : mYV yX10_isFaulty cX10_isFaulty 3 (some .boolean) 2 := ⟨mem_c7 (i := 111) rfl rfl, mem_c7 (i := 109) (by decide +kernel) rfl, mem_c7 (i := 110) (by decide +kernel) rfl, mem_c1 (i := 18) (by decide +kernel) rfl, by decide, by decide, by decide +kernel⟩
theorem mY_X10_isHeadSound : mYV yX10_isHeadSound cX10_isHeadSound 3 (some .boolean) 2 := ⟨mem_c7 (i := 18) rfl rfl, mem_c7 (i := 17) (by decide +kernel) rfl, mem_p (i := 51) (by decide +kernel) rfl, mem_c1 (i := 18) (by decide +kernel) rfl, by decide, by decide, by decide +kernel⟩
theorem mY_X10_isSaidBefore : mYV yX10_isSaidBefore cX10_isSaidBefore 5 (some .boolean) 3 := ⟨mem_c7 (i := 30) rfl rfl, mem_c7 (i := 29) (by decide +kernel) rfl, mem_p (i := 53) (by decide +kernel) rfl, mem_c1 (i := 18) (by decide +kernel) rfl, by decide, by decide, by decide +kernel⟩
theorem mY_X10_kidSuits : mYV yX10_kidSuits cX10_kidSuits 3 (some .boolean) 2 := ⟨mem_c7 (i := 130) rfl rfl, mem_c7 (i := 128) (by decide +kernel) rfl, mem_c7 (i := 129) (by decide +kernel) rfl, mem_c1 (i := 18) (by decide +kernel) rfl, by decide, by decide, by decide +kernel⟩
theorem mY_X10_listed : mYS yX10_listed cX10_listed 5 (some .int) 4 := ⟨mem_c7 (i := 36) rfl rfl, mem_c7 (i := 35) (by decide +kernel) rfl, mem_c1 (i := 18) (by decide +kernel) rfl, by decide, by decide, by decide +kernel⟩
theorem mY_X10_listedWay : mYS yX10_listedWay cX10_listedWay 3 (some .int) 2 := ⟨mem_c8 (i := 5) rfl rfl, mem_c8 (i := 4) (by decide +kernel) rfl, mem_c1 (i := 18) (by decide +kernel) rfl, by decide, by decide, by decide +kernel⟩
theorem mY_X10_makeSealedHead : mYV yX10_makeSealedHead cX10_makeSealedHead 4 none 3 := ⟨mem_c7 (i := 184) rfl rfl, mem_c7 (i := 182) (by decide +kernel) rfl, mem_c7 (i := 183) (by decide +kernel) rfl, mem_c1 (i := 18) (by decide +kernel) rfl, by decide, by decide, by decide +kernel⟩
theorem mY_X10_makeSignedHead : mYV yX10_makeSignedHead cX10_makeSignedHead 3 none 2 := ⟨mem_c6 (i := 233) rfl rfl, mem_c6 (i := 231) (by decide +kernel) rfl, mem_c6 (i := 232) (by decide +kernel) rfl, mem_c1 (i := 18) (by decide +kernel) rfl, by decide, by decide, by decide +kernel⟩
theorem mY_X10_partBytes : mYV yX10_partBytes cX10_partBytes 2 (some .int) 1 := ⟨mem_c8 (i := 29) rfl rfl, mem_c8 (i := 27) (by decide +kernel) rfl, mem_c8 (i := 28) (by decide +kernel) rfl, mem_c1 (i := 18) (by decide +kernel) rfl, by decide, by decide, by decide +kernel⟩
theorem mY_X10_partEnd : mYV yX10_partEnd cX10_partEnd 2 (some .int) 1 := ⟨mem_c7 (i := 119) rfl rfl, mem_c7 (i := 117) (by decide +kernel) rfl, mem_c7 (i := 118) (by decide +kernel) rfl, mem_c1 (i := 18) (by decide +kernel) rfl, by decide, by decide, by decide +kernel⟩
theorem mY_X10_partStart : mYV yX10_partStart cX10_partStart 2 (some .int) 1 := ⟨mem_c7 (i := 115) rfl rfl, mem_c7 (i := 113) (by decide +kernel) rfl, mem_c7 (i := 114) (by decide +kernel) rfl, mem_c1 (i := 18) (by decide +kernel) rfl, by decide, by decide, by decide +kernel⟩
theorem mY_X10_putKid : mYV yX10_putKid cX10_putKid 2 none 1 := ⟨mem_c7 (i := 6) rfl rfl, mem_c7 (i := 5) (by decide +kernel) rfl, mem_p (i := 50) (by decide +kernel) rfl, mem_c1 (i := 18) (by decide +kernel) rfl, by decide, by decide, by decide +kernel⟩
theorem mY_X10_putParty : mYV yX10_putParty cX10_putParty 3 none 2 := ⟨mem_c7 (i := 199) rfl rfl, mem_c7 (i := 198) (by decide +kernel) rfl, mem_p (i := 63) (by decide +kernel) rfl, mem_c1 (i := 18) (by decide +kernel) rfl, by decide, by decide, by decide +kernel⟩
theorem mY_X10_readPart : mYV yX10_readPart cX10_readPart 4 none 3 := ⟨mem_c7 (i := 124) rfl rfl, mem_c7 (i := 122) (by decide +kernel) rfl, mem_c7 (i := 123) (by decide +kernel) rfl, mem_c1 (i := 18) (by decide +kernel) rfl, by decide, by decide, by decide +kernel⟩
theorem mY_X10_readSealedParts : mYV yX10_readSealedParts cX10_readSealedParts 3 (some .boolean) 2 := ⟨mem_c8 (i := 25) rfl rfl, mem_c8 (i := 23) (by decide +kernel) rfl, mem_c8 (i := 24) (by decide +kernel) rfl, mem_c1 (i := 18) (by decide +kernel) rfl, by decide, by decide, by decide +kernel⟩
theorem mY_X10_sealedHeadReason : mYV yX10_sealedHeadReason cX10_sealedHeadReason 3 (some .int) 1 := ⟨mem_c8 (i := 0) rfl rfl, mem_c7 (i := 238) (by decide +kernel) rfl, mem_c7 (i := 239) (by decide +kernel) rfl, mem_c1 (i := 18) (by decide +kernel) rfl, by decide, by decide, by decide +kernel⟩
theorem mY_X10_sealedLetters : mYV yX10_sealedLetters cX10_sealedLetters 2 (some .int) 1 := ⟨mem_c7 (i := 224) rfl rfl, mem_c7 (i := 222) (by decide +kernel) rfl, mem_c7 (i := 223) (by decide +kernel) rfl, mem_c1 (i := 18) (by decide +kernel) rfl, by decide, by decide, by decide +kernel⟩
theorem mY_X10_signedHeadReason : mYV yX10_signedHeadReason cX10_signedHeadReason 5 (some .int) 1 := ⟨mem_c7 (i := 12) rfl rfl, mem_c7 (i := 10) (by decide +kernel) rfl, mem_c7 (i := 11) (by decide +kernel) rfl, mem_c1 (i := 18) (by decide +kernel) rfl, by decide, by decide, by decide +kernel⟩
theorem mY_X10_split : mYV yX10_split cX10_split 5 (some .boolean) 2 := ⟨mem_c7 (i := 106) rfl rfl, mem_c7 (i := 104) (by decide +kernel) rfl, mem_c7 (i := 105) (by decide +kernel) rfl, mem_c1 (i := 18) (by decide +kernel) rfl, by decide, by decide, by decide +kernel⟩
theorem mY_X10_startHead : mYV yX10_startHead cX10_startHead 2 none 1 := ⟨mem_c6 (i := 238) rfl rfl, mem_c6 (i := 237) (by decide +kernel) rfl, mem_p (i := 49) (by decide +kernel) rfl, mem_c1 (i := 18) (by decide +kernel) rfl, by decide, by decide, by decide +kernel⟩
theorem mY_X10_takeAgreement : mYV yX10_takeAgreement cX10_takeAgreement 3 (some .boolean) 1 := ⟨mem_c8 (i := 9) rfl rfl, mem_c8 (i := 8) (by decide +kernel) rfl, mem_p (i := 67) (by decide +kernel) rfl, mem_c1 (i := 18) (by decide +kernel) rfl, by decide, by decide, by decide +kernel⟩
theorem mY_X10_takeParty : mYS yX10_takeParty cX10_takeParty 3 (some .boolean) 3 := ⟨mem_c8 (i := 18) rfl rfl, mem_c8 (i := 17) (by decide +kernel) rfl, mem_c1 (i := 18) (by decide +kernel) rfl, by decide, by decide, by decide +kernel⟩
theorem mY_X13_init : mYI yX13_init cX13_init 1 none 0 := ⟨mem_c8 (i := 44) rfl rfl, mem_c8 (i := 43) (by decide +kernel) rfl, mem_c1 (i := 19) (by decide +kernel) rfl, rfl, rfl, by decide, by decide, by decide +kernel⟩
theorem mY_X13_addByte : mYV yX13_addByte cX13_addByte 2 none 1 := ⟨mem_c13 (i := 52) rfl rfl, mem_c13 (i := 51) (by decide +kernel) rfl, mem_p (i := 168) (by decide +kernel) rfl, mem_c1 (i := 19) (by decide +kernel) rfl, by decide, by decide, by decide +kernel⟩
theorem mY_X13_addLetters : mYV yX13_addLetters cX13_addLetters 7 none 3 := ⟨mem_c13 (i := 48) rfl rfl, mem_c13 (i := 47) (by decide +kernel) rfl, mem_p (i := 167) (by decide +kernel) rfl, mem_c1 (i := 19) (by decide +kernel) rfl, by decide, by decide, by decide +kernel⟩
theorem mY_X13_addPoint : mYV yX13_addPoint cX13_addPoint 2 none 0 := ⟨mem_c12 (i := 78) rfl rfl, mem_c12 (i := 77) (by decide +kernel) rfl, mem_p (i := 132) (by decide +kernel) rfl, mem_c1 (i := 19) (by decide +kernel) rfl, by decide, by decide, by decide +kernel⟩
theorem mY_X13_agree : mYV yX13_agree cX13_agree 9 (some .boolean) 6 := ⟨mem_c13 (i := 100) rfl rfl, mem_c13 (i := 99) (by decide +kernel) rfl, mem_p (i := 178) (by decide +kernel) rfl, mem_c1 (i := 19) (by decide +kernel) rfl, by decide, by decide, by decide +kernel⟩
theorem mY_X13_agreeFresh : mYV yX13_agreeFresh cX13_agreeFresh 8 none 6 := ⟨mem_c13 (i := 96) rfl rfl, mem_c13 (i := 95) (by decide +kernel) rfl, mem_p (i := 177) (by decide +kernel) rfl, mem_c1 (i := 19) (by decide +kernel) rfl, by decide, by decide, by decide +kernel⟩
theorem mY_X13_agreed : mYV yX13_agreed cX13_agreed 4 (some .int) 1 := ⟨mem_c13 (i := 41) rfl rfl, mem_c13 (i := 40) (by decide +kernel) rfl, mem_p (i := 166) (by decide +kernel) rfl, mem_c1 (i := 19) (by decide +kernel) rfl, by decide, by decide, by decide +kernel⟩
theorem mY_X13_at : mYV yX13_at cX13_at 1 (some .int) 0 := ⟨mem_c10 (i := 122) rfl rfl, mem_c10 (i := 121) (by decide +kernel) rfl, mem_p (i := 75) (by decide +kernel) rfl, mem_c1 (i := 19) (by decide +kernel) rfl, by decide, by decide, by decide +kernel⟩
theorem mY_X13_back : mYV yX13_back cX13_back 4 none 0 := ⟨mem_c11 (i := 169) rfl rfl, mem_c11 (i := 168) (by decide +kernel) rfl, mem_p (i := 111) (by decide +kernel) rfl, mem_c1 (i := 19) (by decide +kernel) rfl, by decide, by decide, by decide +kernel⟩
theorem mY_X13_beginningOf : mYS yX13_beginningOf cX13_beginningOf 1 (some .int) 1 := ⟨mem_c11 (i := 216) rfl rfl, mem_c11 (i := 215) (by decide +kernel) rfl, mem_c1 (i := 19) (by decide +kernel) rfl, by decide, by decide, by decide +kernel⟩
theorem mY_X13_begins : mYS yX13_begins cX13_begins 4 (some .int) 2 := ⟨mem_c12 (i := 218) rfl rfl, mem_c12 (i := 217) (by decide +kernel) rfl, mem_c1 (i := 19) (by decide +kernel) rfl, by decide, by decide, by decide +kernel⟩
theorem mY_X13_bitsOf : mYS yX13_bitsOf cX13_bitsOf 4 (some .int) 3 := ⟨mem_c13 (i := 4) rfl rfl, mem_c13 (i := 3) (by decide +kernel) rfl, mem_c1 (i := 19) (by decide +kernel) rfl, by decide, by decide, by decide +kernel⟩
theorem mY_X13_blanks : mYV yX13_blanks cX13_blanks 1 none 0 := ⟨mem_c10 (i := 118) rfl rfl, mem_c10 (i := 117) (by decide +kernel) rfl, mem_p (i := 74) (by decide +kernel) rfl, mem_c1 (i := 19) (by decide +kernel) rfl, by decide, by decide, by decide +kernel⟩
theorem mY_X13_block : mYV yX13_block cX13_block 4 (some .int) 3 := ⟨mem_c11 (i := 157) rfl rfl, mem_c11 (i := 155) (by decide +kernel) rfl, mem_c11 (i := 156) (by decide +kernel) rfl, mem_c1 (i := 19) (by decide +kernel) rfl, by decide, by decide, by decide +kernel⟩
theorem mY_X13_bytesOf : mYV yX13_bytesOf cX13_bytesOf 6 (some .int) 4 := ⟨mem_c12 (i := 134) rfl rfl, mem_c12 (i := 133) (by decide +kernel) rfl, mem_p (i := 141) (by decide +kernel) rfl, mem_c1 (i := 19) (by decide +kernel) rfl, by decide, by decide, by decide +kernel⟩
theorem mY_X13_code : mYV yX13_code cX13_code 4 (some .int) 3 := ⟨mem_c11 (i := 145) rfl rfl, mem_c11 (i := 143) (by decide +kernel) rfl, mem_c11 (i := 144) (by decide +kernel) rfl, mem_c1 (i := 19) (by decide +kernel) rfl, by decide, by decide, by decide +kernel⟩
theorem mY_X13_codeMark : mYV yX13_codeMark cX13_codeMark 13 none 11 := ⟨mem_c12 (i := 8) rfl rfl, mem_c12 (i := 7) (by decide +kernel) rfl, mem_p (i := 125) (by decide +kernel) rfl, mem_c1 (i := 19) (by decide +kernel) rfl, by decide, by decide, by decide +kernel⟩
theorem mY_X13_codeOf : mYV yX13_codeOf cX13_codeOf 8 (some .int) 4 := ⟨mem_c11 (i := 153) rfl rfl, mem_c11 (i := 152) (by decide +kernel) rfl, mem_p (i := 108) (by decide +kernel) rfl, mem_c1 (i := 19) (by decide +kernel) rfl, by decide, by decide, by decide +kernel⟩
theorem mY_X13_compose : mYV yX13_compose cX13_compose 10 (some .int) 7 := ⟨mem_c13 (i := 112) rfl rfl, mem_c13 (i := 111) (by decide +kernel) rfl, mem_p (i := 181) (by decide +kernel) rfl, mem_c1 (i := 19) (by decide +kernel) rfl, by decide, by decide, by decide +kernel⟩
theorem mY_X13_decode : mYV yX13_decode cX13_decode 3 (some .int) 1 := ⟨mem_c11 (i := 69) rfl rfl, mem_c11 (i := 67) (by decide +kernel) rfl, mem_c11 (i := 68) (by decide +kernel) rfl, mem_c1 (i := 19) (by decide +kernel) rfl, by decide, by decide, by decide +kernel⟩
theorem mY_X13_decrypt : mYV yX13_decrypt cX13_decrypt 10 (some .int) 1 := ⟨mem_c13 (i := 119) rfl rfl, mem_c13 (i := 117) (by decide +kernel) rfl, mem_c13 (i := 118) (by decide +kernel) rfl, mem_c1 (i := 19) (by decide +kernel) rfl, by decide, by decide, by decide +kernel⟩
theorem mY_X13_derive : mYV yX13_derive cX13_derive 6 (some .int) 5 := ⟨mem_c12 (i := 90) rfl rfl, mem_c12 (i := 88) (by decide +kernel) rfl, mem_c12 (i := 89) (by decide +kernel) rfl, mem_c1 (i := 19) (by decide +kernel) rfl, by decide, by decide, by decide +kernel⟩
theorem mY_X13_deriveIt : mYV yX13_deriveIt cX13_deriveIt 16 none 13 := ⟨mem_c12 (i := 94) rfl rfl, mem_c12 (i := 93) (by decide +kernel) rfl, mem_p (i := 135) (by decide +kernel) rfl, mem_c1 (i := 19) (by decide +kernel) rfl, by decide, by decide, by decide +kernel⟩
theorem mY_X13_digest64 : mYV yX13_digest64 cX13_digest64 3 none 0 := ⟨mem_c11 (i := 97) rfl rfl, mem_c11 (i := 96) (by decide +kernel) rfl, mem_p (i := 102) (by decide +kernel) rfl, mem_c1 (i := 19) (by decide +kernel) rfl, by decide, by decide, by decide +kernel⟩
theorem mY_X13_digestMessage : mYV yX13_digestMessage cX13_digestMessage 2 none 0 := ⟨mem_c13 (i := 1) rfl rfl, mem_c13 (i := 0) (by decide +kernel) rfl, mem_p (i := 158) (by decide +kernel) rfl, mem_c1 (i := 19) (by decide +kernel) rfl, by decide, by decide, by decide +kernel⟩
theorem mY_X13_digestNumber : mYV yX13_digestNumber cX13_digestNumber 1 none 0 := ⟨mem_c12 (i := 237) rfl rfl, mem_c12 (i := 236) (by decide +kernel) rfl, mem_p (i := 157) (by decide +kernel) rfl, mem_c1 (i := 19) (by decide +kernel) rfl, by decide, by decide, by decide +kernel⟩
theorem mY_X13_digestOf : mYV yX13_digestOf cX13_digestOf 4 (some .int) 1 := ⟨mem_c11 (i := 93) rfl rfl, mem_c11 (i := 92) (by decide +kernel) rfl, mem_p (i := 101) (by decide +kernel) rfl, mem_c1 (i := 19) (by decide +kernel) rfl, by decide, by decide, by decide +kernel⟩
theorem mY_X13_digits : mYV yX13_digits cX13_digits 1 none 0 := ⟨mem_c11 (i := 4) rfl rfl, mem_c11 (i := 3) (by decide +kernel) rfl, mem_p (i := 89) (by decide +kernel) rfl, mem_c1 (i := 19) (by decide +kernel) rfl, by decide, by decide, by decide +kernel⟩
theorem mY_X13_digits_ : mYS yX13_digits_ cX13_digits_ 4 none 3 := ⟨mem_c8 (i := 103) rfl rfl, mem_c8 (i := 102) (by decide +kernel) rfl, mem_c1 (i := 19) (by decide +kernel) rfl, by decide, by decide, by decide +kernel⟩
theorem mY_X13_drop : mYV yX13_drop cX13_drop 2 (some .int) 1 := ⟨mem_c12 (i := 167) rfl rfl, mem_c12 (i := 165) (by decide +kernel) rfl, mem_c12 (i := 166) (by decide +kernel) rfl, mem_c1 (i := 19) (by decide +kernel) rfl, by decide, by decide, by decide +kernel⟩
theorem mY_X13_empty : mYV yX13_empty cX13_empty 1 none 0 := ⟨mem_c11 (i := 85) rfl rfl, mem_c11 (i := 84) (by decide +kernel) rfl, mem_p (i := 99) (by decide +kernel) rfl, mem_c1 (i := 19) (by decide +kernel) rfl, by decide, by decide, by decide +kernel⟩
theorem mY_X13_encode : mYV yX13_encode cX13_encode 2 (some .int) 1 := ⟨mem_c11 (i := 58) rfl rfl, mem_c11 (i := 56) (by decide +kernel) rfl, mem_c11 (i := 57) (by decide +kernel) rfl, mem_c1 (i := 19) (by decide +kernel) rfl, by decide, by decide, by decide +kernel⟩
theorem mY_X13_encrypt : mYV yX13_encrypt cX13_encrypt 14 (some .int) 7 := ⟨mem_c13 (i := 88) rfl rfl, mem_c13 (i := 86) (by decide +kernel) rfl, mem_c13 (i := 87) (by decide +kernel) rfl, mem_c1 (i := 19) (by decide +kernel) rfl, by decide, by decide, by decide +kernel⟩
theorem mY_X13_end : mYV yX13_end cX13_end 2 (some .int) 1 := ⟨mem_c10 (i := 80) rfl rfl, mem_c10 (i := 78) (by decide +kernel) rfl, mem_c10 (i := 79) (by decide +kernel) rfl, mem_c1 (i := 19) (by decide +kernel) rfl, by decide, by decide, by decide +kernel⟩
theorem mY_X13_escape : mYV yX13_escape cX13_escape 5 none 0 := ⟨mem_c10 (i := 150) rfl rfl, mem_c10 (i := 149) (by decide +kernel) rfl, mem_p (i := 82) (by decide +kernel) rfl, mem_c1 (i := 19) (by decide +kernel) rfl, by decide, by decide, by decide +kernel⟩
theorem mY_X13_fail : mYV yX13_fail cX13_fail 2 none 1 := ⟨mem_c10 (i := 130) rfl rfl, mem_c10 (i := 129) (by decide +kernel) rfl, mem_p (i := 77) (by decide +kernel) rfl, mem_c1 (i := 19) (by decide +kernel) rfl, by decide, by decide, by decide +kernel⟩
theorem mY_X13_feed : mYV yX13_feed cX13_feed 6 (some .int) 5 := ⟨mem_c10 (i := 73) rfl rfl, mem_c10 (i := 71) (by decide +kernel) rfl, mem_c10 (i := 72) (by decide +kernel) rfl, mem_c1 (i := 19) (by decide +kernel) rfl, by decide, by decide, by decide +kernel⟩
theorem mY_X13_fill : mYV yX13_fill cX13_fill 4 none 1 := ⟨mem_c11 (i := 101) rfl rfl, mem_c11 (i := 100) (by decide +kernel) rfl, mem_p (i := 103) (by decide +kernel) rfl, mem_c1 (i := 19) (by decide +kernel) rfl, by decide, by decide, by decide +kernel⟩
theorem mY_X13_fillOut : mYV yX13_fillOut cX13_fillOut 3 none 1 := ⟨mem_c13 (i := 16) rfl rfl, mem_c13 (i := 15) (by decide +kernel) rfl, mem_p (i := 161) (by decide +kernel) rfl, mem_c1 (i := 19) (by decide +kernel) rfl, by decide, by decide, by decide +kernel⟩
theorem mY_X13_firstOf : mYS yX13_firstOf cX13_firstOf 1 (some .long) 1 := ⟨mem_c11 (i := 110) rfl rfl, mem_c11 (i := 109) (by decide +kernel) rfl, mem_c1 (i := 19) (by decide +kernel) rfl, by decide, by decide, by decide +kernel⟩
theorem mY_X13_forth : mYV yX13_forth cX13_forth 7 none 0 := ⟨mem_c11 (i := 177) rfl rfl, mem_c11 (i := 176) (by decide +kernel) rfl, mem_p (i := 113) (by decide +kernel) rfl, mem_c1 (i := 19) (by decide +kernel) rfl, by decide, by decide, by decide +kernel⟩
theorem mY_X13_four : mYV yX13_four cX13_four 6 (some .int) 1 := ⟨mem_c10 (i := 214) rfl rfl, mem_c10 (i := 213) (by decide +kernel) rfl, mem_p (i := 84) (by decide +kernel) rfl, mem_c1 (i := 19) (by decide +kernel) rfl, by decide, by decide, by decide +kernel⟩
theorem mY_X13_gather : mYV yX13_gather cX13_gather 19 none 3 := ⟨mem_c12 (i := 3) rfl rfl, mem_c12 (i := 2) (by decide +kernel) rfl, mem_p (i := 124) (by decide +kernel) rfl, mem_c1 (i := 19) (by decide +kernel) rfl, by decide, by decide, by decide +kernel⟩
theorem mY_X13_gatherAll : mYV yX13_gatherAll cX13_gatherAll 5 none 3 := ⟨mem_c11 (i := 239) rfl rfl, mem_c11 (i := 238) (by decide +kernel) rfl, mem_p (i := 123) (by decide +kernel) rfl, mem_c1 (i := 19) (by decide +kernel) rfl, by decide, by decide, by decide +kernel⟩
theorem mY_X13_getCells : mYV yX13_getCells cX13_getCells 4 none 2 := ⟨mem_c11 (i := 181) rfl rfl, mem_c11 (i := 180) (by decide +kernel) rfl, mem_p (i := 114) (by decide +kernel) rfl, mem_c1 (i := 19) (by decide +kernel) rfl, by decide, by decide, by decide +kernel⟩
theorem mY_X13_getPoint : mYV yX13_getPoint cX13_getPoint 3 (some .boolean) 2 := ⟨mem_c12 (i := 82) rfl rfl, mem_c12 (i := 81) (by decide +kernel) rfl, mem_p (i := 133) (by decide +kernel) rfl, mem_c1 (i := 19) (by decide +kernel) rfl, by decide, by decide, by decide +kernel⟩
theorem mY_X13_good : mYV yX13_good cX13_good 1 (some .boolean) 0 := ⟨mem_c10 (i := 138) rfl rfl, mem_c10 (i := 137) (by decide +kernel) rfl, mem_p (i := 79) (by decide +kernel) rfl, mem_c1 (i := 19) (by decide +kernel) rfl, by decide, by decide, by decide +kernel⟩
theorem mY_X13_hasKid : mYV yX13_hasKid cX13_hasKid 2 (some .boolean) 1 := ⟨mem_c13 (i := 68) rfl rfl, mem_c13 (i := 67) (by decide +kernel) rfl, mem_p (i := 171) (by decide +kernel) rfl, mem_c1 (i := 19) (by decide +kernel) rfl, by decide, by decide, by decide +kernel⟩
theorem mY_X13_hash : mYV yX13_hash cX13_hash 3 (some .int) 2 := ⟨mem_c11 (i := 81) rfl rfl, mem_c11 (i := 79) (by decide +kernel) rfl, mem_c11 (i := 80) (by decide +kernel) rfl, mem_c1 (i := 19) (by decide +kernel) rfl, by decide, by decide, by decide +kernel⟩
theorem mY_X13_headOf : mYV yX13_headOf cX13_headOf 11 (some .int) 4 := ⟨mem_c13 (i := 21) rfl rfl, mem_c13 (i := 20) (by decide +kernel) rfl, mem_p (i := 162) (by decide +kernel) rfl, mem_c1 (i := 19) (by decide +kernel) rfl, by decide, by decide, by decide +kernel⟩
theorem mY_X13_hexOf : mYS yX13_hexOf cX13_hexOf 1 (some .int) 1 := ⟨mem_c8 (i := 107) rfl rfl, mem_c8 (i := 106) (by decide +kernel) rfl, mem_c1 (i := 19) (by decide +kernel) rfl, by decide, by decide, by decide +kernel⟩
theorem mY_X13_isBelow : mYV yX13_isBelow cX13_isBelow 6 (some .boolean) 3 := ⟨mem_c13 (i := 80) rfl rfl, mem_c13 (i := 79) (by decide +kernel) rfl, mem_p (i := 174) (by decide +kernel) rfl, mem_c1 (i := 19) (by decide +kernel) rfl, by decide, by decide, by decide +kernel⟩
theorem mY_X13_isCipherKey : mYV yX13_isCipherKey cX13_isCipherKey 2 (some .boolean) 1 := ⟨mem_c11 (i := 189) rfl rfl, mem_c11 (i := 188) (by decide +kernel) rfl, mem_p (i := 115) (by decide +kernel) rfl, mem_c1 (i := 19) (by decide +kernel) rfl, by decide, by decide, by decide +kernel⟩
theorem mY_X13_isContent : mYV yX13_isContent cX13_isContent 6 (some .boolean) 5 := ⟨mem_c11 (i := 210) rfl rfl, mem_c11 (i := 209) (by decide +kernel) rfl, mem_p (i := 118) (by decide +kernel) rfl, mem_c1 (i := 19) (by decide +kernel) rfl, by decide, by decide, by decide +kernel⟩
theorem mY_X13_isCrit : mYV yX13_isCrit cX13_isCrit 7 (some .boolean) 2 := ⟨mem_c13 (i := 26) rfl rfl, mem_c13 (i := 25) (by decide +kernel) rfl, mem_p (i := 163) (by decide +kernel) rfl, mem_c1 (i := 19) (by decide +kernel) rfl, by decide, by decide, by decide +kernel⟩
theorem mY_X13_isDigit : mYS yX13_isDigit cX13_isDigit 1 (some .boolean) 1 := ⟨mem_c8 (i := 110) rfl rfl, mem_c8 (i := 109) (by decide +kernel) rfl, mem_c1 (i := 19) (by decide +kernel) rfl, by decide, by decide, by decide +kernel⟩
theorem mY_X13_isEc : mYV yX13_isEc cX13_isEc 2 (some .boolean) 0 := ⟨mem_c12 (i := 149) rfl rfl, mem_c12 (i := 148) (by decide +kernel) rfl, mem_p (i := 144) (by decide +kernel) rfl, mem_c1 (i := 19) (by decide +kernel) rfl, by decide, by decide, by decide +kernel⟩
theorem mY_X13_isKey : mYV yX13_isKey cX13_isKey 2 (some .boolean) 1 := ⟨mem_c12 (i := 171) rfl rfl, mem_c12 (i := 170) (by decide +kernel) rfl, mem_p (i := 148) (by decide +kernel) rfl, mem_c1 (i := 19) (by decide +kernel) rfl, by decide, by decide, by decide +kernel⟩
theorem mY_X13_isKnown : mYV yX13_isKnown cX13_isKnown 6 (some .boolean) 2 := ⟨mem_c13 (i := 31) rfl rfl, mem_c13 (i := 30) (by decide +kernel) rfl, mem_p (i := 164) (by decide +kernel) rfl, mem_c1 (i := 19) (by decide +kernel) rfl, by decide, by decide, by decide +kernel⟩
theorem mY_X13_isLessThan : mYV yX13_isLessThan cX13_isLessThan 6 (some .boolean) 4 := ⟨mem_c12 (i := 145) rfl rfl, mem_c12 (i := 144) (by decide +kernel) rfl, mem_p (i := 143) (by decide +kernel) rfl, mem_c1 (i := 19) (by decide +kernel) rfl, by decide, by decide, by decide +kernel⟩
theorem mY_X13_isOdd : mYV yX13_isOdd cX13_isOdd 4 (some .boolean) 2 := ⟨mem_c12 (i := 123) rfl rfl, mem_c12 (i := 122) (by decide +kernel) rfl, mem_p (i := 140) (by decide +kernel) rfl, mem_c1 (i := 19) (by decide +kernel) rfl, by decide, by decide, by decide +kernel⟩
theorem mY_X13_isRow : mYS yX13_isRow cX13_isRow 1 (some .boolean) 1 := ⟨mem_c10 (i := 87) rfl rfl, mem_c10 (i := 86) (by decide +kernel) rfl, mem_c1 (i := 19) (by decide +kernel) rfl, by decide, by decide, by decide +kernel⟩
theorem mY_X13_isRsa : mYV yX13_isRsa cX13_isRsa 2 (some .boolean) 0 := ⟨mem_c12 (i := 141) rfl rfl, mem_c12 (i := 140) (by decide +kernel) rfl, mem_p (i := 142) (by decide +kernel) rfl, mem_c1 (i := 19) (by decide +kernel) rfl, by decide, by decide, by decide +kernel⟩
theorem mY_X13_isSaid : mYV yX13_isSaid cX13_isSaid 6 (some .boolean) 3 := ⟨mem_c12 (i := 107) rfl rfl, mem_c12 (i := 106) (by decide +kernel) rfl, mem_p (i := 137) (by decide +kernel) rfl, mem_c1 (i := 19) (by decide +kernel) rfl, by decide, by decide, by decide +kernel⟩
theorem mY_X13_isSalted : mYV yX13_isSalted cX13_isSalted 7 (some .boolean) 2 := ⟨mem_c13 (i := 84) rfl rfl, mem_c13 (i := 83) (by decide +kernel) rfl, mem_p (i := 175) (by decide +kernel) rfl, mem_c1 (i := 19) (by decide +kernel) rfl, by decide, by decide, by decide +kernel⟩
theorem mY_X13_isSecret : mYV yX13_isSecret cX13_isSecret 3 (some .boolean) 2 := ⟨mem_c12 (i := 153) rfl rfl, mem_c12 (i := 152) (by decide +kernel) rfl, mem_p (i := 145) (by decide +kernel) rfl, mem_c1 (i := 19) (by decide +kernel) rfl, by decide, by decide, by decide +kernel⟩
theorem mY_X13_isSigned : mYV yX13_isSigned cX13_isSigned 5 (some .boolean) 2 := ⟨mem_c13 (i := 72) rfl rfl, mem_c13 (i := 71) (by decide +kernel) rfl, mem_p (i := 172) (by decide +kernel) rfl, mem_c1 (i := 19) (by decide +kernel) rfl, by decide, by decide, by decide +kernel⟩
theorem mY_X13_isSignedPoint : mYV yX13_isSignedPoint cX13_isSignedPoint 4 (some .boolean) 1 := ⟨mem_c13 (i := 76) rfl rfl, mem_c13 (i := 75) (by decide +kernel) rfl, mem_p (i := 173) (by decide +kernel) rfl, mem_c1 (i := 19) (by decide +kernel) rfl, by decide, by decide, by decide +kernel⟩
theorem mY_X13_isString : mYV yX13_isString cX13_isString 3 (some .boolean) 2 := ⟨mem_c12 (i := 116) rfl rfl, mem_c12 (i := 115) (by decide +kernel) rfl, mem_p (i := 139) (by decide +kernel) rfl, mem_c1 (i := 19) (by decide +kernel) rfl, by decide, by decide, by decide +kernel⟩
theorem mY_X13_isValue : mYV yX13_isValue cX13_isValue 2 (some .boolean) 1 := ⟨mem_c11 (i := 12) rfl rfl, mem_c11 (i := 11) (by decide +kernel) rfl, mem_p (i := 90) (by decide +kernel) rfl, mem_c1 (i := 19) (by decide +kernel) rfl, by decide, by decide, by decide +kernel⟩
theorem mY_X13_json : mYV yX13_json cX13_json 2 (some .int) 1 := ⟨mem_c10 (i := 110) rfl rfl, mem_c10 (i := 108) (by decide +kernel) rfl, mem_c10 (i := 109) (by decide +kernel) rfl, mem_c1 (i := 19) (by decide +kernel) rfl, by decide, by decide, by decide +kernel⟩
theorem mY_X13_keep : mYV yX13_keep cX13_keep 2 (some .int) 1 := ⟨mem_c10 (i := 94) rfl rfl, mem_c10 (i := 92) (by decide +kernel) rfl, mem_c10 (i := 93) (by decide +kernel) rfl, mem_c1 (i := 19) (by decide +kernel) rfl, by decide, by decide, by decide +kernel⟩
theorem mY_X13_keep8 : mYV yX13_keep8 cX13_keep8 2 none 1 := ⟨mem_c10 (i := 210) rfl rfl, mem_c10 (i := 209) (by decide +kernel) rfl, mem_p (i := 83) (by decide +kernel) rfl, mem_c1 (i := 19) (by decide +kernel) rfl, by decide, by decide, by decide +kernel⟩
theorem mY_X13_keepKey : mYV yX13_keepKey cX13_keepKey 5 none 3 := ⟨mem_c12 (i := 157) rfl rfl, mem_c12 (i := 156) (by decide +kernel) rfl, mem_p (i := 146) (by decide +kernel) rfl, mem_c1 (i := 19) (by decide +kernel) rfl, by decide, by decide, by decide +kernel⟩
theorem mY_X13_keepWord : mYV yX13_keepWord cX13_keepWord 6 (some .int) 4 := ⟨mem_c12 (i := 163) rfl rfl, mem_c12 (i := 162) (by decide +kernel) rfl, mem_p (i := 147) (by decide +kernel) rfl, mem_c1 (i := 19) (by decide +kernel) rfl, by decide, by decide, by decide +kernel⟩
theorem mY_X13_key : mYV yX13_key cX13_key 7 (some .int) 1 := ⟨mem_c12 (i := 98) rfl rfl, mem_c12 (i := 96) (by decide +kernel) rfl, mem_c12 (i := 97) (by decide +kernel) rfl, mem_c1 (i := 19) (by decide +kernel) rfl, by decide, by decide, by decide +kernel⟩
theorem mY_X13_keyComes : mYV yX13_keyComes cX13_keyComes 6 (some .boolean) 3 := ⟨mem_c13 (i := 123) rfl rfl, mem_c13 (i := 122) (by decide +kernel) rfl, mem_p (i := 182) (by decide +kernel) rfl, mem_c1 (i := 19) (by decide +kernel) rfl, by decide, by decide, by decide +kernel⟩
theorem mY_X13_keyOf : mYS yX13_keyOf cX13_keyOf 1 (some .int) 1 := ⟨mem_c11 (i := 213) rfl rfl, mem_c11 (i := 212) (by decide +kernel) rfl, mem_c1 (i := 19) (by decide +kernel) rfl, by decide, by decide, by decide +kernel⟩
theorem mY_X13_late : mYV yX13_late cX13_late 4 (some .int) 3 := ⟨mem_c12 (i := 225) rfl rfl, mem_c12 (i := 224) (by decide +kernel) rfl, mem_p (i := 154) (by decide +kernel) rfl, mem_c1 (i := 19) (by decide +kernel) rfl, by decide, by decide, by decide +kernel⟩
theorem mY_X13_lay : mYV yX13_lay cX13_lay 4 none 3 := ⟨mem_c11 (i := 89) rfl rfl, mem_c11 (i := 88) (by decide +kernel) rfl, mem_p (i := 100) (by decide +kernel) rfl, mem_c1 (i := 19) (by decide +kernel) rfl, by decide, by decide, by decide +kernel⟩
theorem mY_X13_layCipher : mYV yX13_layCipher cX13_layCipher 5 none 0 := ⟨mem_c8 (i := 89) rfl rfl, mem_c8 (i := 88) (by decide +kernel) rfl, mem_p (i := 69) (by decide +kernel) rfl, mem_c1 (i := 19) (by decide +kernel) rfl, by decide, by decide, by decide +kernel⟩
theorem mY_X13_layCurve : mYV yX13_layCurve cX13_layCurve 1 none 0 := ⟨mem_c8 (i := 99) rfl rfl, mem_c8 (i := 98) (by decide +kernel) rfl, mem_p (i := 70) (by decide +kernel) rfl, mem_c1 (i := 19) (by decide +kernel) rfl, by decide, by decide, by decide +kernel⟩
theorem mY_X13_layNumber : mYV yX13_layNumber cX13_layNumber 4 none 2 := ⟨mem_c11 (i := 107) rfl rfl, mem_c11 (i := 106) (by decide +kernel) rfl, mem_p (i := 104) (by decide +kernel) rfl, mem_c1 (i := 19) (by decide +kernel) rfl, by decide, by decide, by decide +kernel⟩
theorem mY_X13_lets : mYV yX13_lets cX13_lets 6 (some .boolean) 4 := ⟨mem_c12 (i := 203) rfl rfl, mem_c12 (i := 202) (by decide +kernel) rfl, mem_p (i := 151) (by decide +kernel) rfl, mem_c1 (i := 19) (by decide +kernel) rfl, by decide, by decide, by decide +kernel⟩
theorem mY_X13_letterOf : mYS yX13_letterOf cX13_letterOf 1 (some .int) 1 := ⟨mem_c11 (i := 65) rfl rfl, mem_c11 (i := 64) (by decide +kernel) rfl, mem_c1 (i := 19) (by decide +kernel) rfl, by decide, by decide, by decide +kernel⟩
theorem mY_X13_longAt : mYS yX13_longAt cX13_longAt 6 (some .long) 3 := ⟨mem_c11 (i := 121) rfl rfl, mem_c11 (i := 120) (by decide +kernel) rfl, mem_c1 (i := 19) (by decide +kernel) rfl, by decide, by decide, by decide +kernel⟩
theorem mY_X13_markOf : mYS yX13_markOf cX13_markOf 1 (some .int) 1 := ⟨mem_c11 (i := 219) rfl rfl, mem_c11 (i := 218) (by decide +kernel) rfl, mem_c1 (i := 19) (by decide +kernel) rfl, by decide, by decide, by decide +kernel⟩
theorem mY_X13_maskOn : mYV yX13_maskOn cX13_maskOn 10 none 6 := ⟨mem_c13 (i := 12) rfl rfl, mem_c13 (i := 11) (by decide +kernel) rfl, mem_p (i := 160) (by decide +kernel) rfl, mem_c1 (i := 19) (by decide +kernel) rfl, by decide, by decide, by decide +kernel⟩
theorem mY_X13_maySeal : mYV yX13_maySeal cX13_maySeal 7 (some .boolean) 4 := ⟨mem_c13 (i := 92) rfl rfl, mem_c13 (i := 91) (by decide +kernel) rfl, mem_p (i := 176) (by decide +kernel) rfl, mem_c1 (i := 19) (by decide +kernel) rfl, by decide, by decide, by decide +kernel⟩
theorem mY_X13_maySign : mYV yX13_maySign cX13_maySign 6 (some .boolean) 3 := ⟨mem_c12 (i := 198) rfl rfl, mem_c12 (i := 197) (by decide +kernel) rfl, mem_p (i := 150) (by decide +kernel) rfl, mem_c1 (i := 19) (by decide +kernel) rfl, by decide, by decide, by decide +kernel⟩
theorem mY_X13_member : mYV yX13_member cX13_member 5 (some .int) 2 := ⟨mem_c11 (i := 28) rfl rfl, mem_c11 (i := 26) (by decide +kernel) rfl, mem_c11 (i := 27) (by decide +kernel) rfl, mem_c1 (i := 19) (by decide +kernel) rfl, by decide, by decide, by decide +kernel⟩
theorem mY_X13_memberOf : mYV yX13_memberOf cX13_memberOf 6 (some .int) 3 := ⟨mem_c12 (i := 103) rfl rfl, mem_c12 (i := 102) (by decide +kernel) rfl, mem_p (i := 136) (by decide +kernel) rfl, mem_c1 (i := 19) (by decide +kernel) rfl, by decide, by decide, by decide +kernel⟩
theorem mY_X13_move : mYS yX13_move cX13_move 6 none 5 := ⟨mem_c10 (i := 90) rfl rfl, mem_c10 (i := 89) (by decide +kernel) rfl, mem_c1 (i := 19) (by decide +kernel) rfl, by decide, by decide, by decide +kernel⟩
theorem mY_X13_multiply : mYV yX13_multiply cX13_multiply 4 (some .int) 2 := ⟨mem_c12 (i := 48) rfl rfl, mem_c12 (i := 46) (by decide +kernel) rfl, mem_c12 (i := 47) (by decide +kernel) rfl, mem_c1 (i := 19) (by decide +kernel) rfl, by decide, by decide, by decide +kernel⟩
theorem mY_X13_name : mYV yX13_name cX13_name 3 (some .int) 1 := ⟨mem_c11 (i := 24) rfl rfl, mem_c11 (i := 22) (by decide +kernel) rfl, mem_c11 (i := 23) (by decide +kernel) rfl, mem_c1 (i := 19) (by decide +kernel) rfl, by decide, by decide, by decide +kernel⟩
theorem mY_X13_nameOf : mYV yX13_nameOf cX13_nameOf 5 (some .int) 2 := ⟨mem_c13 (i := 104) rfl rfl, mem_c13 (i := 103) (by decide +kernel) rfl, mem_p (i := 179) (by decide +kernel) rfl, mem_c1 (i := 19) (by decide +kernel) rfl, by decide, by decide, by decide +kernel⟩
theorem mY_X13_number : mYV yX13_number cX13_number 1 none 0 := ⟨mem_c11 (i := 0) rfl rfl, mem_c10 (i := 239) (by decide +kernel) rfl, mem_p (i := 88) (by decide +kernel) rfl, mem_c1 (i := 19) (by decide +kernel) rfl, by decide, by decide, by decide +kernel⟩
theorem mY_X13_open : mYV yX13_open cX13_open 8 (some .int) 5 := ⟨mem_c12 (i := 12) rfl rfl, mem_c12 (i := 10) (by decide +kernel) rfl, mem_c12 (i := 11) (by decide +kernel) rfl, mem_c1 (i := 19) (by decide +kernel) rfl, by decide, by decide, by decide +kernel⟩
theorem mY_X13_openIt : mYV yX13_openIt cX13_openIt 18 (some .boolean) 13 := ⟨mem_c12 (i := 16) rfl rfl, mem_c12 (i := 15) (by decide +kernel) rfl, mem_p (i := 126) (by decide +kernel) rfl, mem_c1 (i := 19) (by decide +kernel) rfl, by decide, by decide, by decide +kernel⟩
theorem mY_X13_openRsa : mYV yX13_openRsa cX13_openRsa 6 (some .int) 1 := ⟨mem_c13 (i := 127) rfl rfl, mem_c13 (i := 126) (by decide +kernel) rfl, mem_p (i := 183) (by decide +kernel) rfl, mem_c1 (i := 19) (by decide +kernel) rfl, by decide, by decide, by decide +kernel⟩
theorem mY_X13_out : mYV yX13_out cX13_out 2 (some .int) 1 := ⟨mem_c10 (i := 106) rfl rfl, mem_c10 (i := 104) (by decide +kernel) rfl, mem_c10 (i := 105) (by decide +kernel) rfl, mem_c1 (i := 19) (by decide +kernel) rfl, by decide, by decide, by decide +kernel⟩
theorem mY_X13_pointsOf : mYV yX13_pointsOf cX13_pointsOf 4 (some .int) 1 := ⟨mem_c13 (i := 64) rfl rfl, mem_c13 (i := 63) (by decide +kernel) rfl, mem_p (i := 170) (by decide +kernel) rfl, mem_c1 (i := 19) (by decide +kernel) rfl, by decide, by decide, by decide +kernel⟩
theorem mY_X13_poke : mYV yX13_poke cX13_poke 4 (some .int) 3 := ⟨mem_c10 (i := 98) rfl rfl, mem_c10 (i := 96) (by decide +kernel) rfl, mem_c10 (i := 97) (by decide +kernel) rfl, mem_c1 (i := 19) (by decide +kernel) rfl, by decide, by decide, by decide +kernel⟩
theorem mY_X13_power : mYV yX13_power cX13_power 6 (some .int) 3 := ⟨mem_c12 (i := 20) rfl rfl, mem_c12 (i := 18) (by decide +kernel) rfl, mem_c12 (i := 19) (by decide +kernel) rfl, mem_c1 (i := 19) (by decide +kernel) rfl, by decide, by decide, by decide +kernel⟩
theorem mY_X13_print : mYV yX13_print cX13_print 2 (some .int) 1 := ⟨mem_c12 (i := 179) rfl rfl, mem_c12 (i := 177) (by decide +kernel) rfl, mem_c12 (i := 178) (by decide +kernel) rfl, mem_c1 (i := 19) (by decide +kernel) rfl, by decide, by decide, by decide +kernel⟩
theorem mY_X13_put : mYS yX13_put cX13_put 6 none 4 := ⟨mem_c10 (i := 76) rfl rfl, mem_c10 (i := 75) (by decide +kernel) rfl, mem_c1 (i := 19) (by decide +kernel) rfl, by decide, by decide, by decide +kernel⟩
theorem mY_X13_raise : mYV yX13_raise cX13_raise 10 none 9 := ⟨mem_c12 (i := 24) rfl rfl, mem_c12 (i := 23) (by decide +kernel) rfl, mem_p (i := 127) (by decide +kernel) rfl, mem_c1 (i := 19) (by decide +kernel) rfl, by decide, by decide, by decide +kernel⟩
theorem mY_X13_read : mYV yX13_read cX13_read 5 (some .boolean) 4 := ⟨mem_c10 (i := 114) rfl rfl, mem_c10 (i := 113) (by decide +kernel) rfl, mem_p (i := 73) (by decide +kernel) rfl, mem_c1 (i := 19) (by decide +kernel) rfl, by decide, by decide, by decide +kernel⟩
theorem mY_X13_readMany : mYV yX13_readMany cX13_readMany 10 none 2 := ⟨mem_c10 (i := 134) rfl rfl, mem_c10 (i := 133) (by decide +kernel) rfl, mem_p (i := 78) (by decide +kernel) rfl, mem_c1 (i := 19) (by decide +kernel) rfl, by decide, by decide, by decide +kernel⟩
theorem mY_X13_readName : mYV yX13_readName cX13_readName 5 none 1 := ⟨mem_c10 (i := 142) rfl rfl, mem_c10 (i := 141) (by decide +kernel) rfl, mem_p (i := 80) (by decide +kernel) rfl, mem_c1 (i := 19) (by decide +kernel) rfl, by decide, by decide, by decide +kernel⟩
theorem mY_X13_readString : mYV yX13_readString cX13_readString 2 none 0 := ⟨mem_c10 (i := 146) rfl rfl, mem_c10 (i := 145) (by decide +kernel) rfl, mem_p (i := 81) (by decide +kernel) rfl, mem_c1 (i := 19) (by decide +kernel) rfl, by decide, by decide, by decide +kernel⟩
theorem mY_X13_readValue : mYV yX13_readValue cX13_readValue 8 none 2 := ⟨mem_c10 (i := 126) rfl rfl, mem_c10 (i := 125) (by decide +kernel) rfl, mem_p (i := 76) (by decide +kernel) rfl, mem_c1 (i := 19) (by decide +kernel) rfl, by decide, by decide, by decide +kernel⟩
theorem mY_X13_right : mYS yX13_right cX13_right 2 (some .int) 2 := ⟨mem_c11 (i := 139) rfl rfl, mem_c11 (i := 138) (by decide +kernel) rfl, mem_c1 (i := 19) (by decide +kernel) rfl, by decide, by decide, by decide +kernel⟩
theorem mY_X13_right64 : mYS yX13_right64 cX13_right64 3 (some .long) 2 := ⟨mem_c11 (i := 129) rfl rfl, mem_c11 (i := 128) (by decide +kernel) rfl, mem_c1 (i := 19) (by decide +kernel) rfl, by decide, by decide, by decide +kernel⟩
theorem mY_X13_row : mYV yX13_row cX13_row 2 (some .int) 1 := ⟨mem_c10 (i := 84) rfl rfl, mem_c10 (i := 82) (by decide +kernel) rfl, mem_c10 (i := 83) (by decide +kernel) rfl, mem_c1 (i := 19) (by decide +kernel) rfl, by decide, by decide, by decide +kernel⟩
theorem mY_X13_saidOut : mYV yX13_saidOut cX13_saidOut 1 (some .int) 0 := ⟨mem_c13 (i := 56) rfl rfl, mem_c13 (i := 55) (by decide +kernel) rfl, mem_p (i := 169) (by decide +kernel) rfl, mem_c1 (i := 19) (by decide +kernel) rfl, by decide, by decide, by decide +kernel⟩
theorem mY_X13_saltOut : mYV yX13_saltOut cX13_saltOut 8 none 4 := ⟨mem_c13 (i := 8) rfl rfl, mem_c13 (i := 7) (by decide +kernel) rfl, mem_p (i := 159) (by decide +kernel) rfl, mem_c1 (i := 19) (by decide +kernel) rfl, by decide, by decide, by decide +kernel⟩
theorem mY_X13_same : mYS yX13_same cX13_same 7 (some .boolean) 5 := ⟨mem_c10 (i := 228) rfl rfl, mem_c10 (i := 227) (by decide +kernel) rfl, mem_c1 (i := 19) (by decide +kernel) rfl, by decide, by decide, by decide +kernel⟩
theorem mY_X13_saved : mYV yX13_saved cX13_saved 1 (some .int) 0 := ⟨mem_c11 (i := 54) rfl rfl, mem_c11 (i := 53) (by decide +kernel) rfl, mem_p (i := 96) (by decide +kernel) rfl, mem_c1 (i := 19) (by decide +kernel) rfl, by decide, by decide, by decide +kernel⟩
theorem mY_X13_say : mYV yX13_say cX13_say 2 none 1 := ⟨mem_c11 (i := 44) rfl rfl, mem_c11 (i := 43) (by decide +kernel) rfl, mem_p (i := 94) (by decide +kernel) rfl, mem_c1 (i := 19) (by decide +kernel) rfl, by decide, by decide, by decide +kernel⟩
theorem mY_X13_sayAll : mYV yX13_sayAll cX13_sayAll 3 none 1 := ⟨mem_c11 (i := 40) rfl rfl, mem_c11 (i := 39) (by decide +kernel) rfl, mem_p (i := 93) (by decide +kernel) rfl, mem_c1 (i := 19) (by decide +kernel) rfl, by decide, by decide, by decide +kernel⟩
theorem mY_X13_sayHead : mYV yX13_sayHead cX13_sayHead 5 none 4 := ⟨mem_c12 (i := 210) rfl rfl, mem_c12 (i := 209) (by decide +kernel) rfl, mem_p (i := 152) (by decide +kernel) rfl, mem_c1 (i := 19) (by decide +kernel) rfl, by decide, by decide, by decide +kernel⟩
theorem mY_X13_sayLetters : mYV yX13_sayLetters cX13_sayLetters 7 none 3 := ⟨mem_c11 (i := 62) rfl rfl, mem_c11 (i := 61) (by decide +kernel) rfl, mem_p (i := 97) (by decide +kernel) rfl, mem_c1 (i := 19) (by decide +kernel) rfl, by decide, by decide, by decide +kernel⟩
theorem mY_X13_sayPart : mYV yX13_sayPart cX13_sayPart 5 none 4 := ⟨mem_c12 (i := 184) rfl rfl, mem_c12 (i := 183) (by decide +kernel) rfl, mem_p (i := 149) (by decide +kernel) rfl, mem_c1 (i := 19) (by decide +kernel) rfl, by decide, by decide, by decide +kernel⟩
theorem mY_X13_sayString : mYV yX13_sayString cX13_sayString 7 none 3 := ⟨mem_c11 (i := 48) rfl rfl, mem_c11 (i := 47) (by decide +kernel) rfl, mem_p (i := 95) (by decide +kernel) rfl, mem_c1 (i := 19) (by decide +kernel) rfl, by decide, by decide, by decide +kernel⟩
theorem mY_X13_sayValue : mYV yX13_sayValue cX13_sayValue 6 none 1 := ⟨mem_c11 (i := 36) rfl rfl, mem_c11 (i := 35) (by decide +kernel) rfl, mem_p (i := 92) (by decide +kernel) rfl, mem_c1 (i := 19) (by decide +kernel) rfl, by decide, by decide, by decide +kernel⟩
theorem mY_X13_sayWord : mYV yX13_sayWord cX13_sayWord 4 none 2 := ⟨mem_c12 (i := 215) rfl rfl, mem_c12 (i := 214) (by decide +kernel) rfl, mem_p (i := 153) (by decide +kernel) rfl, mem_c1 (i := 19) (by decide +kernel) rfl, by decide, by decide, by decide +kernel⟩
theorem mY_X13_says : mYV yX13_says cX13_says 4 (some .boolean) 3 := ⟨mem_c12 (i := 112) rfl rfl, mem_c12 (i := 111) (by decide +kernel) rfl, mem_p (i := 138) (by decide +kernel) rfl, mem_c1 (i := 19) (by decide +kernel) rfl, by decide, by decide, by decide +kernel⟩
theorem mY_X13_seal : mYV yX13_seal cX13_seal 7 (some .int) 5 := ⟨mem_c11 (i := 206) rfl rfl, mem_c11 (i := 204) (by decide +kernel) rfl, mem_c11 (i := 205) (by decide +kernel) rfl, mem_c1 (i := 19) (by decide +kernel) rfl, by decide, by decide, by decide +kernel⟩
theorem mY_X13_sealIt : mYV yX13_sealIt cX13_sealIt 17 none 11 := ⟨mem_c11 (i := 223) rfl rfl, mem_c11 (i := 222) (by decide +kernel) rfl, mem_p (i := 119) (by decide +kernel) rfl, mem_c1 (i := 19) (by decide +kernel) rfl, by decide, by decide, by decide +kernel⟩
theorem mY_X13_sealRsa : mYV yX13_sealRsa cX13_sealRsa 8 none 4 := ⟨mem_c13 (i := 108) rfl rfl, mem_c13 (i := 107) (by decide +kernel) rfl, mem_p (i := 180) (by decide +kernel) rfl, mem_c1 (i := 19) (by decide +kernel) rfl, by decide, by decide, by decide +kernel⟩
theorem mY_X13_setCells : mYV yX13_setCells cX13_setCells 4 none 2 := ⟨mem_c11 (i := 165) rfl rfl, mem_c11 (i := 164) (by decide +kernel) rfl, mem_p (i := 110) (by decide +kernel) rfl, mem_c1 (i := 19) (by decide +kernel) rfl, by decide, by decide, by decide +kernel⟩
theorem mY_X13_setCounter : mYV yX13_setCounter cX13_setCounter 4 none 3 := ⟨mem_c11 (i := 231) rfl rfl, mem_c11 (i := 230) (by decide +kernel) rfl, mem_p (i := 121) (by decide +kernel) rfl, mem_c1 (i := 19) (by decide +kernel) rfl, by decide, by decide, by decide +kernel⟩
theorem mY_X13_setKey : mYV yX13_setKey cX13_setKey 10 none 3 := ⟨mem_c11 (i := 161) rfl rfl, mem_c11 (i := 160) (by decide +kernel) rfl, mem_p (i := 109) (by decide +kernel) rfl, mem_c1 (i := 19) (by decide +kernel) rfl, by decide, by decide, by decide +kernel⟩
theorem mY_X13_setLessTwo : mYV yX13_setLessTwo cX13_setLessTwo 2 none 1 := ⟨mem_c12 (i := 86) rfl rfl, mem_c12 (i := 85) (by decide +kernel) rfl, mem_p (i := 134) (by decide +kernel) rfl, mem_c1 (i := 19) (by decide +kernel) rfl, by decide, by decide, by decide +kernel⟩
theorem mY_X13_setPoint : mYV yX13_setPoint cX13_setPoint 4 (some .boolean) 2 := ⟨mem_c12 (i := 52) rfl rfl, mem_c12 (i := 51) (by decide +kernel) rfl, mem_p (i := 129) (by decide +kernel) rfl, mem_c1 (i := 19) (by decide +kernel) rfl, by decide, by decide, by decide +kernel⟩
theorem mY_X13_sign : mYV yX13_sign cX13_sign 8 (some .int) 5 := ⟨mem_c12 (i := 194) rfl rfl, mem_c12 (i := 192) (by decide +kernel) rfl, mem_c12 (i := 193) (by decide +kernel) rfl, mem_c1 (i := 19) (by decide +kernel) rfl, by decide, by decide, by decide +kernel⟩
theorem mY_X13_sign8 : mYV yX13_sign8 cX13_sign8 2 none 1 := ⟨mem_c10 (i := 221) rfl rfl, mem_c10 (i := 220) (by decide +kernel) rfl, mem_p (i := 85) (by decide +kernel) rfl, mem_c1 (i := 19) (by decide +kernel) rfl, by decide, by decide, by decide +kernel⟩
theorem mY_X13_signIt : mYV yX13_signIt cX13_signIt 5 (some .int) 3 := ⟨mem_c12 (i := 229) rfl rfl, mem_c12 (i := 228) (by decide +kernel) rfl, mem_p (i := 155) (by decide +kernel) rfl, mem_c1 (i := 19) (by decide +kernel) rfl, by decide, by decide, by decide +kernel⟩
theorem mY_X13_signPoint : mYV yX13_signPoint cX13_signPoint 6 (some .int) 2 := ⟨mem_c12 (i := 233) rfl rfl, mem_c12 (i := 232) (by decide +kernel) rfl, mem_p (i := 156) (by decide +kernel) rfl, mem_c1 (i := 19) (by decide +kernel) rfl, by decide, by decide, by decide +kernel⟩
theorem mY_X13_sixOf : mYS yX13_sixOf cX13_sixOf 1 (some .int) 1 := ⟨mem_c11 (i := 76) rfl rfl, mem_c11 (i := 75) (by decide +kernel) rfl, mem_c1 (i := 19) (by decide +kernel) rfl, by decide, by decide, by decide +kernel⟩
theorem mY_X13_size : mYV yX13_size cX13_size 2 (some .int) 1 := ⟨mem_c10 (i := 102) rfl rfl, mem_c10 (i := 100) (by decide +kernel) rfl, mem_c10 (i := 101) (by decide +kernel) rfl, mem_c1 (i := 19) (by decide +kernel) rfl, by decide, by decide, by decide +kernel⟩
theorem mY_X13_stream : mYV yX13_stream cX13_stream 7 none 5 := ⟨mem_c11 (i := 227) rfl rfl, mem_c11 (i := 226) (by decide +kernel) rfl, mem_p (i := 120) (by decide +kernel) rfl, mem_c1 (i := 19) (by decide +kernel) rfl, by decide, by decide, by decide +kernel⟩
theorem mY_X13_sumMark : mYV yX13_sumMark cX13_sumMark 10 none 8 := ⟨mem_c11 (i := 235) rfl rfl, mem_c11 (i := 234) (by decide +kernel) rfl, mem_p (i := 122) (by decide +kernel) rfl, mem_c1 (i := 19) (by decide +kernel) rfl, by decide, by decide, by decide +kernel⟩
theorem mY_X13_tell : mYV yX13_tell cX13_tell 4 (some .int) 3 := ⟨mem_c11 (i := 20) rfl rfl, mem_c11 (i := 19) (by decide +kernel) rfl, mem_p (i := 91) (by decide +kernel) rfl, mem_c1 (i := 19) (by decide +kernel) rfl, by decide, by decide, by decide +kernel⟩
theorem mY_X13_tellMessage : mYV yX13_tellMessage cX13_tellMessage 4 none 3 := ⟨mem_c11 (i := 149) rfl rfl, mem_c11 (i := 148) (by decide +kernel) rfl, mem_p (i := 107) (by decide +kernel) rfl, mem_c1 (i := 19) (by decide +kernel) rfl, by decide, by decide, by decide +kernel⟩
theorem mY_X13_text : mYV yX13_text cX13_text 3 (some .int) 1 := ⟨mem_c11 (i := 16) rfl rfl, mem_c11 (i := 14) (by decide +kernel) rfl, mem_c11 (i := 15) (by decide +kernel) rfl, mem_c1 (i := 19) (by decide +kernel) rfl, by decide, by decide, by decide +kernel⟩
theorem mY_X13_times : mYS yX13_times cX13_times 5 (some .int) 2 := ⟨mem_c8 (i := 92) rfl rfl, mem_c8 (i := 91) (by decide +kernel) rfl, mem_c1 (i := 19) (by decide +kernel) rfl, by decide, by decide, by decide +kernel⟩
theorem mY_X13_times_ : mYV yX13_times_ cX13_times_ 4 none 2 := ⟨mem_c12 (i := 66) rfl rfl, mem_c12 (i := 65) (by decide +kernel) rfl, mem_p (i := 130) (by decide +kernel) rfl, mem_c1 (i := 19) (by decide +kernel) rfl, by decide, by decide, by decide +kernel⟩
theorem mY_X13_told : mYV yX13_told cX13_told 3 (some .int) 2 := ⟨mem_c12 (i := 175) rfl rfl, mem_c12 (i := 173) (by decide +kernel) rfl, mem_c12 (i := 174) (by decide +kernel) rfl, mem_c1 (i := 19) (by decide +kernel) rfl, by decide, by decide, by decide +kernel⟩
theorem mY_X13_turn32 : mYV yX13_turn32 cX13_turn32 12 none 0 := ⟨mem_c11 (i := 136) rfl rfl, mem_c11 (i := 135) (by decide +kernel) rfl, mem_p (i := 106) (by decide +kernel) rfl, mem_c1 (i := 19) (by decide +kernel) rfl, by decide, by decide, by decide +kernel⟩
theorem mY_X13_turn64 : mYV yX13_turn64 cX13_turn64 22 none 0 := ⟨mem_c11 (i := 126) rfl rfl, mem_c11 (i := 125) (by decide +kernel) rfl, mem_p (i := 105) (by decide +kernel) rfl, mem_c1 (i := 19) (by decide +kernel) rfl, by decide, by decide, by decide +kernel⟩
theorem mY_X13_twice : mYS yX13_twice cX13_twice 1 (some .int) 1 := ⟨mem_c8 (i := 95) rfl rfl, mem_c8 (i := 94) (by decide +kernel) rfl, mem_c1 (i := 19) (by decide +kernel) rfl, by decide, by decide, by decide +kernel⟩
theorem mY_X13_twicePoint : mYV yX13_twicePoint cX13_twicePoint 1 none 0 := ⟨mem_c12 (i := 70) rfl rfl, mem_c12 (i := 69) (by decide +kernel) rfl, mem_p (i := 131) (by decide +kernel) rfl, mem_c1 (i := 19) (by decide +kernel) rfl, by decide, by decide, by decide +kernel⟩
theorem mY_X13_unletter : mYV yX13_unletter cX13_unletter 11 (some .int) 5 := ⟨mem_c11 (i := 73) rfl rfl, mem_c11 (i := 72) (by decide +kernel) rfl, mem_p (i := 98) (by decide +kernel) rfl, mem_c1 (i := 19) (by decide +kernel) rfl, by decide, by decide, by decide +kernel⟩
theorem mY_X13_unwrap : mYV yX13_unwrap cX13_unwrap 3 (some .int) 2 := ⟨mem_c11 (i := 197) rfl rfl, mem_c11 (i := 195) (by decide +kernel) rfl, mem_c11 (i := 196) (by decide +kernel) rfl, mem_c1 (i := 19) (by decide +kernel) rfl, by decide, by decide, by decide +kernel⟩
theorem mY_X13_unwrapIt : mYV yX13_unwrapIt cX13_unwrapIt 7 (some .boolean) 3 := ⟨mem_c11 (i := 201) rfl rfl, mem_c11 (i := 200) (by decide +kernel) rfl, mem_p (i := 117) (by decide +kernel) rfl, mem_c1 (i := 19) (by decide +kernel) rfl, by decide, by decide, by decide +kernel⟩
theorem mY_X13_value : mYV yX13_value cX13_value 4 (some .int) 2 := ⟨mem_c11 (i := 8) rfl rfl, mem_c11 (i := 6) (by decide +kernel) rfl, mem_c11 (i := 7) (by decide +kernel) rfl, mem_c1 (i := 19) (by decide +kernel) rfl, by decide, by decide, by decide +kernel⟩
theorem mY_X13_verify : mYV yX13_verify cX13_verify 10 (some .int) 1 := ⟨mem_c13 (i := 60) rfl rfl, mem_c13 (i := 58) (by decide +kernel) rfl, mem_c13 (i := 59) (by decide +kernel) rfl, mem_c1 (i := 19) (by decide +kernel) rfl, by decide, by decide, by decide +kernel⟩
theorem mY_X13_wide : mYV yX13_wide cX13_wide 7 none 1 := ⟨mem_c10 (i := 225) rfl rfl, mem_c10 (i := 224) (by decide +kernel) rfl, mem_p (i := 86) (by decide +kernel) rfl, mem_c1 (i := 19) (by decide +kernel) rfl, by decide, by decide, by decide +kernel⟩
theorem mY_X13_withKey : mYV yX13_withKey cX13_withKey 3 none 1 := ⟨mem_c11 (i := 173) rfl rfl, mem_c11 (i := 172) (by decide +kernel) rfl, mem_p (i := 112) (by decide +kernel) rfl, mem_c1 (i := 19) (by decide +kernel) rfl, by decide, by decide, by decide +kernel⟩
theorem mY_X13_word : mYV yX13_word cX13_word 3 none 1 := ⟨mem_c10 (i := 235) rfl rfl, mem_c10 (i := 234) (by decide +kernel) rfl, mem_p (i := 87) (by decide +kernel) rfl, mem_c1 (i := 19) (by decide +kernel) rfl, by decide, by decide, by decide +kernel⟩
theorem mY_X13_wordAt : mYV yX13_wordAt cX13_wordAt 4 (some .int) 3 := ⟨mem_c13 (i := 37) rfl rfl, mem_c13 (i := 36) (by decide +kernel) rfl, mem_p (i := 165) (by decide +kernel) rfl, mem_c1 (i := 19) (by decide +kernel) rfl, by decide, by decide, by decide +kernel⟩
theorem mY_X13_wordOf : mYS yX13_wordOf cX13_wordOf 7 (some .int) 4 := ⟨mem_c12 (i := 206) rfl rfl, mem_c12 (i := 205) (by decide +kernel) rfl, mem_c1 (i := 19) (by decide +kernel) rfl, by decide, by decide, by decide +kernel⟩
theorem mY_X13_wrap : mYV yX13_wrap cX13_wrap 3 (some .int) 2 := ⟨mem_c11 (i := 185) rfl rfl, mem_c11 (i := 183) (by decide +kernel) rfl, mem_c11 (i := 184) (by decide +kernel) rfl, mem_c1 (i := 19) (by decide +kernel) rfl, by decide, by decide, by decide +kernel⟩
theorem mY_X13_wrapUp : mYV yX13_wrapUp cX13_wrapUp 7 (some .int) 3 := ⟨mem_c11 (i := 193) rfl rfl, mem_c11 (i := 192) (by decide +kernel) rfl, mem_p (i := 116) (by decide +kernel) rfl, mem_c1 (i := 19) (by decide +kernel) rfl, by decide, by decide, by decide +kernel⟩
theorem mY_X13_write : mYV yX13_write cX13_write 2 (some .int) 1 := ⟨mem_c11 (i := 32) rfl rfl, mem_c11 (i := 30) (by decide +kernel) rfl, mem_c11 (i := 31) (by decide +kernel) rfl, mem_c1 (i := 19) (by decide +kernel) rfl, by decide, by decide, by decide +kernel⟩
theorem mY_X12_init : mYI yX12_init cX12_init 1 none 0 := ⟨mem_c8 (i := 52) rfl rfl, mem_c8 (i := 51) (by decide +kernel) rfl, mem_c1 (i := 20) (by decide +kernel) rfl, rfl, rfl, by decide, by decide, by decide +kernel⟩
theorem mY_X12_add : mYV yX12_add cX12_add 9 none 3 := ⟨mem_c12 (i := 58) rfl rfl, mem_c12 (i := 56) (by decide +kernel) rfl, mem_c12 (i := 57) (by decide +kernel) rfl, mem_c1 (i := 20) (by decide +kernel) rfl, by decide, by decide, by decide +kernel⟩
theorem mY_X12_addOne : mYV yX12_addOne cX12_addOne 4 none 1 := ⟨mem_c12 (i := 32) rfl rfl, mem_c12 (i := 31) (by decide +kernel) rfl, mem_p (i := 128) (by decide +kernel) rfl, mem_c1 (i := 20) (by decide +kernel) rfl, by decide, by decide, by decide +kernel⟩
theorem mY_X12_into : mYV yX12_into cX12_into 3 none 2 := ⟨mem_c8 (i := 141) rfl rfl, mem_c8 (i := 139) (by decide +kernel) rfl, mem_c8 (i := 140) (by decide +kernel) rfl, mem_c1 (i := 20) (by decide +kernel) rfl, by decide, by decide, by decide +kernel⟩
theorem mY_X12_isZero : mYV yX12_isZero cX12_isZero 4 (some .boolean) 1 := ⟨mem_c12 (i := 74) rfl rfl, mem_c12 (i := 72) (by decide +kernel) rfl, mem_c12 (i := 73) (by decide +kernel) rfl, mem_c1 (i := 20) (by decide +kernel) rfl, by decide, by decide, by decide +kernel⟩
theorem mY_X12_less : mYV yX12_less cX12_less 7 none 1 := ⟨mem_c8 (i := 134) rfl rfl, mem_c8 (i := 133) (by decide +kernel) rfl, mem_p (i := 72) (by decide +kernel) rfl, mem_c1 (i := 20) (by decide +kernel) rfl, by decide, by decide, by decide +kernel⟩
theorem mY_X12_load : mYV yX12_load cX12_load 6 none 4 := ⟨mem_c8 (i := 121) rfl rfl, mem_c8 (i := 119) (by decide +kernel) rfl, mem_c8 (i := 120) (by decide +kernel) rfl, mem_c1 (i := 20) (by decide +kernel) rfl, by decide, by decide, by decide +kernel⟩
theorem mY_X12_order : mYV yX12_order cX12_order 4 (some .int) 2 := ⟨mem_c8 (i := 129) rfl rfl, mem_c8 (i := 127) (by decide +kernel) rfl, mem_c8 (i := 128) (by decide +kernel) rfl, mem_c1 (i := 20) (by decide +kernel) rfl, by decide, by decide, by decide +kernel⟩
theorem mY_X12_outOf : mYV yX12_outOf cX12_outOf 4 none 2 := ⟨mem_c12 (i := 40) rfl rfl, mem_c12 (i := 38) (by decide +kernel) rfl, mem_c12 (i := 39) (by decide +kernel) rfl, mem_c1 (i := 20) (by decide +kernel) rfl, by decide, by decide, by decide +kernel⟩
theorem mY_X12_power : mYV yX12_power cX12_power 7 none 5 := ⟨mem_c12 (i := 36) rfl rfl, mem_c12 (i := 34) (by decide +kernel) rfl, mem_c12 (i := 35) (by decide +kernel) rfl, mem_c1 (i := 20) (by decide +kernel) rfl, by decide, by decide, by decide +kernel⟩
theorem mY_X12_product : mYV yX12_product cX12_product 14 none 3 := ⟨mem_c8 (i := 145) rfl rfl, mem_c8 (i := 143) (by decide +kernel) rfl, mem_c8 (i := 144) (by decide +kernel) rfl, mem_c1 (i := 20) (by decide +kernel) rfl, by decide, by decide, by decide +kernel⟩
theorem mY_X12_reduce : mYV yX12_reduce cX12_reduce 6 none 4 := ⟨mem_c12 (i := 28) rfl rfl, mem_c12 (i := 26) (by decide +kernel) rfl, mem_c12 (i := 27) (by decide +kernel) rfl, mem_c1 (i := 20) (by decide +kernel) rfl, by decide, by decide, by decide +kernel⟩
theorem mY_X12_set : mYV yX12_set cX12_set 6 none 3 := ⟨mem_c8 (i := 117) rfl rfl, mem_c8 (i := 115) (by decide +kernel) rfl, mem_c8 (i := 116) (by decide +kernel) rfl, mem_c1 (i := 20) (by decide +kernel) rfl, by decide, by decide, by decide +kernel⟩
theorem mY_X12_store : mYV yX12_store cX12_store 6 none 4 := ⟨mem_c12 (i := 44) rfl rfl, mem_c12 (i := 42) (by decide +kernel) rfl, mem_c12 (i := 43) (by decide +kernel) rfl, mem_c1 (i := 20) (by decide +kernel) rfl, by decide, by decide, by decide +kernel⟩
theorem mY_X12_subtract : mYV yX12_subtract cX12_subtract 11 none 3 := ⟨mem_c12 (i := 62) rfl rfl, mem_c12 (i := 60) (by decide +kernel) rfl, mem_c12 (i := 61) (by decide +kernel) rfl, mem_c1 (i := 20) (by decide +kernel) rfl, by decide, by decide, by decide +kernel⟩
theorem mY_X12_twice : mYV yX12_twice cX12_twice 5 none 1 := ⟨mem_c8 (i := 125) rfl rfl, mem_c8 (i := 124) (by decide +kernel) rfl, mem_p (i := 71) (by decide +kernel) rfl, mem_c1 (i := 20) (by decide +kernel) rfl, by decide, by decide, by decide +kernel⟩
theorem mY_J0_charAt_5068e : mYV yJ0_charAt_5068e cJ0_charAt_5068e 2 (some .char) 1 := ⟨mem_c2 (i := 175) rfl rfl, mem_c2 (i := 173) (by decide +kernel) rfl, mem_c2 (i := 174) (by decide +kernel) rfl, mem_c1 (i := 13) (by decide +kernel) rfl, by decide, by decide, by decide +kernel⟩
theorem mY_J0_checkIndex_df160 : mYS yJ0_checkIndex_df160 cJ0_checkIndex_df160 2 none 2 := ⟨mem_c2 (i := 185) rfl rfl, mem_c2 (i := 184) (by decide +kernel) rfl, mem_c1 (i := 13) (by decide +kernel) rfl, by decide, by decide, by decide +kernel⟩
theorem mY_J0_coder_7d493 : mYV yJ0_coder_7d493 cJ0_coder_7d493 1 (some .byte) 0 := ⟨mem_c2 (i := 169) rfl rfl, mem_c2 (i := 167) (by decide +kernel) rfl, mem_c2 (i := 168) (by decide +kernel) rfl, mem_c1 (i := 13) (by decide +kernel) rfl, by decide, by decide, by decide +kernel⟩
theorem mY_J0_indexOf_0f7a4 : mYV yJ0_indexOf_0f7a4 cJ0_indexOf_0f7a4 2 (some .int) 1 := ⟨mem_c10 (i := 155) rfl rfl, mem_c10 (i := 153) (by decide +kernel) rfl, mem_c10 (i := 154) (by decide +kernel) rfl, mem_c1 (i := 13) (by decide +kernel) rfl, by decide, by decide, by decide +kernel⟩
theorem mY_J0_indexOf_7cf53 : mYV yJ0_indexOf_7cf53 cJ0_indexOf_7cf53 3 (some .int) 2 := ⟨mem_c10 (i := 159) rfl rfl, mem_c10 (i := 157) (by decide +kernel) rfl, mem_c10 (i := 158) (by decide +kernel) rfl, mem_c1 (i := 13) (by decide +kernel) rfl, by decide, by decide, by decide +kernel⟩
theorem mY_J0_isLatin1_aae02 : mYV yJ0_isLatin1_aae02 cJ0_isLatin1_aae02 1 (some .boolean) 0 := ⟨mem_c2 (i := 179) rfl rfl, mem_c2 (i := 177) (by decide +kernel) rfl, mem_c2 (i := 178) (by decide +kernel) rfl, mem_c1 (i := 13) (by decide +kernel) rfl, by decide, by decide, by decide +kernel⟩
theorem mY_J0_length_8abf5 : mYV yJ0_length_8abf5 cJ0_length_8abf5 1 (some .int) 0 := ⟨mem_c2 (i := 165) rfl rfl, mem_c2 (i := 163) (by decide +kernel) rfl, mem_c2 (i := 164) (by decide +kernel) rfl, mem_c1 (i := 13) (by decide +kernel) rfl, by decide, by decide, by decide +kernel⟩
theorem mY_J1_canEncode_9a6ad : mYS yJ1_canEncode_9a6ad cJ1_canEncode_9a6ad 1 (some .boolean) 1 := ⟨mem_c10 (i := 166) rfl rfl, mem_c10 (i := 165) (by decide +kernel) rfl, mem_c1 (i := 14) (by decide +kernel) rfl, by decide, by decide, by decide +kernel⟩
theorem mY_J1_charAt_3b067 : mYS yJ1_charAt_3b067 cJ1_charAt_3b067 2 (some .char) 2 := ⟨mem_c2 (i := 182) rfl rfl, mem_c2 (i := 181) (by decide +kernel) rfl, mem_c1 (i := 14) (by decide +kernel) rfl, by decide, by decide, by decide +kernel⟩
theorem mY_J1_indexOf_4cfef : mYS yJ1_indexOf_4cfef cJ1_indexOf_4cfef 4 (some .int) 4 := ⟨mem_c10 (i := 163) rfl rfl, mem_c10 (i := 162) (by decide +kernel) rfl, mem_c1 (i := 14) (by decide +kernel) rfl, by decide, by decide, by decide +kernel⟩
theorem mY_J1_indexOfChar_4cfef : mYS yJ1_indexOfChar_4cfef cJ1_indexOfChar_4cfef 6 (some .int) 4 := ⟨mem_c10 (i := 171) rfl rfl, mem_c10 (i := 170) (by decide +kernel) rfl, mem_c1 (i := 14) (by decide +kernel) rfl, by decide, by decide, by decide +kernel⟩
theorem mY_J3_checkIndex_8e157 : mYS yJ3_checkIndex_8e157 cJ3_checkIndex_8e157 3 (some .int) 3 := ⟨mem_c2 (i := 190) rfl rfl, mem_c2 (i := 189) (by decide +kernel) rfl, mem_c1 (i := 15) (by decide +kernel) rfl, by decide, by decide, by decide +kernel⟩
theorem mL_X11_15 : Cond.methodLink RX11 15 yX0_init ∈ mtbl := mem_c1 (i := 33) (by decide +kernel) rfl
theorem mL_X11_49 : Cond.methodLink RX11 49 yX7_init ∈ mtbl := mem_c1 (i := 139) (by decide +kernel) rfl
theorem mL_X11_76 : Cond.methodLink RX11 76 yX1_init ∈ mtbl := mem_c2 (i := 27) (by decide +kernel) rfl
theorem mL_X11_83 : Cond.methodLink RX11 83 yX2_init ∈ mtbl := mem_c2 (i := 54) (by decide +kernel) rfl
theorem mL_X11_92 : Cond.methodLink RX11 92 yX8_init ∈ mtbl := mem_c2 (i := 90) (by decide +kernel) rfl
theorem mL_X11_101 : Cond.methodLink RX11 101 yX3_init ∈ mtbl := mem_c2 (i := 148) (by decide +kernel) rfl
theorem mL_X11_117 : Cond.methodLink RX11 117 yX0_putWord ∈ mtbl := mem_c3 (i := 206) (by decide +kernel) rfl
theorem mL_X11_120 : Cond.methodLink RX11 120 yX0_cutTo ∈ mtbl := mem_c3 (i := 215) (by decide +kernel) rfl
theorem mL_X11_123 : Cond.methodLink RX11 123 yX11_isRow ∈ mtbl := mem_c3 (i := 224) (by decide +kernel) rfl
theorem mL_X11_127 : Cond.methodLink RX11 127 yX0_become ∈ mtbl := mem_c3 (i := 228) (by decide +kernel) rfl
theorem mL_X11_131 : Cond.methodLink RX11 131 yX0_clear ∈ mtbl := mem_c4 (i := 1) (by decide +kernel) rfl
theorem mL_X11_138 : Cond.methodLink RX11 138 yX0_peek ∈ mtbl := mem_c4 (i := 18) (by decide +kernel) rfl
theorem mL_X11_142 : Cond.methodLink RX11 142 yX7_read ∈ mtbl := mem_c4 (i := 26) (by decide +kernel) rfl
theorem mL_X11_149 : Cond.methodLink RX11 149 yX9_has ∈ mtbl := mem_c4 (i := 148) (by decide +kernel) rfl
theorem mL_X11_176 : Cond.methodLink RX11 176 yX11_show ∈ mtbl := mem_c4 (i := 153) (by decide +kernel) rfl
theorem mL_X11_180 : Cond.methodLink RX11 180 yX9_isKind ∈ mtbl := mem_c4 (i := 162) (by decide +kernel) rfl
theorem mL_X11_190 : Cond.methodLink RX11 190 yX9_named ∈ mtbl := mem_c4 (i := 167) (by decide +kernel) rfl
theorem mL_X11_194 : Cond.methodLink RX11 194 yX9_putValue ∈ mtbl := mem_c4 (i := 172) (by decide +kernel) rfl
theorem mL_X11_202 : Cond.methodLink RX11 202 yX0_lettersFor ∈ mtbl := mem_c4 (i := 207) (by decide +kernel) rfl
theorem mL_X11_205 : Cond.methodLink RX11 205 yX0_putLetters ∈ mtbl := mem_c4 (i := 210) (by decide +kernel) rfl
theorem mL_X11_209 : Cond.methodLink RX11 209 yX0_letterFault ∈ mtbl := mem_c4 (i := 220) (by decide +kernel) rfl
theorem mL_X11_212 : Cond.methodLink RX11 212 yX0_putUnlettered ∈ mtbl := mem_c4 (i := 226) (by decide +kernel) rfl
theorem mL_X11_215 : Cond.methodLink RX11 215 yX4_start ∈ mtbl := mem_c4 (i := 234) (by decide +kernel) rfl
theorem mL_X11_217 : Cond.methodLink RX11 217 yX4_add ∈ mtbl := mem_c5 (i := 3) (by decide +kernel) rfl
theorem mL_X11_220 : Cond.methodLink RX11 220 yX4_finish ∈ mtbl := mem_c5 (i := 25) (by decide +kernel) rfl
theorem mL_X11_223 : Cond.methodLink RX11 223 yX4_startCode ∈ mtbl := mem_c5 (i := 34) (by decide +kernel) rfl
theorem mL_X11_227 : Cond.methodLink RX11 227 yX4_finishCode ∈ mtbl := mem_c5 (i := 46) (by decide +kernel) rfl
theorem mL_X11_230 : Cond.methodLink RX11 230 yX11_isCipherKey ∈ mtbl := mem_c5 (i := 54) (by decide +kernel) rfl
theorem mL_X11_233 : Cond.methodLink RX11 233 yX1_become ∈ mtbl := mem_c5 (i := 58) (by decide +kernel) rfl
theorem mL_X11_235 : Cond.methodLink RX11 235 yX1_putBlock ∈ mtbl := mem_c5 (i := 66) (by decide +kernel) rfl
theorem mL_X11_239 : Cond.methodLink RX11 239 yX1_mayWrap ∈ mtbl := mem_c5 (i := 94) (by decide +kernel) rfl
theorem mL_X11_242 : Cond.methodLink RX11 242 yX1_putWrapped ∈ mtbl := mem_c5 (i := 97) (by decide +kernel) rfl
theorem mL_X11_246 : Cond.methodLink RX11 246 yX1_putUnwrapped ∈ mtbl := mem_c5 (i := 109) (by decide +kernel) rfl
theorem mL_X11_250 : Cond.methodLink RX11 250 yX11_waySuits ∈ mtbl := mem_c5 (i := 117) (by decide +kernel) rfl
theorem mL_X11_254 : Cond.methodLink RX11 254 yX2_sealedBytes ∈ mtbl := mem_c5 (i := 125) (by decide +kernel) rfl
theorem mL_X11_261 : Cond.methodLink RX11 261 yX2_lock ∈ mtbl := mem_c5 (i := 130) (by decide +kernel) rfl
theorem mL_X11_265 : Cond.methodLink RX11 265 yX2_unlock ∈ mtbl := mem_c5 (i := 196) (by decide +kernel) rfl
theorem mL_X11_271 : Cond.methodLink RX11 271 yX6_suits ∈ mtbl := mem_c5 (i := 215) (by decide +kernel) rfl
theorem mL_X11_275 : Cond.methodLink RX11 275 yX8_raise ∈ mtbl := mem_c5 (i := 218) (by decide +kernel) rfl
theorem mL_X11_279 : Cond.methodLink RX11 279 yX3_load ∈ mtbl := mem_c5 (i := 238) (by decide +kernel) rfl
theorem mL_X11_289 : Cond.methodLink RX11 289 yX3_sumUp ∈ mtbl := mem_c6 (i := 13) (by decide +kernel) rfl
theorem mL_X11_293 : Cond.methodLink RX11 293 yX3_putSum ∈ mtbl := mem_c6 (i := 31) (by decide +kernel) rfl
theorem mL_X11_296 : Cond.methodLink RX11 296 yX4_putDerived ∈ mtbl := mem_c6 (i := 46) (by decide +kernel) rfl
theorem mL_X11_300 : Cond.methodLink RX11 300 yX5_reasonAgainst ∈ mtbl := mem_c6 (i := 57) (by decide +kernel) rfl
theorem mL_X11_304 : Cond.methodLink RX11 304 yX11_numbersBelong ∈ mtbl := mem_c6 (i := 159) (by decide +kernel) rfl
theorem mL_X11_311 : Cond.methodLink RX11 311 yX11_isKey ∈ mtbl := mem_c6 (i := 188) (by decide +kernel) rfl
theorem mL_X11_334 : Cond.methodLink RX11 334 yX5_putPrinted ∈ mtbl := mem_c6 (i := 200) (by decide +kernel) rfl
theorem mL_X11_337 : Cond.methodLink RX11 337 yX11_isRowOrNone ∈ mtbl := mem_c6 (i := 222) (by decide +kernel) rfl
theorem mL_X11_340 : Cond.methodLink RX11 340 yX5_maySign ∈ mtbl := mem_c6 (i := 226) (by decide +kernel) rfl
theorem mL_X11_344 : Cond.methodLink RX11 344 yX10_makeSignedHead ∈ mtbl := mem_c6 (i := 230) (by decide +kernel) rfl
theorem mL_X11_348 : Cond.methodLink RX11 348 yX10_signedHeadReason ∈ mtbl := mem_c7 (i := 9) (by decide +kernel) rfl
theorem mL_X11_358 : Cond.methodLink RX11 358 yX0_holds ∈ mtbl := mem_c7 (i := 37) (by decide +kernel) rfl
theorem mL_X11_361 : Cond.methodLink RX11 361 yX0_put ∈ mtbl := mem_c7 (i := 41) (by decide +kernel) rfl
theorem mL_X11_364 : Cond.methodLink RX11 364 yX0_putAll ∈ mtbl := mem_c7 (i := 42) (by decide +kernel) rfl
theorem mL_X11_367 : Cond.methodLink RX11 367 yX11_makeSignature ∈ mtbl := mem_c7 (i := 43) (by decide +kernel) rfl
theorem mL_X11_371 : Cond.methodLink RX11 371 yX10_split ∈ mtbl := mem_c7 (i := 103) (by decide +kernel) rfl
theorem mL_X11_375 : Cond.methodLink RX11 375 yX10_isFaulty ∈ mtbl := mem_c7 (i := 108) (by decide +kernel) rfl
theorem mL_X11_378 : Cond.methodLink RX11 378 yX10_readPart ∈ mtbl := mem_c7 (i := 121) (by decide +kernel) rfl
theorem mL_X11_382 : Cond.methodLink RX11 382 yX10_partEnd ∈ mtbl := mem_c7 (i := 126) (by decide +kernel) rfl
theorem mL_X11_385 : Cond.methodLink RX11 385 yX0_putPart ∈ mtbl := mem_c4 (i := 157) (by decide +kernel) rfl
theorem mL_X11_388 : Cond.methodLink RX11 388 yX10_kidSuits ∈ mtbl := mem_c7 (i := 127) (by decide +kernel) rfl
theorem mL_X11_392 : Cond.methodLink RX11 392 yX11_signatureIsRight ∈ mtbl := mem_c7 (i := 135) (by decide +kernel) rfl
theorem mL_X11_395 : Cond.methodLink RX11 395 yX11_showPayload ∈ mtbl := mem_c7 (i := 159) (by decide +kernel) rfl
theorem mL_X11_398 : Cond.methodLink RX11 398 yX5_maySeal ∈ mtbl := mem_c7 (i := 168) (by decide +kernel) rfl
theorem mL_X11_402 : Cond.methodLink RX11 402 yX10_draw ∈ mtbl := mem_c7 (i := 173) (by decide +kernel) rfl
theorem mL_X11_409 : Cond.methodLink RX11 409 yX3_isSecret ∈ mtbl := mem_c7 (i := 180) (by decide +kernel) rfl
theorem mL_X11_415 : Cond.methodLink RX11 415 yX10_makeSealedHead ∈ mtbl := mem_c7 (i := 181) (by decide +kernel) rfl
theorem mL_X11_419 : Cond.methodLink RX11 419 yX11_makeSealedKey ∈ mtbl := mem_c7 (i := 202) (by decide +kernel) rfl
theorem mL_X11_422 : Cond.methodLink RX11 422 yX10_sealedLetters ∈ mtbl := mem_c7 (i := 221) (by decide +kernel) rfl
theorem mL_X11_434 : Cond.methodLink RX11 434 yX0_putLetterPart ∈ mtbl := mem_c7 (i := 228) (by decide +kernel) rfl
theorem mL_X11_437 : Cond.methodLink RX11 437 yX10_sealedHeadReason ∈ mtbl := mem_c7 (i := 237) (by decide +kernel) rfl
theorem mL_X11_440 : Cond.methodLink RX11 440 yX10_readSealedParts ∈ mtbl := mem_c8 (i := 22) (by decide +kernel) rfl
theorem mL_X11_447 : Cond.methodLink RX11 447 yX11_contentKeyComes ∈ mtbl := mem_c8 (i := 32) (by decide +kernel) rfl
theorem mL_X11_462 : Cond.methodLink RX11 462 yX8_isPair ∈ mtbl := mem_c6 (i := 163) (by decide +kernel) rfl
theorem mL_X11_465 : Cond.methodLink RX11 465 yX3_isPair ∈ mtbl := mem_c6 (i := 170) (by decide +kernel) rfl
theorem mL_X11_497 : Cond.methodLink RX11 497 yX10_partStart ∈ mtbl := mem_c7 (i := 163) (by decide +kernel) rfl
theorem mL_X11_500 : Cond.methodLink RX11 500 yX11_codeWork ∈ mtbl := mem_c7 (i := 47) (by decide +kernel) rfl
theorem mL_X11_504 : Cond.methodLink RX11 504 yX11_hashWork ∈ mtbl := mem_c7 (i := 51) (by decide +kernel) rfl
theorem mL_X11_507 : Cond.methodLink RX11 507 yX8_signPkcs ∈ mtbl := mem_c7 (i := 55) (by decide +kernel) rfl
theorem mL_X11_510 : Cond.methodLink RX11 510 yX8_signPss ∈ mtbl := mem_c7 (i := 70) (by decide +kernel) rfl
theorem mL_X11_514 : Cond.methodLink RX11 514 yX3_putSignature ∈ mtbl := mem_c7 (i := 94) (by decide +kernel) rfl
theorem mL_X11_518 : Cond.methodLink RX11 518 yX0_same ∈ mtbl := mem_c7 (i := 139) (by decide +kernel) rfl
theorem mL_X11_521 : Cond.methodLink RX11 521 yX8_isPkcsRight ∈ mtbl := mem_c7 (i := 140) (by decide +kernel) rfl
theorem mL_X11_524 : Cond.methodLink RX11 524 yX8_isPssRight ∈ mtbl := mem_c7 (i := 150) (by decide +kernel) rfl
theorem mL_X11_527 : Cond.methodLink RX11 527 yX3_isSignatureRight ∈ mtbl := mem_c7 (i := 154) (by decide +kernel) rfl
theorem mL_X11_536 : Cond.methodLink RX11 536 yX11_wayName ∈ mtbl := mem_c7 (i := 210) (by decide +kernel) rfl
theorem mL_X11_540 : Cond.methodLink RX11 540 yX11_algName ∈ mtbl := mem_c7 (i := 211) (by decide +kernel) rfl
theorem mL_X11_543 : Cond.methodLink RX11 543 yX0_putText ∈ mtbl := mem_c7 (i := 212) (by decide +kernel) rfl
theorem mL_X11_547 : Cond.methodLink RX11 547 yX11_agree ∈ mtbl := mem_c7 (i := 206) (by decide +kernel) rfl
theorem mL_X11_553 : Cond.methodLink RX11 553 yX8_sealOaep ∈ mtbl := mem_c7 (i := 213) (by decide +kernel) rfl
theorem mL_X11_563 : Cond.methodLink RX11 563 yX8_openOaep ∈ mtbl := mem_c8 (i := 36) (by decide +kernel) rfl
theorem mL_X0_9 : Cond.methodLink RX0 9 Lib.Math.max.name ∈ mtbl := mem_c1 (i := 37) (by decide +kernel) rfl
theorem mL_X0_29 : Cond.methodLink RX0 29 Lib.Math.min.name ∈ mtbl := mem_c3 (i := 219) (by decide +kernel) rfl
theorem mL_X0_32 : Cond.methodLink RX0 32 yX0_put ∈ mtbl := mem_c3 (i := 210) (by decide +kernel) rfl
theorem mL_X0_36 : Cond.methodLink RX0 36 yJ0_length_8abf5 ∈ mtbl := mem_c4 (i := 193) (by decide +kernel) rfl
theorem mL_X0_42 : Cond.methodLink RX0 42 yJ0_charAt_5068e ∈ mtbl := mem_c4 (i := 194) (by decide +kernel) rfl
theorem mL_X0_46 : Cond.methodLink RX0 46 arraycopyName ∈ mtbl := mem_c4 (i := 0) (by decide +kernel) rfl
theorem mL_X0_52 : Cond.methodLink RX0 52 yX0_putPart ∈ mtbl := mem_c3 (i := 236) (by decide +kernel) rfl
theorem mL_X0_56 : Cond.methodLink RX0 56 yX0_clear ∈ mtbl := mem_c3 (i := 232) (by decide +kernel) rfl
theorem mL_X0_59 : Cond.methodLink RX0 59 yX0_compare ∈ mtbl := mem_c6 (i := 124) (by decide +kernel) rfl
theorem mL_X0_63 : Cond.methodLink RX0 63 yX0_get ∈ mtbl := mem_c4 (i := 139) (by decide +kernel) rfl
theorem mL_X0_67 : Cond.methodLink RX0 67 yX0_letterValue ∈ mtbl := mem_c4 (i := 223) (by decide +kernel) rfl
theorem mL_X0_73 : Cond.methodLink RX0 73 yX0_putLetters ∈ mtbl := mem_c7 (i := 232) (by decide +kernel) rfl
theorem mL_X1_32 : Cond.methodLink RX1 32 yX0_get ∈ mtbl := mem_c5 (i := 62) (by decide +kernel) rfl
theorem mL_X1_38 : Cond.methodLink RX1 38 yX1_twice ∈ mtbl := mem_c5 (i := 63) (by decide +kernel) rfl
theorem mL_X1_41 : Cond.methodLink RX1 41 yX1_addRoundKey ∈ mtbl := mem_c5 (i := 74) (by decide +kernel) rfl
theorem mL_X1_45 : Cond.methodLink RX1 45 arraycopyName ∈ mtbl := mem_c5 (i := 84) (by decide +kernel) rfl
theorem mL_X1_51 : Cond.methodLink RX1 51 yX1_mixColumns ∈ mtbl := mem_c5 (i := 81) (by decide +kernel) rfl
theorem mL_X1_55 : Cond.methodLink RX1 55 yX1_unmixColumns ∈ mtbl := mem_c5 (i := 78) (by decide +kernel) rfl
theorem mL_X1_58 : Cond.methodLink RX1 58 yX1_backward ∈ mtbl := mem_c5 (i := 70) (by decide +kernel) rfl
theorem mL_X1_61 : Cond.methodLink RX1 61 yX1_forward ∈ mtbl := mem_c5 (i := 85) (by decide +kernel) rfl
theorem mL_X1_64 : Cond.methodLink RX1 64 yX0_put ∈ mtbl := mem_c5 (i := 89) (by decide +kernel) rfl
theorem mL_X1_71 : Cond.methodLink RX1 71 yX1_mayWrap ∈ mtbl := mem_c5 (i := 101) (by decide +kernel) rfl
theorem mL_X1_75 : Cond.methodLink RX1 75 yX1_become ∈ mtbl := mem_c5 (i := 102) (by decide +kernel) rfl
theorem mL_X1_79 : Cond.methodLink RX1 79 Lib.Math.max.name ∈ mtbl := mem_c5 (i := 103) (by decide +kernel) rfl
theorem mL_X1_85 : Cond.methodLink RX1 85 yX0_clear ∈ mtbl := mem_c5 (i := 104) (by decide +kernel) rfl
theorem mL_X2_22 : Cond.methodLink RX2 22 yX0_init ∈ mtbl := mem_c2 (i := 59) (by decide +kernel) rfl
theorem mL_X2_37 : Cond.methodLink RX2 37 yX0_clear ∈ mtbl := mem_c5 (i := 134) (by decide +kernel) rfl
theorem mL_X2_40 : Cond.methodLink RX2 40 yX2_putChained ∈ mtbl := mem_c5 (i := 135) (by decide +kernel) rfl
theorem mL_X2_48 : Cond.methodLink RX2 48 yX2_markByCode ∈ mtbl := mem_c5 (i := 144) (by decide +kernel) rfl
theorem mL_X2_52 : Cond.methodLink RX2 52 yX2_putCounted ∈ mtbl := mem_c5 (i := 157) (by decide +kernel) rfl
theorem mL_X2_56 : Cond.methodLink RX2 56 yX2_markByField ∈ mtbl := mem_c5 (i := 165) (by decide +kernel) rfl
theorem mL_X2_60 : Cond.methodLink RX2 60 yX0_putAll ∈ mtbl := mem_c5 (i := 188) (by decide +kernel) rfl
theorem mL_X2_70 : Cond.methodLink RX2 70 yX2_markStands ∈ mtbl := mem_c5 (i := 201) (by decide +kernel) rfl
theorem mL_X2_74 : Cond.methodLink RX2 74 yX2_putUnchained ∈ mtbl := mem_c5 (i := 206) (by decide +kernel) rfl
theorem mL_X2_78 : Cond.methodLink RX2 78 yX0_compare ∈ mtbl := mem_c5 (i := 205) (by decide +kernel) rfl
theorem mL_X2_82 : Cond.methodLink RX2 82 yX1_become ∈ mtbl := mem_c5 (i := 139) (by decide +kernel) rfl
theorem mL_X2_86 : Cond.methodLink RX2 86 yX2_sealedBytes ∈ mtbl := mem_c5 (i := 140) (by decide +kernel) rfl
theorem mL_X2_90 : Cond.methodLink RX2 90 yX0_get ∈ mtbl := mem_c5 (i := 141) (by decide +kernel) rfl
theorem mL_X2_94 : Cond.methodLink RX2 94 yX1_forward ∈ mtbl := mem_c5 (i := 142) (by decide +kernel) rfl
theorem mL_X2_98 : Cond.methodLink RX2 98 yX0_put ∈ mtbl := mem_c5 (i := 143) (by decide +kernel) rfl
theorem mL_X2_101 : Cond.methodLink RX2 101 yX1_backward ∈ mtbl := mem_c5 (i := 210) (by decide +kernel) rfl
theorem mL_X2_104 : Cond.methodLink RX2 104 yX0_cutTo ∈ mtbl := mem_c5 (i := 156) (by decide +kernel) rfl
theorem mL_X2_107 : Cond.methodLink RX2 107 yX4_startCode ∈ mtbl := mem_c5 (i := 148) (by decide +kernel) rfl
theorem mL_X2_113 : Cond.methodLink RX2 113 yX4_add ∈ mtbl := mem_c5 (i := 149) (by decide +kernel) rfl
theorem mL_X2_116 : Cond.methodLink RX2 116 yX4_addWord ∈ mtbl := mem_c5 (i := 150) (by decide +kernel) rfl
theorem mL_X2_119 : Cond.methodLink RX2 119 yX4_finishCode ∈ mtbl := mem_c5 (i := 154) (by decide +kernel) rfl
theorem mL_X2_122 : Cond.methodLink RX2 122 yX2_startCounter ∈ mtbl := mem_c5 (i := 161) (by decide +kernel) rfl
theorem mL_X2_126 : Cond.methodLink RX2 126 yX2_half ∈ mtbl := mem_c5 (i := 169) (by decide +kernel) rfl
theorem mL_X2_143 : Cond.methodLink RX2 143 yX2_addToSum ∈ mtbl := mem_c5 (i := 173) (by decide +kernel) rfl
theorem mL_X2_148 : Cond.methodLink RX2 148 yX2_timesFactor ∈ mtbl := mem_c5 (i := 177) (by decide +kernel) rfl
theorem mL_X2_152 : Cond.methodLink RX2 152 yX2_putMarkHalf ∈ mtbl := mem_c5 (i := 183) (by decide +kernel) rfl
theorem mL_X2_156 : Cond.methodLink RX2 156 yX0_putWord ∈ mtbl := mem_c5 (i := 187) (by decide +kernel) rfl
theorem mL_X3_29 : Cond.methodLink RX3 29 yX3_ofDigits ∈ mtbl := mem_c2 (i := 157) (by decide +kernel) rfl
theorem mL_X3_67 : Cond.methodLink RX3 67 yX0_init ∈ mtbl := mem_c2 (i := 161) (by decide +kernel) rfl
theorem mL_X3_82 : Cond.methodLink RX3 82 yX6_become ∈ mtbl := mem_c2 (i := 220) (by decide +kernel) rfl
theorem mL_X3_88 : Cond.methodLink RX3 88 yX6_take ∈ mtbl := mem_c3 (i := 14) (by decide +kernel) rfl
theorem mL_X3_96 : Cond.methodLink RX3 96 yX6_lead ∈ mtbl := mem_c3 (i := 20) (by decide +kernel) rfl
theorem mL_X3_100 : Cond.methodLink RX3 100 yJ0_length_8abf5 ∈ mtbl := mem_c2 (i := 162) (by decide +kernel) rfl
theorem mL_X3_106 : Cond.methodLink RX3 106 yJ0_charAt_5068e ∈ mtbl := mem_c2 (i := 172) (by decide +kernel) rfl
theorem mL_X3_116 : Cond.methodLink RX3 116 yX0_put ∈ mtbl := mem_c2 (i := 213) (by decide +kernel) rfl
theorem mL_X3_119 : Cond.methodLink RX3 119 yX0_compare ∈ mtbl := mem_c6 (i := 2) (by decide +kernel) rfl
theorem mL_X3_123 : Cond.methodLink RX3 123 yX6_times ∈ mtbl := mem_c6 (i := 3) (by decide +kernel) rfl
theorem mL_X3_127 : Cond.methodLink RX3 127 yX6_minus ∈ mtbl := mem_c6 (i := 4) (by decide +kernel) rfl
theorem mL_X3_130 : Cond.methodLink RX3 130 yX6_plus ∈ mtbl := mem_c6 (i := 8) (by decide +kernel) rfl
theorem mL_X3_133 : Cond.methodLink RX3 133 yX6_areSame ∈ mtbl := mem_c6 (i := 9) (by decide +kernel) rfl
theorem mL_X3_137 : Cond.methodLink RX3 137 yX3_isSecret ∈ mtbl := mem_c6 (i := 174) (by decide +kernel) rfl
theorem mL_X3_141 : Cond.methodLink RX3 141 yX3_sumUp ∈ mtbl := mem_c6 (i := 178) (by decide +kernel) rfl
theorem mL_X3_145 : Cond.methodLink RX3 145 yX3_putSum ∈ mtbl := mem_c6 (i := 179) (by decide +kernel) rfl
theorem mL_X3_149 : Cond.methodLink RX3 149 yX0_same ∈ mtbl := mem_c6 (i := 180) (by decide +kernel) rfl
theorem mL_X3_152 : Cond.methodLink RX3 152 yX3_twice ∈ mtbl := mem_c6 (i := 17) (by decide +kernel) rfl
theorem mL_X3_155 : Cond.methodLink RX3 155 yX0_get ∈ mtbl := mem_c6 (i := 21) (by decide +kernel) rfl
theorem mL_X3_158 : Cond.methodLink RX3 158 yX3_add ∈ mtbl := mem_c6 (i := 22) (by decide +kernel) rfl
theorem mL_X3_162 : Cond.methodLink RX3 162 yX6_isZero ∈ mtbl := mem_c6 (i := 26) (by decide +kernel) rfl
theorem mL_X3_166 : Cond.methodLink RX3 166 arraycopyName ∈ mtbl := mem_c6 (i := 30) (by decide +kernel) rfl
theorem mL_X3_172 : Cond.methodLink RX3 172 yX6_leadBack ∈ mtbl := mem_c6 (i := 35) (by decide +kernel) rfl
theorem mL_X3_175 : Cond.methodLink RX3 175 yX6_raise ∈ mtbl := mem_c6 (i := 39) (by decide +kernel) rfl
theorem mL_X3_179 : Cond.methodLink RX3 179 yX0_clear ∈ mtbl := mem_c6 (i := 40) (by decide +kernel) rfl
theorem mL_X3_182 : Cond.methodLink RX3 182 yX6_give ∈ mtbl := mem_c6 (i := 41) (by decide +kernel) rfl
theorem mL_X3_190 : Cond.methodLink RX3 190 yX0_putPart ∈ mtbl := mem_c7 (i := 98) (by decide +kernel) rfl
theorem mL_X3_194 : Cond.methodLink RX3 194 yX3_load ∈ mtbl := mem_c7 (i := 158) (by decide +kernel) rfl
theorem mL_X4_35 : Cond.methodLink RX4 35 yX0_init ∈ mtbl := mem_c1 (i := 229) (by decide +kernel) rfl
theorem mL_X4_55 : Cond.methodLink RX4 55 arraycopyName ∈ mtbl := mem_c5 (i := 0) (by decide +kernel) rfl
theorem mL_X4_64 : Cond.methodLink RX4 64 yX0_get ∈ mtbl := mem_c5 (i := 7) (by decide +kernel) rfl
theorem mL_X4_68 : Cond.methodLink RX4 68 yX4_addByte ∈ mtbl := mem_c5 (i := 8) (by decide +kernel) rfl
theorem mL_X4_71 : Cond.methodLink RX4 71 yX4_mixWide ∈ mtbl := mem_c5 (i := 12) (by decide +kernel) rfl
theorem mL_X4_74 : Cond.methodLink RX4 74 yX4_mix ∈ mtbl := mem_c5 (i := 19) (by decide +kernel) rfl
theorem mL_X4_77 : Cond.methodLink RX4 77 yX0_putWord ∈ mtbl := mem_c5 (i := 29) (by decide +kernel) rfl
theorem mL_X4_88 : Cond.methodLink RX4 88 yX4_start ∈ mtbl := mem_c5 (i := 38) (by decide +kernel) rfl
theorem mL_X4_91 : Cond.methodLink RX4 91 yX0_clear ∈ mtbl := mem_c5 (i := 39) (by decide +kernel) rfl
theorem mL_X4_94 : Cond.methodLink RX4 94 yX4_add ∈ mtbl := mem_c5 (i := 40) (by decide +kernel) rfl
theorem mL_X4_98 : Cond.methodLink RX4 98 yX4_finish ∈ mtbl := mem_c5 (i := 41) (by decide +kernel) rfl
theorem mL_X4_102 : Cond.methodLink RX4 102 yX4_addKeyBlock ∈ mtbl := mem_c5 (i := 42) (by decide +kernel) rfl
theorem mL_X4_108 : Cond.methodLink RX4 108 yX4_addWord ∈ mtbl := mem_c6 (i := 50) (by decide +kernel) rfl
theorem mL_X4_111 : Cond.methodLink RX4 111 yX0_cutTo ∈ mtbl := mem_c6 (i := 51) (by decide +kernel) rfl
theorem mL_X4_114 : Cond.methodLink RX4 114 yX0_become ∈ mtbl := mem_c6 (i := 52) (by decide +kernel) rfl
theorem mL_X5_19 : Cond.methodLink RX5 19 yX0_init ∈ mtbl := mem_c1 (i := 179) (by decide +kernel) rfl
theorem mL_X5_35 : Cond.methodLink RX5 35 yX9_isKind ∈ mtbl := mem_c6 (i := 61) (by decide +kernel) rfl
theorem mL_X5_43 : Cond.methodLink RX5 43 yX9_find ∈ mtbl := mem_c6 (i := 63) (by decide +kernel) rfl
theorem mL_X5_49 : Cond.methodLink RX5 49 yX9_says ∈ mtbl := mem_c6 (i := 74) (by decide +kernel) rfl
theorem mL_X5_61 : Cond.methodLink RX5 61 yX9_isStringOrNone ∈ mtbl := mem_c6 (i := 81) (by decide +kernel) rfl
theorem mL_X5_74 : Cond.methodLink RX5 74 yX5_areLettersThere ∈ mtbl := mem_c6 (i := 88) (by decide +kernel) rfl
theorem mL_X5_78 : Cond.methodLink RX5 78 yX0_clear ∈ mtbl := mem_c6 (i := 107) (by decide +kernel) rfl
theorem mL_X5_83 : Cond.methodLink RX5 83 yX9_putLettered ∈ mtbl := mem_c6 (i := 108) (by decide +kernel) rfl
theorem mL_X5_87 : Cond.methodLink RX5 87 yX5_takeRsa ∈ mtbl := mem_c6 (i := 116) (by decide +kernel) rfl
theorem mL_X5_90 : Cond.methodLink RX5 90 yX5_takePoint ∈ mtbl := mem_c6 (i := 126) (by decide +kernel) rfl
theorem mL_X5_94 : Cond.methodLink RX5 94 yX5_takeCurveSecret ∈ mtbl := mem_c6 (i := 129) (by decide +kernel) rfl
theorem mL_X5_97 : Cond.methodLink RX5 97 yX5_takeUse ∈ mtbl := mem_c6 (i := 133) (by decide +kernel) rfl
theorem mL_X5_101 : Cond.methodLink RX5 101 yX9_areLetters ∈ mtbl := mem_c6 (i := 93) (by decide +kernel) rfl
theorem mL_X5_108 : Cond.methodLink RX5 108 yX5_isPointThere ∈ mtbl := mem_c6 (i := 100) (by decide +kernel) rfl
theorem mL_X5_122 : Cond.methodLink RX5 122 yX6_suits ∈ mtbl := mem_c6 (i := 120) (by decide +kernel) rfl
theorem mL_X5_126 : Cond.methodLink RX5 126 yX0_isBelow ∈ mtbl := mem_c6 (i := 121) (by decide +kernel) rfl
theorem mL_X5_130 : Cond.methodLink RX5 130 yX0_get ∈ mtbl := mem_c6 (i := 125) (by decide +kernel) rfl
theorem mL_X5_151 : Cond.methodLink RX5 151 yX5_makeKidRoom ∈ mtbl := mem_c6 (i := 153) (by decide +kernel) rfl
theorem mL_X5_160 : Cond.methodLink RX5 160 yX0_putPart ∈ mtbl := mem_c6 (i := 158) (by decide +kernel) rfl
theorem mL_X5_167 : Cond.methodLink RX5 167 Lib.Math.max.name ∈ mtbl := mem_c6 (i := 157) (by decide +kernel) rfl
theorem mL_X5_181 : Cond.methodLink RX5 181 yX0_putText ∈ mtbl := mem_c6 (i := 205) (by decide +kernel) rfl
theorem mL_X5_185 : Cond.methodLink RX5 185 yX0_putLetters ∈ mtbl := mem_c6 (i := 206) (by decide +kernel) rfl
theorem mL_X5_198 : Cond.methodLink RX5 198 yX5_putPointMembers ∈ mtbl := mem_c6 (i := 212) (by decide +kernel) rfl
theorem mL_X5_202 : Cond.methodLink RX5 202 yX0_put ∈ mtbl := mem_c6 (i := 217) (by decide +kernel) rfl
theorem mL_X6_37 : Cond.methodLink RX6 37 yX0_get ∈ mtbl := mem_c2 (i := 232) (by decide +kernel) rfl
theorem mL_X6_41 : Cond.methodLink RX6 41 Lib.Math.min.name ∈ mtbl := mem_c2 (i := 224) (by decide +kernel) rfl
theorem mL_X6_47 : Cond.methodLink RX6 47 Lib.Math.max.name ∈ mtbl := mem_c2 (i := 227) (by decide +kernel) rfl
theorem mL_X6_50 : Cond.methodLink RX6 50 yX6_loadLimbs ∈ mtbl := mem_c2 (i := 228) (by decide +kernel) rfl
theorem mL_X6_62 : Cond.methodLink RX6 62 yX6_plus ∈ mtbl := mem_c2 (i := 238) (by decide +kernel) rfl
theorem mL_X6_66 : Cond.methodLink RX6 66 yX6_times ∈ mtbl := mem_c3 (i := 9) (by decide +kernel) rfl
theorem mL_X6_69 : Cond.methodLink RX6 69 yX0_put ∈ mtbl := mem_c5 (i := 233) (by decide +kernel) rfl
theorem mL_X6_73 : Cond.methodLink RX6 73 yX6_settle ∈ mtbl := mem_c3 (i := 2) (by decide +kernel) rfl
theorem mL_X6_77 : Cond.methodLink RX6 77 arraycopyName ∈ mtbl := mem_c3 (i := 6) (by decide +kernel) rfl
theorem mL_X7_19 : Cond.methodLink RX7 19 yX9_clear ∈ mtbl := mem_c4 (i := 30) (by decide +kernel) rfl
theorem mL_X7_45 : Cond.methodLink RX7 45 yX7_skipBlanks ∈ mtbl := mem_c4 (i := 35) (by decide +kernel) rfl
theorem mL_X7_48 : Cond.methodLink RX7 48 yX0_peek ∈ mtbl := mem_c4 (i := 43) (by decide +kernel) rfl
theorem mL_X7_52 : Cond.methodLink RX7 52 yX7_begin ∈ mtbl := mem_c4 (i := 44) (by decide +kernel) rfl
theorem mL_X7_56 : Cond.methodLink RX7 56 yX7_close ∈ mtbl := mem_c4 (i := 111) (by decide +kernel) rfl
theorem mL_X7_60 : Cond.methodLink RX7 60 yX7_memberName ∈ mtbl := mem_c4 (i := 119) (by decide +kernel) rfl
theorem mL_X7_63 : Cond.methodLink RX7 63 yX7_goOn ∈ mtbl := mem_c4 (i := 59) (by decide +kernel) rfl
theorem mL_X7_66 : Cond.methodLink RX7 66 yX7_wrong ∈ mtbl := mem_c4 (i := 51) (by decide +kernel) rfl
theorem mL_X7_69 : Cond.methodLink RX7 69 yX7_after ∈ mtbl := mem_c4 (i := 140) (by decide +kernel) rfl
theorem mL_X7_72 : Cond.methodLink RX7 72 yX0_get ∈ mtbl := mem_c4 (i := 39) (by decide +kernel) rfl
theorem mL_X7_75 : Cond.methodLink RX7 75 yX7_isBlank ∈ mtbl := mem_c4 (i := 40) (by decide +kernel) rfl
theorem mL_X7_78 : Cond.methodLink RX7 78 yX9_has ∈ mtbl := mem_c4 (i := 115) (by decide +kernel) rfl
theorem mL_X7_94 : Cond.methodLink RX7 94 yX7_string ∈ mtbl := mem_c4 (i := 81) (by decide +kernel) rfl
theorem mL_X7_100 : Cond.methodLink RX7 100 yX9_named ∈ mtbl := mem_c4 (i := 123) (by decide +kernel) rfl
theorem mL_X7_104 : Cond.methodLink RX7 104 yX7_kindBegunBy ∈ mtbl := mem_c4 (i := 48) (by decide +kernel) rfl
theorem mL_X7_110 : Cond.methodLink RX7 110 yX9_begin ∈ mtbl := mem_c4 (i := 55) (by decide +kernel) rfl
theorem mL_X7_119 : Cond.methodLink RX7 119 yX7_word ∈ mtbl := mem_c4 (i := 64) (by decide +kernel) rfl
theorem mL_X7_127 : Cond.methodLink RX7 127 yX7_number ∈ mtbl := mem_c4 (i := 72) (by decide +kernel) rfl
theorem mL_X7_136 : Cond.methodLink RX7 136 yJ0_length_8abf5 ∈ mtbl := mem_c4 (i := 68) (by decide +kernel) rfl
theorem mL_X7_142 : Cond.methodLink RX7 142 yJ0_charAt_5068e ∈ mtbl := mem_c4 (i := 69) (by decide +kernel) rfl
theorem mL_X7_146 : Cond.methodLink RX7 146 yX7_digits ∈ mtbl := mem_c4 (i := 76) (by decide +kernel) rfl
theorem mL_X7_149 : Cond.methodLink RX7 149 yX0_putPart ∈ mtbl := mem_c4 (i := 80) (by decide +kernel) rfl
theorem mL_X7_153 : Cond.methodLink RX7 153 yX7_escape ∈ mtbl := mem_c4 (i := 85) (by decide +kernel) rfl
theorem mL_X7_156 : Cond.methodLink RX7 156 yX7_putPoint ∈ mtbl := mem_c4 (i := 102) (by decide +kernel) rfl
theorem mL_X7_160 : Cond.methodLink RX7 160 yX0_put ∈ mtbl := mem_c4 (i := 106) (by decide +kernel) rfl
theorem mL_X7_163 : Cond.methodLink RX7 163 yX7_longForm ∈ mtbl := mem_c4 (i := 107) (by decide +kernel) rfl
theorem mL_X7_166 : Cond.methodLink RX7 166 yX7_shortEscaped ∈ mtbl := mem_c4 (i := 89) (by decide +kernel) rfl
theorem mL_X7_169 : Cond.methodLink RX7 169 yX7_fourDigits ∈ mtbl := mem_c4 (i := 92) (by decide +kernel) rfl
theorem mL_X7_179 : Cond.methodLink RX7 179 yX7_hexValue ∈ mtbl := mem_c4 (i := 96) (by decide +kernel) rfl
theorem mL_X8_22 : Cond.methodLink RX8 22 yX0_init ∈ mtbl := mem_c2 (i := 126) (by decide +kernel) rfl
theorem mL_X8_39 : Cond.methodLink RX8 39 yX6_become ∈ mtbl := mem_c5 (i := 222) (by decide +kernel) rfl
theorem mL_X8_47 : Cond.methodLink RX8 47 yX6_take ∈ mtbl := mem_c5 (i := 223) (by decide +kernel) rfl
theorem mL_X8_51 : Cond.methodLink RX8 51 yX6_raise ∈ mtbl := mem_c5 (i := 224) (by decide +kernel) rfl
theorem mL_X8_55 : Cond.methodLink RX8 55 yX0_clear ∈ mtbl := mem_c5 (i := 228) (by decide +kernel) rfl
theorem mL_X8_58 : Cond.methodLink RX8 58 yX6_give ∈ mtbl := mem_c5 (i := 229) (by decide +kernel) rfl
theorem mL_X8_62 : Cond.methodLink RX8 62 yX0_put ∈ mtbl := mem_c6 (i := 167) (by decide +kernel) rfl
theorem mL_X8_65 : Cond.methodLink RX8 65 yX8_raise ∈ mtbl := mem_c6 (i := 168) (by decide +kernel) rfl
theorem mL_X8_68 : Cond.methodLink RX8 68 yX0_get ∈ mtbl := mem_c6 (i := 169) (by decide +kernel) rfl
theorem mL_X8_76 : Cond.methodLink RX8 76 yX0_putSame ∈ mtbl := mem_c7 (i := 65) (by decide +kernel) rfl
theorem mL_X8_80 : Cond.methodLink RX8 80 yX0_putAll ∈ mtbl := mem_c7 (i := 69) (by decide +kernel) rfl
theorem mL_X8_83 : Cond.methodLink RX8 83 yX8_framePkcs ∈ mtbl := mem_c7 (i := 59) (by decide +kernel) rfl
theorem mL_X8_87 : Cond.methodLink RX8 87 yX0_compare ∈ mtbl := mem_c7 (i := 148) (by decide +kernel) rfl
theorem mL_X8_91 : Cond.methodLink RX8 91 yX8_isNumberOf ∈ mtbl := mem_c7 (i := 144) (by decide +kernel) rfl
theorem mL_X8_95 : Cond.methodLink RX8 95 yX0_same ∈ mtbl := mem_c7 (i := 149) (by decide +kernel) rfl
theorem mL_X8_99 : Cond.methodLink RX8 99 yX4_start ∈ mtbl := mem_c7 (i := 82) (by decide +kernel) rfl
theorem mL_X8_104 : Cond.methodLink RX8 104 yX4_add ∈ mtbl := mem_c7 (i := 84) (by decide +kernel) rfl
theorem mL_X8_108 : Cond.methodLink RX8 108 yX4_addWord ∈ mtbl := mem_c7 (i := 83) (by decide +kernel) rfl
theorem mL_X8_111 : Cond.methodLink RX8 111 yX4_finish ∈ mtbl := mem_c7 (i := 85) (by decide +kernel) rfl
theorem mL_X8_114 : Cond.methodLink RX8 114 yX0_set ∈ mtbl := mem_c7 (i := 90) (by decide +kernel) rfl
theorem mL_X8_117 : Cond.methodLink RX8 117 yX8_bitsOf ∈ mtbl := mem_c7 (i := 74) (by decide +kernel) rfl
theorem mL_X8_121 : Cond.methodLink RX8 121 yX0_putPart ∈ mtbl := mem_c7 (i := 77) (by decide +kernel) rfl
theorem mL_X8_124 : Cond.methodLink RX8 124 yX8_hashSalted ∈ mtbl := mem_c7 (i := 78) (by decide +kernel) rfl
theorem mL_X8_128 : Cond.methodLink RX8 128 yX8_maskFrame ∈ mtbl := mem_c7 (i := 86) (by decide +kernel) rfl
theorem mL_X8_132 : Cond.methodLink RX8 132 yX8_putEmptyHash ∈ mtbl := mem_c7 (i := 217) (by decide +kernel) rfl
theorem mL_X9_41 : Cond.methodLink RX9 41 yX0_init ∈ mtbl := mem_c1 (i := 73) (by decide +kernel) rfl
theorem mL_X9_52 : Cond.methodLink RX9 52 yX0_clear ∈ mtbl := mem_c4 (i := 34) (by decide +kernel) rfl
theorem mL_X9_55 : Cond.methodLink RX9 55 yX9_has ∈ mtbl := mem_c4 (i := 131) (by decide +kernel) rfl
theorem mL_X9_62 : Cond.methodLink RX9 62 yX0_compare ∈ mtbl := mem_c4 (i := 136) (by decide +kernel) rfl
theorem mL_X9_66 : Cond.methodLink RX9 66 yX9_isKind ∈ mtbl := mem_c4 (i := 127) (by decide +kernel) rfl
theorem mL_X9_70 : Cond.methodLink RX9 70 yX9_poolSays ∈ mtbl := mem_c4 (i := 132) (by decide +kernel) rfl
theorem mL_X9_74 : Cond.methodLink RX9 74 yJ0_length_8abf5 ∈ mtbl := mem_c6 (i := 71) (by decide +kernel) rfl
theorem mL_X9_80 : Cond.methodLink RX9 80 yX0_get ∈ mtbl := mem_c4 (i := 184) (by decide +kernel) rfl
theorem mL_X9_84 : Cond.methodLink RX9 84 yJ0_charAt_5068e ∈ mtbl := mem_c6 (i := 72) (by decide +kernel) rfl
theorem mL_X9_88 : Cond.methodLink RX9 88 yX9_poolSpells ∈ mtbl := mem_c6 (i := 67) (by decide +kernel) rfl
theorem mL_X9_92 : Cond.methodLink RX9 92 yX0_letterFault ∈ mtbl := mem_c6 (i := 97) (by decide +kernel) rfl
theorem mL_X9_96 : Cond.methodLink RX9 96 yX0_bytesFor ∈ mtbl := mem_c6 (i := 112) (by decide +kernel) rfl
theorem mL_X9_99 : Cond.methodLink RX9 99 yX0_putUnlettered ∈ mtbl := mem_c6 (i := 115) (by decide +kernel) rfl
theorem mL_X9_103 : Cond.methodLink RX9 103 yX9_closeTo ∈ mtbl := mem_c4 (i := 176) (by decide +kernel) rfl
theorem mL_X9_107 : Cond.methodLink RX9 107 yX0_put ∈ mtbl := mem_c4 (i := 180) (by decide +kernel) rfl
theorem mL_X9_110 : Cond.methodLink RX9 110 yX9_putString ∈ mtbl := mem_c4 (i := 181) (by decide +kernel) rfl
theorem mL_X9_114 : Cond.methodLink RX9 114 yX9_putStart ∈ mtbl := mem_c4 (i := 195) (by decide +kernel) rfl
theorem mL_X9_120 : Cond.methodLink RX9 120 yX0_putText ∈ mtbl := mem_c4 (i := 189) (by decide +kernel) rfl
theorem mL_X9_128 : Cond.methodLink RX9 128 yX0_putPart ∈ mtbl := mem_c4 (i := 202) (by decide +kernel) rfl
theorem mL_X9_131 : Cond.methodLink RX9 131 yX9_shortEscape ∈ mtbl := mem_c4 (i := 185) (by decide +kernel) rfl
theorem mL_X10_11 : Cond.methodLink RX10 11 yX0_init ∈ mtbl := mem_c3 (i := 83) (by decide +kernel) rfl
theorem mL_X10_64 : Cond.methodLink RX10 64 yX0_get ∈ mtbl := mem_c7 (i := 107) (by decide +kernel) rfl
theorem mL_X10_68 : Cond.methodLink RX10 68 yX10_partStart ∈ mtbl := mem_c7 (i := 112) (by decide +kernel) rfl
theorem mL_X10_71 : Cond.methodLink RX10 71 yX10_partEnd ∈ mtbl := mem_c7 (i := 116) (by decide +kernel) rfl
theorem mL_X10_74 : Cond.methodLink RX10 74 yX0_letterFault ∈ mtbl := mem_c7 (i := 120) (by decide +kernel) rfl
theorem mL_X10_78 : Cond.methodLink RX10 78 yX0_bytesFor ∈ mtbl := mem_c8 (i := 30) (by decide +kernel) rfl
theorem mL_X10_81 : Cond.methodLink RX10 81 yX0_clear ∈ mtbl := mem_c6 (i := 239) (by decide +kernel) rfl
theorem mL_X10_84 : Cond.methodLink RX10 84 yX0_putUnlettered ∈ mtbl := mem_c7 (i := 125) (by decide +kernel) rfl
theorem mL_X10_88 : Cond.methodLink RX10 88 yX10_partBytes ∈ mtbl := mem_c8 (i := 26) (by decide +kernel) rfl
theorem mL_X10_103 : Cond.methodLink RX10 103 yX10_readPart ∈ mtbl := mem_c8 (i := 31) (by decide +kernel) rfl
theorem mL_X10_118 : Cond.methodLink RX10 118 yX9_saysSame ∈ mtbl := mem_c7 (i := 131) (by decide +kernel) rfl
theorem mL_X10_125 : Cond.methodLink RX10 125 yX9_find ∈ mtbl := mem_c7 (i := 14) (by decide +kernel) rfl
theorem mL_X10_129 : Cond.methodLink RX10 129 yX9_isKind ∈ mtbl := mem_c7 (i := 20) (by decide +kernel) rfl
theorem mL_X10_135 : Cond.methodLink RX10 135 yX9_isStringOrNone ∈ mtbl := mem_c7 (i := 22) (by decide +kernel) rfl
theorem mL_X10_139 : Cond.methodLink RX10 139 yX10_isCritSound ∈ mtbl := mem_c7 (i := 23) (by decide +kernel) rfl
theorem mL_X10_155 : Cond.methodLink RX10 155 yX10_isSaidBefore ∈ mtbl := mem_c7 (i := 27) (by decide +kernel) rfl
theorem mL_X10_168 : Cond.methodLink RX10 168 yX0_compare ∈ mtbl := mem_c7 (i := 31) (by decide +kernel) rfl
theorem mL_X10_174 : Cond.methodLink RX10 174 yX10_isHeadSound ∈ mtbl := mem_c7 (i := 15) (by decide +kernel) rfl
theorem mL_X10_182 : Cond.methodLink RX10 182 yX9_says ∈ mtbl := mem_c7 (i := 33) (by decide +kernel) rfl
theorem mL_X10_186 : Cond.methodLink RX10 186 yX10_listed ∈ mtbl := mem_c7 (i := 34) (by decide +kernel) rfl
theorem mL_X10_203 : Cond.methodLink RX10 203 yX10_listedWay ∈ mtbl := mem_c8 (i := 3) (by decide +kernel) rfl
theorem mL_X10_207 : Cond.methodLink RX10 207 yX10_takeAgreement ∈ mtbl := mem_c8 (i := 6) (by decide +kernel) rfl
theorem mL_X10_217 : Cond.methodLink RX10 217 yX5_isPointThere ∈ mtbl := mem_c8 (i := 13) (by decide +kernel) rfl
theorem mL_X10_220 : Cond.methodLink RX10 220 yX5_takePoint ∈ mtbl := mem_c8 (i := 14) (by decide +kernel) rfl
theorem mL_X10_226 : Cond.methodLink RX10 226 yX10_takeParty ∈ mtbl := mem_c8 (i := 16) (by decide +kernel) rfl
theorem mL_X10_231 : Cond.methodLink RX10 231 yX9_areLetters ∈ mtbl := mem_c8 (i := 19) (by decide +kernel) rfl
theorem mL_X10_234 : Cond.methodLink RX10 234 yX9_putLettered ∈ mtbl := mem_c8 (i := 20) (by decide +kernel) rfl
theorem mL_X10_238 : Cond.methodLink RX10 238 yX10_startHead ∈ mtbl := mem_c6 (i := 235) (by decide +kernel) rfl
theorem mL_X10_242 : Cond.methodLink RX10 242 yX10_putKid ∈ mtbl := mem_c7 (i := 3) (by decide +kernel) rfl
theorem mL_X10_246 : Cond.methodLink RX10 246 yX0_put ∈ mtbl := mem_c7 (i := 2) (by decide +kernel) rfl
theorem mL_X10_251 : Cond.methodLink RX10 251 yX0_putText ∈ mtbl := mem_c7 (i := 1) (by decide +kernel) rfl
theorem mL_X10_256 : Cond.methodLink RX10 256 yX9_putString ∈ mtbl := mem_c7 (i := 8) (by decide +kernel) rfl
theorem mL_X10_264 : Cond.methodLink RX10 264 yX5_putPointMembers ∈ mtbl := mem_c7 (i := 194) (by decide +kernel) rfl
theorem mL_X10_270 : Cond.methodLink RX10 270 yX10_putParty ∈ mtbl := mem_c7 (i := 196) (by decide +kernel) rfl
theorem mL_X10_276 : Cond.methodLink RX10 276 yX0_putLetters ∈ mtbl := mem_c7 (i := 200) (by decide +kernel) rfl
theorem mL_X10_282 : Cond.methodLink RX10 282 yX0_putPart ∈ mtbl := mem_c7 (i := 179) (by decide +kernel) rfl
theorem mL_X10_285 : Cond.methodLink RX10 285 yX0_lettersFor ∈ mtbl := mem_c7 (i := 225) (by decide +kernel) rfl
theorem mL_X10_288 : Cond.methodLink RX10 288 yX2_sealedBytes ∈ mtbl := mem_c7 (i := 226) (by decide +kernel) rfl
theorem mL_L_9 : Cond.methodLink RL 9 yX11_init ∈ mtbl := mem_c1 (i := 24) (by decide +kernel) rfl
theorem mL_L_12 : Cond.methodLink RL 12 yX13_init ∈ mtbl := mem_c8 (i := 42) (by decide +kernel) rfl
theorem mL_L_13 : Cond.methodLink RL 13 yX11_feed ∈ mtbl := mem_c3 (i := 202) (by decide +kernel) rfl
theorem mL_L_17 : Cond.methodLink RL 17 yX13_feed ∈ mtbl := mem_c10 (i := 70) (by decide +kernel) rfl
theorem mL_L_18 : Cond.methodLink RL 18 yX11_end ∈ mtbl := mem_c3 (i := 211) (by decide +kernel) rfl
theorem mL_L_22 : Cond.methodLink RL 22 yX13_end ∈ mtbl := mem_c10 (i := 77) (by decide +kernel) rfl
theorem mL_L_23 : Cond.methodLink RL 23 yX11_row ∈ mtbl := mem_c3 (i := 220) (by decide +kernel) rfl
theorem mL_L_26 : Cond.methodLink RL 26 yX13_row ∈ mtbl := mem_c10 (i := 81) (by decide +kernel) rfl
theorem mL_L_27 : Cond.methodLink RL 27 yX11_keep ∈ mtbl := mem_c4 (i := 2) (by decide +kernel) rfl
theorem mL_L_30 : Cond.methodLink RL 30 yX13_keep ∈ mtbl := mem_c10 (i := 91) (by decide +kernel) rfl
theorem mL_L_31 : Cond.methodLink RL 31 yX11_poke ∈ mtbl := mem_c4 (i := 6) (by decide +kernel) rfl
theorem mL_L_35 : Cond.methodLink RL 35 yX13_poke ∈ mtbl := mem_c10 (i := 95) (by decide +kernel) rfl
theorem mL_L_36 : Cond.methodLink RL 36 yX11_size ∈ mtbl := mem_c4 (i := 10) (by decide +kernel) rfl
theorem mL_L_39 : Cond.methodLink RL 39 yX13_size ∈ mtbl := mem_c10 (i := 99) (by decide +kernel) rfl
theorem mL_L_40 : Cond.methodLink RL 40 yX11_out ∈ mtbl := mem_c4 (i := 14) (by decide +kernel) rfl
theorem mL_L_43 : Cond.methodLink RL 43 yX13_out ∈ mtbl := mem_c10 (i := 103) (by decide +kernel) rfl
theorem mL_L_44 : Cond.methodLink RL 44 yX11_json ∈ mtbl := mem_c4 (i := 22) (by decide +kernel) rfl
theorem mL_L_47 : Cond.methodLink RL 47 yX13_json ∈ mtbl := mem_c10 (i := 107) (by decide +kernel) rfl
theorem mL_L_48 : Cond.methodLink RL 48 yX11_value ∈ mtbl := mem_c4 (i := 144) (by decide +kernel) rfl
theorem mL_L_52 : Cond.methodLink RL 52 yX13_value ∈ mtbl := mem_c11 (i := 5) (by decide +kernel) rfl
theorem mL_L_53 : Cond.methodLink RL 53 yX11_text ∈ mtbl := mem_c4 (i := 149) (by decide +kernel) rfl
theorem mL_L_56 : Cond.methodLink RL 56 yX13_text ∈ mtbl := mem_c11 (i := 13) (by decide +kernel) rfl
theorem mL_L_57 : Cond.methodLink RL 57 yX11_name ∈ mtbl := mem_c4 (i := 158) (by decide +kernel) rfl
theorem mL_L_60 : Cond.methodLink RL 60 yX13_name ∈ mtbl := mem_c11 (i := 21) (by decide +kernel) rfl
theorem mL_L_61 : Cond.methodLink RL 61 yX11_member ∈ mtbl := mem_c4 (i := 163) (by decide +kernel) rfl
theorem mL_L_64 : Cond.methodLink RL 64 yX13_member ∈ mtbl := mem_c11 (i := 25) (by decide +kernel) rfl
theorem mL_L_65 : Cond.methodLink RL 65 yX11_write ∈ mtbl := mem_c4 (i := 168) (by decide +kernel) rfl
theorem mL_L_68 : Cond.methodLink RL 68 yX13_write ∈ mtbl := mem_c11 (i := 29) (by decide +kernel) rfl
theorem mL_L_69 : Cond.methodLink RL 69 yX11_encode ∈ mtbl := mem_c4 (i := 203) (by decide +kernel) rfl
theorem mL_L_72 : Cond.methodLink RL 72 yX13_encode ∈ mtbl := mem_c11 (i := 55) (by decide +kernel) rfl
theorem mL_L_73 : Cond.methodLink RL 73 yX11_decode ∈ mtbl := mem_c4 (i := 216) (by decide +kernel) rfl
theorem mL_L_76 : Cond.methodLink RL 76 yX13_decode ∈ mtbl := mem_c11 (i := 66) (by decide +kernel) rfl
theorem mL_L_77 : Cond.methodLink RL 77 yX11_hash ∈ mtbl := mem_c4 (i := 230) (by decide +kernel) rfl
theorem mL_L_80 : Cond.methodLink RL 80 yX13_hash ∈ mtbl := mem_c11 (i := 78) (by decide +kernel) rfl
theorem mL_L_81 : Cond.methodLink RL 81 yX11_code ∈ mtbl := mem_c5 (i := 30) (by decide +kernel) rfl
theorem mL_L_84 : Cond.methodLink RL 84 yX13_code ∈ mtbl := mem_c11 (i := 142) (by decide +kernel) rfl
theorem mL_L_85 : Cond.methodLink RL 85 yX11_block ∈ mtbl := mem_c5 (i := 50) (by decide +kernel) rfl
theorem mL_L_89 : Cond.methodLink RL 89 yX13_block ∈ mtbl := mem_c11 (i := 154) (by decide +kernel) rfl
theorem mL_L_90 : Cond.methodLink RL 90 yX11_wrap ∈ mtbl := mem_c5 (i := 90) (by decide +kernel) rfl
theorem mL_L_93 : Cond.methodLink RL 93 yX13_wrap ∈ mtbl := mem_c11 (i := 182) (by decide +kernel) rfl
theorem mL_L_94 : Cond.methodLink RL 94 yX11_unwrap ∈ mtbl := mem_c5 (i := 105) (by decide +kernel) rfl
theorem mL_L_97 : Cond.methodLink RL 97 yX13_unwrap ∈ mtbl := mem_c11 (i := 194) (by decide +kernel) rfl
theorem mL_L_98 : Cond.methodLink RL 98 yX11_seal ∈ mtbl := mem_c5 (i := 113) (by decide +kernel) rfl
theorem mL_L_101 : Cond.methodLink RL 101 yX13_seal ∈ mtbl := mem_c11 (i := 203) (by decide +kernel) rfl
theorem mL_L_102 : Cond.methodLink RL 102 yX11_open ∈ mtbl := mem_c5 (i := 192) (by decide +kernel) rfl
theorem mL_L_105 : Cond.methodLink RL 105 yX13_open ∈ mtbl := mem_c12 (i := 9) (by decide +kernel) rfl
theorem mL_L_106 : Cond.methodLink RL 106 yX11_power ∈ mtbl := mem_c5 (i := 211) (by decide +kernel) rfl
theorem mL_L_109 : Cond.methodLink RL 109 yX13_power ∈ mtbl := mem_c12 (i := 17) (by decide +kernel) rfl
theorem mL_L_110 : Cond.methodLink RL 110 yX11_multiply ∈ mtbl := mem_c5 (i := 234) (by decide +kernel) rfl
theorem mL_L_113 : Cond.methodLink RL 113 yX13_multiply ∈ mtbl := mem_c12 (i := 45) (by decide +kernel) rfl
theorem mL_L_114 : Cond.methodLink RL 114 yX11_derive ∈ mtbl := mem_c6 (i := 42) (by decide +kernel) rfl
theorem mL_L_117 : Cond.methodLink RL 117 yX13_derive ∈ mtbl := mem_c12 (i := 87) (by decide +kernel) rfl
theorem mL_L_118 : Cond.methodLink RL 118 yX11_key ∈ mtbl := mem_c6 (i := 53) (by decide +kernel) rfl
theorem mL_L_121 : Cond.methodLink RL 121 yX13_key ∈ mtbl := mem_c12 (i := 95) (by decide +kernel) rfl
theorem mL_L_122 : Cond.methodLink RL 122 yX11_drop ∈ mtbl := mem_c6 (i := 184) (by decide +kernel) rfl
theorem mL_L_125 : Cond.methodLink RL 125 yX13_drop ∈ mtbl := mem_c12 (i := 164) (by decide +kernel) rfl
theorem mL_L_126 : Cond.methodLink RL 126 yX11_told ∈ mtbl := mem_c6 (i := 192) (by decide +kernel) rfl
theorem mL_L_129 : Cond.methodLink RL 129 yX13_told ∈ mtbl := mem_c12 (i := 172) (by decide +kernel) rfl
theorem mL_L_130 : Cond.methodLink RL 130 yX11_print ∈ mtbl := mem_c6 (i := 196) (by decide +kernel) rfl
theorem mL_L_133 : Cond.methodLink RL 133 yX13_print ∈ mtbl := mem_c12 (i := 176) (by decide +kernel) rfl
theorem mL_L_134 : Cond.methodLink RL 134 yX11_sign ∈ mtbl := mem_c6 (i := 218) (by decide +kernel) rfl
theorem mL_L_137 : Cond.methodLink RL 137 yX13_sign ∈ mtbl := mem_c12 (i := 191) (by decide +kernel) rfl
theorem mL_L_138 : Cond.methodLink RL 138 yX11_verify ∈ mtbl := mem_c7 (i := 99) (by decide +kernel) rfl
theorem mL_L_141 : Cond.methodLink RL 141 yX13_verify ∈ mtbl := mem_c13 (i := 57) (by decide +kernel) rfl
theorem mL_L_142 : Cond.methodLink RL 142 yX11_encrypt ∈ mtbl := mem_c7 (i := 164) (by decide +kernel) rfl
theorem mL_L_146 : Cond.methodLink RL 146 yX13_encrypt ∈ mtbl := mem_c13 (i := 85) (by decide +kernel) rfl
theorem mL_L_147 : Cond.methodLink RL 147 yX11_decrypt ∈ mtbl := mem_c7 (i := 233) (by decide +kernel) rfl
theorem mL_L_150 : Cond.methodLink RL 150 yX13_decrypt ∈ mtbl := mem_c13 (i := 116) (by decide +kernel) rfl
theorem mL_X13_309 : Cond.methodLink RX13 309 yX13_layCipher ∈ mtbl := mem_c8 (i := 86) (by decide +kernel) rfl
theorem mL_X13_312 : Cond.methodLink RX13 312 yX13_layCurve ∈ mtbl := mem_c8 (i := 96) (by decide +kernel) rfl
theorem mL_X13_317 : Cond.methodLink RX13 317 yX13_move ∈ mtbl := mem_c10 (i := 88) (by decide +kernel) rfl
theorem mL_X13_328 : Cond.methodLink RX13 328 yX13_put ∈ mtbl := mem_c10 (i := 74) (by decide +kernel) rfl
theorem mL_X13_332 : Cond.methodLink RX13 332 yX13_isRow ∈ mtbl := mem_c10 (i := 85) (by decide +kernel) rfl
theorem mL_X13_351 : Cond.methodLink RX13 351 yX13_at ∈ mtbl := mem_c10 (i := 119) (by decide +kernel) rfl
theorem mL_X13_364 : Cond.methodLink RX13 364 yX13_blanks ∈ mtbl := mem_c10 (i := 115) (by decide +kernel) rfl
theorem mL_X13_367 : Cond.methodLink RX13 367 yX13_readValue ∈ mtbl := mem_c10 (i := 123) (by decide +kernel) rfl
theorem mL_X13_371 : Cond.methodLink RX13 371 yX13_good ∈ mtbl := mem_c10 (i := 135) (by decide +kernel) rfl
theorem mL_X13_375 : Cond.methodLink RX13 375 yX13_fail ∈ mtbl := mem_c10 (i := 127) (by decide +kernel) rfl
theorem mL_X13_379 : Cond.methodLink RX13 379 yX13_isDigit ∈ mtbl := mem_c8 (i := 108) (by decide +kernel) rfl
theorem mL_X13_382 : Cond.methodLink RX13 382 yX13_readMany ∈ mtbl := mem_c10 (i := 131) (by decide +kernel) rfl
theorem mL_X13_386 : Cond.methodLink RX13 386 yX13_readString ∈ mtbl := mem_c10 (i := 143) (by decide +kernel) rfl
theorem mL_X13_395 : Cond.methodLink RX13 395 yX13_word ∈ mtbl := mem_c10 (i := 232) (by decide +kernel) rfl
theorem mL_X13_399 : Cond.methodLink RX13 399 yX13_number ∈ mtbl := mem_c10 (i := 237) (by decide +kernel) rfl
theorem mL_X13_402 : Cond.methodLink RX13 402 yX13_keep8 ∈ mtbl := mem_c10 (i := 207) (by decide +kernel) rfl
theorem mL_X13_405 : Cond.methodLink RX13 405 yJ0_length_8abf5 ∈ mtbl := mem_c10 (i := 236) (by decide +kernel) rfl
theorem mL_X13_410 : Cond.methodLink RX13 410 yJ0_charAt_5068e ∈ mtbl := mem_c8 (i := 104) (by decide +kernel) rfl
theorem mL_X13_414 : Cond.methodLink RX13 414 yX13_digits ∈ mtbl := mem_c11 (i := 1) (by decide +kernel) rfl
theorem mL_X13_417 : Cond.methodLink RX13 417 yX13_readName ∈ mtbl := mem_c10 (i := 139) (by decide +kernel) rfl
theorem mL_X13_420 : Cond.methodLink RX13 420 yX13_same ∈ mtbl := mem_c10 (i := 226) (by decide +kernel) rfl
theorem mL_X13_424 : Cond.methodLink RX13 424 yX13_escape ∈ mtbl := mem_c10 (i := 147) (by decide +kernel) rfl
theorem mL_X13_427 : Cond.methodLink RX13 427 yX13_wide ∈ mtbl := mem_c10 (i := 222) (by decide +kernel) rfl
theorem mL_X13_432 : Cond.methodLink RX13 432 yJ0_indexOf_0f7a4 ∈ mtbl := mem_c10 (i := 152) (by decide +kernel) rfl
theorem mL_X13_436 : Cond.methodLink RX13 436 yX13_four ∈ mtbl := mem_c10 (i := 211) (by decide +kernel) rfl
theorem mL_X13_443 : Cond.methodLink RX13 443 yX13_sign8 ∈ mtbl := mem_c10 (i := 218) (by decide +kernel) rfl
theorem mL_X13_446 : Cond.methodLink RX13 446 yX13_hexOf ∈ mtbl := mem_c8 (i := 105) (by decide +kernel) rfl
theorem mL_X13_452 : Cond.methodLink RX13 452 yX13_read ∈ mtbl := mem_c10 (i := 111) (by decide +kernel) rfl
theorem mL_X13_460 : Cond.methodLink RX13 460 yX13_isValue ∈ mtbl := mem_c11 (i := 9) (by decide +kernel) rfl
theorem mL_X13_463 : Cond.methodLink RX13 463 yX13_tell ∈ mtbl := mem_c11 (i := 17) (by decide +kernel) rfl
theorem mL_X13_470 : Cond.methodLink RX13 470 yX13_say ∈ mtbl := mem_c11 (i := 41) (by decide +kernel) rfl
theorem mL_X13_477 : Cond.methodLink RX13 477 yX13_sayAll ∈ mtbl := mem_c11 (i := 37) (by decide +kernel) rfl
theorem mL_X13_480 : Cond.methodLink RX13 480 yX13_sayValue ∈ mtbl := mem_c11 (i := 33) (by decide +kernel) rfl
theorem mL_X13_483 : Cond.methodLink RX13 483 yX13_saved ∈ mtbl := mem_c11 (i := 51) (by decide +kernel) rfl
theorem mL_X13_486 : Cond.methodLink RX13 486 yX13_sayString ∈ mtbl := mem_c11 (i := 45) (by decide +kernel) rfl
theorem mL_X13_490 : Cond.methodLink RX13 490 yX13_letterOf ∈ mtbl := mem_c11 (i := 63) (by decide +kernel) rfl
theorem mL_X13_493 : Cond.methodLink RX13 493 yX13_sixOf ∈ mtbl := mem_c11 (i := 74) (by decide +kernel) rfl
theorem mL_X13_500 : Cond.methodLink RX13 500 yX13_sayLetters ∈ mtbl := mem_c11 (i := 59) (by decide +kernel) rfl
theorem mL_X13_503 : Cond.methodLink RX13 503 yX13_unletter ∈ mtbl := mem_c11 (i := 70) (by decide +kernel) rfl
theorem mL_X13_514 : Cond.methodLink RX13 514 yX13_layNumber ∈ mtbl := mem_c11 (i := 104) (by decide +kernel) rfl
theorem mL_X13_518 : Cond.methodLink RX13 518 yX13_digest64 ∈ mtbl := mem_c11 (i := 94) (by decide +kernel) rfl
theorem mL_X13_521 : Cond.methodLink RX13 521 yX13_fill ∈ mtbl := mem_c11 (i := 98) (by decide +kernel) rfl
theorem mL_X13_524 : Cond.methodLink RX13 524 yX13_firstOf ∈ mtbl := mem_c11 (i := 108) (by decide +kernel) rfl
theorem mL_X13_528 : Cond.methodLink RX13 528 yX13_longAt ∈ mtbl := mem_c11 (i := 119) (by decide +kernel) rfl
theorem mL_X13_532 : Cond.methodLink RX13 532 yX13_turn32 ∈ mtbl := mem_c11 (i := 133) (by decide +kernel) rfl
theorem mL_X13_551 : Cond.methodLink RX13 551 yX13_right ∈ mtbl := mem_c11 (i := 137) (by decide +kernel) rfl
theorem mL_X13_558 : Cond.methodLink RX13 558 yX13_turn64 ∈ mtbl := mem_c11 (i := 123) (by decide +kernel) rfl
theorem mL_X13_561 : Cond.methodLink RX13 561 yX13_right64 ∈ mtbl := mem_c11 (i := 127) (by decide +kernel) rfl
theorem mL_X13_570 : Cond.methodLink RX13 570 yX13_empty ∈ mtbl := mem_c11 (i := 82) (by decide +kernel) rfl
theorem mL_X13_573 : Cond.methodLink RX13 573 yX13_lay ∈ mtbl := mem_c11 (i := 86) (by decide +kernel) rfl
theorem mL_X13_576 : Cond.methodLink RX13 576 yX13_digestOf ∈ mtbl := mem_c11 (i := 90) (by decide +kernel) rfl
theorem mL_X13_582 : Cond.methodLink RX13 582 yX13_tellMessage ∈ mtbl := mem_c11 (i := 146) (by decide +kernel) rfl
theorem mL_X13_585 : Cond.methodLink RX13 585 yX13_codeOf ∈ mtbl := mem_c11 (i := 150) (by decide +kernel) rfl
theorem mL_X13_589 : Cond.methodLink RX13 589 yX13_twice ∈ mtbl := mem_c8 (i := 93) (by decide +kernel) rfl
theorem mL_X13_592 : Cond.methodLink RX13 592 yX13_times ∈ mtbl := mem_c8 (i := 90) (by decide +kernel) rfl
theorem mL_X13_598 : Cond.methodLink RX13 598 yX13_withKey ∈ mtbl := mem_c11 (i := 170) (by decide +kernel) rfl
theorem mL_X13_601 : Cond.methodLink RX13 601 yX13_setKey ∈ mtbl := mem_c11 (i := 158) (by decide +kernel) rfl
theorem mL_X13_604 : Cond.methodLink RX13 604 yX13_setCells ∈ mtbl := mem_c11 (i := 162) (by decide +kernel) rfl
theorem mL_X13_608 : Cond.methodLink RX13 608 yX13_back ∈ mtbl := mem_c11 (i := 166) (by decide +kernel) rfl
theorem mL_X13_611 : Cond.methodLink RX13 611 yX13_forth ∈ mtbl := mem_c11 (i := 174) (by decide +kernel) rfl
theorem mL_X13_614 : Cond.methodLink RX13 614 yX13_getCells ∈ mtbl := mem_c11 (i := 178) (by decide +kernel) rfl
theorem mL_X13_619 : Cond.methodLink RX13 619 yX13_isCipherKey ∈ mtbl := mem_c11 (i := 186) (by decide +kernel) rfl
theorem mL_X13_622 : Cond.methodLink RX13 622 yX13_wrapUp ∈ mtbl := mem_c11 (i := 190) (by decide +kernel) rfl
theorem mL_X13_625 : Cond.methodLink RX13 625 yX13_unwrapIt ∈ mtbl := mem_c11 (i := 198) (by decide +kernel) rfl
theorem mL_X13_629 : Cond.methodLink RX13 629 yX13_keyOf ∈ mtbl := mem_c11 (i := 211) (by decide +kernel) rfl
theorem mL_X13_632 : Cond.methodLink RX13 632 yX13_markOf ∈ mtbl := mem_c11 (i := 217) (by decide +kernel) rfl
theorem mL_X13_650 : Cond.methodLink RX13 650 yX13_gather ∈ mtbl := mem_c12 (i := 0) (by decide +kernel) rfl
theorem mL_X13_653 : Cond.methodLink RX13 653 yX13_gatherAll ∈ mtbl := mem_c11 (i := 236) (by decide +kernel) rfl
theorem mL_X13_656 : Cond.methodLink RX13 656 yX13_setCounter ∈ mtbl := mem_c11 (i := 228) (by decide +kernel) rfl
theorem mL_X13_662 : Cond.methodLink RX13 662 yX13_stream ∈ mtbl := mem_c11 (i := 224) (by decide +kernel) rfl
theorem mL_X13_665 : Cond.methodLink RX13 665 yX13_sumMark ∈ mtbl := mem_c11 (i := 232) (by decide +kernel) rfl
theorem mL_X13_669 : Cond.methodLink RX13 669 yX13_codeMark ∈ mtbl := mem_c12 (i := 5) (by decide +kernel) rfl
theorem mL_X13_673 : Cond.methodLink RX13 673 yX13_beginningOf ∈ mtbl := mem_c11 (i := 214) (by decide +kernel) rfl
theorem mL_X13_676 : Cond.methodLink RX13 676 yX13_isContent ∈ mtbl := mem_c11 (i := 207) (by decide +kernel) rfl
theorem mL_X13_680 : Cond.methodLink RX13 680 yX13_sealIt ∈ mtbl := mem_c11 (i := 220) (by decide +kernel) rfl
theorem mL_X13_683 : Cond.methodLink RX13 683 yX13_openIt ∈ mtbl := mem_c12 (i := 13) (by decide +kernel) rfl
theorem mL_X13_687 : Cond.methodLink RX13 687 yX12_set ∈ mtbl := mem_c8 (i := 114) (by decide +kernel) rfl
theorem mL_X13_690 : Cond.methodLink RX13 690 yX12_reduce ∈ mtbl := mem_c12 (i := 25) (by decide +kernel) rfl
theorem mL_X13_694 : Cond.methodLink RX13 694 yX12_into ∈ mtbl := mem_c8 (i := 138) (by decide +kernel) rfl
theorem mL_X13_698 : Cond.methodLink RX13 698 yX12_power ∈ mtbl := mem_c12 (i := 33) (by decide +kernel) rfl
theorem mL_X13_702 : Cond.methodLink RX13 702 yX12_outOf ∈ mtbl := mem_c12 (i := 37) (by decide +kernel) rfl
theorem mL_X13_705 : Cond.methodLink RX13 705 yX12_store ∈ mtbl := mem_c12 (i := 41) (by decide +kernel) rfl
theorem mL_X13_709 : Cond.methodLink RX13 709 yX13_raise ∈ mtbl := mem_c12 (i := 21) (by decide +kernel) rfl
theorem mL_X13_715 : Cond.methodLink RX13 715 yX13_digits_ ∈ mtbl := mem_c8 (i := 101) (by decide +kernel) rfl
theorem mL_X13_726 : Cond.methodLink RX13 726 yX12_load ∈ mtbl := mem_c8 (i := 137) (by decide +kernel) rfl
theorem mL_X13_732 : Cond.methodLink RX13 732 yX12_order ∈ mtbl := mem_c12 (i := 53) (by decide +kernel) rfl
theorem mL_X13_736 : Cond.methodLink RX13 736 yX12_product ∈ mtbl := mem_c12 (i := 54) (by decide +kernel) rfl
theorem mL_X13_740 : Cond.methodLink RX13 740 yX12_add ∈ mtbl := mem_c12 (i := 55) (by decide +kernel) rfl
theorem mL_X13_743 : Cond.methodLink RX13 743 yX12_subtract ∈ mtbl := mem_c12 (i := 59) (by decide +kernel) rfl
theorem mL_X13_749 : Cond.methodLink RX13 749 yX12_isZero ∈ mtbl := mem_c12 (i := 71) (by decide +kernel) rfl
theorem mL_X13_756 : Cond.methodLink RX13 756 yX13_twicePoint ∈ mtbl := mem_c12 (i := 67) (by decide +kernel) rfl
theorem mL_X13_759 : Cond.methodLink RX13 759 yX13_addPoint ∈ mtbl := mem_c12 (i := 75) (by decide +kernel) rfl
theorem mL_X13_762 : Cond.methodLink RX13 762 yX13_setLessTwo ∈ mtbl := mem_c12 (i := 83) (by decide +kernel) rfl
theorem mL_X13_766 : Cond.methodLink RX13 766 yX13_setPoint ∈ mtbl := mem_c12 (i := 49) (by decide +kernel) rfl
theorem mL_X13_770 : Cond.methodLink RX13 770 yX13_times_ ∈ mtbl := mem_c12 (i := 63) (by decide +kernel) rfl
theorem mL_X13_772 : Cond.methodLink RX13 772 yX13_getPoint ∈ mtbl := mem_c12 (i := 79) (by decide +kernel) rfl
theorem mL_X13_775 : Cond.methodLink RX13 775 yX13_deriveIt ∈ mtbl := mem_c12 (i := 91) (by decide +kernel) rfl
theorem mL_X13_779 : Cond.methodLink RX13 779 yX13_digestMessage ∈ mtbl := mem_c12 (i := 238) (by decide +kernel) rfl
theorem mL_X13_784 : Cond.methodLink RX13 784 yX13_maskOn ∈ mtbl := mem_c13 (i := 9) (by decide +kernel) rfl
theorem mL_X13_788 : Cond.methodLink RX13 788 yX13_isSaid ∈ mtbl := mem_c12 (i := 104) (by decide +kernel) rfl
theorem mL_X13_792 : Cond.methodLink RX13 792 yX13_isString ∈ mtbl := mem_c12 (i := 113) (by decide +kernel) rfl
theorem mL_X13_796 : Cond.methodLink RX13 796 yX13_memberOf ∈ mtbl := mem_c12 (i := 100) (by decide +kernel) rfl
theorem mL_X13_803 : Cond.methodLink RX13 803 yX13_says ∈ mtbl := mem_c12 (i := 109) (by decide +kernel) rfl
theorem mL_X13_811 : Cond.methodLink RX13 811 yX13_isOdd ∈ mtbl := mem_c12 (i := 120) (by decide +kernel) rfl
theorem mL_X13_834 : Cond.methodLink RX13 834 yX13_bytesOf ∈ mtbl := mem_c12 (i := 131) (by decide +kernel) rfl
theorem mL_X13_847 : Cond.methodLink RX13 847 yX13_isRsa ∈ mtbl := mem_c12 (i := 138) (by decide +kernel) rfl
theorem mL_X13_850 : Cond.methodLink RX13 850 yX13_isEc ∈ mtbl := mem_c12 (i := 146) (by decide +kernel) rfl
theorem mL_X13_853 : Cond.methodLink RX13 853 yX13_keepKey ∈ mtbl := mem_c12 (i := 154) (by decide +kernel) rfl
theorem mL_X13_857 : Cond.methodLink RX13 857 yX13_isLessThan ∈ mtbl := mem_c12 (i := 142) (by decide +kernel) rfl
theorem mL_X13_861 : Cond.methodLink RX13 861 yX13_isSecret ∈ mtbl := mem_c12 (i := 150) (by decide +kernel) rfl
theorem mL_X13_867 : Cond.methodLink RX13 867 yX13_keepWord ∈ mtbl := mem_c12 (i := 160) (by decide +kernel) rfl
theorem mL_X13_871 : Cond.methodLink RX13 871 yX13_isKey ∈ mtbl := mem_c12 (i := 168) (by decide +kernel) rfl
theorem mL_X13_875 : Cond.methodLink RX13 875 yX13_sayPart ∈ mtbl := mem_c12 (i := 181) (by decide +kernel) rfl
theorem mL_X13_891 : Cond.methodLink RX13 891 yX13_begins ∈ mtbl := mem_c12 (i := 216) (by decide +kernel) rfl
theorem mL_X13_895 : Cond.methodLink RX13 895 yX13_wordOf ∈ mtbl := mem_c12 (i := 204) (by decide +kernel) rfl
theorem mL_X13_901 : Cond.methodLink RX13 901 yX13_isCrit ∈ mtbl := mem_c13 (i := 23) (by decide +kernel) rfl
theorem mL_X13_909 : Cond.methodLink RX13 909 yX13_isKnown ∈ mtbl := mem_c13 (i := 28) (by decide +kernel) rfl
theorem mL_X13_916 : Cond.methodLink RX13 916 yX13_wordAt ∈ mtbl := mem_c13 (i := 34) (by decide +kernel) rfl
theorem mL_X13_933 : Cond.methodLink RX13 933 yX13_agreed ∈ mtbl := mem_c13 (i := 38) (by decide +kernel) rfl
theorem mL_X13_950 : Cond.methodLink RX13 950 yX13_lets ∈ mtbl := mem_c12 (i := 200) (by decide +kernel) rfl
theorem mL_X13_957 : Cond.methodLink RX13 957 yX13_signPoint ∈ mtbl := mem_c12 (i := 230) (by decide +kernel) rfl
theorem mL_X13_960 : Cond.methodLink RX13 960 yX13_bitsOf ∈ mtbl := mem_c13 (i := 2) (by decide +kernel) rfl
theorem mL_X13_963 : Cond.methodLink RX13 963 yX13_saltOut ∈ mtbl := mem_c13 (i := 5) (by decide +kernel) rfl
theorem mL_X13_967 : Cond.methodLink RX13 967 yX13_fillOut ∈ mtbl := mem_c13 (i := 13) (by decide +kernel) rfl
theorem mL_X13_970 : Cond.methodLink RX13 970 yX13_digestNumber ∈ mtbl := mem_c12 (i := 234) (by decide +kernel) rfl
theorem mL_X13_973 : Cond.methodLink RX13 973 yX13_isSignedPoint ∈ mtbl := mem_c13 (i := 73) (by decide +kernel) rfl
theorem mL_X13_976 : Cond.methodLink RX13 976 yX13_isBelow ∈ mtbl := mem_c13 (i := 77) (by decide +kernel) rfl
theorem mL_X13_979 : Cond.methodLink RX13 979 yX13_isSalted ∈ mtbl := mem_c13 (i := 81) (by decide +kernel) rfl
theorem mL_X13_984 : Cond.methodLink RX13 984 yX13_sayWord ∈ mtbl := mem_c12 (i := 212) (by decide +kernel) rfl
theorem mL_X13_995 : Cond.methodLink RX13 995 yX13_maySign ∈ mtbl := mem_c12 (i := 195) (by decide +kernel) rfl
theorem mL_X13_999 : Cond.methodLink RX13 999 yX13_sayHead ∈ mtbl := mem_c12 (i := 207) (by decide +kernel) rfl
theorem mL_X13_1003 : Cond.methodLink RX13 1003 yX13_late ∈ mtbl := mem_c12 (i := 222) (by decide +kernel) rfl
theorem mL_X13_1010 : Cond.methodLink RX13 1010 yX13_headOf ∈ mtbl := mem_c13 (i := 18) (by decide +kernel) rfl
theorem mL_X13_1014 : Cond.methodLink RX13 1014 yX13_addLetters ∈ mtbl := mem_c13 (i := 45) (by decide +kernel) rfl
theorem mL_X13_1017 : Cond.methodLink RX13 1017 yX13_addByte ∈ mtbl := mem_c13 (i := 49) (by decide +kernel) rfl
theorem mL_X13_1020 : Cond.methodLink RX13 1020 yX13_signIt ∈ mtbl := mem_c12 (i := 226) (by decide +kernel) rfl
theorem mL_X13_1023 : Cond.methodLink RX13 1023 yX13_saidOut ∈ mtbl := mem_c13 (i := 53) (by decide +kernel) rfl
theorem mL_X13_1026 : Cond.methodLink RX13 1026 yX13_pointsOf ∈ mtbl := mem_c13 (i := 61) (by decide +kernel) rfl
theorem mL_X13_1029 : Cond.methodLink RX13 1029 yX13_hasKid ∈ mtbl := mem_c13 (i := 65) (by decide +kernel) rfl
theorem mL_X13_1032 : Cond.methodLink RX13 1032 yX13_isSigned ∈ mtbl := mem_c13 (i := 69) (by decide +kernel) rfl
theorem mL_X13_1035 : Cond.methodLink RX13 1035 yX13_nameOf ∈ mtbl := mem_c13 (i := 101) (by decide +kernel) rfl
theorem mL_X13_1041 : Cond.methodLink RX13 1041 yX13_maySeal ∈ mtbl := mem_c13 (i := 89) (by decide +kernel) rfl
theorem mL_X13_1045 : Cond.methodLink RX13 1045 yX13_agreeFresh ∈ mtbl := mem_c13 (i := 93) (by decide +kernel) rfl
theorem mL_X13_1049 : Cond.methodLink RX13 1049 yX13_sealRsa ∈ mtbl := mem_c13 (i := 105) (by decide +kernel) rfl
theorem mL_X13_1053 : Cond.methodLink RX13 1053 yX13_compose ∈ mtbl := mem_c13 (i := 109) (by decide +kernel) rfl
theorem mL_X13_1057 : Cond.methodLink RX13 1057 yX13_agree ∈ mtbl := mem_c13 (i := 97) (by decide +kernel) rfl
theorem mL_X13_1070 : Cond.methodLink RX13 1070 yX13_keyComes ∈ mtbl := mem_c13 (i := 120) (by decide +kernel) rfl
theorem mL_X13_1074 : Cond.methodLink RX13 1074 yX13_openRsa ∈ mtbl := mem_c13 (i := 124) (by decide +kernel) rfl
theorem mL_X12_35 : Cond.methodLink RX12 35 yX12_load ∈ mtbl := mem_c8 (i := 118) (by decide +kernel) rfl
theorem mL_X12_42 : Cond.methodLink RX12 42 yX12_twice ∈ mtbl := mem_c8 (i := 122) (by decide +kernel) rfl
theorem mL_X12_49 : Cond.methodLink RX12 49 yX12_order ∈ mtbl := mem_c8 (i := 126) (by decide +kernel) rfl
theorem mL_X12_53 : Cond.methodLink RX12 53 yX12_less ∈ mtbl := mem_c8 (i := 131) (by decide +kernel) rfl
theorem mL_X12_56 : Cond.methodLink RX12 56 yX12_addOne ∈ mtbl := mem_c12 (i := 29) (by decide +kernel) rfl
theorem mL_X12_59 : Cond.methodLink RX12 59 yX12_product ∈ mtbl := mem_c8 (i := 142) (by decide +kernel) rfl
theorem mL_J0_335 : Cond.methodLink RJ0 335 yJ0_coder_7d493 ∈ mtbl := mem_c2 (i := 166) (by decide +kernel) rfl
theorem mL_J0_492 : Cond.methodLink RJ0 492 yJ0_isLatin1_aae02 ∈ mtbl := mem_c2 (i := 176) (by decide +kernel) rfl
theorem mL_J0_495 : Cond.methodLink RJ0 495 yJ1_charAt_3b067 ∈ mtbl := mem_c2 (i := 180) (by decide +kernel) rfl
theorem mL_J0_505 : Cond.methodLink RJ0 505 yJ0_length_8abf5 ∈ mtbl := mem_c10 (i := 160) (by decide +kernel) rfl
theorem mL_J0_633 : Cond.methodLink RJ0 633 yJ0_indexOf_7cf53 ∈ mtbl := mem_c10 (i := 156) (by decide +kernel) rfl
theorem mL_J0_637 : Cond.methodLink RJ0 637 yJ1_indexOf_4cfef ∈ mtbl := mem_c10 (i := 161) (by decide +kernel) rfl
theorem mL_J0_1059 : Cond.methodLink RJ0 1059 yJ3_checkIndex_8e157 ∈ mtbl := mem_c2 (i := 188) (by decide +kernel) rfl
theorem mL_J1_9 : Cond.methodLink RJ1 9 yJ0_checkIndex_df160 ∈ mtbl := mem_c2 (i := 183) (by decide +kernel) rfl
theorem mL_J1_38 : Cond.methodLink RJ1 38 Lib.Math.min.name ∈ mtbl := mem_c10 (i := 168) (by decide +kernel) rfl
theorem mL_J1_88 : Cond.methodLink RJ1 88 yJ1_canEncode_9a6ad ∈ mtbl := mem_c10 (i := 164) (by decide +kernel) rfl
theorem mL_J1_92 : Cond.methodLink RJ1 92 Lib.Math.max.name ∈ mtbl := mem_c10 (i := 167) (by decide +kernel) rfl
theorem mL_J1_95 : Cond.methodLink RJ1 95 yJ1_indexOfChar_4cfef ∈ mtbl := mem_c10 (i := 169) (by decide +kernel) rfl
theorem mL_X11_39 : ∃ host : String, (RX11, 39, yX9_init, host) ∈ mnM := ⟨"SealedTokens", by decide +kernel⟩
theorem mL_X11_62 : ∃ host : String, (RX11, 62, yX5_init, host) ∈ mnM := ⟨"SealedTokens", by decide +kernel⟩
theorem mL_X11_69 : ∃ host : String, (RX11, 69, yX4_init, host) ∈ mnM := ⟨"SealedTokens", by decide +kernel⟩
theorem mL_X11_108 : ∃ host : String, (RX11, 108, yX10_init, host) ∈ mnM := ⟨"SealedTokens", by decide +kernel⟩
theorem mL_X3_19 : ∃ host : String, (RX3, 19, yX6_init, host) ∈ mnM := ⟨"SealedTokens", by decide +kernel⟩
theorem mL_X3_110 : ∃ host : String, (RX3, 110, yX7_hexValue, host) ∈ mnM := ⟨"SealedTokens", by decide +kernel⟩
theorem mL_X5_140 : ∃ host : String, (RX5, 140, yX11_algName, host) ∈ mnM := ⟨"SealedTokens", by decide +kernel⟩
theorem mL_X8_9 : ∃ host : String, (RX8, 9, yX6_init, host) ∈ mnM := ⟨"SealedTokens", by decide +kernel⟩
theorem mL_X10_192 : ∃ host : String, (RX10, 192, yX11_algName, host) ∈ mnM := ⟨"SealedTokens", by decide +kernel⟩
theorem mL_X10_196 : ∃ host : String, (RX10, 196, yX11_wayName, host) ∈ mnM := ⟨"SealedTokens", by decide +kernel⟩
theorem mL_X13_121 : ∃ host : String, (RX13, 121, yX12_init, host) ∈ mnM := ⟨"SealedTokensModel", by decide +kernel⟩
