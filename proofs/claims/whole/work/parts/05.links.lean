theorem inT0 : ∀ w ∈ u_ws RX0 TX0 1, w ∈ Tg := by
  intro w hw
  obtain ⟨k, hk, rfl⟩ := List.mem_map.mp hw
  have hk := List.mem_range.mp hk
  match k, hk with
  | 0, _ => exact tg_in 92 tables_1_2 (fun _ h => tb2 h) rfl rfl
  | k + 1, hk => exact absurd hk (by omega)
theorem inT1 : ∀ w ∈ u_ws RX1 TX1 12, w ∈ Tg := by
  intro w hw
  obtain ⟨k, hk, rfl⟩ := List.mem_map.mp hw
  have hk := List.mem_range.mp hk
  match k, hk with
  | 0, _ => exact tg_in 107 tables_1_1 (fun _ h => tb1 h) rfl rfl
  | 1, _ => exact tg_in 109 tables_1_1 (fun _ h => tb1 h) rfl rfl
  | 2, _ => exact tg_in 111 tables_1_1 (fun _ h => tb1 h) rfl rfl
  | 3, _ => exact tg_in 113 tables_1_1 (fun _ h => tb1 h) rfl rfl
  | 4, _ => exact tg_in 115 tables_1_1 (fun _ h => tb1 h) rfl rfl
  | 5, _ => exact tg_in 117 tables_1_1 (fun _ h => tb1 h) rfl rfl
  | 6, _ => exact tg_in 119 tables_1_1 (fun _ h => tb1 h) rfl rfl
  | 7, _ => exact tg_in 121 tables_1_1 (fun _ h => tb1 h) rfl rfl
  | 8, _ => exact tg_in 123 tables_1_1 (fun _ h => tb1 h) rfl rfl
  | 9, _ => exact tg_in 125 tables_1_1 (fun _ h => tb1 h) rfl rfl
  | 10, _ => exact tg_in 127 tables_1_1 (fun _ h => tb1 h) rfl rfl
  | 11, _ => exact tg_in 129 tables_1_1 (fun _ h => tb1 h) rfl rfl
  | k + 12, hk => exact absurd hk (by omega)
theorem inT2 : ∀ w ∈ u_ws RX2 TX2 7, w ∈ Tg := by
  intro w hw
  obtain ⟨k, hk, rfl⟩ := List.mem_map.mp hw
  have hk := List.mem_range.mp hk
  match k, hk with
  | 0, _ => exact tg_in 0 tables_1_2 (fun _ h => tb2 h) rfl rfl
  | 1, _ => exact tg_in 2 tables_1_2 (fun _ h => tb2 h) rfl rfl
  | 2, _ => exact tg_in 4 tables_1_2 (fun _ h => tb2 h) rfl rfl
  | 3, _ => exact tg_in 6 tables_1_2 (fun _ h => tb2 h) rfl rfl
  | 4, _ => exact tg_in 8 tables_1_2 (fun _ h => tb2 h) rfl rfl
  | 5, _ => exact tg_in 10 tables_1_2 (fun _ h => tb2 h) rfl rfl
  | 6, _ => exact tg_in 12 tables_1_2 (fun _ h => tb2 h) rfl rfl
  | k + 7, hk => exact absurd hk (by omega)
theorem inT3 : ∀ w ∈ u_ws RX3 TX3 3, w ∈ Tg := by
  intro w hw
  obtain ⟨k, hk, rfl⟩ := List.mem_map.mp hw
  have hk := List.mem_range.mp hk
  match k, hk with
  | 0, _ => exact tg_in 145 tables_1_1 (fun _ h => tb1 h) rfl rfl
  | 1, _ => exact tg_in 147 tables_1_1 (fun _ h => tb1 h) rfl rfl
  | 2, _ => exact tg_in 149 tables_1_1 (fun _ h => tb1 h) rfl rfl
  | k + 3, hk => exact absurd hk (by omega)
theorem inT4 : ∀ w ∈ u_ws RX4 TX4 7, w ∈ Tg := by
  intro w hw
  obtain ⟨k, hk, rfl⟩ := List.mem_map.mp hw
  have hk := List.mem_range.mp hk
  match k, hk with
  | 0, _ => exact tg_in 162 tables_1_1 (fun _ h => tb1 h) rfl rfl
  | 1, _ => exact tg_in 164 tables_1_1 (fun _ h => tb1 h) rfl rfl
  | 2, _ => exact tg_in 166 tables_1_1 (fun _ h => tb1 h) rfl rfl
  | 3, _ => exact tg_in 168 tables_1_1 (fun _ h => tb1 h) rfl rfl
  | 4, _ => exact tg_in 170 tables_1_1 (fun _ h => tb1 h) rfl rfl
  | 5, _ => exact tg_in 172 tables_1_1 (fun _ h => tb1 h) rfl rfl
  | 6, _ => exact tg_in 174 tables_1_1 (fun _ h => tb1 h) rfl rfl
  | k + 7, hk => exact absurd hk (by omega)
theorem inT5 : ∀ w ∈ u_ws RX5 TX5 3, w ∈ Tg := by
  intro w hw
  obtain ⟨k, hk, rfl⟩ := List.mem_map.mp hw
  have hk := List.mem_range.mp hk
  match k, hk with
  | 0, _ => exact tg_in 209 tables_1_1 (fun _ h => tb1 h) rfl rfl
  | 1, _ => exact tg_in 211 tables_1_1 (fun _ h => tb1 h) rfl rfl
  | 2, _ => exact tg_in 213 tables_1_1 (fun _ h => tb1 h) rfl rfl
  | k + 3, hk => exact absurd hk (by omega)
theorem inT6 : ∀ w ∈ u_ws RX6 TX6 4, w ∈ Tg := by
  intro w hw
  obtain ⟨k, hk, rfl⟩ := List.mem_map.mp hw
  have hk := List.mem_range.mp hk
  match k, hk with
  | 0, _ => exact tg_in 31 tables_1_2 (fun _ h => tb2 h) rfl rfl
  | 1, _ => exact tg_in 33 tables_1_2 (fun _ h => tb2 h) rfl rfl
  | 2, _ => exact tg_in 35 tables_1_2 (fun _ h => tb2 h) rfl rfl
  | 3, _ => exact tg_in 37 tables_1_2 (fun _ h => tb2 h) rfl rfl
  | k + 4, hk => exact absurd hk (by omega)
theorem inT7 : ∀ w ∈ u_ws RX7 TX7 2, w ∈ Tg := by
  intro w hw
  obtain ⟨k, hk, rfl⟩ := List.mem_map.mp hw
  have hk := List.mem_range.mp hk
  match k, hk with
  | 0, _ => exact tg_in 191 tables_1_1 (fun _ h => tb1 h) rfl rfl
  | 1, _ => exact tg_in 193 tables_1_1 (fun _ h => tb1 h) rfl rfl
  | k + 2, hk => exact absurd hk (by omega)
theorem inT8 : ∀ w ∈ u_ws RX8 TX8 5, w ∈ Tg := by
  intro w hw
  obtain ⟨k, hk, rfl⟩ := List.mem_map.mp hw
  have hk := List.mem_range.mp hk
  match k, hk with
  | 0, _ => exact tg_in 47 tables_1_1 (fun _ h => tb1 h) rfl rfl
  | 1, _ => exact tg_in 49 tables_1_1 (fun _ h => tb1 h) rfl rfl
  | 2, _ => exact tg_in 51 tables_1_1 (fun _ h => tb1 h) rfl rfl
  | 3, _ => exact tg_in 53 tables_1_1 (fun _ h => tb1 h) rfl rfl
  | 4, _ => exact tg_in 55 tables_1_1 (fun _ h => tb1 h) rfl rfl
  | k + 5, hk => exact absurd hk (by omega)
theorem inT9 : ∀ w ∈ u_ws RX9 TX9 10, w ∈ Tg := by
  intro w hw
  obtain ⟨k, hk, rfl⟩ := List.mem_map.mp hw
  have hk := List.mem_range.mp hk
  match k, hk with
  | 0, _ => exact tg_in 63 tables_1_2 (fun _ h => tb2 h) rfl rfl
  | 1, _ => exact tg_in 65 tables_1_2 (fun _ h => tb2 h) rfl rfl
  | 2, _ => exact tg_in 67 tables_1_2 (fun _ h => tb2 h) rfl rfl
  | 3, _ => exact tg_in 69 tables_1_2 (fun _ h => tb2 h) rfl rfl
  | 4, _ => exact tg_in 71 tables_1_2 (fun _ h => tb2 h) rfl rfl
  | 5, _ => exact tg_in 73 tables_1_2 (fun _ h => tb2 h) rfl rfl
  | 6, _ => exact tg_in 75 tables_1_2 (fun _ h => tb2 h) rfl rfl
  | 7, _ => exact tg_in 77 tables_1_2 (fun _ h => tb2 h) rfl rfl
  | 8, _ => exact tg_in 79 tables_1_2 (fun _ h => tb2 h) rfl rfl
  | 9, _ => exact tg_in 81 tables_1_2 (fun _ h => tb2 h) rfl rfl
  | k + 10, hk => exact absurd hk (by omega)
theorem inT10 : ∀ w ∈ u_ws RX10 TX10 15, w ∈ Tg := by
  intro w hw
  obtain ⟨k, hk, rfl⟩ := List.mem_map.mp hw
  have hk := List.mem_range.mp hk
  match k, hk with
  | 0, _ => exact tg_in 47 tables_1_3 (fun _ h => tb3 h) rfl rfl
  | 1, _ => exact tg_in 49 tables_1_3 (fun _ h => tb3 h) rfl rfl
  | 2, _ => exact tg_in 51 tables_1_3 (fun _ h => tb3 h) rfl rfl
  | 3, _ => exact tg_in 53 tables_1_3 (fun _ h => tb3 h) rfl rfl
  | 4, _ => exact tg_in 55 tables_1_3 (fun _ h => tb3 h) rfl rfl
  | 5, _ => exact tg_in 57 tables_1_3 (fun _ h => tb3 h) rfl rfl
  | 6, _ => exact tg_in 59 tables_1_3 (fun _ h => tb3 h) rfl rfl
  | 7, _ => exact tg_in 61 tables_1_3 (fun _ h => tb3 h) rfl rfl
  | 8, _ => exact tg_in 63 tables_1_3 (fun _ h => tb3 h) rfl rfl
  | 9, _ => exact tg_in 65 tables_1_3 (fun _ h => tb3 h) rfl rfl
  | 10, _ => exact tg_in 67 tables_1_3 (fun _ h => tb3 h) rfl rfl
  | 11, _ => exact tg_in 69 tables_1_3 (fun _ h => tb3 h) rfl rfl
  | 12, _ => exact tg_in 71 tables_1_3 (fun _ h => tb3 h) rfl rfl
  | 13, _ => exact tg_in 73 tables_1_3 (fun _ h => tb3 h) rfl rfl
  | 14, _ => exact tg_in 75 tables_1_3 (fun _ h => tb3 h) rfl rfl
  | k + 15, hk => exact absurd hk (by omega)
theorem inT11 : ∀ w ∈ u_ws RX11 TX11 41, w ∈ Tg := by
  intro w hw
  obtain ⟨k, hk, rfl⟩ := List.mem_map.mp hw
  have hk := List.mem_range.mp hk
  match k, hk with
  | 0, _ => exact tg_in 94 tables_1_6 (fun _ h => tb6 h) rfl rfl
  | 1, _ => exact tg_in 96 tables_1_6 (fun _ h => tb6 h) rfl rfl
  | 2, _ => exact tg_in 98 tables_1_6 (fun _ h => tb6 h) rfl rfl
  | 3, _ => exact tg_in 100 tables_1_6 (fun _ h => tb6 h) rfl rfl
  | 4, _ => exact tg_in 102 tables_1_6 (fun _ h => tb6 h) rfl rfl
  | 5, _ => exact tg_in 104 tables_1_6 (fun _ h => tb6 h) rfl rfl
  | 6, _ => exact tg_in 106 tables_1_6 (fun _ h => tb6 h) rfl rfl
  | 7, _ => exact tg_in 108 tables_1_6 (fun _ h => tb6 h) rfl rfl
  | 8, _ => exact tg_in 110 tables_1_6 (fun _ h => tb6 h) rfl rfl
  | 9, _ => exact tg_in 112 tables_1_6 (fun _ h => tb6 h) rfl rfl
  | 10, _ => exact tg_in 114 tables_1_6 (fun _ h => tb6 h) rfl rfl
  | 11, _ => exact tg_in 116 tables_1_6 (fun _ h => tb6 h) rfl rfl
  | 12, _ => exact tg_in 118 tables_1_6 (fun _ h => tb6 h) rfl rfl
  | 13, _ => exact tg_in 120 tables_1_6 (fun _ h => tb6 h) rfl rfl
  | 14, _ => exact tg_in 122 tables_1_6 (fun _ h => tb6 h) rfl rfl
  | 15, _ => exact tg_in 124 tables_1_6 (fun _ h => tb6 h) rfl rfl
  | 16, _ => exact tg_in 126 tables_1_6 (fun _ h => tb6 h) rfl rfl
  | 17, _ => exact tg_in 128 tables_1_6 (fun _ h => tb6 h) rfl rfl
  | 18, _ => exact tg_in 130 tables_1_6 (fun _ h => tb6 h) rfl rfl
  | 19, _ => exact tg_in 132 tables_1_6 (fun _ h => tb6 h) rfl rfl
  | 20, _ => exact tg_in 134 tables_1_6 (fun _ h => tb6 h) rfl rfl
  | 21, _ => exact tg_in 136 tables_1_6 (fun _ h => tb6 h) rfl rfl
  | 22, _ => exact tg_in 138 tables_1_6 (fun _ h => tb6 h) rfl rfl
  | 23, _ => exact tg_in 140 tables_1_6 (fun _ h => tb6 h) rfl rfl
  | 24, _ => exact tg_in 142 tables_1_6 (fun _ h => tb6 h) rfl rfl
  | 25, _ => exact tg_in 144 tables_1_6 (fun _ h => tb6 h) rfl rfl
  | 26, _ => exact tg_in 146 tables_1_6 (fun _ h => tb6 h) rfl rfl
  | 27, _ => exact tg_in 148 tables_1_6 (fun _ h => tb6 h) rfl rfl
  | 28, _ => exact tg_in 150 tables_1_6 (fun _ h => tb6 h) rfl rfl
  | 29, _ => exact tg_in 152 tables_1_6 (fun _ h => tb6 h) rfl rfl
  | 30, _ => exact tg_in 154 tables_1_6 (fun _ h => tb6 h) rfl rfl
  | 31, _ => exact tg_in 156 tables_1_6 (fun _ h => tb6 h) rfl rfl
  | 32, _ => exact tg_in 158 tables_1_6 (fun _ h => tb6 h) rfl rfl
  | 33, _ => exact tg_in 160 tables_1_6 (fun _ h => tb6 h) rfl rfl
  | 34, _ => exact tg_in 162 tables_1_6 (fun _ h => tb6 h) rfl rfl
  | 35, _ => exact tg_in 164 tables_1_6 (fun _ h => tb6 h) rfl rfl
  | 36, _ => exact tg_in 166 tables_1_6 (fun _ h => tb6 h) rfl rfl
  | 37, _ => exact tg_in 168 tables_1_6 (fun _ h => tb6 h) rfl rfl
  | 38, _ => exact tg_in 170 tables_1_6 (fun _ h => tb6 h) rfl rfl
  | 39, _ => exact tg_in 172 tables_1_6 (fun _ h => tb6 h) rfl rfl
  | 40, _ => exact tg_in 174 tables_1_6 (fun _ h => tb6 h) rfl rfl
  | k + 41, hk => exact absurd hk (by omega)
theorem kw_J6_265 : Cond.constant RJ6 265 (1431655765 : Int32) ∈ Tg := tg_in 161 tables_1_2 (fun _ h => tb2 h) rfl rfl
theorem kw_J6_266 : Cond.constant RJ6 266 (858993459 : Int32) ∈ Tg := tg_in 162 tables_1_2 (fun _ h => tb2 h) rfl rfl
theorem kw_J6_267 : Cond.constant RJ6 267 (252645135 : Int32) ∈ Tg := tg_in 163 tables_1_2 (fun _ h => tb2 h) rfl rfl
theorem kw_6_30 : Cond.constantLong RX6 30 (-1 : Int64) ∈ Tg := tg_in 231 tables_1_2 (fun _ h => tb2 h) rfl rfl
theorem kw_10_362 : Cond.constantLong RX10 362 (2 : Int64) ∈ Tg := tg_in 174 tables_1_5 (fun _ h => tb5 h) rfl rfl
theorem kw_L_141 : Cond.constantLong RL 141 (4294967295 : Int64) ∈ Tg := tg_in 111 tables_1_8 (fun _ h => tb8 h) rfl rfl
theorem fl_0_11 : FLk RX0 11 0 0 2 := ⟨RX0, TX0, 1, rfl, by decide, inT0, tg_in 90 tables_1_2 (fun _ h => tb2 h) rfl rfl, rfl, by decide⟩
theorem fl_0_15 : FLk RX0 15 7 0 0 := ⟨RX7, TX7, 2, rfl, by decide, inT7, tg_in 186 tables_1_1 (fun _ h => tb1 h) rfl rfl, rfl, by decide⟩
theorem fl_1_15 : FLk RX1 15 1 8 2 := ⟨RX1, TX1, 12, rfl, by decide, inT1, tg_in 100 tables_1_1 (fun _ h => tb1 h) rfl rfl, rfl, by decide⟩
theorem fl_1_21 : FLk RX1 21 1 10 2 := ⟨RX1, TX1, 12, rfl, by decide, inT1, tg_in 105 tables_1_1 (fun _ h => tb1 h) rfl rfl, rfl, by decide⟩
theorem fl_1_24 : FLk RX1 24 1 11 2 := ⟨RX1, TX1, 12, rfl, by decide, inT1, tg_in 106 tables_1_1 (fun _ h => tb1 h) rfl rfl, rfl, by decide⟩
theorem fl_1_27 : FLk RX1 27 1 0 0 := ⟨RX1, TX1, 12, rfl, by decide, inT1, tg_in 72 tables_1_1 (fun _ h => tb1 h) rfl rfl, rfl, by decide⟩
theorem fl_1_40 : FLk RX1 40 1 4 0 := ⟨RX1, TX1, 12, rfl, by decide, inT1, tg_in 87 tables_1_1 (fun _ h => tb1 h) rfl rfl, rfl, by decide⟩
theorem fl_1_43 : FLk RX1 43 1 5 0 := ⟨RX1, TX1, 12, rfl, by decide, inT1, tg_in 90 tables_1_1 (fun _ h => tb1 h) rfl rfl, rfl, by decide⟩
theorem fl_1_9 : FLk RX1 9 1 7 2 := ⟨RX1, TX1, 12, rfl, by decide, inT1, tg_in 98 tables_1_1 (fun _ h => tb1 h) rfl rfl, rfl, by decide⟩
theorem fl_2_15 : FLk RX2 15 2 4 2 := ⟨RX2, TX2, 7, rfl, by decide, inT2, tg_in 232 tables_1_1 (fun _ h => tb1 h) rfl rfl, rfl, by decide⟩
theorem fl_2_18 : FLk RX2 18 2 5 2 := ⟨RX2, TX2, 7, rfl, by decide, inT2, tg_in 235 tables_1_1 (fun _ h => tb1 h) rfl rfl, rfl, by decide⟩
theorem fl_2_21 : FLk RX2 21 2 6 2 := ⟨RX2, TX2, 7, rfl, by decide, inT2, tg_in 238 tables_1_1 (fun _ h => tb1 h) rfl rfl, rfl, by decide⟩
theorem fl_2_24 : FLk RX2 24 2 0 0 := ⟨RX2, TX2, 7, rfl, by decide, inT2, tg_in 222 tables_1_1 (fun _ h => tb1 h) rfl rfl, rfl, by decide⟩
theorem fl_2_28 : FLk RX2 28 2 1 0 := ⟨RX2, TX2, 7, rfl, by decide, inT2, tg_in 224 tables_1_1 (fun _ h => tb1 h) rfl rfl, rfl, by decide⟩
theorem fl_2_31 : FLk RX2 31 2 2 0 := ⟨RX2, TX2, 7, rfl, by decide, inT2, tg_in 226 tables_1_1 (fun _ h => tb1 h) rfl rfl, rfl, by decide⟩
theorem fl_2_34 : FLk RX2 34 7 0 0 := ⟨RX7, TX7, 2, rfl, by decide, inT7, tg_in 185 tables_1_1 (fun _ h => tb1 h) rfl rfl, rfl, by decide⟩
theorem fl_2_39 : FLk RX2 39 7 1 2 := ⟨RX7, TX7, 2, rfl, by decide, inT7, tg_in 189 tables_1_1 (fun _ h => tb1 h) rfl rfl, rfl, by decide⟩
theorem fl_2_9 : FLk RX2 9 2 3 2 := ⟨RX2, TX2, 7, rfl, by decide, inT2, tg_in 229 tables_1_1 (fun _ h => tb1 h) rfl rfl, rfl, by decide⟩
theorem fl_3_15 : FLk RX3 15 3 1 2 := ⟨RX3, TX3, 3, rfl, by decide, inT3, tg_in 141 tables_1_1 (fun _ h => tb1 h) rfl rfl, rfl, by decide⟩
theorem fl_3_18 : FLk RX3 18 3 2 2 := ⟨RX3, TX3, 3, rfl, by decide, inT3, tg_in 143 tables_1_1 (fun _ h => tb1 h) rfl rfl, rfl, by decide⟩
theorem fl_3_31 : FLk RX3 31 1 5 0 := ⟨RX1, TX1, 12, rfl, by decide, inT1, tg_in 91 tables_1_1 (fun _ h => tb1 h) rfl rfl, rfl, by decide⟩
theorem fl_3_9 : FLk RX3 9 3 0 2 := ⟨RX3, TX3, 3, rfl, by decide, inT3, tg_in 138 tables_1_1 (fun _ h => tb1 h) rfl rfl, rfl, by decide⟩
theorem fl_4_115 : FLk RX4 115 7 1 2 := ⟨RX7, TX7, 2, rfl, by decide, inT7, tg_in 190 tables_1_1 (fun _ h => tb1 h) rfl rfl, rfl, by decide⟩
theorem fl_4_12 : FLk RX4 12 4 0 2 := ⟨RX4, TX4, 7, rfl, by decide, inT4, tg_in 152 tables_1_1 (fun _ h => tb1 h) rfl rfl, rfl, by decide⟩
theorem fl_4_125 : FLk RX4 125 3 0 2 := ⟨RX3, TX3, 3, rfl, by decide, inT3, tg_in 139 tables_1_1 (fun _ h => tb1 h) rfl rfl, rfl, by decide⟩
theorem fl_4_21 : FLk RX4 21 4 1 2 := ⟨RX4, TX4, 7, rfl, by decide, inT4, tg_in 154 tables_1_1 (fun _ h => tb1 h) rfl rfl, rfl, by decide⟩
theorem fl_4_25 : FLk RX4 25 4 2 2 := ⟨RX4, TX4, 7, rfl, by decide, inT4, tg_in 156 tables_1_1 (fun _ h => tb1 h) rfl rfl, rfl, by decide⟩
theorem fl_4_29 : FLk RX4 29 4 3 2 := ⟨RX4, TX4, 7, rfl, by decide, inT4, tg_in 157 tables_1_1 (fun _ h => tb1 h) rfl rfl, rfl, by decide⟩
theorem fl_4_33 : FLk RX4 33 4 4 2 := ⟨RX4, TX4, 7, rfl, by decide, inT4, tg_in 159 tables_1_1 (fun _ h => tb1 h) rfl rfl, rfl, by decide⟩
theorem fl_4_36 : FLk RX4 36 4 5 2 := ⟨RX4, TX4, 7, rfl, by decide, inT4, tg_in 160 tables_1_1 (fun _ h => tb1 h) rfl rfl, rfl, by decide⟩
theorem fl_4_39 : FLk RX4 39 4 6 2 := ⟨RX4, TX4, 7, rfl, by decide, inT4, tg_in 161 tables_1_1 (fun _ h => tb1 h) rfl rfl, rfl, by decide⟩
theorem fl_4_57 : FLk RX4 57 1 5 0 := ⟨RX1, TX1, 12, rfl, by decide, inT1, tg_in 93 tables_1_1 (fun _ h => tb1 h) rfl rfl, rfl, by decide⟩
theorem fl_4_69 : FLk RX4 69 3 1 2 := ⟨RX3, TX3, 3, rfl, by decide, inT3, tg_in 142 tables_1_1 (fun _ h => tb1 h) rfl rfl, rfl, by decide⟩
theorem fl_4_93 : FLk RX4 93 3 2 2 := ⟨RX3, TX3, 3, rfl, by decide, inT3, tg_in 144 tables_1_1 (fun _ h => tb1 h) rfl rfl, rfl, by decide⟩
theorem fl_5_15 : FLk RX5 15 5 1 0 := ⟨RX5, TX5, 3, rfl, by decide, inT5, tg_in 207 tables_1_1 (fun _ h => tb1 h) rfl rfl, rfl, by decide⟩
theorem fl_5_20 : FLk RX5 20 5 2 2 := ⟨RX5, TX5, 3, rfl, by decide, inT5, tg_in 208 tables_1_1 (fun _ h => tb1 h) rfl rfl, rfl, by decide⟩
theorem fl_5_9 : FLk RX5 9 5 0 0 := ⟨RX5, TX5, 3, rfl, by decide, inT5, tg_in 205 tables_1_1 (fun _ h => tb1 h) rfl rfl, rfl, by decide⟩
theorem fl_6_15 : FLk RX6 15 6 2 2 := ⟨RX6, TX6, 4, rfl, by decide, inT6, tg_in 29 tables_1_2 (fun _ h => tb2 h) rfl rfl, rfl, by decide⟩
theorem fl_6_19 : FLk RX6 19 6 3 2 := ⟨RX6, TX6, 4, rfl, by decide, inT6, tg_in 30 tables_1_2 (fun _ h => tb2 h) rfl rfl, rfl, by decide⟩
theorem fl_6_26 : FLk RX6 26 6 0 0 := ⟨RX6, TX6, 4, rfl, by decide, inT6, tg_in 27 tables_1_2 (fun _ h => tb2 h) rfl rfl, rfl, by decide⟩
theorem fl_6_32 : FLk RX6 32 1 1 0 := ⟨RX1, TX1, 12, rfl, by decide, inT1, tg_in 76 tables_1_1 (fun _ h => tb1 h) rfl rfl, rfl, by decide⟩
theorem fl_6_47 : FLk RX6 47 9 4 2 := ⟨RX9, TX9, 10, rfl, by decide, inT9, tg_in 52 tables_1_2 (fun _ h => tb2 h) rfl rfl, rfl, by decide⟩
theorem fl_6_56 : FLk RX6 56 1 3 0 := ⟨RX1, TX1, 12, rfl, by decide, inT1, tg_in 84 tables_1_1 (fun _ h => tb1 h) rfl rfl, rfl, by decide⟩
theorem fl_6_63 : FLk RX6 63 9 3 2 := ⟨RX9, TX9, 10, rfl, by decide, inT9, tg_in 49 tables_1_2 (fun _ h => tb2 h) rfl rfl, rfl, by decide⟩
theorem fl_6_70 : FLk RX6 70 9 1 2 := ⟨RX9, TX9, 10, rfl, by decide, inT9, tg_in 43 tables_1_2 (fun _ h => tb2 h) rfl rfl, rfl, by decide⟩
theorem fl_6_73 : FLk RX6 73 9 2 2 := ⟨RX9, TX9, 10, rfl, by decide, inT9, tg_in 46 tables_1_2 (fun _ h => tb2 h) rfl rfl, rfl, by decide⟩
theorem fl_6_9 : FLk RX6 9 6 1 2 := ⟨RX6, TX6, 4, rfl, by decide, inT6, tg_in 28 tables_1_2 (fun _ h => tb2 h) rfl rfl, rfl, by decide⟩
theorem fl_7_15 : FLk RX7 15 7 1 2 := ⟨RX7, TX7, 2, rfl, by decide, inT7, tg_in 188 tables_1_1 (fun _ h => tb1 h) rfl rfl, rfl, by decide⟩
theorem fl_7_9 : FLk RX7 9 7 0 0 := ⟨RX7, TX7, 2, rfl, by decide, inT7, tg_in 184 tables_1_1 (fun _ h => tb1 h) rfl rfl, rfl, by decide⟩
theorem fl_8_115 : FLk RX8 115 1 3 0 := ⟨RX1, TX1, 12, rfl, by decide, inT1, tg_in 85 tables_1_1 (fun _ h => tb1 h) rfl rfl, rfl, by decide⟩
theorem fl_8_123 : FLk RX8 123 1 6 0 := ⟨RX1, TX1, 12, rfl, by decide, inT1, tg_in 95 tables_1_1 (fun _ h => tb1 h) rfl rfl, rfl, by decide⟩
theorem fl_8_126 : FLk RX8 126 1 9 2 := ⟨RX1, TX1, 12, rfl, by decide, inT1, tg_in 103 tables_1_1 (fun _ h => tb1 h) rfl rfl, rfl, by decide⟩
theorem fl_8_15 : FLk RX8 15 8 1 0 := ⟨RX8, TX8, 5, rfl, by decide, inT8, tg_in 42 tables_1_1 (fun _ h => tb1 h) rfl rfl, rfl, by decide⟩
theorem fl_8_18 : FLk RX8 18 8 2 2 := ⟨RX8, TX8, 5, rfl, by decide, inT8, tg_in 44 tables_1_1 (fun _ h => tb1 h) rfl rfl, rfl, by decide⟩
theorem fl_8_22 : FLk RX8 22 8 3 0 := ⟨RX8, TX8, 5, rfl, by decide, inT8, tg_in 45 tables_1_1 (fun _ h => tb1 h) rfl rfl, rfl, by decide⟩
theorem fl_8_25 : FLk RX8 25 8 4 0 := ⟨RX8, TX8, 5, rfl, by decide, inT8, tg_in 46 tables_1_1 (fun _ h => tb1 h) rfl rfl, rfl, by decide⟩
theorem fl_8_75 : FLk RX8 75 1 2 0 := ⟨RX1, TX1, 12, rfl, by decide, inT1, tg_in 81 tables_1_1 (fun _ h => tb1 h) rfl rfl, rfl, by decide⟩
theorem fl_8_9 : FLk RX8 9 8 0 0 := ⟨RX8, TX8, 5, rfl, by decide, inT8, tg_in 40 tables_1_1 (fun _ h => tb1 h) rfl rfl, rfl, by decide⟩
theorem fl_8_92 : FLk RX8 92 1 4 0 := ⟨RX1, TX1, 12, rfl, by decide, inT1, tg_in 88 tables_1_1 (fun _ h => tb1 h) rfl rfl, rfl, by decide⟩
theorem fl_8_95 : FLk RX8 95 1 7 2 := ⟨RX1, TX1, 12, rfl, by decide, inT1, tg_in 99 tables_1_1 (fun _ h => tb1 h) rfl rfl, rfl, by decide⟩
theorem fl_9_110 : FLk RX9 110 1 6 0 := ⟨RX1, TX1, 12, rfl, by decide, inT1, tg_in 96 tables_1_1 (fun _ h => tb1 h) rfl rfl, rfl, by decide⟩
theorem fl_9_113 : FLk RX9 113 1 9 2 := ⟨RX1, TX1, 12, rfl, by decide, inT1, tg_in 104 tables_1_1 (fun _ h => tb1 h) rfl rfl, rfl, by decide⟩
theorem fl_9_15 : FLk RX9 15 9 2 2 := ⟨RX9, TX9, 10, rfl, by decide, inT9, tg_in 45 tables_1_2 (fun _ h => tb2 h) rfl rfl, rfl, by decide⟩
theorem fl_9_18 : FLk RX9 18 9 3 2 := ⟨RX9, TX9, 10, rfl, by decide, inT9, tg_in 48 tables_1_2 (fun _ h => tb2 h) rfl rfl, rfl, by decide⟩
theorem fl_9_21 : FLk RX9 21 9 4 2 := ⟨RX9, TX9, 10, rfl, by decide, inT9, tg_in 51 tables_1_2 (fun _ h => tb2 h) rfl rfl, rfl, by decide⟩
theorem fl_9_24 : FLk RX9 24 9 5 2 := ⟨RX9, TX9, 10, rfl, by decide, inT9, tg_in 54 tables_1_2 (fun _ h => tb2 h) rfl rfl, rfl, by decide⟩
theorem fl_9_27 : FLk RX9 27 9 6 2 := ⟨RX9, TX9, 10, rfl, by decide, inT9, tg_in 56 tables_1_2 (fun _ h => tb2 h) rfl rfl, rfl, by decide⟩
theorem fl_9_30 : FLk RX9 30 9 7 2 := ⟨RX9, TX9, 10, rfl, by decide, inT9, tg_in 58 tables_1_2 (fun _ h => tb2 h) rfl rfl, rfl, by decide⟩
theorem fl_9_33 : FLk RX9 33 9 8 2 := ⟨RX9, TX9, 10, rfl, by decide, inT9, tg_in 60 tables_1_2 (fun _ h => tb2 h) rfl rfl, rfl, by decide⟩
theorem fl_9_39 : FLk RX9 39 9 9 2 := ⟨RX9, TX9, 10, rfl, by decide, inT9, tg_in 62 tables_1_2 (fun _ h => tb2 h) rfl rfl, rfl, by decide⟩
theorem fl_9_43 : FLk RX9 43 2 2 0 := ⟨RX2, TX2, 7, rfl, by decide, inT2, tg_in 227 tables_1_1 (fun _ h => tb1 h) rfl rfl, rfl, by decide⟩
theorem fl_9_49 : FLk RX9 49 2 3 2 := ⟨RX2, TX2, 7, rfl, by decide, inT2, tg_in 230 tables_1_1 (fun _ h => tb1 h) rfl rfl, rfl, by decide⟩
theorem fl_9_56 : FLk RX9 56 2 4 2 := ⟨RX2, TX2, 7, rfl, by decide, inT2, tg_in 233 tables_1_1 (fun _ h => tb1 h) rfl rfl, rfl, by decide⟩
theorem fl_9_59 : FLk RX9 59 2 5 2 := ⟨RX2, TX2, 7, rfl, by decide, inT2, tg_in 236 tables_1_1 (fun _ h => tb1 h) rfl rfl, rfl, by decide⟩
theorem fl_9_69 : FLk RX9 69 1 2 0 := ⟨RX1, TX1, 12, rfl, by decide, inT1, tg_in 80 tables_1_1 (fun _ h => tb1 h) rfl rfl, rfl, by decide⟩
theorem fl_9_9 : FLk RX9 9 9 1 2 := ⟨RX9, TX9, 10, rfl, by decide, inT9, tg_in 42 tables_1_2 (fun _ h => tb2 h) rfl rfl, rfl, by decide⟩
theorem fl_10_102 : FLk RX10 102 8 0 0 := ⟨RX8, TX8, 5, rfl, by decide, inT8, tg_in 41 tables_1_1 (fun _ h => tb1 h) rfl rfl, rfl, by decide⟩
theorem fl_10_12 : FLk RX10 12 10 0 2 := ⟨RX10, TX10, 15, rfl, by decide, inT10, tg_in 32 tables_1_3 (fun _ h => tb3 h) rfl rfl, rfl, by decide⟩
theorem fl_10_125 : FLk RX10 125 4 0 2 := ⟨RX4, TX4, 7, rfl, by decide, inT4, tg_in 153 tables_1_1 (fun _ h => tb1 h) rfl rfl, rfl, by decide⟩
theorem fl_10_128 : FLk RX10 128 1 5 0 := ⟨RX1, TX1, 12, rfl, by decide, inT1, tg_in 92 tables_1_1 (fun _ h => tb1 h) rfl rfl, rfl, by decide⟩
theorem fl_10_137 : FLk RX10 137 8 1 0 := ⟨RX8, TX8, 5, rfl, by decide, inT8, tg_in 43 tables_1_1 (fun _ h => tb1 h) rfl rfl, rfl, by decide⟩
theorem fl_10_140 : FLk RX10 140 1 4 0 := ⟨RX1, TX1, 12, rfl, by decide, inT1, tg_in 89 tables_1_1 (fun _ h => tb1 h) rfl rfl, rfl, by decide⟩
theorem fl_10_170 : FLk RX10 170 1 8 2 := ⟨RX1, TX1, 12, rfl, by decide, inT1, tg_in 101 tables_1_1 (fun _ h => tb1 h) rfl rfl, rfl, by decide⟩
theorem fl_10_177 : FLk RX10 177 2 6 2 := ⟨RX2, TX2, 7, rfl, by decide, inT2, tg_in 239 tables_1_1 (fun _ h => tb1 h) rfl rfl, rfl, by decide⟩
theorem fl_10_190 : FLk RX10 190 2 2 0 := ⟨RX2, TX2, 7, rfl, by decide, inT2, tg_in 228 tables_1_1 (fun _ h => tb1 h) rfl rfl, rfl, by decide⟩
theorem fl_10_195 : FLk RX10 195 2 3 2 := ⟨RX2, TX2, 7, rfl, by decide, inT2, tg_in 231 tables_1_1 (fun _ h => tb1 h) rfl rfl, rfl, by decide⟩
theorem fl_10_198 : FLk RX10 198 2 4 2 := ⟨RX2, TX2, 7, rfl, by decide, inT2, tg_in 234 tables_1_1 (fun _ h => tb1 h) rfl rfl, rfl, by decide⟩
theorem fl_10_201 : FLk RX10 201 2 5 2 := ⟨RX2, TX2, 7, rfl, by decide, inT2, tg_in 237 tables_1_1 (fun _ h => tb1 h) rfl rfl, rfl, by decide⟩
theorem fl_10_204 : FLk RX10 204 9 8 2 := ⟨RX9, TX9, 10, rfl, by decide, inT9, tg_in 61 tables_1_2 (fun _ h => tb2 h) rfl rfl, rfl, by decide⟩
theorem fl_10_21 : FLk RX10 21 10 1 2 := ⟨RX10, TX10, 15, rfl, by decide, inT10, tg_in 33 tables_1_3 (fun _ h => tb3 h) rfl rfl, rfl, by decide⟩
theorem fl_10_214 : FLk RX10 214 9 1 2 := ⟨RX9, TX9, 10, rfl, by decide, inT9, tg_in 44 tables_1_2 (fun _ h => tb2 h) rfl rfl, rfl, by decide⟩
theorem fl_10_217 : FLk RX10 217 9 2 2 := ⟨RX9, TX9, 10, rfl, by decide, inT9, tg_in 47 tables_1_2 (fun _ h => tb2 h) rfl rfl, rfl, by decide⟩
theorem fl_10_220 : FLk RX10 220 9 3 2 := ⟨RX9, TX9, 10, rfl, by decide, inT9, tg_in 50 tables_1_2 (fun _ h => tb2 h) rfl rfl, rfl, by decide⟩
theorem fl_10_223 : FLk RX10 223 1 2 0 := ⟨RX1, TX1, 12, rfl, by decide, inT1, tg_in 82 tables_1_1 (fun _ h => tb1 h) rfl rfl, rfl, by decide⟩
theorem fl_10_226 : FLk RX10 226 1 3 0 := ⟨RX1, TX1, 12, rfl, by decide, inT1, tg_in 86 tables_1_1 (fun _ h => tb1 h) rfl rfl, rfl, by decide⟩
theorem fl_10_229 : FLk RX10 229 9 4 2 := ⟨RX9, TX9, 10, rfl, by decide, inT9, tg_in 53 tables_1_2 (fun _ h => tb2 h) rfl rfl, rfl, by decide⟩
theorem fl_10_232 : FLk RX10 232 9 5 2 := ⟨RX9, TX9, 10, rfl, by decide, inT9, tg_in 55 tables_1_2 (fun _ h => tb2 h) rfl rfl, rfl, by decide⟩
theorem fl_10_235 : FLk RX10 235 9 6 2 := ⟨RX9, TX9, 10, rfl, by decide, inT9, tg_in 57 tables_1_2 (fun _ h => tb2 h) rfl rfl, rfl, by decide⟩
theorem fl_10_238 : FLk RX10 238 9 7 2 := ⟨RX9, TX9, 10, rfl, by decide, inT9, tg_in 59 tables_1_2 (fun _ h => tb2 h) rfl rfl, rfl, by decide⟩
theorem fl_10_243 : FLk RX10 243 2 0 0 := ⟨RX2, TX2, 7, rfl, by decide, inT2, tg_in 223 tables_1_1 (fun _ h => tb1 h) rfl rfl, rfl, by decide⟩
theorem fl_10_246 : FLk RX10 246 2 1 0 := ⟨RX2, TX2, 7, rfl, by decide, inT2, tg_in 225 tables_1_1 (fun _ h => tb1 h) rfl rfl, rfl, by decide⟩
theorem fl_10_25 : FLk RX10 25 10 2 2 := ⟨RX10, TX10, 15, rfl, by decide, inT10, tg_in 34 tables_1_3 (fun _ h => tb3 h) rfl rfl, rfl, by decide⟩
theorem fl_10_276 : FLk RX10 276 9 0 0 := ⟨RX9, TX9, 10, rfl, by decide, inT9, tg_in 41 tables_1_2 (fun _ h => tb2 h) rfl rfl, rfl, by decide⟩
theorem fl_10_284 : FLk RX10 284 4 1 2 := ⟨RX4, TX4, 7, rfl, by decide, inT4, tg_in 155 tables_1_1 (fun _ h => tb1 h) rfl rfl, rfl, by decide⟩
theorem fl_10_288 : FLk RX10 288 3 0 2 := ⟨RX3, TX3, 3, rfl, by decide, inT3, tg_in 140 tables_1_1 (fun _ h => tb1 h) rfl rfl, rfl, by decide⟩
theorem fl_10_304 : FLk RX10 304 4 3 2 := ⟨RX4, TX4, 7, rfl, by decide, inT4, tg_in 158 tables_1_1 (fun _ h => tb1 h) rfl rfl, rfl, by decide⟩
theorem fl_10_31 : FLk RX10 31 10 3 2 := ⟨RX10, TX10, 15, rfl, by decide, inT10, tg_in 35 tables_1_3 (fun _ h => tb3 h) rfl rfl, rfl, by decide⟩
theorem fl_10_35 : FLk RX10 35 10 4 2 := ⟨RX10, TX10, 15, rfl, by decide, inT10, tg_in 36 tables_1_3 (fun _ h => tb3 h) rfl rfl, rfl, by decide⟩
theorem fl_10_352 : FLk RX10 352 0 0 2 := ⟨RX0, TX0, 1, rfl, by decide, inT0, tg_in 91 tables_1_2 (fun _ h => tb2 h) rfl rfl, rfl, by decide⟩
theorem fl_10_387 : FLk RX10 387 7 0 0 := ⟨RX7, TX7, 2, rfl, by decide, inT7, tg_in 187 tables_1_1 (fun _ h => tb1 h) rfl rfl, rfl, by decide⟩
theorem fl_10_398 : FLk RX10 398 5 0 0 := ⟨RX5, TX5, 3, rfl, by decide, inT5, tg_in 206 tables_1_1 (fun _ h => tb1 h) rfl rfl, rfl, by decide⟩
theorem fl_10_41 : FLk RX10 41 10 5 2 := ⟨RX10, TX10, 15, rfl, by decide, inT10, tg_in 37 tables_1_3 (fun _ h => tb3 h) rfl rfl, rfl, by decide⟩
theorem fl_10_419 : FLk RX10 419 1 6 0 := ⟨RX1, TX1, 12, rfl, by decide, inT1, tg_in 97 tables_1_1 (fun _ h => tb1 h) rfl rfl, rfl, by decide⟩
theorem fl_10_422 : FLk RX10 422 1 0 0 := ⟨RX1, TX1, 12, rfl, by decide, inT1, tg_in 74 tables_1_1 (fun _ h => tb1 h) rfl rfl, rfl, by decide⟩
theorem fl_10_425 : FLk RX10 425 1 1 0 := ⟨RX1, TX1, 12, rfl, by decide, inT1, tg_in 78 tables_1_1 (fun _ h => tb1 h) rfl rfl, rfl, by decide⟩
theorem fl_10_48 : FLk RX10 48 10 6 2 := ⟨RX10, TX10, 15, rfl, by decide, inT10, tg_in 38 tables_1_3 (fun _ h => tb3 h) rfl rfl, rfl, by decide⟩
theorem fl_10_55 : FLk RX10 55 10 7 2 := ⟨RX10, TX10, 15, rfl, by decide, inT10, tg_in 39 tables_1_3 (fun _ h => tb3 h) rfl rfl, rfl, by decide⟩
theorem fl_10_59 : FLk RX10 59 10 8 2 := ⟨RX10, TX10, 15, rfl, by decide, inT10, tg_in 40 tables_1_3 (fun _ h => tb3 h) rfl rfl, rfl, by decide⟩
theorem fl_10_62 : FLk RX10 62 10 9 2 := ⟨RX10, TX10, 15, rfl, by decide, inT10, tg_in 41 tables_1_3 (fun _ h => tb3 h) rfl rfl, rfl, by decide⟩
theorem fl_10_65 : FLk RX10 65 10 10 2 := ⟨RX10, TX10, 15, rfl, by decide, inT10, tg_in 42 tables_1_3 (fun _ h => tb3 h) rfl rfl, rfl, by decide⟩
theorem fl_10_71 : FLk RX10 71 10 11 2 := ⟨RX10, TX10, 15, rfl, by decide, inT10, tg_in 43 tables_1_3 (fun _ h => tb3 h) rfl rfl, rfl, by decide⟩
theorem fl_10_75 : FLk RX10 75 10 12 2 := ⟨RX10, TX10, 15, rfl, by decide, inT10, tg_in 44 tables_1_3 (fun _ h => tb3 h) rfl rfl, rfl, by decide⟩
theorem fl_10_78 : FLk RX10 78 10 13 2 := ⟨RX10, TX10, 15, rfl, by decide, inT10, tg_in 45 tables_1_3 (fun _ h => tb3 h) rfl rfl, rfl, by decide⟩
theorem fl_10_84 : FLk RX10 84 10 14 2 := ⟨RX10, TX10, 15, rfl, by decide, inT10, tg_in 46 tables_1_3 (fun _ h => tb3 h) rfl rfl, rfl, by decide⟩
theorem fl_11_100 : FLk RX11 100 11 0 0 := ⟨RX11, TX11, 41, rfl, by decide, inT11, tg_in 53 tables_1_6 (fun _ h => tb6 h) rfl rfl, rfl, by decide⟩
theorem fl_11_13 : FLk RX11 13 11 2 2 := ⟨RX11, TX11, 41, rfl, by decide, inT11, tg_in 55 tables_1_6 (fun _ h => tb6 h) rfl rfl, rfl, by decide⟩
theorem fl_11_142 : FLk RX11 142 11 17 0 := ⟨RX11, TX11, 41, rfl, by decide, inT11, tg_in 70 tables_1_6 (fun _ h => tb6 h) rfl rfl, rfl, by decide⟩
theorem fl_11_145 : FLk RX11 145 11 18 1 := ⟨RX11, TX11, 41, rfl, by decide, inT11, tg_in 71 tables_1_6 (fun _ h => tb6 h) rfl rfl, rfl, by decide⟩
theorem fl_11_149 : FLk RX11 149 11 19 0 := ⟨RX11, TX11, 41, rfl, by decide, inT11, tg_in 72 tables_1_6 (fun _ h => tb6 h) rfl rfl, rfl, by decide⟩
theorem fl_11_16 : FLk RX11 16 11 4 2 := ⟨RX11, TX11, 41, rfl, by decide, inT11, tg_in 57 tables_1_6 (fun _ h => tb6 h) rfl rfl, rfl, by decide⟩
theorem fl_11_166 : FLk RX11 166 11 27 0 := ⟨RX11, TX11, 41, rfl, by decide, inT11, tg_in 80 tables_1_6 (fun _ h => tb6 h) rfl rfl, rfl, by decide⟩
theorem fl_11_182 : FLk RX11 182 11 38 0 := ⟨RX11, TX11, 41, rfl, by decide, inT11, tg_in 91 tables_1_6 (fun _ h => tb6 h) rfl rfl, rfl, by decide⟩
theorem fl_11_19 : FLk RX11 19 11 6 2 := ⟨RX11, TX11, 41, rfl, by decide, inT11, tg_in 59 tables_1_6 (fun _ h => tb6 h) rfl rfl, rfl, by decide⟩
theorem fl_11_191 : FLk RX11 191 11 35 0 := ⟨RX11, TX11, 41, rfl, by decide, inT11, tg_in 88 tables_1_6 (fun _ h => tb6 h) rfl rfl, rfl, by decide⟩
theorem fl_11_195 : FLk RX11 195 11 36 0 := ⟨RX11, TX11, 41, rfl, by decide, inT11, tg_in 89 tables_1_6 (fun _ h => tb6 h) rfl rfl, rfl, by decide⟩
theorem fl_11_22 : FLk RX11 22 11 10 0 := ⟨RX11, TX11, 41, rfl, by decide, inT11, tg_in 63 tables_1_6 (fun _ h => tb6 h) rfl rfl, rfl, by decide⟩
theorem fl_11_223 : FLk RX11 223 11 7 0 := ⟨RX11, TX11, 41, rfl, by decide, inT11, tg_in 60 tables_1_6 (fun _ h => tb6 h) rfl rfl, rfl, by decide⟩
theorem fl_11_226 : FLk RX11 226 11 9 0 := ⟨RX11, TX11, 41, rfl, by decide, inT11, tg_in 62 tables_1_6 (fun _ h => tb6 h) rfl rfl, rfl, by decide⟩
theorem fl_11_229 : FLk RX11 229 11 8 0 := ⟨RX11, TX11, 41, rfl, by decide, inT11, tg_in 61 tables_1_6 (fun _ h => tb6 h) rfl rfl, rfl, by decide⟩
theorem fl_11_26 : FLk RX11 26 11 11 2 := ⟨RX11, TX11, 41, rfl, by decide, inT11, tg_in 64 tables_1_6 (fun _ h => tb6 h) rfl rfl, rfl, by decide⟩
theorem fl_11_288 : FLk RX11 288 11 3 0 := ⟨RX11, TX11, 41, rfl, by decide, inT11, tg_in 56 tables_1_6 (fun _ h => tb6 h) rfl rfl, rfl, by decide⟩
theorem fl_11_29 : FLk RX11 29 11 12 2 := ⟨RX11, TX11, 41, rfl, by decide, inT11, tg_in 65 tables_1_6 (fun _ h => tb6 h) rfl rfl, rfl, by decide⟩
theorem fl_11_32 : FLk RX11 32 11 13 2 := ⟨RX11, TX11, 41, rfl, by decide, inT11, tg_in 66 tables_1_6 (fun _ h => tb6 h) rfl rfl, rfl, by decide⟩
theorem fl_11_36 : FLk RX11 36 11 14 2 := ⟨RX11, TX11, 41, rfl, by decide, inT11, tg_in 67 tables_1_6 (fun _ h => tb6 h) rfl rfl, rfl, by decide⟩
theorem fl_11_384 : FLk RX11 384 11 5 0 := ⟨RX11, TX11, 41, rfl, by decide, inT11, tg_in 58 tables_1_6 (fun _ h => tb6 h) rfl rfl, rfl, by decide⟩
theorem fl_11_39 : FLk RX11 39 11 15 2 := ⟨RX11, TX11, 41, rfl, by decide, inT11, tg_in 68 tables_1_6 (fun _ h => tb6 h) rfl rfl, rfl, by decide⟩
theorem fl_11_42 : FLk RX11 42 11 16 2 := ⟨RX11, TX11, 41, rfl, by decide, inT11, tg_in 69 tables_1_6 (fun _ h => tb6 h) rfl rfl, rfl, by decide⟩
theorem fl_11_45 : FLk RX11 45 11 20 2 := ⟨RX11, TX11, 41, rfl, by decide, inT11, tg_in 73 tables_1_6 (fun _ h => tb6 h) rfl rfl, rfl, by decide⟩
theorem fl_11_48 : FLk RX11 48 11 21 2 := ⟨RX11, TX11, 41, rfl, by decide, inT11, tg_in 74 tables_1_6 (fun _ h => tb6 h) rfl rfl, rfl, by decide⟩
theorem fl_11_51 : FLk RX11 51 11 22 2 := ⟨RX11, TX11, 41, rfl, by decide, inT11, tg_in 75 tables_1_6 (fun _ h => tb6 h) rfl rfl, rfl, by decide⟩
theorem fl_11_54 : FLk RX11 54 11 23 2 := ⟨RX11, TX11, 41, rfl, by decide, inT11, tg_in 76 tables_1_6 (fun _ h => tb6 h) rfl rfl, rfl, by decide⟩
theorem fl_11_57 : FLk RX11 57 11 24 2 := ⟨RX11, TX11, 41, rfl, by decide, inT11, tg_in 77 tables_1_6 (fun _ h => tb6 h) rfl rfl, rfl, by decide⟩
theorem fl_11_60 : FLk RX11 60 11 25 2 := ⟨RX11, TX11, 41, rfl, by decide, inT11, tg_in 78 tables_1_6 (fun _ h => tb6 h) rfl rfl, rfl, by decide⟩
theorem fl_11_63 : FLk RX11 63 11 26 2 := ⟨RX11, TX11, 41, rfl, by decide, inT11, tg_in 79 tables_1_6 (fun _ h => tb6 h) rfl rfl, rfl, by decide⟩
theorem fl_11_66 : FLk RX11 66 11 28 2 := ⟨RX11, TX11, 41, rfl, by decide, inT11, tg_in 81 tables_1_6 (fun _ h => tb6 h) rfl rfl, rfl, by decide⟩
theorem fl_11_69 : FLk RX11 69 11 29 2 := ⟨RX11, TX11, 41, rfl, by decide, inT11, tg_in 82 tables_1_6 (fun _ h => tb6 h) rfl rfl, rfl, by decide⟩
theorem fl_11_7 : FLk RX11 7 11 1 2 := ⟨RX11, TX11, 41, rfl, by decide, inT11, tg_in 54 tables_1_6 (fun _ h => tb6 h) rfl rfl, rfl, by decide⟩
theorem fl_11_72 : FLk RX11 72 11 30 2 := ⟨RX11, TX11, 41, rfl, by decide, inT11, tg_in 83 tables_1_6 (fun _ h => tb6 h) rfl rfl, rfl, by decide⟩
theorem fl_11_75 : FLk RX11 75 11 31 2 := ⟨RX11, TX11, 41, rfl, by decide, inT11, tg_in 84 tables_1_6 (fun _ h => tb6 h) rfl rfl, rfl, by decide⟩
theorem fl_11_78 : FLk RX11 78 11 32 2 := ⟨RX11, TX11, 41, rfl, by decide, inT11, tg_in 85 tables_1_6 (fun _ h => tb6 h) rfl rfl, rfl, by decide⟩
theorem fl_11_81 : FLk RX11 81 11 33 2 := ⟨RX11, TX11, 41, rfl, by decide, inT11, tg_in 86 tables_1_6 (fun _ h => tb6 h) rfl rfl, rfl, by decide⟩
theorem fl_11_84 : FLk RX11 84 11 34 2 := ⟨RX11, TX11, 41, rfl, by decide, inT11, tg_in 87 tables_1_6 (fun _ h => tb6 h) rfl rfl, rfl, by decide⟩
theorem fl_11_87 : FLk RX11 87 11 37 2 := ⟨RX11, TX11, 41, rfl, by decide, inT11, tg_in 90 tables_1_6 (fun _ h => tb6 h) rfl rfl, rfl, by decide⟩
theorem fl_11_90 : FLk RX11 90 11 39 2 := ⟨RX11, TX11, 41, rfl, by decide, inT11, tg_in 92 tables_1_6 (fun _ h => tb6 h) rfl rfl, rfl, by decide⟩
theorem fl_11_93 : FLk RX11 93 11 40 2 := ⟨RX11, TX11, 41, rfl, by decide, inT11, tg_in 93 tables_1_6 (fun _ h => tb6 h) rfl rfl, rfl, by decide⟩
theorem ml_0_21 : Cond.methodLink RX0 21 yX7_turnAt ∈ Tg := tg_in 134 tables_1_5 (fun _ h => tb5 h) rfl rfl
theorem ml_0_25 : Cond.methodLink RX0 25 yX7_copyFrom ∈ Tg := tg_in 135 tables_1_5 (fun _ h => tb5 h) rfl rfl
theorem ml_0_29 : Cond.methodLink RX0 29 yX7_setTurn ∈ Tg := tg_in 136 tables_1_5 (fun _ h => tb5 h) rfl rfl
theorem ml_0_33 : Cond.methodLink RX0 33 yX7_countGaps ∈ Tg := tg_in 141 tables_1_5 (fun _ h => tb5 h) rfl rfl
theorem ml_0_37 : Cond.methodLink RX0 37 yX0_weigh ∈ Tg := tg_in 146 tables_1_5 (fun _ h => tb5 h) rfl rfl
theorem ml_0_41 : Cond.methodLink RX0 41 yX7_shift ∈ Tg := tg_in 150 tables_1_5 (fun _ h => tb5 h) rfl rfl
theorem ml_1_49 : Cond.methodLink RX1 49 yX1_partOf ∈ Tg := tg_in 109 tables_1_2 (fun _ h => tb2 h) rfl rfl
theorem ml_1_53 : Cond.methodLink RX1 53 yX1_netOf ∈ Tg := tg_in 105 tables_1_2 (fun _ h => tb2 h) rfl rfl
theorem ml_1_57 : Cond.methodLink RX1 57 yX1_joining ∈ Tg := tg_in 199 tables_1_2 (fun _ h => tb2 h) rfl rfl
theorem ml_1_61 : Cond.methodLink RX1 61 yX1_areTied ∈ Tg := tg_in 153 tables_1_3 (fun _ h => tb3 h) rfl rfl
theorem ml_1_65 : Cond.methodLink RX1 65 yX1_allFingers ∈ Tg := tg_in 165 tables_1_3 (fun _ h => tb3 h) rfl rfl
theorem ml_1_75 : Cond.methodLink RX1 75 yX1_tiedNets ∈ Tg := tg_in 124 tables_1_3 (fun _ h => tb3 h) rfl rfl
theorem ml_1_78 : Cond.methodLink RX1 78 yJ6_bitCount_0f7a4 ∈ Tg := tg_in 128 tables_1_3 (fun _ h => tb3 h) rfl rfl
theorem ml_1_83 : Cond.methodLink RX1 83 yJ9_max_7cf53 ∈ Tg := tg_in 129 tables_1_3 (fun _ h => tb3 h) rfl rfl
theorem ml_2_42 : Cond.methodLink RX2 42 yX7_joinsNext ∈ Tg := tg_in 191 tables_1_2 (fun _ h => tb2 h) rfl rfl
theorem ml_2_46 : Cond.methodLink RX2 46 yX1_breaksBetween ∈ Tg := tg_in 200 tables_1_2 (fun _ h => tb2 h) rfl rfl
theorem ml_2_52 : Cond.methodLink RX2 52 yX1_netOf ∈ Tg := tg_in 201 tables_1_2 (fun _ h => tb2 h) rfl rfl
theorem ml_2_56 : Cond.methodLink RX2 56 yX2_put ∈ Tg := tg_in 202 tables_1_2 (fun _ h => tb2 h) rfl rfl
theorem ml_2_60 : Cond.methodLink RX2 60 yX7_fingerAt ∈ Tg := tg_in 206 tables_1_2 (fun _ h => tb2 h) rfl rfl
theorem ml_2_64 : Cond.methodLink RX2 64 yX1_gateOf ∈ Tg := tg_in 210 tables_1_2 (fun _ h => tb2 h) rfl rfl
theorem ml_2_67 : Cond.methodLink RX2 67 yX1_partOf ∈ Tg := tg_in 233 tables_1_4 (fun _ h => tb4 h) rfl rfl
theorem ml_2_70 : Cond.methodLink RX2 70 yX2_areThese ∈ Tg := tg_in 234 tables_1_4 (fun _ h => tb4 h) rfl rfl
theorem ml_3_21 : Cond.methodLink RX3 21 yX1_allFingers ∈ Tg := tg_in 117 tables_1_2 (fun _ h => tb2 h) rfl rfl
theorem ml_3_27 : Cond.methodLink RX3 27 yX3_fillSet ∈ Tg := tg_in 121 tables_1_2 (fun _ h => tb2 h) rfl rfl
theorem ml_3_35 : Cond.methodLink RX3 35 yX3_mayBegin ∈ Tg := tg_in 125 tables_1_2 (fun _ h => tb2 h) rfl rfl
theorem ml_3_39 : Cond.methodLink RX3 39 yX3_gapsFrom ∈ Tg := tg_in 131 tables_1_2 (fun _ h => tb2 h) rfl rfl
theorem ml_3_51 : Cond.methodLink RX3 51 yX1_joining ∈ Tg := tg_in 138 tables_1_2 (fun _ h => tb2 h) rfl rfl
theorem ml_4_107 : Cond.methodLink RX4 107 yX1_breaksBetween ∈ Tg := tg_in 172 tables_1_2 (fun _ h => tb2 h) rfl rfl
theorem ml_4_110 : Cond.methodLink RX4 110 yX7_reset ∈ Tg := tg_in 75 tables_1_5 (fun _ h => tb5 h) rfl rfl
theorem ml_4_118 : Cond.methodLink RX4 118 yX3_nexts ∈ Tg := tg_in 76 tables_1_5 (fun _ h => tb5 h) rfl rfl
theorem ml_4_122 : Cond.methodLink RX4 122 yX3_gapsFrom ∈ Tg := tg_in 96 tables_1_5 (fun _ h => tb5 h) rfl rfl
theorem ml_4_128 : Cond.methodLink RX4 128 yX4_partedGaps ∈ Tg := tg_in 116 tables_1_5 (fun _ h => tb5 h) rfl rfl
theorem ml_4_131 : Cond.methodLink RX4 131 yJ9_max_7cf53 ∈ Tg := tg_in 120 tables_1_5 (fun _ h => tb5 h) rfl rfl
theorem ml_4_134 : Cond.methodLink RX4 134 yX4_waysAcross ∈ Tg := tg_in 179 tables_1_5 (fun _ h => tb5 h) rfl rfl
theorem ml_4_138 : Cond.methodLink RX4 138 yX1_areJoined ∈ Tg := tg_in 183 tables_1_5 (fun _ h => tb5 h) rfl rfl
theorem ml_4_42 : Cond.methodLink RX4 42 yX1_allFingers ∈ Tg := tg_in 142 tables_1_2 (fun _ h => tb2 h) rfl rfl
theorem ml_4_46 : Cond.methodLink RX4 46 yX1_findMeetings ∈ Tg := tg_in 101 tables_1_2 (fun _ h => tb2 h) rfl rfl
theorem ml_4_49 : Cond.methodLink RX4 49 yX3_fill ∈ Tg := tg_in 113 tables_1_2 (fun _ h => tb2 h) rfl rfl
theorem ml_4_53 : Cond.methodLink RX4 53 yX4_weighSet ∈ Tg := tg_in 143 tables_1_2 (fun _ h => tb2 h) rfl rfl
theorem ml_4_65 : Cond.methodLink RX4 65 yX4_weigh ∈ Tg := tg_in 148 tables_1_2 (fun _ h => tb2 h) rfl rfl
theorem ml_4_72 : Cond.methodLink RX4 72 yX4_waysOver ∈ Tg := tg_in 154 tables_1_2 (fun _ h => tb2 h) rfl rfl
theorem ml_4_76 : Cond.methodLink RX4 76 yJ9_min_7cf53 ∈ Tg := tg_in 176 tables_1_2 (fun _ h => tb2 h) rfl rfl
theorem ml_4_85 : Cond.methodLink RX4 85 yX1_joining ∈ Tg := tg_in 153 tables_1_2 (fun _ h => tb2 h) rfl rfl
theorem ml_4_89 : Cond.methodLink RX4 89 yX4_calmOver ∈ Tg := tg_in 168 tables_1_2 (fun _ h => tb2 h) rfl rfl
theorem ml_4_96 : Cond.methodLink RX4 96 yX1_meetingAtAll ∈ Tg := tg_in 179 tables_1_2 (fun _ h => tb2 h) rfl rfl
theorem ml_4_99 : Cond.methodLink RX4 99 yJ6_bitCount_0f7a4 ∈ Tg := tg_in 158 tables_1_2 (fun _ h => tb2 h) rfl rfl
theorem ml_5_25 : Cond.methodLink RX5 25 yX7_copyFrom ∈ Tg := tg_in 207 tables_1_5 (fun _ h => tb5 h) rfl rfl
theorem ml_5_29 : Cond.methodLink RX5 29 yJ9_min_7cf53 ∈ Tg := tg_in 208 tables_1_5 (fun _ h => tb5 h) rfl rfl
theorem ml_6_22 : Cond.methodLink RX6 22 yX6_collect ∈ Tg := tg_in 226 tables_1_2 (fun _ h => tb2 h) rfl rfl
theorem ml_6_37 : Cond.methodLink RX6 37 yJ9_max_7cf53 ∈ Tg := tg_in 232 tables_1_2 (fun _ h => tb2 h) rfl rfl
theorem ml_6_43 : Cond.methodLink RX6 43 yX6_offer ∈ Tg := tg_in 235 tables_1_2 (fun _ h => tb2 h) rfl rfl
theorem ml_6_52 : Cond.methodLink RX6 52 yX6_shiftOf ∈ Tg := tg_in 3 tables_1_3 (fun _ h => tb3 h) rfl rfl
theorem ml_6_66 : Cond.methodLink RX6 66 yX6_priceOf ∈ Tg := tg_in 239 tables_1_2 (fun _ h => tb2 h) rfl rfl
theorem ml_7_19 : Cond.methodLink RX7 19 yX7_fingerAt ∈ Tg := tg_in 140 tables_1_5 (fun _ h => tb5 h) rfl rfl
theorem ml_7_23 : Cond.methodLink RX7 23 yX1_areJoined ∈ Tg := tg_in 195 tables_1_2 (fun _ h => tb2 h) rfl rfl
theorem ml_7_29 : Cond.methodLink RX7 29 yX7_joinsNext ∈ Tg := tg_in 145 tables_1_5 (fun _ h => tb5 h) rfl rfl
theorem ml_8_109 : Cond.methodLink RX8 109 yX8_passWord ∈ Tg := tg_in 60 tables_1_4 (fun _ h => tb4 h) rfl rfl
theorem ml_8_112 : Cond.methodLink RX8 112 yX1_addPair ∈ Tg := tg_in 64 tables_1_4 (fun _ h => tb4 h) rfl rfl
theorem ml_8_118 : Cond.methodLink RX8 118 yJ6_bitCount_0f7a4 ∈ Tg := tg_in 79 tables_1_4 (fun _ h => tb4 h) rfl rfl
theorem ml_8_133 : Cond.methodLink RX8 133 yX8_skipBlanks ∈ Tg := tg_in 212 tables_1_3 (fun _ h => tb3 h) rfl rfl
theorem ml_8_136 : Cond.methodLink RX8 136 yX8_goThroughWord ∈ Tg := tg_in 216 tables_1_3 (fun _ h => tb3 h) rfl rfl
theorem ml_8_139 : Cond.methodLink RX8 139 yJ0_length_8abf5 ∈ Tg := tg_in 228 tables_1_3 (fun _ h => tb3 h) rfl rfl
theorem ml_8_143 : Cond.methodLink RX8 143 yJ0_charAt_5068e ∈ Tg := tg_in 238 tables_1_3 (fun _ h => tb3 h) rfl rfl
theorem ml_8_28 : Cond.methodLink RX8 28 yX1_clear ∈ Tg := tg_in 199 tables_1_3 (fun _ h => tb3 h) rfl rfl
theorem ml_8_35 : Cond.methodLink RX8 35 yX8_expectWord ∈ Tg := tg_in 204 tables_1_3 (fun _ h => tb3 h) rfl rfl
theorem ml_8_39 : Cond.methodLink RX8 39 yX8_readNumber ∈ Tg := tg_in 36 tables_1_4 (fun _ h => tb4 h) rfl rfl
theorem ml_8_49 : Cond.methodLink RX8 49 yX8_anotherLine ∈ Tg := tg_in 40 tables_1_4 (fun _ h => tb4 h) rfl rfl
theorem ml_8_53 : Cond.methodLink RX8 53 yX8_readLine ∈ Tg := tg_in 44 tables_1_4 (fun _ h => tb4 h) rfl rfl
theorem ml_8_57 : Cond.methodLink RX8 57 yX8_readWord ∈ Tg := tg_in 208 tables_1_3 (fun _ h => tb3 h) rfl rfl
theorem ml_8_60 : Cond.methodLink RX8 60 yX8_fail ∈ Tg := tg_in 220 tables_1_3 (fun _ h => tb3 h) rfl rfl
theorem ml_8_66 : Cond.methodLink RX8 66 yX8_wordIs ∈ Tg := tg_in 224 tables_1_3 (fun _ h => tb3 h) rfl rfl
theorem ml_8_70 : Cond.methodLink RX8 70 yX8_readPair ∈ Tg := tg_in 49 tables_1_4 (fun _ h => tb4 h) rfl rfl
theorem ml_8_78 : Cond.methodLink RX8 78 yX8_readNewNet ∈ Tg := tg_in 69 tables_1_4 (fun _ h => tb4 h) rfl rfl
theorem ml_8_84 : Cond.methodLink RX8 84 yX8_readPin ∈ Tg := tg_in 75 tables_1_4 (fun _ h => tb4 h) rfl rfl
theorem ml_8_89 : Cond.methodLink RX8 89 yX8_readBlock ∈ Tg := tg_in 81 tables_1_4 (fun _ h => tb4 h) rfl rfl
theorem ml_8_99 : Cond.methodLink RX8 99 yX8_readNet ∈ Tg := tg_in 53 tables_1_4 (fun _ h => tb4 h) rfl rfl
theorem ml_9_102 : Cond.methodLink RX9 102 yX9_isFree ∈ Tg := tg_in 21 tables_1_3 (fun _ h => tb3 h) rfl rfl
theorem ml_9_116 : Cond.methodLink RX9 116 yX9_hasWire ∈ Tg := tg_in 30 tables_1_5 (fun _ h => tb5 h) rfl rfl
theorem ml_9_52 : Cond.methodLink RX9 52 yX9_note ∈ Tg := tg_in 218 tables_1_2 (fun _ h => tb2 h) rfl rfl
theorem ml_9_62 : Cond.methodLink RX9 62 yX6_place ∈ Tg := tg_in 222 tables_1_2 (fun _ h => tb2 h) rfl rfl
theorem ml_9_78 : Cond.methodLink RX9 78 yX9_drawWire ∈ Tg := tg_in 7 tables_1_3 (fun _ h => tb3 h) rfl rfl
theorem ml_9_82 : Cond.methodLink RX9 82 yJ9_min_7cf53 ∈ Tg := tg_in 11 tables_1_3 (fun _ h => tb3 h) rfl rfl
theorem ml_9_88 : Cond.methodLink RX9 88 yJ9_max_7cf53 ∈ Tg := tg_in 12 tables_1_3 (fun _ h => tb3 h) rfl rfl
theorem ml_9_91 : Cond.methodLink RX9 91 yX9_freeTracks ∈ Tg := tg_in 17 tables_1_3 (fun _ h => tb3 h) rfl rfl
theorem ml_9_95 : Cond.methodLink RX9 95 yX9_leastTrack ∈ Tg := tg_in 28 tables_1_3 (fun _ h => tb3 h) rfl rfl
theorem ml_10_106 : Cond.methodLink RX10 106 yX8_readInto ∈ Tg := tg_in 195 tables_1_3 (fun _ h => tb3 h) rfl rfl
theorem ml_10_117 : Cond.methodLink RX10 117 yX10_notKept ∈ Tg := tg_in 153 tables_1_4 (fun _ h => tb4 h) rfl rfl
theorem ml_10_121 : Cond.methodLink RX10 121 yX4_exchange ∈ Tg := tg_in 157 tables_1_4 (fun _ h => tb4 h) rfl rfl
theorem ml_10_131 : Cond.methodLink RX10 131 yX7_reset ∈ Tg := tg_in 161 tables_1_4 (fun _ h => tb4 h) rfl rfl
theorem ml_10_134 : Cond.methodLink RX10 134 yX5_forget ∈ Tg := tg_in 179 tables_1_3 (fun _ h => tb3 h) rfl rfl
theorem ml_10_153 : Cond.methodLink RX10 153 yX1_fingersOf ∈ Tg := tg_in 206 tables_1_4 (fun _ h => tb4 h) rfl rfl
theorem ml_10_157 : Cond.methodLink RX10 157 yX1_partOf ∈ Tg := tg_in 210 tables_1_4 (fun _ h => tb4 h) rfl rfl
theorem ml_10_161 : Cond.methodLink RX10 161 yX10_isPlace ∈ Tg := tg_in 218 tables_1_4 (fun _ h => tb4 h) rfl rfl
theorem ml_10_167 : Cond.methodLink RX10 167 yX7_fingerAt ∈ Tg := tg_in 223 tables_1_4 (fun _ h => tb4 h) rfl rfl
theorem ml_10_174 : Cond.methodLink RX10 174 yX7_turnAt ∈ Tg := tg_in 224 tables_1_4 (fun _ h => tb4 h) rfl rfl
theorem ml_10_18 : Cond.methodLink RX10 18 yX4_init ∈ Tg := tg_in 62 tables_1_1 (fun _ h => tb1 h) rfl rfl
theorem ml_10_180 : Cond.methodLink RX10 180 yX7_joinsNext ∈ Tg := tg_in 228 tables_1_4 (fun _ h => tb4 h) rfl rfl
theorem ml_10_184 : Cond.methodLink RX10 184 yX2_readBack ∈ Tg := tg_in 229 tables_1_4 (fun _ h => tb4 h) rfl rfl
theorem ml_10_209 : Cond.methodLink RX10 209 yX10_isNet ∈ Tg := tg_in 14 tables_1_5 (fun _ h => tb5 h) rfl rfl
theorem ml_10_249 : Cond.methodLink RX10 249 yX9_total ∈ Tg := tg_in 26 tables_1_5 (fun _ h => tb5 h) rfl rfl
theorem ml_10_253 : Cond.methodLink RX10 253 yX9_greatestCut ∈ Tg := tg_in 34 tables_1_5 (fun _ h => tb5 h) rfl rfl
theorem ml_10_256 : Cond.methodLink RX10 256 yX9_worst ∈ Tg := tg_in 38 tables_1_5 (fun _ h => tb5 h) rfl rfl
theorem ml_10_259 : Cond.methodLink RX10 259 yX9_usedTracks ∈ Tg := tg_in 42 tables_1_5 (fun _ h => tb5 h) rfl rfl
theorem ml_10_262 : Cond.methodLink RX10 262 yJ6_bitCount_0f7a4 ∈ Tg := tg_in 167 tables_1_2 (fun _ h => tb2 h) rfl rfl
theorem ml_10_267 : Cond.methodLink RX10 267 yX9_lost ∈ Tg := tg_in 46 tables_1_5 (fun _ h => tb5 h) rfl rfl
theorem ml_10_270 : Cond.methodLink RX10 270 yX9_height ∈ Tg := tg_in 50 tables_1_5 (fun _ h => tb5 h) rfl rfl
theorem ml_10_273 : Cond.methodLink RX10 273 yX9_totalLength ∈ Tg := tg_in 54 tables_1_5 (fun _ h => tb5 h) rfl rfl
theorem ml_10_279 : Cond.methodLink RX10 279 yX2_isSame ∈ Tg := tg_in 58 tables_1_5 (fun _ h => tb5 h) rfl rfl
theorem ml_10_292 : Cond.methodLink RX10 292 yX1_allFingers ∈ Tg := tg_in 102 tables_1_3 (fun _ h => tb3 h) rfl rfl
theorem ml_10_295 : Cond.methodLink RX10 295 yX4_total ∈ Tg := tg_in 107 tables_1_3 (fun _ h => tb3 h) rfl rfl
theorem ml_10_300 : Cond.methodLink RX10 300 yX4_layInto ∈ Tg := tg_in 71 tables_1_5 (fun _ h => tb5 h) rfl rfl
theorem ml_10_307 : Cond.methodLink RX10 307 yX10_isFinger ∈ Tg := tg_in 87 tables_1_5 (fun _ h => tb5 h) rfl rfl
theorem ml_10_312 : Cond.methodLink RX10 312 yX4_fewestBetween ∈ Tg := tg_in 92 tables_1_5 (fun _ h => tb5 h) rfl rfl
theorem ml_10_315 : Cond.methodLink RX10 315 yX1_oddBound ∈ Tg := tg_in 119 tables_1_3 (fun _ h => tb3 h) rfl rfl
theorem ml_10_318 : Cond.methodLink RX10 318 yX10_least ∈ Tg := tg_in 134 tables_1_3 (fun _ h => tb3 h) rfl rfl
theorem ml_10_320 : Cond.methodLink RX10 320 yX10_bound ∈ Tg := tg_in 135 tables_1_3 (fun _ h => tb3 h) rfl rfl
theorem ml_10_324 : Cond.methodLink RX10 324 yJ9_max_7cf53 ∈ Tg := tg_in 136 tables_1_3 (fun _ h => tb3 h) rfl rfl
theorem ml_10_331 : Cond.methodLink RX10 331 yX4_partingSet ∈ Tg := tg_in 112 tables_1_5 (fun _ h => tb5 h) rfl rfl
theorem ml_10_334 : Cond.methodLink RX10 334 yX4_partedGaps ∈ Tg := tg_in 121 tables_1_5 (fun _ h => tb5 h) rfl rfl
theorem ml_10_337 : Cond.methodLink RX10 337 yX4_dearestFinger ∈ Tg := tg_in 141 tables_1_3 (fun _ h => tb3 h) rfl rfl
theorem ml_10_340 : Cond.methodLink RX10 340 yX1_tiedPairs ∈ Tg := tg_in 149 tables_1_3 (fun _ h => tb3 h) rfl rfl
theorem ml_10_343 : Cond.methodLink RX10 343 yX1_lonelyFingers ∈ Tg := tg_in 161 tables_1_3 (fun _ h => tb3 h) rfl rfl
theorem ml_10_348 : Cond.methodLink RX10 348 yX0_seek ∈ Tg := tg_in 130 tables_1_5 (fun _ h => tb5 h) rfl rfl
theorem ml_10_357 : Cond.methodLink RX10 357 yX10_lengthOf ∈ Tg := tg_in 162 tables_1_5 (fun _ h => tb5 h) rfl rfl
theorem ml_10_364 : Cond.methodLink RX10 364 yX4_waysAhead ∈ Tg := tg_in 175 tables_1_5 (fun _ h => tb5 h) rfl rfl
theorem ml_10_368 : Cond.methodLink RX10 368 yX4_waysFrom ∈ Tg := tg_in 191 tables_1_5 (fun _ h => tb5 h) rfl rfl
theorem ml_10_374 : Cond.methodLink RX10 374 yX5_remember ∈ Tg := tg_in 203 tables_1_5 (fun _ h => tb5 h) rfl rfl
theorem ml_10_378 : Cond.methodLink RX10 378 yX7_setTurn ∈ Tg := tg_in 209 tables_1_5 (fun _ h => tb5 h) rfl rfl
theorem ml_10_384 : Cond.methodLink RX10 384 yX7_shift ∈ Tg := tg_in 218 tables_1_5 (fun _ h => tb5 h) rfl rfl
theorem ml_10_395 : Cond.methodLink RX10 395 yX7_flip ∈ Tg := tg_in 3 tables_1_6 (fun _ h => tb6 h) rfl rfl
theorem ml_10_40 : Cond.methodLink RX10 40 yX5_init ∈ Tg := tg_in 198 tables_1_1 (fun _ h => tb1 h) rfl rfl
theorem ml_10_401 : Cond.methodLink RX10 401 yX5_takeBack ∈ Tg := tg_in 22 tables_1_6 (fun _ h => tb6 h) rfl rfl
theorem ml_10_406 : Cond.methodLink RX10 406 yX9_hasWire ∈ Tg := tg_in 34 tables_1_6 (fun _ h => tb6 h) rfl rfl
theorem ml_10_409 : Cond.methodLink RX10 409 yX9_isFree ∈ Tg := tg_in 35 tables_1_6 (fun _ h => tb6 h) rfl rfl
theorem ml_10_412 : Cond.methodLink RX10 412 yX9_freeTracks ∈ Tg := tg_in 43 tables_1_6 (fun _ h => tb6 h) rfl rfl
theorem ml_10_416 : Cond.methodLink RX10 416 yX7_copyFrom ∈ Tg := tg_in 171 tables_1_3 (fun _ h => tb3 h) rfl rfl
theorem ml_10_428 : Cond.methodLink RX10 428 yX2_draw ∈ Tg := tg_in 187 tables_1_2 (fun _ h => tb2 h) rfl rfl
theorem ml_10_432 : Cond.methodLink RX10 432 yX9_draw ∈ Tg := tg_in 214 tables_1_2 (fun _ h => tb2 h) rfl rfl
theorem ml_10_435 : Cond.methodLink RX10 435 yX9_assignTracks ∈ Tg := tg_in 13 tables_1_3 (fun _ h => tb3 h) rfl rfl
theorem ml_10_88 : Cond.methodLink RX10 88 yX4_prepare ∈ Tg := tg_in 97 tables_1_2 (fun _ h => tb2 h) rfl rfl
theorem ml_10_91 : Cond.methodLink RX10 91 yX10_redraw ∈ Tg := tg_in 183 tables_1_2 (fun _ h => tb2 h) rfl rfl
theorem ml_10_94 : Cond.methodLink RX10 94 yX8_hasRoom ∈ Tg := tg_in 82 tables_1_3 (fun _ h => tb3 h) rfl rfl
theorem ml_10_98 : Cond.methodLink RX10 98 yX8_take ∈ Tg := tg_in 86 tables_1_3 (fun _ h => tb3 h) rfl rfl
theorem ml_L_101 : Cond.methodLink RL 101 yX11_end ∈ Tg := tg_in 185 tables_1_6 (fun _ h => tb6 h) rfl rfl
theorem ml_L_102 : Cond.methodLink RL 102 yL_cell ∈ Tg := tg_in 187 tables_1_3 (fun _ h => tb3 h) rfl rfl
theorem ml_L_107 : Cond.methodLink RL 107 yX11_cell ∈ Tg := tg_in 192 tables_1_6 (fun _ h => tb6 h) rfl rfl
theorem ml_L_108 : Cond.methodLink RL 108 yX11_thrown ∈ Tg := tg_in 177 tables_1_6 (fun _ h => tb6 h) rfl rfl
theorem ml_L_111 : Cond.methodLink RL 111 yX10_fault ∈ Tg := tg_in 94 tables_1_3 (fun _ h => tb3 h) rfl rfl
theorem ml_L_114 : Cond.methodLink RL 114 yX11_fault ∈ Tg := tg_in 12 tables_1_7 (fun _ h => tb7 h) rfl rfl
theorem ml_L_115 : Cond.methodLink RL 115 yL_pair ∈ Tg := tg_in 165 tables_1_4 (fun _ h => tb4 h) rfl rfl
theorem ml_L_118 : Cond.methodLink RL 118 yX11_pair ∈ Tg := tg_in 16 tables_1_7 (fun _ h => tb7 h) rfl rfl
theorem ml_L_119 : Cond.methodLink RL 119 yL_at ∈ Tg := tg_in 211 tables_1_4 (fun _ h => tb4 h) rfl rfl
theorem ml_L_121 : Cond.methodLink RL 121 yX11_at ∈ Tg := tg_in 24 tables_1_7 (fun _ h => tb7 h) rfl rfl
theorem ml_L_122 : Cond.methodLink RL 122 yL_column ∈ Tg := tg_in 238 tables_1_4 (fun _ h => tb4 h) rfl rfl
theorem ml_L_124 : Cond.methodLink RL 124 yX11_column ∈ Tg := tg_in 79 tables_1_7 (fun _ h => tb7 h) rfl rfl
theorem ml_L_125 : Cond.methodLink RL 125 yL_net ∈ Tg := tg_in 7 tables_1_5 (fun _ h => tb5 h) rfl rfl
theorem ml_L_127 : Cond.methodLink RL 127 yX11_net ∈ Tg := tg_in 129 tables_1_7 (fun _ h => tb7 h) rfl rfl
theorem ml_L_128 : Cond.methodLink RL 128 yL_layout ∈ Tg := tg_in 19 tables_1_5 (fun _ h => tb5 h) rfl rfl
theorem ml_L_131 : Cond.methodLink RL 131 yX11_layout ∈ Tg := tg_in 136 tables_1_7 (fun _ h => tb7 h) rfl rfl
theorem ml_L_132 : Cond.methodLink RL 132 yX10_least ∈ Tg := tg_in 98 tables_1_3 (fun _ h => tb3 h) rfl rfl
theorem ml_L_135 : Cond.methodLink RL 135 yX11_least ∈ Tg := tg_in 172 tables_1_7 (fun _ h => tb7 h) rfl rfl
theorem ml_L_136 : Cond.methodLink RL 136 yX10_many ∈ Tg := tg_in 103 tables_1_3 (fun _ h => tb3 h) rfl rfl
theorem ml_L_140 : Cond.methodLink RL 140 yX11_many ∈ Tg := tg_in 191 tables_1_7 (fun _ h => tb7 h) rfl rfl
theorem ml_L_143 : Cond.methodLink RL 143 yL_best ∈ Tg := tg_in 63 tables_1_5 (fun _ h => tb5 h) rfl rfl
theorem ml_L_146 : Cond.methodLink RL 146 yX11_best ∈ Tg := tg_in 195 tables_1_7 (fun _ h => tb7 h) rfl rfl
theorem ml_L_147 : Cond.methodLink RL 147 yX10_calm ∈ Tg := tg_in 111 tables_1_3 (fun _ h => tb3 h) rfl rfl
theorem ml_L_15 : Cond.methodLink RL 15 yX10_pair ∈ Tg := tg_in 170 tables_1_4 (fun _ h => tb4 h) rfl rfl
theorem ml_L_150 : Cond.methodLink RL 150 yX11_calm ∈ Tg := tg_in 203 tables_1_7 (fun _ h => tb7 h) rfl rfl
theorem ml_L_151 : Cond.methodLink RL 151 yL_with ∈ Tg := tg_in 80 tables_1_5 (fun _ h => tb5 h) rfl rfl
theorem ml_L_153 : Cond.methodLink RL 153 yX11_with ∈ Tg := tg_in 207 tables_1_7 (fun _ h => tb7 h) rfl rfl
theorem ml_L_154 : Cond.methodLink RL 154 yX10_bound ∈ Tg := tg_in 115 tables_1_3 (fun _ h => tb3 h) rfl rfl
theorem ml_L_158 : Cond.methodLink RL 158 yX11_bound ∈ Tg := tg_in 211 tables_1_7 (fun _ h => tb7 h) rfl rfl
theorem ml_L_159 : Cond.methodLink RL 159 yX10_agrees ∈ Tg := tg_in 130 tables_1_3 (fun _ h => tb3 h) rfl rfl
theorem ml_L_163 : Cond.methodLink RL 163 yX11_agrees ∈ Tg := tg_in 227 tables_1_7 (fun _ h => tb7 h) rfl rfl
theorem ml_L_164 : Cond.methodLink RL 164 yL_ofSet ∈ Tg := tg_in 97 tables_1_5 (fun _ h => tb5 h) rfl rfl
theorem ml_L_166 : Cond.methodLink RL 166 yX11_ofSet ∈ Tg := tg_in 231 tables_1_7 (fun _ h => tb7 h) rfl rfl
theorem ml_L_167 : Cond.methodLink RL 167 yL_parted ∈ Tg := tg_in 104 tables_1_5 (fun _ h => tb5 h) rfl rfl
theorem ml_L_170 : Cond.methodLink RL 170 yX11_parted ∈ Tg := tg_in 11 tables_1_8 (fun _ h => tb8 h) rfl rfl
theorem ml_L_171 : Cond.methodLink RL 171 yX10_dearest ∈ Tg := tg_in 137 tables_1_3 (fun _ h => tb3 h) rfl rfl
theorem ml_L_174 : Cond.methodLink RL 174 yX11_dearest ∈ Tg := tg_in 15 tables_1_8 (fun _ h => tb8 h) rfl rfl
theorem ml_L_175 : Cond.methodLink RL 175 yX10_ties ∈ Tg := tg_in 145 tables_1_3 (fun _ h => tb3 h) rfl rfl
theorem ml_L_178 : Cond.methodLink RL 178 yX11_ties ∈ Tg := tg_in 19 tables_1_8 (fun _ h => tb8 h) rfl rfl
theorem ml_L_179 : Cond.methodLink RL 179 yX10_lonely ∈ Tg := tg_in 157 tables_1_3 (fun _ h => tb3 h) rfl rfl
theorem ml_L_182 : Cond.methodLink RL 182 yX11_lonely ∈ Tg := tg_in 27 tables_1_8 (fun _ h => tb8 h) rfl rfl
theorem ml_L_183 : Cond.methodLink RL 183 yL_better ∈ Tg := tg_in 122 tables_1_5 (fun _ h => tb5 h) rfl rfl
theorem ml_L_185 : Cond.methodLink RL 185 yX11_better ∈ Tg := tg_in 67 tables_1_8 (fun _ h => tb8 h) rfl rfl
theorem ml_L_186 : Cond.methodLink RL 186 yL_shortest ∈ Tg := tg_in 154 tables_1_5 (fun _ h => tb5 h) rfl rfl
theorem ml_L_188 : Cond.methodLink RL 188 yX11_shortest ∈ Tg := tg_in 75 tables_1_8 (fun _ h => tb8 h) rfl rfl
theorem ml_L_189 : Cond.methodLink RL 189 yL_neighbours ∈ Tg := tg_in 166 tables_1_5 (fun _ h => tb5 h) rfl rfl
theorem ml_L_191 : Cond.methodLink RL 191 yX11_neighbours ∈ Tg := tg_in 79 tables_1_8 (fun _ h => tb8 h) rfl rfl
theorem ml_L_192 : Cond.methodLink RL 192 yL_starts ∈ Tg := tg_in 184 tables_1_5 (fun _ h => tb5 h) rfl rfl
theorem ml_L_194 : Cond.methodLink RL 194 yX11_starts ∈ Tg := tg_in 87 tables_1_8 (fun _ h => tb8 h) rfl rfl
theorem ml_L_195 : Cond.methodLink RL 195 yL_turn ∈ Tg := tg_in 195 tables_1_5 (fun _ h => tb5 h) rfl rfl
theorem ml_L_197 : Cond.methodLink RL 197 yX11_turn ∈ Tg := tg_in 31 tables_1_8 (fun _ h => tb8 h) rfl rfl
theorem ml_L_198 : Cond.methodLink RL 198 yL_move ∈ Tg := tg_in 210 tables_1_5 (fun _ h => tb5 h) rfl rfl
theorem ml_L_200 : Cond.methodLink RL 200 yX11_move ∈ Tg := tg_in 43 tables_1_8 (fun _ h => tb8 h) rfl rfl
theorem ml_L_201 : Cond.methodLink RL 201 yL_mirror ∈ Tg := tg_in 219 tables_1_5 (fun _ h => tb5 h) rfl rfl
theorem ml_L_203 : Cond.methodLink RL 203 yX11_mirror ∈ Tg := tg_in 51 tables_1_8 (fun _ h => tb8 h) rfl rfl
theorem ml_L_204 : Cond.methodLink RL 204 yL_lay ∈ Tg := tg_in 7 tables_1_6 (fun _ h => tb6 h) rfl rfl
theorem ml_L_207 : Cond.methodLink RL 207 yX11_lay ∈ Tg := tg_in 59 tables_1_8 (fun _ h => tb8 h) rfl rfl
theorem ml_L_208 : Cond.methodLink RL 208 yL_undo ∈ Tg := tg_in 14 tables_1_6 (fun _ h => tb6 h) rfl rfl
theorem ml_L_210 : Cond.methodLink RL 210 yX11_undo ∈ Tg := tg_in 63 tables_1_8 (fun _ h => tb8 h) rfl rfl
theorem ml_L_211 : Cond.methodLink RL 211 yL_fits ∈ Tg := tg_in 26 tables_1_6 (fun _ h => tb6 h) rfl rfl
theorem ml_L_213 : Cond.methodLink RL 213 yX11_fits ∈ Tg := tg_in 91 tables_1_8 (fun _ h => tb8 h) rfl rfl
theorem ml_L_214 : Cond.methodLink RL 214 yL_room ∈ Tg := tg_in 36 tables_1_6 (fun _ h => tb6 h) rfl rfl
theorem ml_L_216 : Cond.methodLink RL 216 yX11_room ∈ Tg := tg_in 95 tables_1_8 (fun _ h => tb8 h) rfl rfl
theorem ml_L_217 : Cond.methodLink RL 217 yX10_image ∈ Tg := tg_in 167 tables_1_3 (fun _ h => tb3 h) rfl rfl
theorem ml_L_220 : Cond.methodLink RL 220 yX11_image ∈ Tg := tg_in 99 tables_1_8 (fun _ h => tb8 h) rfl rfl
theorem ml_L_221 : Cond.methodLink RL 221 yX10_back ∈ Tg := tg_in 175 tables_1_3 (fun _ h => tb3 h) rfl rfl
theorem ml_L_224 : Cond.methodLink RL 224 yX11_back ∈ Tg := tg_in 103 tables_1_8 (fun _ h => tb8 h) rfl rfl
theorem ml_L_225 : Cond.methodLink RL 225 yX10_count ∈ Tg := tg_in 183 tables_1_3 (fun _ h => tb3 h) rfl rfl
theorem ml_L_228 : Cond.methodLink RL 228 yX11_count ∈ Tg := tg_in 107 tables_1_8 (fun _ h => tb8 h) rfl rfl
theorem ml_L_23 : Cond.methodLink RL 23 yX10_at ∈ Tg := tg_in 214 tables_1_4 (fun _ h => tb4 h) rfl rfl
theorem ml_L_26 : Cond.methodLink RL 26 yX10_column ∈ Tg := tg_in 1 tables_1_5 (fun _ h => tb5 h) rfl rfl
theorem ml_L_29 : Cond.methodLink RL 29 yX10_net ∈ Tg := tg_in 10 tables_1_5 (fun _ h => tb5 h) rfl rfl
theorem ml_L_32 : Cond.methodLink RL 32 yX10_layout ∈ Tg := tg_in 22 tables_1_5 (fun _ h => tb5 h) rfl rfl
theorem ml_L_36 : Cond.methodLink RL 36 yX10_best ∈ Tg := tg_in 66 tables_1_5 (fun _ h => tb5 h) rfl rfl
theorem ml_L_40 : Cond.methodLink RL 40 yX10_with ∈ Tg := tg_in 83 tables_1_5 (fun _ h => tb5 h) rfl rfl
theorem ml_L_43 : Cond.methodLink RL 43 yX10_ofSet ∈ Tg := tg_in 100 tables_1_5 (fun _ h => tb5 h) rfl rfl
theorem ml_L_46 : Cond.methodLink RL 46 yX10_parted ∈ Tg := tg_in 107 tables_1_5 (fun _ h => tb5 h) rfl rfl
theorem ml_L_50 : Cond.methodLink RL 50 yX10_better ∈ Tg := tg_in 125 tables_1_5 (fun _ h => tb5 h) rfl rfl
theorem ml_L_53 : Cond.methodLink RL 53 yX10_shortest ∈ Tg := tg_in 157 tables_1_5 (fun _ h => tb5 h) rfl rfl
theorem ml_L_56 : Cond.methodLink RL 56 yX10_neighbours ∈ Tg := tg_in 169 tables_1_5 (fun _ h => tb5 h) rfl rfl
theorem ml_L_60 : Cond.methodLink RL 60 yX10_starts ∈ Tg := tg_in 187 tables_1_5 (fun _ h => tb5 h) rfl rfl
theorem ml_L_64 : Cond.methodLink RL 64 yX10_turn ∈ Tg := tg_in 198 tables_1_5 (fun _ h => tb5 h) rfl rfl
theorem ml_L_67 : Cond.methodLink RL 67 yX10_move ∈ Tg := tg_in 213 tables_1_5 (fun _ h => tb5 h) rfl rfl
theorem ml_L_7 : Cond.methodLink RL 7 yX10_cell ∈ Tg := tg_in 191 tables_1_3 (fun _ h => tb3 h) rfl rfl
theorem ml_L_70 : Cond.methodLink RL 70 yX10_mirror ∈ Tg := tg_in 223 tables_1_5 (fun _ h => tb5 h) rfl rfl
theorem ml_L_75 : Cond.methodLink RL 75 yX10_lay ∈ Tg := tg_in 10 tables_1_6 (fun _ h => tb6 h) rfl rfl
theorem ml_L_79 : Cond.methodLink RL 79 yX10_undo ∈ Tg := tg_in 17 tables_1_6 (fun _ h => tb6 h) rfl rfl
theorem ml_L_82 : Cond.methodLink RL 82 yX10_fits ∈ Tg := tg_in 29 tables_1_6 (fun _ h => tb6 h) rfl rfl
theorem ml_L_85 : Cond.methodLink RL 85 yX10_room ∈ Tg := tg_in 39 tables_1_6 (fun _ h => tb6 h) rfl rfl
theorem ml_L_92 : Cond.methodLink RL 92 yX10_feed ∈ Tg := tg_in 78 tables_1_3 (fun _ h => tb3 h) rfl rfl
theorem ml_L_96 : Cond.methodLink RL 96 yX11_feed ∈ Tg := tg_in 181 tables_1_6 (fun _ h => tb6 h) rfl rfl
theorem ml_L_97 : Cond.methodLink RL 97 yX10_end ∈ Tg := tg_in 90 tables_1_3 (fun _ h => tb3 h) rfl rfl
theorem ml_11_103 : Cond.methodLink RX11 103 yX11_fingers ∈ Tg := tg_in 8 tables_1_7 (fun _ h => tb7 h) rfl rfl
theorem ml_11_107 : Cond.methodLink RX11 107 yX11_isIn ∈ Tg := tg_in 189 tables_1_6 (fun _ h => tb6 h) rfl rfl
theorem ml_11_111 : Cond.methodLink RX11 111 yX11_of ∈ Tg := tg_in 48 tables_1_7 (fun _ h => tb7 h) rfl rfl
theorem ml_11_115 : Cond.methodLink RX11 115 yX11_side ∈ Tg := tg_in 44 tables_1_7 (fun _ h => tb7 h) rfl rfl
theorem ml_11_119 : Cond.methodLink RX11 119 yX11_meets ∈ Tg := tg_in 64 tables_1_7 (fun _ h => tb7 h) rfl rfl
theorem ml_11_123 : Cond.methodLink RX11 123 yX11_state ∈ Tg := tg_in 188 tables_1_7 (fun _ h => tb7 h) rfl rfl
theorem ml_11_127 : Cond.methodLink RX11 127 yX11_lacks ∈ Tg := tg_in 60 tables_1_7 (fun _ h => tb7 h) rfl rfl
theorem ml_11_131 : Cond.methodLink RX11 131 yX11_lesser ∈ Tg := tg_in 102 tables_1_7 (fun _ h => tb7 h) rfl rfl
theorem ml_11_134 : Cond.methodLink RX11 134 yX11_laysState ∈ Tg := tg_in 184 tables_1_7 (fun _ h => tb7 h) rfl rfl
theorem ml_11_138 : Cond.methodLink RX11 138 yX11_laysAll ∈ Tg := tg_in 180 tables_1_7 (fun _ h => tb7 h) rfl rfl
theorem ml_11_152 : Cond.methodLink RX11 152 yX11_laysAheadOf ∈ Tg := tg_in 3 tables_1_8 (fun _ h => tb8 h) rfl rfl
theorem ml_11_156 : Cond.methodLink RX11 156 yX11_fingerAt ∈ Tg := tg_in 36 tables_1_7 (fun _ h => tb7 h) rfl rfl
theorem ml_11_160 : Cond.methodLink RX11 160 yX11_turnAt ∈ Tg := tg_in 40 tables_1_7 (fun _ h => tb7 h) rfl rfl
theorem ml_11_163 : Cond.methodLink RX11 163 yX11_lackBehind ∈ Tg := tg_in 56 tables_1_7 (fun _ h => tb7 h) rfl rfl
theorem ml_11_169 : Cond.methodLink RX11 169 yX11_laysColumn ∈ Tg := tg_in 52 tables_1_7 (fun _ h => tb7 h) rfl rfl
theorem ml_11_172 : Cond.methodLink RX11 172 yX11_laysNet ∈ Tg := tg_in 68 tables_1_7 (fun _ h => tb7 h) rfl rfl
theorem ml_11_175 : Cond.methodLink RX11 175 yX11_greater ∈ Tg := tg_in 99 tables_1_7 (fun _ h => tb7 h) rfl rfl
theorem ml_11_178 : Cond.methodLink RX11 178 yX11_has ∈ Tg := tg_in 236 tables_1_6 (fun _ h => tb6 h) rfl rfl
theorem ml_11_185 : Cond.methodLink RX11 185 yX11_beyond ∈ Tg := tg_in 95 tables_1_7 (fun _ h => tb7 h) rfl rfl
theorem ml_11_188 : Cond.methodLink RX11 188 yX11_restOf ∈ Tg := tg_in 91 tables_1_7 (fun _ h => tb7 h) rfl rfl
theorem ml_11_198 : Cond.methodLink RX11 198 yX11_crosses ∈ Tg := tg_in 117 tables_1_7 (fun _ h => tb7 h) rfl rfl
theorem ml_11_201 : Cond.methodLink RX11 201 yX11_hasWire ∈ Tg := tg_in 121 tables_1_7 (fun _ h => tb7 h) rfl rfl
theorem ml_11_205 : Cond.methodLink RX11 205 yX11_isFree ∈ Tg := tg_in 113 tables_1_7 (fun _ h => tb7 h) rfl rfl
theorem ml_11_208 : Cond.methodLink RX11 208 yX11_laysColumns ∈ Tg := tg_in 32 tables_1_7 (fun _ h => tb7 h) rfl rfl
theorem ml_11_211 : Cond.methodLink RX11 211 yX11_laysPins ∈ Tg := tg_in 87 tables_1_7 (fun _ h => tb7 h) rfl rfl
theorem ml_11_214 : Cond.methodLink RX11 214 yX11_laysWire ∈ Tg := tg_in 105 tables_1_7 (fun _ h => tb7 h) rfl rfl
theorem ml_11_217 : Cond.methodLink RX11 217 yX11_laysTracks ∈ Tg := tg_in 109 tables_1_7 (fun _ h => tb7 h) rfl rfl
theorem ml_11_220 : Cond.methodLink RX11 220 yX11_cut ∈ Tg := tg_in 125 tables_1_7 (fun _ h => tb7 h) rfl rfl
theorem ml_11_232 : Cond.methodLink RX11 232 yX11_here ∈ Tg := tg_in 205 tables_1_6 (fun _ h => tb6 h) rfl rfl
theorem ml_11_235 : Cond.methodLink RX11 235 yJ0_length_8abf5 ∈ Tg := tg_in 209 tables_1_6 (fun _ h => tb6 h) rfl rfl
theorem ml_11_240 : Cond.methodLink RX11 240 yJ0_charAt_5068e ∈ Tg := tg_in 210 tables_1_6 (fun _ h => tb6 h) rfl rfl
theorem ml_11_244 : Cond.methodLink RX11 244 yX11_has_ ∈ Tg := tg_in 201 tables_1_6 (fun _ h => tb6 h) rfl rfl
theorem ml_11_247 : Cond.methodLink RX11 247 yX11_wrong ∈ Tg := tg_in 211 tables_1_6 (fun _ h => tb6 h) rfl rfl
theorem ml_11_250 : Cond.methodLink RX11 250 yX11_number ∈ Tg := tg_in 215 tables_1_6 (fun _ h => tb6 h) rfl rfl
theorem ml_11_255 : Cond.methodLink RX11 255 yX11_expects ∈ Tg := tg_in 197 tables_1_6 (fun _ h => tb6 h) rfl rfl
theorem ml_11_265 : Cond.methodLink RX11 265 yX11_pairLine ∈ Tg := tg_in 224 tables_1_6 (fun _ h => tb6 h) rfl rfl
theorem ml_11_270 : Cond.methodLink RX11 270 yX11_netLine ∈ Tg := tg_in 232 tables_1_6 (fun _ h => tb6 h) rfl rfl
theorem ml_11_275 : Cond.methodLink RX11 275 yX11_members ∈ Tg := tg_in 0 tables_1_7 (fun _ h => tb7 h) rfl rfl
theorem ml_11_280 : Cond.methodLink RX11 280 yX11_blockLine ∈ Tg := tg_in 4 tables_1_7 (fun _ h => tb7 h) rfl rfl
theorem ml_11_285 : Cond.methodLink RX11 285 yX11_line ∈ Tg := tg_in 219 tables_1_6 (fun _ h => tb6 h) rfl rfl
theorem ml_11_291 : Cond.methodLink RX11 291 yX11_fingersOf ∈ Tg := tg_in 20 tables_1_7 (fun _ h => tb7 h) rfl rfl
theorem ml_11_294 : Cond.methodLink RX11 294 yX11_areLike ∈ Tg := tg_in 76 tables_1_7 (fun _ h => tb7 h) rfl rfl
theorem ml_11_298 : Cond.methodLink RX11 298 yX11_isFinger ∈ Tg := tg_in 28 tables_1_7 (fun _ h => tb7 h) rfl rfl
theorem ml_11_301 : Cond.methodLink RX11 301 yX11_isReadBack ∈ Tg := tg_in 72 tables_1_7 (fun _ h => tb7 h) rfl rfl
theorem ml_11_304 : Cond.methodLink RX11 304 yX11_laysOut ∈ Tg := tg_in 83 tables_1_7 (fun _ h => tb7 h) rfl rfl
theorem ml_11_307 : Cond.methodLink RX11 307 yX11_isNet ∈ Tg := tg_in 133 tables_1_7 (fun _ h => tb7 h) rfl rfl
theorem ml_11_310 : Cond.methodLink RX11 310 yX11_tracks ∈ Tg := tg_in 140 tables_1_7 (fun _ h => tb7 h) rfl rfl
theorem ml_11_313 : Cond.methodLink RX11 313 yX11_gapsNow ∈ Tg := tg_in 144 tables_1_7 (fun _ h => tb7 h) rfl rfl
theorem ml_11_316 : Cond.methodLink RX11 316 yX11_breaksNow ∈ Tg := tg_in 148 tables_1_7 (fun _ h => tb7 h) rfl rfl
theorem ml_11_319 : Cond.methodLink RX11 319 yX11_wires ∈ Tg := tg_in 152 tables_1_7 (fun _ h => tb7 h) rfl rfl
theorem ml_11_322 : Cond.methodLink RX11 322 yX11_worst ∈ Tg := tg_in 156 tables_1_7 (fun _ h => tb7 h) rfl rfl
theorem ml_11_325 : Cond.methodLink RX11 325 yX11_lost ∈ Tg := tg_in 160 tables_1_7 (fun _ h => tb7 h) rfl rfl
theorem ml_11_328 : Cond.methodLink RX11 328 yX11_length ∈ Tg := tg_in 164 tables_1_7 (fun _ h => tb7 h) rfl rfl
theorem ml_11_329 : Cond.methodLink RX11 329 yX11_isSame ∈ Tg := tg_in 168 tables_1_7 (fun _ h => tb7 h) rfl rfl
theorem ml_11_333 : Cond.methodLink RX11 333 yX11_laysBest ∈ Tg := tg_in 176 tables_1_7 (fun _ h => tb7 h) rfl rfl
theorem ml_11_336 : Cond.methodLink RX11 336 yX11_tellsBest ∈ Tg := tg_in 199 tables_1_7 (fun _ h => tb7 h) rfl rfl
theorem ml_11_340 : Cond.methodLink RX11 340 yX11_timesOf ∈ Tg := tg_in 219 tables_1_7 (fun _ h => tb7 h) rfl rfl
theorem ml_11_344 : Cond.methodLink RX11 344 yX11_tiedTo ∈ Tg := tg_in 223 tables_1_7 (fun _ h => tb7 h) rfl rfl
theorem ml_11_347 : Cond.methodLink RX11 347 yX11_bound0 ∈ Tg := tg_in 215 tables_1_7 (fun _ h => tb7 h) rfl rfl
theorem ml_11_351 : Cond.methodLink RX11 351 yX11_everyFinger ∈ Tg := tg_in 235 tables_1_7 (fun _ h => tb7 h) rfl rfl
theorem ml_11_354 : Cond.methodLink RX11 354 yX11_laysAhead ∈ Tg := tg_in 239 tables_1_7 (fun _ h => tb7 h) rfl rfl
theorem ml_11_357 : Cond.methodLink RX11 357 yX11_gapsOf ∈ Tg := tg_in 7 tables_1_8 (fun _ h => tb8 h) rfl rfl
theorem ml_11_360 : Cond.methodLink RX11 360 yX11_canJoin ∈ Tg := tg_in 23 tables_1_8 (fun _ h => tb8 h) rfl rfl
theorem ml_11_363 : Cond.methodLink RX11 363 yX11_copies ∈ Tg := tg_in 39 tables_1_8 (fun _ h => tb8 h) rfl rfl
theorem ml_11_367 : Cond.methodLink RX11 367 yX11_remembers ∈ Tg := tg_in 35 tables_1_8 (fun _ h => tb8 h) rfl rfl
theorem ml_11_370 : Cond.methodLink RX11 370 yX11_moves ∈ Tg := tg_in 47 tables_1_8 (fun _ h => tb8 h) rfl rfl
theorem ml_11_374 : Cond.methodLink RX11 374 yX11_laysTold ∈ Tg := tg_in 55 tables_1_8 (fun _ h => tb8 h) rfl rfl
theorem ml_11_377 : Cond.methodLink RX11 377 yX11_tries ∈ Tg := tg_in 71 tables_1_8 (fun _ h => tb8 h) rfl rfl
theorem ml_11_380 : Cond.methodLink RX11 380 yX11_aheadOf ∈ Tg := tg_in 83 tables_1_8 (fun _ h => tb8 h) rfl rfl
theorem ml_11_96 : Cond.methodLink RX11 96 yX11_clears ∈ Tg := tg_in 50 tables_1_6 (fun _ h => tb6 h) rfl rfl
theorem mn_1_69 : Cond.methodLinkNest RX1 69 yX10_without "FingerRows" ∈ nestW := List.mem_of_getElem? (i := 20) rfl
theorem mn_1_72 : Cond.methodLinkNest RX1 72 yX10_has "FingerRows" ∈ nestW := List.mem_of_getElem? (i := 19) rfl
theorem mn_3_43 : Cond.methodLinkNest RX3 43 yX10_has "FingerRows" ∈ nestW := List.mem_of_getElem? (i := 10) rfl
theorem mn_3_47 : Cond.methodLinkNest RX3 47 yX10_without "FingerRows" ∈ nestW := List.mem_of_getElem? (i := 11) rfl
theorem mn_4_104 : Cond.methodLinkNest RX4 104 yX10_lowestBit "FingerRows" ∈ nestW := List.mem_of_getElem? (i := 14) rfl
theorem mn_4_11 : Cond.methodLinkNest RX4 11 yX1_init "FingerRows" ∈ nestW := List.mem_of_getElem? (i := 1) rfl
theorem mn_4_20 : Cond.methodLinkNest RX4 20 yX3_init "FingerRows" ∈ nestW := List.mem_of_getElem? (i := 2) rfl
theorem mn_4_61 : Cond.methodLinkNest RX4 61 yX10_has "FingerRows" ∈ nestW := List.mem_of_getElem? (i := 12) rfl
theorem mn_4_82 : Cond.methodLinkNest RX4 82 yX10_without "FingerRows" ∈ nestW := List.mem_of_getElem? (i := 13) rfl
theorem mn_5_24 : Cond.methodLinkNest RX5 24 yX7_init "FingerRows" ∈ nestW := List.mem_of_getElem? (i := 4) rfl
theorem mn_6_59 : Cond.methodLinkNest RX6 59 yX10_has "FingerRows" ∈ nestW := List.mem_of_getElem? (i := 15) rfl
theorem mn_8_129 : Cond.methodLinkNest RX8 129 yX10_has "FingerRows" ∈ nestW := List.mem_of_getElem? (i := 21) rfl
theorem mn_9_106 : Cond.methodLinkNest RX9 106 yX10_overlap "FingerRows" ∈ nestW := List.mem_of_getElem? (i := 17) rfl
theorem mn_9_38 : Cond.methodLinkNest RX9 38 yX6_init "FingerRows" ∈ nestW := List.mem_of_getElem? (i := 7) rfl
theorem mn_9_74 : Cond.methodLinkNest RX9 74 yX10_has "FingerRows" ∈ nestW := List.mem_of_getElem? (i := 16) rfl
theorem mn_9_99 : Cond.methodLinkNest RX9 99 yX10_lowestBit "FingerRows" ∈ nestW := List.mem_of_getElem? (i := 18) rfl
theorem mn_10_11 : Cond.methodLinkNest RX10 11 yX8_init "FingerRows" ∈ nestW := List.mem_of_getElem? (i := 0) rfl
theorem mn_10_30 : Cond.methodLinkNest RX10 30 yX7_init "FingerRows" ∈ nestW := List.mem_of_getElem? (i := 3) rfl
theorem mn_10_47 : Cond.methodLinkNest RX10 47 yX2_init "FingerRows" ∈ nestW := List.mem_of_getElem? (i := 5) rfl
theorem mn_10_54 : Cond.methodLinkNest RX10 54 yX9_init "FingerRows" ∈ nestW := List.mem_of_getElem? (i := 6) rfl
theorem mn_10_70 : Cond.methodLinkNest RX10 70 yX0_init "FingerRows" ∈ nestW := List.mem_of_getElem? (i := 8) rfl
theorem mn_10_83 : Cond.methodLinkNest RX10 83 yX1_init "FingerRows" ∈ nestW := List.mem_of_getElem? (i := 9) rfl
theorem pl_0_11 : PLk RX0 11 0 0 2 (.array .int) true := ⟨RX0, TX0, 1, tyX0, rfl, by decide, inT0, tg_in 90 tables_1_2 (fun _ h => tb2 h) rfl rfl, rfl, by decide, tyX0_ok, nmX0, rfl, rfl, rfl, rfl⟩
theorem pl_1_15 : PLk RX1 15 1 8 2 (.array .int) true := ⟨RX1, TX1, 12, tyX1, rfl, by decide, inT1, tg_in 100 tables_1_1 (fun _ h => tb1 h) rfl rfl, rfl, by decide, tyX1_ok, nmX1, rfl, rfl, rfl, rfl⟩
theorem pl_1_18 : PLk RX1 18 1 9 2 (.array .int) true := ⟨RX1, TX1, 12, tyX1, rfl, by decide, inT1, tg_in 102 tables_1_1 (fun _ h => tb1 h) rfl rfl, rfl, by decide, tyX1_ok, nmX1, rfl, rfl, rfl, rfl⟩
theorem pl_1_21 : PLk RX1 21 1 10 2 (.array .int) true := ⟨RX1, TX1, 12, tyX1, rfl, by decide, inT1, tg_in 105 tables_1_1 (fun _ h => tb1 h) rfl rfl, rfl, by decide, tyX1_ok, nmX1, rfl, rfl, rfl, rfl⟩
theorem pl_1_24 : PLk RX1 24 1 11 2 (.array .int) true := ⟨RX1, TX1, 12, tyX1, rfl, by decide, inT1, tg_in 106 tables_1_1 (fun _ h => tb1 h) rfl rfl, rfl, by decide, tyX1_ok, nmX1, rfl, rfl, rfl, rfl⟩
theorem pl_1_27 : PLk RX1 27 1 0 0 .int false := ⟨RX1, TX1, 12, tyX1, rfl, by decide, inT1, tg_in 72 tables_1_1 (fun _ h => tb1 h) rfl rfl, rfl, by decide, tyX1_ok, nmX1, rfl, rfl, rfl, rfl⟩
theorem pl_1_31 : PLk RX1 31 1 1 0 .int false := ⟨RX1, TX1, 12, tyX1, rfl, by decide, inT1, tg_in 75 tables_1_1 (fun _ h => tb1 h) rfl rfl, rfl, by decide, tyX1_ok, nmX1, rfl, rfl, rfl, rfl⟩
theorem pl_1_34 : PLk RX1 34 1 2 0 .int false := ⟨RX1, TX1, 12, tyX1, rfl, by decide, inT1, tg_in 79 tables_1_1 (fun _ h => tb1 h) rfl rfl, rfl, by decide, tyX1_ok, nmX1, rfl, rfl, rfl, rfl⟩
theorem pl_1_37 : PLk RX1 37 1 3 0 .int false := ⟨RX1, TX1, 12, tyX1, rfl, by decide, inT1, tg_in 83 tables_1_1 (fun _ h => tb1 h) rfl rfl, rfl, by decide, tyX1_ok, nmX1, rfl, rfl, rfl, rfl⟩
theorem pl_1_40 : PLk RX1 40 1 4 0 .int false := ⟨RX1, TX1, 12, tyX1, rfl, by decide, inT1, tg_in 87 tables_1_1 (fun _ h => tb1 h) rfl rfl, rfl, by decide, tyX1_ok, nmX1, rfl, rfl, rfl, rfl⟩
theorem pl_1_43 : PLk RX1 43 1 5 0 .int false := ⟨RX1, TX1, 12, tyX1, rfl, by decide, inT1, tg_in 90 tables_1_1 (fun _ h => tb1 h) rfl rfl, rfl, by decide, tyX1_ok, nmX1, rfl, rfl, rfl, rfl⟩
theorem pl_1_46 : PLk RX1 46 1 6 0 .int false := ⟨RX1, TX1, 12, tyX1, rfl, by decide, inT1, tg_in 94 tables_1_1 (fun _ h => tb1 h) rfl rfl, rfl, by decide, tyX1_ok, nmX1, rfl, rfl, rfl, rfl⟩
theorem pl_1_9 : PLk RX1 9 1 7 2 (.array .int) true := ⟨RX1, TX1, 12, tyX1, rfl, by decide, inT1, tg_in 98 tables_1_1 (fun _ h => tb1 h) rfl rfl, rfl, by decide, tyX1_ok, nmX1, rfl, rfl, rfl, rfl⟩
theorem pl_2_15 : PLk RX2 15 2 4 2 (.array .int) true := ⟨RX2, TX2, 7, tyX2, rfl, by decide, inT2, tg_in 232 tables_1_1 (fun _ h => tb1 h) rfl rfl, rfl, by decide, tyX2_ok, nmX2, rfl, rfl, rfl, rfl⟩
theorem pl_2_18 : PLk RX2 18 2 5 2 (.array .int) true := ⟨RX2, TX2, 7, tyX2, rfl, by decide, inT2, tg_in 235 tables_1_1 (fun _ h => tb1 h) rfl rfl, rfl, by decide, tyX2_ok, nmX2, rfl, rfl, rfl, rfl⟩
theorem pl_2_21 : PLk RX2 21 2 6 2 (.array .int) true := ⟨RX2, TX2, 7, tyX2, rfl, by decide, inT2, tg_in 238 tables_1_1 (fun _ h => tb1 h) rfl rfl, rfl, by decide, tyX2_ok, nmX2, rfl, rfl, rfl, rfl⟩
theorem pl_2_24 : PLk RX2 24 2 0 0 .int false := ⟨RX2, TX2, 7, tyX2, rfl, by decide, inT2, tg_in 222 tables_1_1 (fun _ h => tb1 h) rfl rfl, rfl, by decide, tyX2_ok, nmX2, rfl, rfl, rfl, rfl⟩
theorem pl_2_28 : PLk RX2 28 2 1 0 .int false := ⟨RX2, TX2, 7, tyX2, rfl, by decide, inT2, tg_in 224 tables_1_1 (fun _ h => tb1 h) rfl rfl, rfl, by decide, tyX2_ok, nmX2, rfl, rfl, rfl, rfl⟩
theorem pl_2_31 : PLk RX2 31 2 2 0 .int false := ⟨RX2, TX2, 7, tyX2, rfl, by decide, inT2, tg_in 226 tables_1_1 (fun _ h => tb1 h) rfl rfl, rfl, by decide, tyX2_ok, nmX2, rfl, rfl, rfl, rfl⟩
theorem pl_2_9 : PLk RX2 9 2 3 2 (.array .int) true := ⟨RX2, TX2, 7, tyX2, rfl, by decide, inT2, tg_in 229 tables_1_1 (fun _ h => tb1 h) rfl rfl, rfl, by decide, tyX2_ok, nmX2, rfl, rfl, rfl, rfl⟩
theorem pl_3_15 : PLk RX3 15 3 1 2 (.array .int) true := ⟨RX3, TX3, 3, tyX3, rfl, by decide, inT3, tg_in 141 tables_1_1 (fun _ h => tb1 h) rfl rfl, rfl, by decide, tyX3_ok, nmX3, rfl, rfl, rfl, rfl⟩
theorem pl_3_18 : PLk RX3 18 3 2 2 (.array .int) true := ⟨RX3, TX3, 3, tyX3, rfl, by decide, inT3, tg_in 143 tables_1_1 (fun _ h => tb1 h) rfl rfl, rfl, by decide, tyX3_ok, nmX3, rfl, rfl, rfl, rfl⟩
theorem pl_3_9 : PLk RX3 9 3 0 2 (.array .int) true := ⟨RX3, TX3, 3, tyX3, rfl, by decide, inT3, tg_in 138 tables_1_1 (fun _ h => tb1 h) rfl rfl, rfl, by decide, tyX3_ok, nmX3, rfl, rfl, rfl, rfl⟩
theorem pl_4_12 : PLk RX4 12 4 0 2 (.object "FingerRows$Cell") false := ⟨RX4, TX4, 7, tyX4, rfl, by decide, inT4, tg_in 152 tables_1_1 (fun _ h => tb1 h) rfl rfl, rfl, by decide, tyX4_ok, nmX4, rfl, rfl, rfl, rfl⟩
theorem pl_4_21 : PLk RX4 21 4 1 2 (.object "FingerRows$Fewest") true := ⟨RX4, TX4, 7, tyX4, rfl, by decide, inT4, tg_in 154 tables_1_1 (fun _ h => tb1 h) rfl rfl, rfl, by decide, tyX4_ok, nmX4, rfl, rfl, rfl, rfl⟩
theorem pl_4_25 : PLk RX4 25 4 2 2 (.array .long) true := ⟨RX4, TX4, 7, tyX4, rfl, by decide, inT4, tg_in 156 tables_1_1 (fun _ h => tb1 h) rfl rfl, rfl, by decide, tyX4_ok, nmX4, rfl, rfl, rfl, rfl⟩
theorem pl_4_29 : PLk RX4 29 4 3 2 (.array .int) true := ⟨RX4, TX4, 7, tyX4, rfl, by decide, inT4, tg_in 157 tables_1_1 (fun _ h => tb1 h) rfl rfl, rfl, by decide, tyX4_ok, nmX4, rfl, rfl, rfl, rfl⟩
theorem pl_4_33 : PLk RX4 33 4 4 2 (.object "FingerRows$Fewest") true := ⟨RX4, TX4, 7, tyX4, rfl, by decide, inT4, tg_in 159 tables_1_1 (fun _ h => tb1 h) rfl rfl, rfl, by decide, tyX4_ok, nmX4, rfl, rfl, rfl, rfl⟩
theorem pl_4_36 : PLk RX4 36 4 5 2 (.array .int) true := ⟨RX4, TX4, 7, tyX4, rfl, by decide, inT4, tg_in 160 tables_1_1 (fun _ h => tb1 h) rfl rfl, rfl, by decide, tyX4_ok, nmX4, rfl, rfl, rfl, rfl⟩
theorem pl_4_39 : PLk RX4 39 4 6 2 (.array .int) true := ⟨RX4, TX4, 7, tyX4, rfl, by decide, inT4, tg_in 161 tables_1_1 (fun _ h => tb1 h) rfl rfl, rfl, by decide, tyX4_ok, nmX4, rfl, rfl, rfl, rfl⟩
theorem pl_5_15 : PLk RX5 15 5 1 0 .int false := ⟨RX5, TX5, 3, tyX5, rfl, by decide, inT5, tg_in 207 tables_1_1 (fun _ h => tb1 h) rfl rfl, rfl, by decide, tyX5_ok, nmX5, rfl, rfl, rfl, rfl⟩
theorem pl_5_20 : PLk RX5 20 5 2 2 (.array (.object "FingerRows$Row")) true := ⟨RX5, TX5, 3, tyX5, rfl, by decide, inT5, tg_in 208 tables_1_1 (fun _ h => tb1 h) rfl rfl, rfl, by decide, tyX5_ok, nmX5, rfl, rfl, rfl, rfl⟩
theorem pl_5_9 : PLk RX5 9 5 0 0 .int false := ⟨RX5, TX5, 3, tyX5, rfl, by decide, inT5, tg_in 205 tables_1_1 (fun _ h => tb1 h) rfl rfl, rfl, by decide, tyX5_ok, nmX5, rfl, rfl, rfl, rfl⟩
theorem pl_6_15 : PLk RX6 15 6 2 2 (.array .long) true := ⟨RX6, TX6, 4, tyX6, rfl, by decide, inT6, tg_in 29 tables_1_2 (fun _ h => tb2 h) rfl rfl, rfl, by decide, tyX6_ok, nmX6, rfl, rfl, rfl, rfl⟩
theorem pl_6_19 : PLk RX6 19 6 3 2 (.array .long) true := ⟨RX6, TX6, 4, tyX6, rfl, by decide, inT6, tg_in 30 tables_1_2 (fun _ h => tb2 h) rfl rfl, rfl, by decide, tyX6_ok, nmX6, rfl, rfl, rfl, rfl⟩
theorem pl_6_26 : PLk RX6 26 6 0 0 .int false := ⟨RX6, TX6, 4, tyX6, rfl, by decide, inT6, tg_in 27 tables_1_2 (fun _ h => tb2 h) rfl rfl, rfl, by decide, tyX6_ok, nmX6, rfl, rfl, rfl, rfl⟩
theorem pl_6_9 : PLk RX6 9 6 1 2 (.array .int) true := ⟨RX6, TX6, 4, tyX6, rfl, by decide, inT6, tg_in 28 tables_1_2 (fun _ h => tb2 h) rfl rfl, rfl, by decide, tyX6_ok, nmX6, rfl, rfl, rfl, rfl⟩
theorem pl_7_15 : PLk RX7 15 7 1 2 (.array .int) true := ⟨RX7, TX7, 2, tyX7, rfl, by decide, inT7, tg_in 188 tables_1_1 (fun _ h => tb1 h) rfl rfl, rfl, by decide, tyX7_ok, nmX7, rfl, rfl, rfl, rfl⟩
theorem pl_7_9 : PLk RX7 9 7 0 0 .int false := ⟨RX7, TX7, 2, tyX7, rfl, by decide, inT7, tg_in 184 tables_1_1 (fun _ h => tb1 h) rfl rfl, rfl, by decide, tyX7_ok, nmX7, rfl, rfl, rfl, rfl⟩
theorem pl_8_115 : PLk RX8 115 1 3 0 .int false := ⟨RX1, TX1, 12, tyX1, rfl, by decide, inT1, tg_in 85 tables_1_1 (fun _ h => tb1 h) rfl rfl, rfl, by decide, tyX1_ok, nmX1, rfl, rfl, rfl, rfl⟩
theorem pl_8_123 : PLk RX8 123 1 6 0 .int false := ⟨RX1, TX1, 12, tyX1, rfl, by decide, inT1, tg_in 95 tables_1_1 (fun _ h => tb1 h) rfl rfl, rfl, by decide, tyX1_ok, nmX1, rfl, rfl, rfl, rfl⟩
theorem pl_8_15 : PLk RX8 15 8 1 0 .int false := ⟨RX8, TX8, 5, tyX8, rfl, by decide, inT8, tg_in 42 tables_1_1 (fun _ h => tb1 h) rfl rfl, rfl, by decide, tyX8_ok, nmX8, rfl, rfl, rfl, rfl⟩
theorem pl_8_18 : PLk RX8 18 8 2 2 (.array .byte) true := ⟨RX8, TX8, 5, tyX8, rfl, by decide, inT8, tg_in 44 tables_1_1 (fun _ h => tb1 h) rfl rfl, rfl, by decide, tyX8_ok, nmX8, rfl, rfl, rfl, rfl⟩
theorem pl_8_22 : PLk RX8 22 8 3 0 .int false := ⟨RX8, TX8, 5, tyX8, rfl, by decide, inT8, tg_in 45 tables_1_1 (fun _ h => tb1 h) rfl rfl, rfl, by decide, tyX8_ok, nmX8, rfl, rfl, rfl, rfl⟩
theorem pl_8_25 : PLk RX8 25 8 4 0 .int false := ⟨RX8, TX8, 5, tyX8, rfl, by decide, inT8, tg_in 46 tables_1_1 (fun _ h => tb1 h) rfl rfl, rfl, by decide, tyX8_ok, nmX8, rfl, rfl, rfl, rfl⟩
theorem pl_8_43 : PLk RX8 43 1 0 0 .int false := ⟨RX1, TX1, 12, tyX1, rfl, by decide, inT1, tg_in 73 tables_1_1 (fun _ h => tb1 h) rfl rfl, rfl, by decide, tyX1_ok, nmX1, rfl, rfl, rfl, rfl⟩
theorem pl_8_46 : PLk RX8 46 1 1 0 .int false := ⟨RX1, TX1, 12, tyX1, rfl, by decide, inT1, tg_in 77 tables_1_1 (fun _ h => tb1 h) rfl rfl, rfl, by decide, tyX1_ok, nmX1, rfl, rfl, rfl, rfl⟩
theorem pl_8_75 : PLk RX8 75 1 2 0 .int false := ⟨RX1, TX1, 12, tyX1, rfl, by decide, inT1, tg_in 81 tables_1_1 (fun _ h => tb1 h) rfl rfl, rfl, by decide, tyX1_ok, nmX1, rfl, rfl, rfl, rfl⟩
theorem pl_8_9 : PLk RX8 9 8 0 0 .int false := ⟨RX8, TX8, 5, tyX8, rfl, by decide, inT8, tg_in 40 tables_1_1 (fun _ h => tb1 h) rfl rfl, rfl, by decide, tyX8_ok, nmX8, rfl, rfl, rfl, rfl⟩
theorem pl_9_15 : PLk RX9 15 9 2 2 (.array .int) true := ⟨RX9, TX9, 10, tyX9, rfl, by decide, inT9, tg_in 45 tables_1_2 (fun _ h => tb2 h) rfl rfl, rfl, by decide, tyX9_ok, nmX9, rfl, rfl, rfl, rfl⟩
theorem pl_9_18 : PLk RX9 18 9 3 2 (.array .int) true := ⟨RX9, TX9, 10, tyX9, rfl, by decide, inT9, tg_in 48 tables_1_2 (fun _ h => tb2 h) rfl rfl, rfl, by decide, tyX9_ok, nmX9, rfl, rfl, rfl, rfl⟩
theorem pl_9_21 : PLk RX9 21 9 4 2 (.array .int) true := ⟨RX9, TX9, 10, tyX9, rfl, by decide, inT9, tg_in 51 tables_1_2 (fun _ h => tb2 h) rfl rfl, rfl, by decide, tyX9_ok, nmX9, rfl, rfl, rfl, rfl⟩
theorem pl_9_24 : PLk RX9 24 9 5 2 (.array .int) true := ⟨RX9, TX9, 10, tyX9, rfl, by decide, inT9, tg_in 54 tables_1_2 (fun _ h => tb2 h) rfl rfl, rfl, by decide, tyX9_ok, nmX9, rfl, rfl, rfl, rfl⟩
theorem pl_9_27 : PLk RX9 27 9 6 2 (.array .int) true := ⟨RX9, TX9, 10, tyX9, rfl, by decide, inT9, tg_in 56 tables_1_2 (fun _ h => tb2 h) rfl rfl, rfl, by decide, tyX9_ok, nmX9, rfl, rfl, rfl, rfl⟩
theorem pl_9_30 : PLk RX9 30 9 7 2 (.array .int) true := ⟨RX9, TX9, 10, tyX9, rfl, by decide, inT9, tg_in 58 tables_1_2 (fun _ h => tb2 h) rfl rfl, rfl, by decide, tyX9_ok, nmX9, rfl, rfl, rfl, rfl⟩
theorem pl_9_33 : PLk RX9 33 9 8 2 (.array .int) true := ⟨RX9, TX9, 10, tyX9, rfl, by decide, inT9, tg_in 60 tables_1_2 (fun _ h => tb2 h) rfl rfl, rfl, by decide, tyX9_ok, nmX9, rfl, rfl, rfl, rfl⟩
theorem pl_9_39 : PLk RX9 39 9 9 2 (.object "FingerRows$Pins") true := ⟨RX9, TX9, 10, tyX9, rfl, by decide, inT9, tg_in 62 tables_1_2 (fun _ h => tb2 h) rfl rfl, rfl, by decide, tyX9_ok, nmX9, rfl, rfl, rfl, rfl⟩
theorem pl_9_66 : PLk RX9 66 9 0 0 .int false := ⟨RX9, TX9, 10, tyX9, rfl, by decide, inT9, tg_in 40 tables_1_2 (fun _ h => tb2 h) rfl rfl, rfl, by decide, tyX9_ok, nmX9, rfl, rfl, rfl, rfl⟩
theorem pl_9_9 : PLk RX9 9 9 1 2 (.array .int) true := ⟨RX9, TX9, 10, tyX9, rfl, by decide, inT9, tg_in 42 tables_1_2 (fun _ h => tb2 h) rfl rfl, rfl, by decide, tyX9_ok, nmX9, rfl, rfl, rfl, rfl⟩
theorem pl_10_102 : PLk RX10 102 8 0 0 .int false := ⟨RX8, TX8, 5, tyX8, rfl, by decide, inT8, tg_in 41 tables_1_1 (fun _ h => tb1 h) rfl rfl, rfl, by decide, tyX8_ok, nmX8, rfl, rfl, rfl, rfl⟩
theorem pl_10_12 : PLk RX10 12 10 0 2 (.object "FingerRows$Tape") true := ⟨RX10, TX10, 15, tyX10, rfl, by decide, inT10, tg_in 32 tables_1_3 (fun _ h => tb3 h) rfl rfl, rfl, by decide, tyX10_ok, nmX10, rfl, rfl, rfl, rfl⟩
theorem pl_10_21 : PLk RX10 21 10 1 2 (.object "FingerRows$Orders") true := ⟨RX10, TX10, 15, tyX10, rfl, by decide, inT10, tg_in 33 tables_1_3 (fun _ h => tb3 h) rfl rfl, rfl, by decide, tyX10_ok, nmX10, rfl, rfl, rfl, rfl⟩
theorem pl_10_25 : PLk RX10 25 10 2 2 (.object "FingerRows$Orders") true := ⟨RX10, TX10, 15, tyX10, rfl, by decide, inT10, tg_in 34 tables_1_3 (fun _ h => tb3 h) rfl rfl, rfl, by decide, tyX10_ok, nmX10, rfl, rfl, rfl, rfl⟩
theorem pl_10_31 : PLk RX10 31 10 3 2 (.object "FingerRows$Row") true := ⟨RX10, TX10, 15, tyX10, rfl, by decide, inT10, tg_in 35 tables_1_3 (fun _ h => tb3 h) rfl rfl, rfl, by decide, tyX10_ok, nmX10, rfl, rfl, rfl, rfl⟩
theorem pl_10_35 : PLk RX10 35 10 4 2 (.object "FingerRows$Row") true := ⟨RX10, TX10, 15, tyX10, rfl, by decide, inT10, tg_in 36 tables_1_3 (fun _ h => tb3 h) rfl rfl, rfl, by decide, tyX10_ok, nmX10, rfl, rfl, rfl, rfl⟩
theorem pl_10_41 : PLk RX10 41 10 5 2 (.object "FingerRows$Past") true := ⟨RX10, TX10, 15, tyX10, rfl, by decide, inT10, tg_in 37 tables_1_3 (fun _ h => tb3 h) rfl rfl, rfl, by decide, tyX10_ok, nmX10, rfl, rfl, rfl, rfl⟩
theorem pl_10_48 : PLk RX10 48 10 6 2 (.object "FingerRows$Columns") true := ⟨RX10, TX10, 15, tyX10, rfl, by decide, inT10, tg_in 38 tables_1_3 (fun _ h => tb3 h) rfl rfl, rfl, by decide, tyX10_ok, nmX10, rfl, rfl, rfl, rfl⟩
theorem pl_10_55 : PLk RX10 55 10 7 2 (.object "FingerRows$Wires") true := ⟨RX10, TX10, 15, tyX10, rfl, by decide, inT10, tg_in 39 tables_1_3 (fun _ h => tb3 h) rfl rfl, rfl, by decide, tyX10_ok, nmX10, rfl, rfl, rfl, rfl⟩
theorem pl_10_59 : PLk RX10 59 10 8 2 (.object "FingerRows$Row") true := ⟨RX10, TX10, 15, tyX10, rfl, by decide, inT10, tg_in 40 tables_1_3 (fun _ h => tb3 h) rfl rfl, rfl, by decide, tyX10_ok, nmX10, rfl, rfl, rfl, rfl⟩
theorem pl_10_62 : PLk RX10 62 10 9 2 (.object "FingerRows$Columns") true := ⟨RX10, TX10, 15, tyX10, rfl, by decide, inT10, tg_in 41 tables_1_3 (fun _ h => tb3 h) rfl rfl, rfl, by decide, tyX10_ok, nmX10, rfl, rfl, rfl, rfl⟩
theorem pl_10_65 : PLk RX10 65 10 10 2 (.object "FingerRows$Wires") true := ⟨RX10, TX10, 15, tyX10, rfl, by decide, inT10, tg_in 42 tables_1_3 (fun _ h => tb3 h) rfl rfl, rfl, by decide, tyX10_ok, nmX10, rfl, rfl, rfl, rfl⟩
theorem pl_10_71 : PLk RX10 71 10 11 2 (.object "FingerRows$Advice") true := ⟨RX10, TX10, 15, tyX10, rfl, by decide, inT10, tg_in 43 tables_1_3 (fun _ h => tb3 h) rfl rfl, rfl, by decide, tyX10_ok, nmX10, rfl, rfl, rfl, rfl⟩
theorem pl_10_75 : PLk RX10 75 10 12 2 (.object "FingerRows$Orders") false := ⟨RX10, TX10, 15, tyX10, rfl, by decide, inT10, tg_in 44 tables_1_3 (fun _ h => tb3 h) rfl rfl, rfl, by decide, tyX10_ok, nmX10, rfl, rfl, rfl, rfl⟩
theorem pl_10_78 : PLk RX10 78 10 13 2 (.object "FingerRows$Orders") false := ⟨RX10, TX10, 15, tyX10, rfl, by decide, inT10, tg_in 45 tables_1_3 (fun _ h => tb3 h) rfl rfl, rfl, by decide, tyX10_ok, nmX10, rfl, rfl, rfl, rfl⟩
theorem pl_10_84 : PLk RX10 84 10 14 2 (.object "FingerRows$Cell") false := ⟨RX10, TX10, 15, tyX10, rfl, by decide, inT10, tg_in 46 tables_1_3 (fun _ h => tb3 h) rfl rfl, rfl, by decide, tyX10_ok, nmX10, rfl, rfl, rfl, rfl⟩
theorem pl_11_100 : PLk RX11 100 11 0 0 .int false := ⟨RX11, TX11, 41, tyX11, rfl, by decide, inT11, tg_in 53 tables_1_6 (fun _ h => tb6 h) rfl rfl, rfl, by decide, tyX11_ok, nmX11, rfl, rfl, rfl, rfl⟩
theorem pl_11_13 : PLk RX11 13 11 2 2 (.array .int) true := ⟨RX11, TX11, 41, tyX11, rfl, by decide, inT11, tg_in 55 tables_1_6 (fun _ h => tb6 h) rfl rfl, rfl, by decide, tyX11_ok, nmX11, rfl, rfl, rfl, rfl⟩
theorem pl_11_142 : PLk RX11 142 11 17 0 .int false := ⟨RX11, TX11, 41, tyX11, rfl, by decide, inT11, tg_in 70 tables_1_6 (fun _ h => tb6 h) rfl rfl, rfl, by decide, tyX11_ok, nmX11, rfl, rfl, rfl, rfl⟩
theorem pl_11_145 : PLk RX11 145 11 18 1 .long false := ⟨RX11, TX11, 41, tyX11, rfl, by decide, inT11, tg_in 71 tables_1_6 (fun _ h => tb6 h) rfl rfl, rfl, by decide, tyX11_ok, nmX11, rfl, rfl, rfl, rfl⟩
theorem pl_11_149 : PLk RX11 149 11 19 0 .int false := ⟨RX11, TX11, 41, tyX11, rfl, by decide, inT11, tg_in 72 tables_1_6 (fun _ h => tb6 h) rfl rfl, rfl, by decide, tyX11_ok, nmX11, rfl, rfl, rfl, rfl⟩
theorem pl_11_16 : PLk RX11 16 11 4 2 (.array .int) true := ⟨RX11, TX11, 41, tyX11, rfl, by decide, inT11, tg_in 57 tables_1_6 (fun _ h => tb6 h) rfl rfl, rfl, by decide, tyX11_ok, nmX11, rfl, rfl, rfl, rfl⟩
theorem pl_11_166 : PLk RX11 166 11 27 0 .int false := ⟨RX11, TX11, 41, tyX11, rfl, by decide, inT11, tg_in 80 tables_1_6 (fun _ h => tb6 h) rfl rfl, rfl, by decide, tyX11_ok, nmX11, rfl, rfl, rfl, rfl⟩
theorem pl_11_182 : PLk RX11 182 11 38 0 .int false := ⟨RX11, TX11, 41, tyX11, rfl, by decide, inT11, tg_in 91 tables_1_6 (fun _ h => tb6 h) rfl rfl, rfl, by decide, tyX11_ok, nmX11, rfl, rfl, rfl, rfl⟩
theorem pl_11_19 : PLk RX11 19 11 6 2 (.array .int) true := ⟨RX11, TX11, 41, tyX11, rfl, by decide, inT11, tg_in 59 tables_1_6 (fun _ h => tb6 h) rfl rfl, rfl, by decide, tyX11_ok, nmX11, rfl, rfl, rfl, rfl⟩
theorem pl_11_191 : PLk RX11 191 11 35 0 .boolean false := ⟨RX11, TX11, 41, tyX11, rfl, by decide, inT11, tg_in 88 tables_1_6 (fun _ h => tb6 h) rfl rfl, rfl, by decide, tyX11_ok, nmX11, rfl, rfl, rfl, rfl⟩
theorem pl_11_195 : PLk RX11 195 11 36 0 .int false := ⟨RX11, TX11, 41, tyX11, rfl, by decide, inT11, tg_in 89 tables_1_6 (fun _ h => tb6 h) rfl rfl, rfl, by decide, tyX11_ok, nmX11, rfl, rfl, rfl, rfl⟩
theorem pl_11_22 : PLk RX11 22 11 10 0 .int false := ⟨RX11, TX11, 41, tyX11, rfl, by decide, inT11, tg_in 63 tables_1_6 (fun _ h => tb6 h) rfl rfl, rfl, by decide, tyX11_ok, nmX11, rfl, rfl, rfl, rfl⟩
theorem pl_11_223 : PLk RX11 223 11 7 0 .int false := ⟨RX11, TX11, 41, tyX11, rfl, by decide, inT11, tg_in 60 tables_1_6 (fun _ h => tb6 h) rfl rfl, rfl, by decide, tyX11_ok, nmX11, rfl, rfl, rfl, rfl⟩
theorem pl_11_226 : PLk RX11 226 11 9 0 .int false := ⟨RX11, TX11, 41, tyX11, rfl, by decide, inT11, tg_in 62 tables_1_6 (fun _ h => tb6 h) rfl rfl, rfl, by decide, tyX11_ok, nmX11, rfl, rfl, rfl, rfl⟩
theorem pl_11_229 : PLk RX11 229 11 8 0 .int false := ⟨RX11, TX11, 41, tyX11, rfl, by decide, inT11, tg_in 61 tables_1_6 (fun _ h => tb6 h) rfl rfl, rfl, by decide, tyX11_ok, nmX11, rfl, rfl, rfl, rfl⟩
theorem pl_11_26 : PLk RX11 26 11 11 2 (.array .int) true := ⟨RX11, TX11, 41, tyX11, rfl, by decide, inT11, tg_in 64 tables_1_6 (fun _ h => tb6 h) rfl rfl, rfl, by decide, tyX11_ok, nmX11, rfl, rfl, rfl, rfl⟩
theorem pl_11_288 : PLk RX11 288 11 3 0 .int false := ⟨RX11, TX11, 41, tyX11, rfl, by decide, inT11, tg_in 56 tables_1_6 (fun _ h => tb6 h) rfl rfl, rfl, by decide, tyX11_ok, nmX11, rfl, rfl, rfl, rfl⟩
theorem pl_11_29 : PLk RX11 29 11 12 2 (.array .int) true := ⟨RX11, TX11, 41, tyX11, rfl, by decide, inT11, tg_in 65 tables_1_6 (fun _ h => tb6 h) rfl rfl, rfl, by decide, tyX11_ok, nmX11, rfl, rfl, rfl, rfl⟩
theorem pl_11_32 : PLk RX11 32 11 13 2 (.array .long) true := ⟨RX11, TX11, 41, tyX11, rfl, by decide, inT11, tg_in 66 tables_1_6 (fun _ h => tb6 h) rfl rfl, rfl, by decide, tyX11_ok, nmX11, rfl, rfl, rfl, rfl⟩
theorem pl_11_36 : PLk RX11 36 11 14 2 (.array .int) true := ⟨RX11, TX11, 41, tyX11, rfl, by decide, inT11, tg_in 67 tables_1_6 (fun _ h => tb6 h) rfl rfl, rfl, by decide, tyX11_ok, nmX11, rfl, rfl, rfl, rfl⟩
theorem pl_11_384 : PLk RX11 384 11 5 0 .boolean false := ⟨RX11, TX11, 41, tyX11, rfl, by decide, inT11, tg_in 58 tables_1_6 (fun _ h => tb6 h) rfl rfl, rfl, by decide, tyX11_ok, nmX11, rfl, rfl, rfl, rfl⟩
theorem pl_11_39 : PLk RX11 39 11 15 2 (.array .int) true := ⟨RX11, TX11, 41, tyX11, rfl, by decide, inT11, tg_in 68 tables_1_6 (fun _ h => tb6 h) rfl rfl, rfl, by decide, tyX11_ok, nmX11, rfl, rfl, rfl, rfl⟩
theorem pl_11_42 : PLk RX11 42 11 16 2 (.array .long) true := ⟨RX11, TX11, 41, tyX11, rfl, by decide, inT11, tg_in 69 tables_1_6 (fun _ h => tb6 h) rfl rfl, rfl, by decide, tyX11_ok, nmX11, rfl, rfl, rfl, rfl⟩
theorem pl_11_45 : PLk RX11 45 11 20 2 (.array .int) true := ⟨RX11, TX11, 41, tyX11, rfl, by decide, inT11, tg_in 73 tables_1_6 (fun _ h => tb6 h) rfl rfl, rfl, by decide, tyX11_ok, nmX11, rfl, rfl, rfl, rfl⟩
theorem pl_11_48 : PLk RX11 48 11 21 2 (.array .int) true := ⟨RX11, TX11, 41, tyX11, rfl, by decide, inT11, tg_in 74 tables_1_6 (fun _ h => tb6 h) rfl rfl, rfl, by decide, tyX11_ok, nmX11, rfl, rfl, rfl, rfl⟩
theorem pl_11_51 : PLk RX11 51 11 22 2 (.array .int) true := ⟨RX11, TX11, 41, tyX11, rfl, by decide, inT11, tg_in 75 tables_1_6 (fun _ h => tb6 h) rfl rfl, rfl, by decide, tyX11_ok, nmX11, rfl, rfl, rfl, rfl⟩
theorem pl_11_54 : PLk RX11 54 11 23 2 (.array .int) true := ⟨RX11, TX11, 41, tyX11, rfl, by decide, inT11, tg_in 76 tables_1_6 (fun _ h => tb6 h) rfl rfl, rfl, by decide, tyX11_ok, nmX11, rfl, rfl, rfl, rfl⟩
theorem pl_11_57 : PLk RX11 57 11 24 2 (.array .int) true := ⟨RX11, TX11, 41, tyX11, rfl, by decide, inT11, tg_in 77 tables_1_6 (fun _ h => tb6 h) rfl rfl, rfl, by decide, tyX11_ok, nmX11, rfl, rfl, rfl, rfl⟩
theorem pl_11_60 : PLk RX11 60 11 25 2 (.array .int) true := ⟨RX11, TX11, 41, tyX11, rfl, by decide, inT11, tg_in 78 tables_1_6 (fun _ h => tb6 h) rfl rfl, rfl, by decide, tyX11_ok, nmX11, rfl, rfl, rfl, rfl⟩
theorem pl_11_63 : PLk RX11 63 11 26 2 (.array .int) true := ⟨RX11, TX11, 41, tyX11, rfl, by decide, inT11, tg_in 79 tables_1_6 (fun _ h => tb6 h) rfl rfl, rfl, by decide, tyX11_ok, nmX11, rfl, rfl, rfl, rfl⟩
theorem pl_11_66 : PLk RX11 66 11 28 2 (.array .int) true := ⟨RX11, TX11, 41, tyX11, rfl, by decide, inT11, tg_in 81 tables_1_6 (fun _ h => tb6 h) rfl rfl, rfl, by decide, tyX11_ok, nmX11, rfl, rfl, rfl, rfl⟩
theorem pl_11_69 : PLk RX11 69 11 29 2 (.array .int) true := ⟨RX11, TX11, 41, tyX11, rfl, by decide, inT11, tg_in 82 tables_1_6 (fun _ h => tb6 h) rfl rfl, rfl, by decide, tyX11_ok, nmX11, rfl, rfl, rfl, rfl⟩
theorem pl_11_7 : PLk RX11 7 11 1 2 (.array .int) true := ⟨RX11, TX11, 41, tyX11, rfl, by decide, inT11, tg_in 54 tables_1_6 (fun _ h => tb6 h) rfl rfl, rfl, by decide, tyX11_ok, nmX11, rfl, rfl, rfl, rfl⟩
theorem pl_11_72 : PLk RX11 72 11 30 2 (.array .int) true := ⟨RX11, TX11, 41, tyX11, rfl, by decide, inT11, tg_in 83 tables_1_6 (fun _ h => tb6 h) rfl rfl, rfl, by decide, tyX11_ok, nmX11, rfl, rfl, rfl, rfl⟩
theorem pl_11_75 : PLk RX11 75 11 31 2 (.array .int) true := ⟨RX11, TX11, 41, tyX11, rfl, by decide, inT11, tg_in 84 tables_1_6 (fun _ h => tb6 h) rfl rfl, rfl, by decide, tyX11_ok, nmX11, rfl, rfl, rfl, rfl⟩
theorem pl_11_78 : PLk RX11 78 11 32 2 (.array .int) true := ⟨RX11, TX11, 41, tyX11, rfl, by decide, inT11, tg_in 85 tables_1_6 (fun _ h => tb6 h) rfl rfl, rfl, by decide, tyX11_ok, nmX11, rfl, rfl, rfl, rfl⟩
theorem pl_11_81 : PLk RX11 81 11 33 2 (.array .int) true := ⟨RX11, TX11, 41, tyX11, rfl, by decide, inT11, tg_in 86 tables_1_6 (fun _ h => tb6 h) rfl rfl, rfl, by decide, tyX11_ok, nmX11, rfl, rfl, rfl, rfl⟩
theorem pl_11_84 : PLk RX11 84 11 34 2 (.array .int) true := ⟨RX11, TX11, 41, tyX11, rfl, by decide, inT11, tg_in 87 tables_1_6 (fun _ h => tb6 h) rfl rfl, rfl, by decide, tyX11_ok, nmX11, rfl, rfl, rfl, rfl⟩
theorem pl_11_87 : PLk RX11 87 11 37 2 (.array .int) true := ⟨RX11, TX11, 41, tyX11, rfl, by decide, inT11, tg_in 90 tables_1_6 (fun _ h => tb6 h) rfl rfl, rfl, by decide, tyX11_ok, nmX11, rfl, rfl, rfl, rfl⟩
theorem pl_11_90 : PLk RX11 90 11 39 2 (.array .int) true := ⟨RX11, TX11, 41, tyX11, rfl, by decide, inT11, tg_in 92 tables_1_6 (fun _ h => tb6 h) rfl rfl, rfl, by decide, tyX11_ok, nmX11, rfl, rfl, rfl, rfl⟩
theorem pl_11_93 : PLk RX11 93 11 40 2 (.array .int) true := ⟨RX11, TX11, 41, tyX11, rfl, by decide, inT11, tg_in 93 tables_1_6 (fun _ h => tb6 h) rfl rfl, rfl, by decide, tyX11_ok, nmX11, rfl, rfl, rfl, rfl⟩
theorem mf_X1_partOf : MfV yX1_partOf cX1_partOf 3 (some .int) 2 := ⟨⟨tg_in 112 tables_1_2 (fun _ h => tb2 h) rfl rfl, tg_in 4 tables_1_1 (fun _ h => tb1 h) rfl rfl, by decide +kernel⟩, tg_in 110 tables_1_2 (fun _ h => tb2 h) rfl rfl, tg_in 111 tables_1_2 (fun _ h => tb2 h) rfl rfl⟩
theorem mf_X1_netOf : MfV yX1_netOf cX1_netOf 6 (some .int) 3 := ⟨⟨tg_in 108 tables_1_2 (fun _ h => tb2 h) rfl rfl, tg_in 4 tables_1_1 (fun _ h => tb1 h) rfl rfl, by decide +kernel⟩, tg_in 106 tables_1_2 (fun _ h => tb2 h) rfl rfl, tg_in 107 tables_1_2 (fun _ h => tb2 h) rfl rfl⟩
theorem mf_X1_findMeetings : MfV yX1_findMeetings cX1_findMeetings 3 none 0 := ⟨⟨tg_in 104 tables_1_2 (fun _ h => tb2 h) rfl rfl, tg_in 4 tables_1_1 (fun _ h => tb1 h) rfl rfl, by decide +kernel⟩, tg_in 102 tables_1_2 (fun _ h => tb2 h) rfl rfl, tg_in 103 tables_1_2 (fun _ h => tb2 h) rfl rfl⟩
theorem mf_X1_allFingers : MfV yX1_allFingers cX1_allFingers 1 (some .int) 0 := ⟨⟨tg_in 120 tables_1_2 (fun _ h => tb2 h) rfl rfl, tg_in 4 tables_1_1 (fun _ h => tb1 h) rfl rfl, by decide +kernel⟩, tg_in 118 tables_1_2 (fun _ h => tb2 h) rfl rfl, tg_in 119 tables_1_2 (fun _ h => tb2 h) rfl rfl⟩
theorem mf_X10_has : MfS yX10_has cX10_has 2 (some .boolean) 2 := ⟨⟨tg_in 130 tables_1_2 (fun _ h => tb2 h) rfl rfl, tg_in 1 tables_1_1 (fun _ h => tb1 h) rfl rfl, by decide +kernel⟩, tg_in 129 tables_1_2 (fun _ h => tb2 h) rfl rfl⟩
theorem mf_X3_mayBegin : MfS yX3_mayBegin cX3_mayBegin 3 (some .boolean) 3 := ⟨⟨tg_in 127 tables_1_2 (fun _ h => tb2 h) rfl rfl, tg_in 5 tables_1_1 (fun _ h => tb1 h) rfl rfl, by decide +kernel⟩, tg_in 126 tables_1_2 (fun _ h => tb2 h) rfl rfl⟩
theorem mf_X10_without : MfS yX10_without cX10_without 2 (some .int) 2 := ⟨⟨tg_in 137 tables_1_2 (fun _ h => tb2 h) rfl rfl, tg_in 1 tables_1_1 (fun _ h => tb1 h) rfl rfl, by decide +kernel⟩, tg_in 136 tables_1_2 (fun _ h => tb2 h) rfl rfl⟩
theorem mf_X1_joining : MfV yX1_joining cX1_joining 2 (some .int) 1 := ⟨⟨tg_in 141 tables_1_2 (fun _ h => tb2 h) rfl rfl, tg_in 4 tables_1_1 (fun _ h => tb1 h) rfl rfl, by decide +kernel⟩, tg_in 139 tables_1_2 (fun _ h => tb2 h) rfl rfl, tg_in 140 tables_1_2 (fun _ h => tb2 h) rfl rfl⟩
theorem mf_X3_gapsFrom : MfV yX3_gapsFrom cX3_gapsFrom 5 (some .int) 3 := ⟨⟨tg_in 134 tables_1_2 (fun _ h => tb2 h) rfl rfl, tg_in 5 tables_1_1 (fun _ h => tb1 h) rfl rfl, by decide +kernel⟩, tg_in 132 tables_1_2 (fun _ h => tb2 h) rfl rfl, tg_in 133 tables_1_2 (fun _ h => tb2 h) rfl rfl⟩
theorem mf_X3_fillSet : MfV yX3_fillSet cX3_fillSet 10 none 3 := ⟨⟨tg_in 124 tables_1_2 (fun _ h => tb2 h) rfl rfl, tg_in 5 tables_1_1 (fun _ h => tb1 h) rfl rfl, by decide +kernel⟩, tg_in 123 tables_1_2 (fun _ h => tb2 h) rfl rfl, tg_p (List.mem_of_getElem? (i := 0) rfl) rfl⟩
theorem mf_X3_fill : MfV yX3_fill cX3_fill 5 none 2 := ⟨⟨tg_in 116 tables_1_2 (fun _ h => tb2 h) rfl rfl, tg_in 5 tables_1_1 (fun _ h => tb1 h) rfl rfl, by decide +kernel⟩, tg_in 114 tables_1_2 (fun _ h => tb2 h) rfl rfl, tg_in 115 tables_1_2 (fun _ h => tb2 h) rfl rfl⟩
theorem mf_J6_bitCount_0f7a4 : MfS yJ6_bitCount_0f7a4 cJ6_bitCount_0f7a4 1 (some .int) 1 := ⟨⟨tg_in 160 tables_1_2 (fun _ h => tb2 h) rfl rfl, tg_in 12 tables_1_1 (fun _ h => tb1 h) rfl rfl, by decide +kernel⟩, tg_in 159 tables_1_2 (fun _ h => tb2 h) rfl rfl⟩
theorem mf_X10_lowestBit : MfS yX10_lowestBit cX10_lowestBit 1 (some .int) 1 := ⟨⟨tg_in 166 tables_1_2 (fun _ h => tb2 h) rfl rfl, tg_in 1 tables_1_1 (fun _ h => tb1 h) rfl rfl, by decide +kernel⟩, tg_in 165 tables_1_2 (fun _ h => tb2 h) rfl rfl⟩
theorem mf_X4_waysOver : MfV yX4_waysOver cX4_waysOver 7 (some .long) 2 := ⟨⟨tg_in 157 tables_1_2 (fun _ h => tb2 h) rfl rfl, tg_in 3 tables_1_1 (fun _ h => tb1 h) rfl rfl, by decide +kernel⟩, tg_in 156 tables_1_2 (fun _ h => tb2 h) rfl rfl, tg_p (List.mem_of_getElem? (i := 3) rfl) rfl⟩
theorem mf_X1_breaksBetween : MfV yX1_breaksBetween cX1_breaksBetween 3 (some .int) 2 := ⟨⟨tg_in 175 tables_1_2 (fun _ h => tb2 h) rfl rfl, tg_in 4 tables_1_1 (fun _ h => tb1 h) rfl rfl, by decide +kernel⟩, tg_in 173 tables_1_2 (fun _ h => tb2 h) rfl rfl, tg_in 174 tables_1_2 (fun _ h => tb2 h) rfl rfl⟩
theorem mf_X4_calmOver : MfV yX4_calmOver cX4_calmOver 8 (some .int) 3 := ⟨⟨tg_in 171 tables_1_2 (fun _ h => tb2 h) rfl rfl, tg_in 3 tables_1_1 (fun _ h => tb1 h) rfl rfl, by decide +kernel⟩, tg_in 170 tables_1_2 (fun _ h => tb2 h) rfl rfl, tg_p (List.mem_of_getElem? (i := 4) rfl) rfl⟩
theorem mf_X1_meetingAtAll : MfV yX1_meetingAtAll cX1_meetingAtAll 2 (some .int) 1 := ⟨⟨tg_in 182 tables_1_2 (fun _ h => tb2 h) rfl rfl, tg_in 4 tables_1_1 (fun _ h => tb1 h) rfl rfl, by decide +kernel⟩, tg_in 180 tables_1_2 (fun _ h => tb2 h) rfl rfl, tg_in 181 tables_1_2 (fun _ h => tb2 h) rfl rfl⟩
theorem mf_X4_weigh : MfV yX4_weigh cX4_weigh 8 none 2 := ⟨⟨tg_in 151 tables_1_2 (fun _ h => tb2 h) rfl rfl, tg_in 3 tables_1_1 (fun _ h => tb1 h) rfl rfl, by decide +kernel⟩, tg_in 150 tables_1_2 (fun _ h => tb2 h) rfl rfl, tg_p (List.mem_of_getElem? (i := 2) rfl) rfl⟩
theorem mf_X4_weighSet : MfV yX4_weighSet cX4_weighSet 4 none 1 := ⟨⟨tg_in 146 tables_1_2 (fun _ h => tb2 h) rfl rfl, tg_in 3 tables_1_1 (fun _ h => tb1 h) rfl rfl, by decide +kernel⟩, tg_in 145 tables_1_2 (fun _ h => tb2 h) rfl rfl, tg_p (List.mem_of_getElem? (i := 1) rfl) rfl⟩
theorem mf_X4_prepare : MfV yX4_prepare cX4_prepare 3 none 0 := ⟨⟨tg_in 100 tables_1_2 (fun _ h => tb2 h) rfl rfl, tg_in 3 tables_1_1 (fun _ h => tb1 h) rfl rfl, by decide +kernel⟩, tg_in 98 tables_1_2 (fun _ h => tb2 h) rfl rfl, tg_in 99 tables_1_2 (fun _ h => tb2 h) rfl rfl⟩
theorem mf_X1_areJoined : MfV yX1_areJoined cX1_areJoined 3 (some .boolean) 2 := ⟨⟨tg_in 198 tables_1_2 (fun _ h => tb2 h) rfl rfl, tg_in 4 tables_1_1 (fun _ h => tb1 h) rfl rfl, by decide +kernel⟩, tg_in 196 tables_1_2 (fun _ h => tb2 h) rfl rfl, tg_in 197 tables_1_2 (fun _ h => tb2 h) rfl rfl⟩
theorem mf_X7_joinsNext : MfV yX7_joinsNext cX7_joinsNext 3 (some .boolean) 2 := ⟨⟨tg_in 194 tables_1_2 (fun _ h => tb2 h) rfl rfl, tg_in 6 tables_1_1 (fun _ h => tb1 h) rfl rfl, by decide +kernel⟩, tg_in 192 tables_1_2 (fun _ h => tb2 h) rfl rfl, tg_in 193 tables_1_2 (fun _ h => tb2 h) rfl rfl⟩
theorem mf_X2_put : MfV yX2_put cX2_put 4 none 3 := ⟨⟨tg_in 205 tables_1_2 (fun _ h => tb2 h) rfl rfl, tg_in 8 tables_1_1 (fun _ h => tb1 h) rfl rfl, by decide +kernel⟩, tg_in 204 tables_1_2 (fun _ h => tb2 h) rfl rfl, tg_p (List.mem_of_getElem? (i := 6) rfl) rfl⟩
theorem mf_X7_fingerAt : MfV yX7_fingerAt cX7_fingerAt 2 (some .int) 1 := ⟨⟨tg_in 209 tables_1_2 (fun _ h => tb2 h) rfl rfl, tg_in 6 tables_1_1 (fun _ h => tb1 h) rfl rfl, by decide +kernel⟩, tg_in 207 tables_1_2 (fun _ h => tb2 h) rfl rfl, tg_in 208 tables_1_2 (fun _ h => tb2 h) rfl rfl⟩
theorem mf_X1_gateOf : MfV yX1_gateOf cX1_gateOf 2 (some .int) 1 := ⟨⟨tg_in 213 tables_1_2 (fun _ h => tb2 h) rfl rfl, tg_in 4 tables_1_1 (fun _ h => tb1 h) rfl rfl, by decide +kernel⟩, tg_in 211 tables_1_2 (fun _ h => tb2 h) rfl rfl, tg_in 212 tables_1_2 (fun _ h => tb2 h) rfl rfl⟩
theorem mf_X2_draw : MfV yX2_draw cX2_draw 6 none 2 := ⟨⟨tg_in 190 tables_1_2 (fun _ h => tb2 h) rfl rfl, tg_in 8 tables_1_1 (fun _ h => tb1 h) rfl rfl, by decide +kernel⟩, tg_in 188 tables_1_2 (fun _ h => tb2 h) rfl rfl, tg_in 189 tables_1_2 (fun _ h => tb2 h) rfl rfl⟩
theorem mf_X9_note : MfV yX9_note cX9_note 3 none 2 := ⟨⟨tg_in 221 tables_1_2 (fun _ h => tb2 h) rfl rfl, tg_in 9 tables_1_1 (fun _ h => tb1 h) rfl rfl, by decide +kernel⟩, tg_in 220 tables_1_2 (fun _ h => tb2 h) rfl rfl, tg_p (List.mem_of_getElem? (i := 7) rfl) rfl⟩
theorem mf_X6_collect : MfV yX6_collect cX6_collect 4 none 2 := ⟨⟨tg_in 229 tables_1_2 (fun _ h => tb2 h) rfl rfl, tg_in 10 tables_1_1 (fun _ h => tb1 h) rfl rfl, by decide +kernel⟩, tg_in 228 tables_1_2 (fun _ h => tb2 h) rfl rfl, tg_p (List.mem_of_getElem? (i := 8) rfl) rfl⟩
theorem mf_X6_shiftOf : MfS yX6_shiftOf cX6_shiftOf 1 (some .int) 1 := ⟨⟨tg_in 5 tables_1_3 (fun _ h => tb3 h) rfl rfl, tg_in 10 tables_1_1 (fun _ h => tb1 h) rfl rfl, by decide +kernel⟩, tg_in 4 tables_1_3 (fun _ h => tb3 h) rfl rfl⟩
theorem mf_X6_priceOf : MfV yX6_priceOf cX6_priceOf 6 (some .long) 3 := ⟨⟨tg_in 2 tables_1_3 (fun _ h => tb3 h) rfl rfl, tg_in 10 tables_1_1 (fun _ h => tb1 h) rfl rfl, by decide +kernel⟩, tg_in 1 tables_1_3 (fun _ h => tb3 h) rfl rfl, tg_p (List.mem_of_getElem? (i := 10) rfl) rfl⟩
theorem mf_X6_offer : MfV yX6_offer cX6_offer 11 none 3 := ⟨⟨tg_in 238 tables_1_2 (fun _ h => tb2 h) rfl rfl, tg_in 10 tables_1_1 (fun _ h => tb1 h) rfl rfl, by decide +kernel⟩, tg_in 237 tables_1_2 (fun _ h => tb2 h) rfl rfl, tg_p (List.mem_of_getElem? (i := 9) rfl) rfl⟩
theorem mf_X6_place : MfV yX6_place cX6_place 9 (some .int) 3 := ⟨⟨tg_in 225 tables_1_2 (fun _ h => tb2 h) rfl rfl, tg_in 10 tables_1_1 (fun _ h => tb1 h) rfl rfl, by decide +kernel⟩, tg_in 223 tables_1_2 (fun _ h => tb2 h) rfl rfl, tg_in 224 tables_1_2 (fun _ h => tb2 h) rfl rfl⟩
theorem mf_X9_drawWire : MfV yX9_drawWire cX9_drawWire 6 none 2 := ⟨⟨tg_in 10 tables_1_3 (fun _ h => tb3 h) rfl rfl, tg_in 9 tables_1_1 (fun _ h => tb1 h) rfl rfl, by decide +kernel⟩, tg_in 9 tables_1_3 (fun _ h => tb3 h) rfl rfl, tg_p (List.mem_of_getElem? (i := 11) rfl) rfl⟩
theorem mf_X9_draw : MfV yX9_draw cX9_draw 4 none 2 := ⟨⟨tg_in 217 tables_1_2 (fun _ h => tb2 h) rfl rfl, tg_in 9 tables_1_1 (fun _ h => tb1 h) rfl rfl, by decide +kernel⟩, tg_in 215 tables_1_2 (fun _ h => tb2 h) rfl rfl, tg_in 216 tables_1_2 (fun _ h => tb2 h) rfl rfl⟩
theorem mf_X10_overlap : MfS yX10_overlap cX10_overlap 4 (some .boolean) 4 := ⟨⟨tg_in 27 tables_1_3 (fun _ h => tb3 h) rfl rfl, tg_in 1 tables_1_1 (fun _ h => tb1 h) rfl rfl, by decide +kernel⟩, tg_in 26 tables_1_3 (fun _ h => tb3 h) rfl rfl⟩
theorem mf_X9_isFree : MfV yX9_isFree cX9_isFree 6 (some .boolean) 3 := ⟨⟨tg_in 24 tables_1_3 (fun _ h => tb3 h) rfl rfl, tg_in 9 tables_1_1 (fun _ h => tb1 h) rfl rfl, by decide +kernel⟩, tg_in 22 tables_1_3 (fun _ h => tb3 h) rfl rfl, tg_in 23 tables_1_3 (fun _ h => tb3 h) rfl rfl⟩
theorem mf_X9_freeTracks : MfV yX9_freeTracks cX9_freeTracks 5 (some .int) 2 := ⟨⟨tg_in 20 tables_1_3 (fun _ h => tb3 h) rfl rfl, tg_in 9 tables_1_1 (fun _ h => tb1 h) rfl rfl, by decide +kernel⟩, tg_in 18 tables_1_3 (fun _ h => tb3 h) rfl rfl, tg_in 19 tables_1_3 (fun _ h => tb3 h) rfl rfl⟩
theorem mf_X9_leastTrack : MfS yX9_leastTrack cX9_leastTrack 1 (some .int) 1 := ⟨⟨tg_in 30 tables_1_3 (fun _ h => tb3 h) rfl rfl, tg_in 9 tables_1_1 (fun _ h => tb1 h) rfl rfl, by decide +kernel⟩, tg_in 29 tables_1_3 (fun _ h => tb3 h) rfl rfl⟩
theorem mf_X9_assignTracks : MfV yX9_assignTracks cX9_assignTracks 5 none 2 := ⟨⟨tg_in 16 tables_1_3 (fun _ h => tb3 h) rfl rfl, tg_in 9 tables_1_1 (fun _ h => tb1 h) rfl rfl, by decide +kernel⟩, tg_in 14 tables_1_3 (fun _ h => tb3 h) rfl rfl, tg_in 15 tables_1_3 (fun _ h => tb3 h) rfl rfl⟩
theorem mf_X10_redraw : MfV yX10_redraw cX10_redraw 1 none 0 := ⟨⟨tg_in 186 tables_1_2 (fun _ h => tb2 h) rfl rfl, tg_in 1 tables_1_1 (fun _ h => tb1 h) rfl rfl, by decide +kernel⟩, tg_in 185 tables_1_2 (fun _ h => tb2 h) rfl rfl, tg_p (List.mem_of_getElem? (i := 5) rfl) rfl⟩
theorem mf_X8_hasRoom : MfV yX8_hasRoom cX8_hasRoom 1 (some .boolean) 0 := ⟨⟨tg_in 85 tables_1_3 (fun _ h => tb3 h) rfl rfl, tg_in 2 tables_1_1 (fun _ h => tb1 h) rfl rfl, by decide +kernel⟩, tg_in 83 tables_1_3 (fun _ h => tb3 h) rfl rfl, tg_in 84 tables_1_3 (fun _ h => tb3 h) rfl rfl⟩
theorem mf_X8_take : MfV yX8_take cX8_take 3 none 1 := ⟨⟨tg_in 89 tables_1_3 (fun _ h => tb3 h) rfl rfl, tg_in 2 tables_1_1 (fun _ h => tb1 h) rfl rfl, by decide +kernel⟩, tg_in 87 tables_1_3 (fun _ h => tb3 h) rfl rfl, tg_in 88 tables_1_3 (fun _ h => tb3 h) rfl rfl⟩
theorem mf_X10_feed : MfV yX10_feed cX10_feed 6 (some .int) 5 := ⟨⟨tg_in 81 tables_1_3 (fun _ h => tb3 h) rfl rfl, tg_in 1 tables_1_1 (fun _ h => tb1 h) rfl rfl, by decide +kernel⟩, tg_in 79 tables_1_3 (fun _ h => tb3 h) rfl rfl, tg_in 80 tables_1_3 (fun _ h => tb3 h) rfl rfl⟩
theorem mf_X10_end : MfV yX10_end cX10_end 2 (some .boolean) 1 := ⟨⟨tg_in 93 tables_1_3 (fun _ h => tb3 h) rfl rfl, tg_in 1 tables_1_1 (fun _ h => tb1 h) rfl rfl, by decide +kernel⟩, tg_in 91 tables_1_3 (fun _ h => tb3 h) rfl rfl, tg_in 92 tables_1_3 (fun _ h => tb3 h) rfl rfl⟩
theorem mf_X1_clear : MfV yX1_clear cX1_clear 1 none 0 := ⟨⟨tg_in 202 tables_1_3 (fun _ h => tb3 h) rfl rfl, tg_in 4 tables_1_1 (fun _ h => tb1 h) rfl rfl, by decide +kernel⟩, tg_in 200 tables_1_3 (fun _ h => tb3 h) rfl rfl, tg_in 201 tables_1_3 (fun _ h => tb3 h) rfl rfl⟩
theorem mf_X8_skipBlanks : MfV yX8_skipBlanks cX8_skipBlanks 1 none 0 := ⟨⟨tg_in 215 tables_1_3 (fun _ h => tb3 h) rfl rfl, tg_in 2 tables_1_1 (fun _ h => tb1 h) rfl rfl, by decide +kernel⟩, tg_in 214 tables_1_3 (fun _ h => tb3 h) rfl rfl, tg_p (List.mem_of_getElem? (i := 15) rfl) rfl⟩
theorem mf_X8_goThroughWord : MfV yX8_goThroughWord cX8_goThroughWord 1 none 0 := ⟨⟨tg_in 219 tables_1_3 (fun _ h => tb3 h) rfl rfl, tg_in 2 tables_1_1 (fun _ h => tb1 h) rfl rfl, by decide +kernel⟩, tg_in 218 tables_1_3 (fun _ h => tb3 h) rfl rfl, tg_p (List.mem_of_getElem? (i := 16) rfl) rfl⟩
theorem mf_X8_fail : MfV yX8_fail cX8_fail 2 none 1 := ⟨⟨tg_in 223 tables_1_3 (fun _ h => tb3 h) rfl rfl, tg_in 2 tables_1_1 (fun _ h => tb1 h) rfl rfl, by decide +kernel⟩, tg_in 222 tables_1_3 (fun _ h => tb3 h) rfl rfl, tg_p (List.mem_of_getElem? (i := 17) rfl) rfl⟩
theorem mf_X8_readWord : MfV yX8_readWord cX8_readWord 1 none 0 := ⟨⟨tg_in 211 tables_1_3 (fun _ h => tb3 h) rfl rfl, tg_in 2 tables_1_1 (fun _ h => tb1 h) rfl rfl, by decide +kernel⟩, tg_in 210 tables_1_3 (fun _ h => tb3 h) rfl rfl, tg_p (List.mem_of_getElem? (i := 14) rfl) rfl⟩
theorem mf_X8_wordIs : MfV yX8_wordIs cX8_wordIs 3 (some .boolean) 1 := ⟨⟨tg_in 227 tables_1_3 (fun _ h => tb3 h) rfl rfl, tg_in 2 tables_1_1 (fun _ h => tb1 h) rfl rfl, by decide +kernel⟩, tg_in 226 tables_1_3 (fun _ h => tb3 h) rfl rfl, tg_p (List.mem_of_getElem? (i := 18) rfl) rfl⟩
theorem mf_X8_expectWord : MfV yX8_expectWord cX8_expectWord 2 none 1 := ⟨⟨tg_in 207 tables_1_3 (fun _ h => tb3 h) rfl rfl, tg_in 2 tables_1_1 (fun _ h => tb1 h) rfl rfl, by decide +kernel⟩, tg_in 206 tables_1_3 (fun _ h => tb3 h) rfl rfl, tg_p (List.mem_of_getElem? (i := 13) rfl) rfl⟩
theorem mf_X8_readNumber : MfV yX8_readNumber cX8_readNumber 5 (some .int) 2 := ⟨⟨tg_in 39 tables_1_4 (fun _ h => tb4 h) rfl rfl, tg_in 2 tables_1_1 (fun _ h => tb1 h) rfl rfl, by decide +kernel⟩, tg_in 38 tables_1_4 (fun _ h => tb4 h) rfl rfl, tg_p (List.mem_of_getElem? (i := 19) rfl) rfl⟩
theorem mf_X8_anotherLine : MfV yX8_anotherLine cX8_anotherLine 1 (some .boolean) 0 := ⟨⟨tg_in 43 tables_1_4 (fun _ h => tb4 h) rfl rfl, tg_in 2 tables_1_1 (fun _ h => tb1 h) rfl rfl, by decide +kernel⟩, tg_in 42 tables_1_4 (fun _ h => tb4 h) rfl rfl, tg_p (List.mem_of_getElem? (i := 20) rfl) rfl⟩
theorem mf_X8_readNet : MfV yX8_readNet cX8_readNet 1 (some .int) 0 := ⟨⟨tg_in 56 tables_1_4 (fun _ h => tb4 h) rfl rfl, tg_in 2 tables_1_1 (fun _ h => tb1 h) rfl rfl, by decide +kernel⟩, tg_in 55 tables_1_4 (fun _ h => tb4 h) rfl rfl, tg_p (List.mem_of_getElem? (i := 23) rfl) rfl⟩
theorem mf_X8_passWord : MfV yX8_passWord cX8_passWord 2 (some .boolean) 1 := ⟨⟨tg_in 63 tables_1_4 (fun _ h => tb4 h) rfl rfl, tg_in 2 tables_1_1 (fun _ h => tb1 h) rfl rfl, by decide +kernel⟩, tg_in 62 tables_1_4 (fun _ h => tb4 h) rfl rfl, tg_p (List.mem_of_getElem? (i := 24) rfl) rfl⟩
theorem mf_X1_addPair : MfV yX1_addPair cX1_addPair 4 (some .boolean) 0 := ⟨⟨tg_in 67 tables_1_4 (fun _ h => tb4 h) rfl rfl, tg_in 4 tables_1_1 (fun _ h => tb1 h) rfl rfl, by decide +kernel⟩, tg_in 65 tables_1_4 (fun _ h => tb4 h) rfl rfl, tg_in 66 tables_1_4 (fun _ h => tb4 h) rfl rfl⟩
theorem mf_X8_readPair : MfV yX8_readPair cX8_readPair 4 none 2 := ⟨⟨tg_in 52 tables_1_4 (fun _ h => tb4 h) rfl rfl, tg_in 2 tables_1_1 (fun _ h => tb1 h) rfl rfl, by decide +kernel⟩, tg_in 51 tables_1_4 (fun _ h => tb4 h) rfl rfl, tg_p (List.mem_of_getElem? (i := 22) rfl) rfl⟩
theorem mf_X8_readNewNet : MfV yX8_readNewNet cX8_readNewNet 3 (some .int) 1 := ⟨⟨tg_in 72 tables_1_4 (fun _ h => tb4 h) rfl rfl, tg_in 2 tables_1_1 (fun _ h => tb1 h) rfl rfl, by decide +kernel⟩, tg_in 71 tables_1_4 (fun _ h => tb4 h) rfl rfl, tg_p (List.mem_of_getElem? (i := 25) rfl) rfl⟩
theorem mf_X8_readPin : MfV yX8_readPin cX8_readPin 3 none 2 := ⟨⟨tg_in 78 tables_1_4 (fun _ h => tb4 h) rfl rfl, tg_in 2 tables_1_1 (fun _ h => tb1 h) rfl rfl, by decide +kernel⟩, tg_in 77 tables_1_4 (fun _ h => tb4 h) rfl rfl, tg_p (List.mem_of_getElem? (i := 26) rfl) rfl⟩
theorem mf_X8_readBlock : MfV yX8_readBlock cX8_readBlock 7 none 2 := ⟨⟨tg_in 84 tables_1_4 (fun _ h => tb4 h) rfl rfl, tg_in 2 tables_1_1 (fun _ h => tb1 h) rfl rfl, by decide +kernel⟩, tg_in 83 tables_1_4 (fun _ h => tb4 h) rfl rfl, tg_p (List.mem_of_getElem? (i := 27) rfl) rfl⟩
theorem mf_X8_readLine : MfV yX8_readLine cX8_readLine 4 none 2 := ⟨⟨tg_in 47 tables_1_4 (fun _ h => tb4 h) rfl rfl, tg_in 2 tables_1_1 (fun _ h => tb1 h) rfl rfl, by decide +kernel⟩, tg_in 46 tables_1_4 (fun _ h => tb4 h) rfl rfl, tg_p (List.mem_of_getElem? (i := 21) rfl) rfl⟩
theorem mf_X8_readInto : MfV yX8_readInto cX8_readInto 3 (some .boolean) 1 := ⟨⟨tg_in 198 tables_1_3 (fun _ h => tb3 h) rfl rfl, tg_in 2 tables_1_1 (fun _ h => tb1 h) rfl rfl, by decide +kernel⟩, tg_in 196 tables_1_3 (fun _ h => tb3 h) rfl rfl, tg_in 197 tables_1_3 (fun _ h => tb3 h) rfl rfl⟩
theorem mf_X10_notKept : MfV yX10_notKept cX10_notKept 1 (some (.object "FingerRows$Orders")) 0 := ⟨⟨tg_in 156 tables_1_4 (fun _ h => tb4 h) rfl rfl, tg_in 1 tables_1_1 (fun _ h => tb1 h) rfl rfl, by decide +kernel⟩, tg_in 155 tables_1_4 (fun _ h => tb4 h) rfl rfl, tg_p (List.mem_of_getElem? (i := 29) rfl) rfl⟩
theorem mf_X4_exchange : MfV yX4_exchange cX4_exchange 3 (some (.object "FingerRows$Cell")) 1 := ⟨⟨tg_in 160 tables_1_4 (fun _ h => tb4 h) rfl rfl, tg_in 3 tables_1_1 (fun _ h => tb1 h) rfl rfl, by decide +kernel⟩, tg_in 158 tables_1_4 (fun _ h => tb4 h) rfl rfl, tg_in 159 tables_1_4 (fun _ h => tb4 h) rfl rfl⟩
theorem mf_X7_reset : MfV yX7_reset cX7_reset 3 none 1 := ⟨⟨tg_in 164 tables_1_4 (fun _ h => tb4 h) rfl rfl, tg_in 6 tables_1_1 (fun _ h => tb1 h) rfl rfl, by decide +kernel⟩, tg_in 162 tables_1_4 (fun _ h => tb4 h) rfl rfl, tg_in 163 tables_1_4 (fun _ h => tb4 h) rfl rfl⟩
theorem mf_X5_forget : MfV yX5_forget cX5_forget 1 none 0 := ⟨⟨tg_in 182 tables_1_3 (fun _ h => tb3 h) rfl rfl, tg_in 7 tables_1_1 (fun _ h => tb1 h) rfl rfl, by decide +kernel⟩, tg_in 180 tables_1_3 (fun _ h => tb3 h) rfl rfl, tg_in 181 tables_1_3 (fun _ h => tb3 h) rfl rfl⟩
theorem mf_X10_fault : MfV yX10_fault cX10_fault 1 (some .int) 0 := ⟨⟨tg_in 97 tables_1_3 (fun _ h => tb3 h) rfl rfl, tg_in 1 tables_1_1 (fun _ h => tb1 h) rfl rfl, by decide +kernel⟩, tg_in 95 tables_1_3 (fun _ h => tb3 h) rfl rfl, tg_in 96 tables_1_3 (fun _ h => tb3 h) rfl rfl⟩
theorem mf_X1_fingersOf : MfV yX1_fingersOf cX1_fingersOf 4 (some .int) 1 := ⟨⟨tg_in 209 tables_1_4 (fun _ h => tb4 h) rfl rfl, tg_in 4 tables_1_1 (fun _ h => tb1 h) rfl rfl, by decide +kernel⟩, tg_in 207 tables_1_4 (fun _ h => tb4 h) rfl rfl, tg_in 208 tables_1_4 (fun _ h => tb4 h) rfl rfl⟩
theorem mf_X10_isPlace : MfV yX10_isPlace cX10_isPlace 2 (some .boolean) 1 := ⟨⟨tg_in 221 tables_1_4 (fun _ h => tb4 h) rfl rfl, tg_in 1 tables_1_1 (fun _ h => tb1 h) rfl rfl, by decide +kernel⟩, tg_in 220 tables_1_4 (fun _ h => tb4 h) rfl rfl, tg_p (List.mem_of_getElem? (i := 30) rfl) rfl⟩
theorem mf_X7_turnAt : MfV yX7_turnAt cX7_turnAt 2 (some .int) 1 := ⟨⟨tg_in 227 tables_1_4 (fun _ h => tb4 h) rfl rfl, tg_in 6 tables_1_1 (fun _ h => tb1 h) rfl rfl, by decide +kernel⟩, tg_in 225 tables_1_4 (fun _ h => tb4 h) rfl rfl, tg_in 226 tables_1_4 (fun _ h => tb4 h) rfl rfl⟩
theorem mf_X2_areThese : MfS yX2_areThese cX2_areThese 7 (some .boolean) 5 := ⟨⟨tg_in 236 tables_1_4 (fun _ h => tb4 h) rfl rfl, tg_in 8 tables_1_1 (fun _ h => tb1 h) rfl rfl, by decide +kernel⟩, tg_in 235 tables_1_4 (fun _ h => tb4 h) rfl rfl⟩
theorem mf_X2_readBack : MfV yX2_readBack cX2_readBack 5 (some .boolean) 3 := ⟨⟨tg_in 232 tables_1_4 (fun _ h => tb4 h) rfl rfl, tg_in 8 tables_1_1 (fun _ h => tb1 h) rfl rfl, by decide +kernel⟩, tg_in 230 tables_1_4 (fun _ h => tb4 h) rfl rfl, tg_in 231 tables_1_4 (fun _ h => tb4 h) rfl rfl⟩
theorem mf_X10_isNet : MfS yX10_isNet cX10_isNet 1 (some .boolean) 1 := ⟨⟨tg_in 16 tables_1_5 (fun _ h => tb5 h) rfl rfl, tg_in 1 tables_1_1 (fun _ h => tb1 h) rfl rfl, by decide +kernel⟩, tg_in 15 tables_1_5 (fun _ h => tb5 h) rfl rfl⟩
theorem mf_X9_hasWire : MfV yX9_hasWire cX9_hasWire 2 (some .boolean) 1 := ⟨⟨tg_in 33 tables_1_5 (fun _ h => tb5 h) rfl rfl, tg_in 9 tables_1_1 (fun _ h => tb1 h) rfl rfl, by decide +kernel⟩, tg_in 31 tables_1_5 (fun _ h => tb5 h) rfl rfl, tg_in 32 tables_1_5 (fun _ h => tb5 h) rfl rfl⟩
theorem mf_X9_total : MfV yX9_total cX9_total 3 (some .int) 0 := ⟨⟨tg_in 29 tables_1_5 (fun _ h => tb5 h) rfl rfl, tg_in 9 tables_1_1 (fun _ h => tb1 h) rfl rfl, by decide +kernel⟩, tg_in 27 tables_1_5 (fun _ h => tb5 h) rfl rfl, tg_in 28 tables_1_5 (fun _ h => tb5 h) rfl rfl⟩
theorem mf_X9_greatestCut : MfV yX9_greatestCut cX9_greatestCut 4 (some .int) 1 := ⟨⟨tg_in 37 tables_1_5 (fun _ h => tb5 h) rfl rfl, tg_in 9 tables_1_1 (fun _ h => tb1 h) rfl rfl, by decide +kernel⟩, tg_in 35 tables_1_5 (fun _ h => tb5 h) rfl rfl, tg_in 36 tables_1_5 (fun _ h => tb5 h) rfl rfl⟩
theorem mf_X9_worst : MfV yX9_worst cX9_worst 5 (some .int) 1 := ⟨⟨tg_in 41 tables_1_5 (fun _ h => tb5 h) rfl rfl, tg_in 9 tables_1_1 (fun _ h => tb1 h) rfl rfl, by decide +kernel⟩, tg_in 39 tables_1_5 (fun _ h => tb5 h) rfl rfl, tg_in 40 tables_1_5 (fun _ h => tb5 h) rfl rfl⟩
theorem mf_X9_usedTracks : MfV yX9_usedTracks cX9_usedTracks 3 (some .int) 0 := ⟨⟨tg_in 45 tables_1_5 (fun _ h => tb5 h) rfl rfl, tg_in 9 tables_1_1 (fun _ h => tb1 h) rfl rfl, by decide +kernel⟩, tg_in 43 tables_1_5 (fun _ h => tb5 h) rfl rfl, tg_in 44 tables_1_5 (fun _ h => tb5 h) rfl rfl⟩
theorem mf_X9_lost : MfV yX9_lost cX9_lost 3 (some .int) 0 := ⟨⟨tg_in 49 tables_1_5 (fun _ h => tb5 h) rfl rfl, tg_in 9 tables_1_1 (fun _ h => tb1 h) rfl rfl, by decide +kernel⟩, tg_in 47 tables_1_5 (fun _ h => tb5 h) rfl rfl, tg_in 48 tables_1_5 (fun _ h => tb5 h) rfl rfl⟩
theorem mf_X9_height : MfV yX9_height cX9_height 3 (some .int) 0 := ⟨⟨tg_in 53 tables_1_5 (fun _ h => tb5 h) rfl rfl, tg_in 9 tables_1_1 (fun _ h => tb1 h) rfl rfl, by decide +kernel⟩, tg_in 51 tables_1_5 (fun _ h => tb5 h) rfl rfl, tg_in 52 tables_1_5 (fun _ h => tb5 h) rfl rfl⟩
theorem mf_X9_totalLength : MfV yX9_totalLength cX9_totalLength 3 (some .int) 0 := ⟨⟨tg_in 57 tables_1_5 (fun _ h => tb5 h) rfl rfl, tg_in 9 tables_1_1 (fun _ h => tb1 h) rfl rfl, by decide +kernel⟩, tg_in 55 tables_1_5 (fun _ h => tb5 h) rfl rfl, tg_in 56 tables_1_5 (fun _ h => tb5 h) rfl rfl⟩
theorem mf_X2_isSame : MfV yX2_isSame cX2_isSame 3 (some .boolean) 0 := ⟨⟨tg_in 61 tables_1_5 (fun _ h => tb5 h) rfl rfl, tg_in 8 tables_1_1 (fun _ h => tb1 h) rfl rfl, by decide +kernel⟩, tg_in 59 tables_1_5 (fun _ h => tb5 h) rfl rfl, tg_in 60 tables_1_5 (fun _ h => tb5 h) rfl rfl⟩
theorem mf_X10_least : MfV yX10_least cX10_least 1 (some .int) 0 := ⟨⟨tg_in 101 tables_1_3 (fun _ h => tb3 h) rfl rfl, tg_in 1 tables_1_1 (fun _ h => tb1 h) rfl rfl, by decide +kernel⟩, tg_in 99 tables_1_3 (fun _ h => tb3 h) rfl rfl, tg_in 100 tables_1_3 (fun _ h => tb3 h) rfl rfl⟩
theorem mf_X4_total : MfV yX4_total cX4_total 1 (some .long) 0 := ⟨⟨tg_in 110 tables_1_3 (fun _ h => tb3 h) rfl rfl, tg_in 3 tables_1_1 (fun _ h => tb1 h) rfl rfl, by decide +kernel⟩, tg_in 108 tables_1_3 (fun _ h => tb3 h) rfl rfl, tg_in 109 tables_1_3 (fun _ h => tb3 h) rfl rfl⟩
theorem mf_X10_many : MfV yX10_many cX10_many 1 (some .long) 0 := ⟨⟨tg_in 106 tables_1_3 (fun _ h => tb3 h) rfl rfl, tg_in 1 tables_1_1 (fun _ h => tb1 h) rfl rfl, by decide +kernel⟩, tg_in 104 tables_1_3 (fun _ h => tb3 h) rfl rfl, tg_in 105 tables_1_3 (fun _ h => tb3 h) rfl rfl⟩
theorem mf_X3_nexts : MfV yX3_nexts cX3_nexts 5 (some .int) 3 := ⟨⟨tg_in 79 tables_1_5 (fun _ h => tb5 h) rfl rfl, tg_in 5 tables_1_1 (fun _ h => tb1 h) rfl rfl, by decide +kernel⟩, tg_in 77 tables_1_5 (fun _ h => tb5 h) rfl rfl, tg_in 78 tables_1_5 (fun _ h => tb5 h) rfl rfl⟩
theorem mf_X4_layInto : MfV yX4_layInto cX4_layInto 12 none 2 := ⟨⟨tg_in 74 tables_1_5 (fun _ h => tb5 h) rfl rfl, tg_in 3 tables_1_1 (fun _ h => tb1 h) rfl rfl, by decide +kernel⟩, tg_in 72 tables_1_5 (fun _ h => tb5 h) rfl rfl, tg_in 73 tables_1_5 (fun _ h => tb5 h) rfl rfl⟩
theorem mf_X10_calm : MfV yX10_calm cX10_calm 1 (some .int) 0 := ⟨⟨tg_in 114 tables_1_3 (fun _ h => tb3 h) rfl rfl, tg_in 1 tables_1_1 (fun _ h => tb1 h) rfl rfl, by decide +kernel⟩, tg_in 112 tables_1_3 (fun _ h => tb3 h) rfl rfl, tg_in 113 tables_1_3 (fun _ h => tb3 h) rfl rfl⟩
theorem mf_X10_isFinger : MfV yX10_isFinger cX10_isFinger 2 (some .boolean) 1 := ⟨⟨tg_in 90 tables_1_5 (fun _ h => tb5 h) rfl rfl, tg_in 1 tables_1_1 (fun _ h => tb1 h) rfl rfl, by decide +kernel⟩, tg_in 89 tables_1_5 (fun _ h => tb5 h) rfl rfl, tg_p (List.mem_of_getElem? (i := 31) rfl) rfl⟩
theorem mf_X4_fewestBetween : MfV yX4_fewestBetween cX4_fewestBetween 5 (some .int) 2 := ⟨⟨tg_in 95 tables_1_5 (fun _ h => tb5 h) rfl rfl, tg_in 3 tables_1_1 (fun _ h => tb1 h) rfl rfl, by decide +kernel⟩, tg_in 93 tables_1_5 (fun _ h => tb5 h) rfl rfl, tg_in 94 tables_1_5 (fun _ h => tb5 h) rfl rfl⟩
theorem mf_X1_tiedNets : MfV yX1_tiedNets cX1_tiedNets 7 (some .int) 2 := ⟨⟨tg_in 127 tables_1_3 (fun _ h => tb3 h) rfl rfl, tg_in 4 tables_1_1 (fun _ h => tb1 h) rfl rfl, by decide +kernel⟩, tg_in 126 tables_1_3 (fun _ h => tb3 h) rfl rfl, tg_p (List.mem_of_getElem? (i := 12) rfl) rfl⟩
theorem mf_X1_oddBound : MfV yX1_oddBound cX1_oddBound 8 (some .int) 1 := ⟨⟨tg_in 122 tables_1_3 (fun _ h => tb3 h) rfl rfl, tg_in 4 tables_1_1 (fun _ h => tb1 h) rfl rfl, by decide +kernel⟩, tg_in 120 tables_1_3 (fun _ h => tb3 h) rfl rfl, tg_in 121 tables_1_3 (fun _ h => tb3 h) rfl rfl⟩
theorem mf_X10_bound : MfV yX10_bound cX10_bound 2 (some .int) 1 := ⟨⟨tg_in 118 tables_1_3 (fun _ h => tb3 h) rfl rfl, tg_in 1 tables_1_1 (fun _ h => tb1 h) rfl rfl, by decide +kernel⟩, tg_in 116 tables_1_3 (fun _ h => tb3 h) rfl rfl, tg_in 117 tables_1_3 (fun _ h => tb3 h) rfl rfl⟩
theorem mf_X10_agrees : MfV yX10_agrees cX10_agrees 1 (some .boolean) 0 := ⟨⟨tg_in 133 tables_1_3 (fun _ h => tb3 h) rfl rfl, tg_in 1 tables_1_1 (fun _ h => tb1 h) rfl rfl, by decide +kernel⟩, tg_in 131 tables_1_3 (fun _ h => tb3 h) rfl rfl, tg_in 132 tables_1_3 (fun _ h => tb3 h) rfl rfl⟩
theorem mf_X4_partedGaps : MfV yX4_partedGaps cX4_partedGaps 2 (some .int) 1 := ⟨⟨tg_in 119 tables_1_5 (fun _ h => tb5 h) rfl rfl, tg_in 3 tables_1_1 (fun _ h => tb1 h) rfl rfl, by decide +kernel⟩, tg_in 117 tables_1_5 (fun _ h => tb5 h) rfl rfl, tg_in 118 tables_1_5 (fun _ h => tb5 h) rfl rfl⟩
theorem mf_X4_partingSet : MfV yX4_partingSet cX4_partingSet 5 (some .int) 1 := ⟨⟨tg_in 115 tables_1_5 (fun _ h => tb5 h) rfl rfl, tg_in 3 tables_1_1 (fun _ h => tb1 h) rfl rfl, by decide +kernel⟩, tg_in 113 tables_1_5 (fun _ h => tb5 h) rfl rfl, tg_in 114 tables_1_5 (fun _ h => tb5 h) rfl rfl⟩
theorem mf_X4_dearestFinger : MfV yX4_dearestFinger cX4_dearestFinger 5 (some .int) 0 := ⟨⟨tg_in 144 tables_1_3 (fun _ h => tb3 h) rfl rfl, tg_in 3 tables_1_1 (fun _ h => tb1 h) rfl rfl, by decide +kernel⟩, tg_in 142 tables_1_3 (fun _ h => tb3 h) rfl rfl, tg_in 143 tables_1_3 (fun _ h => tb3 h) rfl rfl⟩
theorem mf_X10_dearest : MfV yX10_dearest cX10_dearest 1 (some .int) 0 := ⟨⟨tg_in 140 tables_1_3 (fun _ h => tb3 h) rfl rfl, tg_in 1 tables_1_1 (fun _ h => tb1 h) rfl rfl, by decide +kernel⟩, tg_in 138 tables_1_3 (fun _ h => tb3 h) rfl rfl, tg_in 139 tables_1_3 (fun _ h => tb3 h) rfl rfl⟩
theorem mf_X1_areTied : MfV yX1_areTied cX1_areTied 4 (some .boolean) 2 := ⟨⟨tg_in 156 tables_1_3 (fun _ h => tb3 h) rfl rfl, tg_in 4 tables_1_1 (fun _ h => tb1 h) rfl rfl, by decide +kernel⟩, tg_in 154 tables_1_3 (fun _ h => tb3 h) rfl rfl, tg_in 155 tables_1_3 (fun _ h => tb3 h) rfl rfl⟩
theorem mf_X1_tiedPairs : MfV yX1_tiedPairs cX1_tiedPairs 4 (some .int) 0 := ⟨⟨tg_in 152 tables_1_3 (fun _ h => tb3 h) rfl rfl, tg_in 4 tables_1_1 (fun _ h => tb1 h) rfl rfl, by decide +kernel⟩, tg_in 150 tables_1_3 (fun _ h => tb3 h) rfl rfl, tg_in 151 tables_1_3 (fun _ h => tb3 h) rfl rfl⟩
theorem mf_X10_ties : MfV yX10_ties cX10_ties 1 (some .int) 0 := ⟨⟨tg_in 148 tables_1_3 (fun _ h => tb3 h) rfl rfl, tg_in 1 tables_1_1 (fun _ h => tb1 h) rfl rfl, by decide +kernel⟩, tg_in 146 tables_1_3 (fun _ h => tb3 h) rfl rfl, tg_in 147 tables_1_3 (fun _ h => tb3 h) rfl rfl⟩
theorem mf_X1_lonelyFingers : MfV yX1_lonelyFingers cX1_lonelyFingers 4 (some .int) 0 := ⟨⟨tg_in 164 tables_1_3 (fun _ h => tb3 h) rfl rfl, tg_in 4 tables_1_1 (fun _ h => tb1 h) rfl rfl, by decide +kernel⟩, tg_in 162 tables_1_3 (fun _ h => tb3 h) rfl rfl, tg_in 163 tables_1_3 (fun _ h => tb3 h) rfl rfl⟩
theorem mf_X10_lonely : MfV yX10_lonely cX10_lonely 1 (some .int) 0 := ⟨⟨tg_in 160 tables_1_3 (fun _ h => tb3 h) rfl rfl, tg_in 1 tables_1_1 (fun _ h => tb1 h) rfl rfl, by decide +kernel⟩, tg_in 158 tables_1_3 (fun _ h => tb3 h) rfl rfl, tg_in 159 tables_1_3 (fun _ h => tb3 h) rfl rfl⟩
theorem mf_X7_copyFrom : MfV yX7_copyFrom cX7_copyFrom 3 none 1 := ⟨⟨tg_in 174 tables_1_3 (fun _ h => tb3 h) rfl rfl, tg_in 6 tables_1_1 (fun _ h => tb1 h) rfl rfl, by decide +kernel⟩, tg_in 172 tables_1_3 (fun _ h => tb3 h) rfl rfl, tg_in 173 tables_1_3 (fun _ h => tb3 h) rfl rfl⟩
theorem mf_X7_setTurn : MfV yX7_setTurn cX7_setTurn 3 none 2 := ⟨⟨tg_in 139 tables_1_5 (fun _ h => tb5 h) rfl rfl, tg_in 6 tables_1_1 (fun _ h => tb1 h) rfl rfl, by decide +kernel⟩, tg_in 137 tables_1_5 (fun _ h => tb5 h) rfl rfl, tg_in 138 tables_1_5 (fun _ h => tb5 h) rfl rfl⟩
theorem mf_X7_countGaps : MfV yX7_countGaps cX7_countGaps 4 (some .int) 1 := ⟨⟨tg_in 144 tables_1_5 (fun _ h => tb5 h) rfl rfl, tg_in 6 tables_1_1 (fun _ h => tb1 h) rfl rfl, by decide +kernel⟩, tg_in 142 tables_1_5 (fun _ h => tb5 h) rfl rfl, tg_in 143 tables_1_5 (fun _ h => tb5 h) rfl rfl⟩
theorem mf_X0_weigh : MfV yX0_weigh cX0_weigh 5 none 4 := ⟨⟨tg_in 149 tables_1_5 (fun _ h => tb5 h) rfl rfl, tg_in 11 tables_1_1 (fun _ h => tb1 h) rfl rfl, by decide +kernel⟩, tg_in 148 tables_1_5 (fun _ h => tb5 h) rfl rfl, tg_p (List.mem_of_getElem? (i := 32) rfl) rfl⟩
theorem mf_X7_shift : MfV yX7_shift cX7_shift 5 none 2 := ⟨⟨tg_in 153 tables_1_5 (fun _ h => tb5 h) rfl rfl, tg_in 6 tables_1_1 (fun _ h => tb1 h) rfl rfl, by decide +kernel⟩, tg_in 151 tables_1_5 (fun _ h => tb5 h) rfl rfl, tg_in 152 tables_1_5 (fun _ h => tb5 h) rfl rfl⟩
theorem mf_X0_seek : MfV yX0_seek cX0_seek 6 none 3 := ⟨⟨tg_in 133 tables_1_5 (fun _ h => tb5 h) rfl rfl, tg_in 11 tables_1_1 (fun _ h => tb1 h) rfl rfl, by decide +kernel⟩, tg_in 131 tables_1_5 (fun _ h => tb5 h) rfl rfl, tg_in 132 tables_1_5 (fun _ h => tb5 h) rfl rfl⟩
theorem mf_X10_lengthOf : MfV yX10_lengthOf cX10_lengthOf 2 (some .int) 1 := ⟨⟨tg_in 165 tables_1_5 (fun _ h => tb5 h) rfl rfl, tg_in 1 tables_1_1 (fun _ h => tb1 h) rfl rfl, by decide +kernel⟩, tg_in 164 tables_1_5 (fun _ h => tb5 h) rfl rfl, tg_p (List.mem_of_getElem? (i := 33) rfl) rfl⟩
theorem mf_X4_waysAcross : MfV yX4_waysAcross cX4_waysAcross 13 (some .long) 3 := ⟨⟨tg_in 182 tables_1_5 (fun _ h => tb5 h) rfl rfl, tg_in 3 tables_1_1 (fun _ h => tb1 h) rfl rfl, by decide +kernel⟩, tg_in 181 tables_1_5 (fun _ h => tb5 h) rfl rfl, tg_p (List.mem_of_getElem? (i := 34) rfl) rfl⟩
theorem mf_X4_waysAhead : MfV yX4_waysAhead cX4_waysAhead 7 (some .long) 2 := ⟨⟨tg_in 178 tables_1_5 (fun _ h => tb5 h) rfl rfl, tg_in 3 tables_1_1 (fun _ h => tb1 h) rfl rfl, by decide +kernel⟩, tg_in 176 tables_1_5 (fun _ h => tb5 h) rfl rfl, tg_in 177 tables_1_5 (fun _ h => tb5 h) rfl rfl⟩
theorem mf_X4_waysFrom : MfV yX4_waysFrom cX4_waysFrom 3 (some .long) 1 := ⟨⟨tg_in 194 tables_1_5 (fun _ h => tb5 h) rfl rfl, tg_in 3 tables_1_1 (fun _ h => tb1 h) rfl rfl, by decide +kernel⟩, tg_in 192 tables_1_5 (fun _ h => tb5 h) rfl rfl, tg_in 193 tables_1_5 (fun _ h => tb5 h) rfl rfl⟩
theorem mf_X5_remember : MfV yX5_remember cX5_remember 2 none 1 := ⟨⟨tg_in 206 tables_1_5 (fun _ h => tb5 h) rfl rfl, tg_in 7 tables_1_1 (fun _ h => tb1 h) rfl rfl, by decide +kernel⟩, tg_in 204 tables_1_5 (fun _ h => tb5 h) rfl rfl, tg_in 205 tables_1_5 (fun _ h => tb5 h) rfl rfl⟩
theorem mf_X7_flip : MfV yX7_flip cX7_flip 3 none 0 := ⟨⟨tg_in 6 tables_1_6 (fun _ h => tb6 h) rfl rfl, tg_in 6 tables_1_1 (fun _ h => tb1 h) rfl rfl, by decide +kernel⟩, tg_in 4 tables_1_6 (fun _ h => tb6 h) rfl rfl, tg_in 5 tables_1_6 (fun _ h => tb6 h) rfl rfl⟩
theorem mf_X5_takeBack : MfV yX5_takeBack cX5_takeBack 2 none 1 := ⟨⟨tg_in 25 tables_1_6 (fun _ h => tb6 h) rfl rfl, tg_in 7 tables_1_1 (fun _ h => tb1 h) rfl rfl, by decide +kernel⟩, tg_in 23 tables_1_6 (fun _ h => tb6 h) rfl rfl, tg_in 24 tables_1_6 (fun _ h => tb6 h) rfl rfl⟩
theorem mf_X10_image : MfV yX10_image cX10_image 1 none 0 := ⟨⟨tg_in 170 tables_1_3 (fun _ h => tb3 h) rfl rfl, tg_in 1 tables_1_1 (fun _ h => tb1 h) rfl rfl, by decide +kernel⟩, tg_in 168 tables_1_3 (fun _ h => tb3 h) rfl rfl, tg_in 169 tables_1_3 (fun _ h => tb3 h) rfl rfl⟩
theorem mf_X10_back : MfV yX10_back cX10_back 1 (some .boolean) 0 := ⟨⟨tg_in 178 tables_1_3 (fun _ h => tb3 h) rfl rfl, tg_in 1 tables_1_1 (fun _ h => tb1 h) rfl rfl, by decide +kernel⟩, tg_in 176 tables_1_3 (fun _ h => tb3 h) rfl rfl, tg_in 177 tables_1_3 (fun _ h => tb3 h) rfl rfl⟩
theorem mf_X10_count : MfV yX10_count cX10_count 2 (some .int) 1 := ⟨⟨tg_in 186 tables_1_3 (fun _ h => tb3 h) rfl rfl, tg_in 1 tables_1_1 (fun _ h => tb1 h) rfl rfl, by decide +kernel⟩, tg_in 184 tables_1_3 (fun _ h => tb3 h) rfl rfl, tg_in 185 tables_1_3 (fun _ h => tb3 h) rfl rfl⟩
theorem mf_X11_clears : MfS yX11_clears cX11_clears 2 none 1 := ⟨⟨tg_in 52 tables_1_6 (fun _ h => tb6 h) rfl rfl, tg_in 14 tables_1_1 (fun _ h => tb1 h) rfl rfl, by decide +kernel⟩, tg_in 51 tables_1_6 (fun _ h => tb6 h) rfl rfl⟩
theorem mf_X11_thrown : MfV yX11_thrown cX11_thrown 1 (some .int) 0 := ⟨⟨tg_in 180 tables_1_6 (fun _ h => tb6 h) rfl rfl, tg_in 14 tables_1_1 (fun _ h => tb1 h) rfl rfl, by decide +kernel⟩, tg_in 178 tables_1_6 (fun _ h => tb6 h) rfl rfl, tg_in 179 tables_1_6 (fun _ h => tb6 h) rfl rfl⟩
theorem mf_X11_isIn : MfS yX11_isIn cX11_isIn 3 (some .boolean) 3 := ⟨⟨tg_in 191 tables_1_6 (fun _ h => tb6 h) rfl rfl, tg_in 14 tables_1_1 (fun _ h => tb1 h) rfl rfl, by decide +kernel⟩, tg_in 190 tables_1_6 (fun _ h => tb6 h) rfl rfl⟩
theorem mf_X11_lesser : MfS yX11_lesser cX11_lesser 2 (some .int) 2 := ⟨⟨tg_in 104 tables_1_7 (fun _ h => tb7 h) rfl rfl, tg_in 14 tables_1_1 (fun _ h => tb1 h) rfl rfl, by decide +kernel⟩, tg_in 103 tables_1_7 (fun _ h => tb7 h) rfl rfl⟩
theorem mf_X11_greater : MfS yX11_greater cX11_greater 2 (some .int) 2 := ⟨⟨tg_in 101 tables_1_7 (fun _ h => tb7 h) rfl rfl, tg_in 14 tables_1_1 (fun _ h => tb1 h) rfl rfl, by decide +kernel⟩, tg_in 100 tables_1_7 (fun _ h => tb7 h) rfl rfl⟩
theorem mf_X11_fingers : MfV yX11_fingers cX11_fingers 1 (some .int) 0 := ⟨⟨tg_in 11 tables_1_7 (fun _ h => tb7 h) rfl rfl, tg_in 14 tables_1_1 (fun _ h => tb1 h) rfl rfl, by decide +kernel⟩, tg_in 10 tables_1_7 (fun _ h => tb7 h) rfl rfl, tg_p (List.mem_of_getElem? (i := 44) rfl) rfl⟩
theorem mf_X11_isFinger : MfV yX11_isFinger cX11_isFinger 2 (some .boolean) 1 := ⟨⟨tg_in 31 tables_1_7 (fun _ h => tb7 h) rfl rfl, tg_in 14 tables_1_1 (fun _ h => tb1 h) rfl rfl, by decide +kernel⟩, tg_in 30 tables_1_7 (fun _ h => tb7 h) rfl rfl, tg_p (List.mem_of_getElem? (i := 46) rfl) rfl⟩
theorem mf_X11_isNet : MfS yX11_isNet cX11_isNet 1 (some .boolean) 1 := ⟨⟨tg_in 135 tables_1_7 (fun _ h => tb7 h) rfl rfl, tg_in 14 tables_1_1 (fun _ h => tb1 h) rfl rfl, by decide +kernel⟩, tg_in 134 tables_1_7 (fun _ h => tb7 h) rfl rfl⟩
theorem mf_X11_of : MfV yX11_of cX11_of 3 (some .int) 2 := ⟨⟨tg_in 51 tables_1_7 (fun _ h => tb7 h) rfl rfl, tg_in 14 tables_1_1 (fun _ h => tb1 h) rfl rfl, by decide +kernel⟩, tg_in 50 tables_1_7 (fun _ h => tb7 h) rfl rfl, tg_p (List.mem_of_getElem? (i := 51) rfl) rfl⟩
theorem mf_X11_side : MfV yX11_side cX11_side 6 (some .int) 4 := ⟨⟨tg_in 47 tables_1_7 (fun _ h => tb7 h) rfl rfl, tg_in 14 tables_1_1 (fun _ h => tb1 h) rfl rfl, by decide +kernel⟩, tg_in 46 tables_1_7 (fun _ h => tb7 h) rfl rfl, tg_p (List.mem_of_getElem? (i := 50) rfl) rfl⟩
theorem mf_X11_meets : MfV yX11_meets cX11_meets 6 (some .boolean) 5 := ⟨⟨tg_in 67 tables_1_7 (fun _ h => tb7 h) rfl rfl, tg_in 14 tables_1_1 (fun _ h => tb1 h) rfl rfl, by decide +kernel⟩, tg_in 66 tables_1_7 (fun _ h => tb7 h) rfl rfl, tg_p (List.mem_of_getElem? (i := 55) rfl) rfl⟩
theorem mf_X11_lacks : MfV yX11_lacks cX11_lacks 5 (some .int) 4 := ⟨⟨tg_in 63 tables_1_7 (fun _ h => tb7 h) rfl rfl, tg_in 14 tables_1_1 (fun _ h => tb1 h) rfl rfl, by decide +kernel⟩, tg_in 62 tables_1_7 (fun _ h => tb7 h) rfl rfl, tg_p (List.mem_of_getElem? (i := 54) rfl) rfl⟩
theorem mf_X11_state : MfS yX11_state cX11_state 3 (some .int) 3 := ⟨⟨tg_in 190 tables_1_7 (fun _ h => tb7 h) rfl rfl, tg_in 14 tables_1_1 (fun _ h => tb1 h) rfl rfl, by decide +kernel⟩, tg_in 189 tables_1_7 (fun _ h => tb7 h) rfl rfl⟩
theorem mf_X11_laysState : MfV yX11_laysState cX11_laysState 12 none 4 := ⟨⟨tg_in 187 tables_1_7 (fun _ h => tb7 h) rfl rfl, tg_in 14 tables_1_1 (fun _ h => tb1 h) rfl rfl, by decide +kernel⟩, tg_in 186 tables_1_7 (fun _ h => tb7 h) rfl rfl, tg_p (List.mem_of_getElem? (i := 78) rfl) rfl⟩
theorem mf_X11_laysAll : MfV yX11_laysAll cX11_laysAll 5 none 1 := ⟨⟨tg_in 183 tables_1_7 (fun _ h => tb7 h) rfl rfl, tg_in 14 tables_1_1 (fun _ h => tb1 h) rfl rfl, by decide +kernel⟩, tg_in 182 tables_1_7 (fun _ h => tb7 h) rfl rfl, tg_p (List.mem_of_getElem? (i := 77) rfl) rfl⟩
theorem mf_X11_laysBest : MfV yX11_laysBest cX11_laysBest 4 none 0 := ⟨⟨tg_in 179 tables_1_7 (fun _ h => tb7 h) rfl rfl, tg_in 14 tables_1_1 (fun _ h => tb1 h) rfl rfl, by decide +kernel⟩, tg_in 178 tables_1_7 (fun _ h => tb7 h) rfl rfl, tg_p (List.mem_of_getElem? (i := 76) rfl) rfl⟩
theorem mf_X11_laysAheadOf : MfV yX11_laysAheadOf cX11_laysAheadOf 10 none 3 := ⟨⟨tg_in 6 tables_1_8 (fun _ h => tb8 h) rfl rfl, tg_in 14 tables_1_1 (fun _ h => tb1 h) rfl rfl, by decide +kernel⟩, tg_in 5 tables_1_8 (fun _ h => tb8 h) rfl rfl, tg_p (List.mem_of_getElem? (i := 85) rfl) rfl⟩
theorem mf_X11_laysAhead : MfV yX11_laysAhead cX11_laysAhead 4 none 0 := ⟨⟨tg_in 2 tables_1_8 (fun _ h => tb8 h) rfl rfl, tg_in 14 tables_1_1 (fun _ h => tb1 h) rfl rfl, by decide +kernel⟩, tg_in 1 tables_1_8 (fun _ h => tb8 h) rfl rfl, tg_p (List.mem_of_getElem? (i := 84) rfl) rfl⟩
theorem mf_X11_tellsBest : MfV yX11_tellsBest cX11_tellsBest 14 none 1 := ⟨⟨tg_in 202 tables_1_7 (fun _ h => tb7 h) rfl rfl, tg_in 14 tables_1_1 (fun _ h => tb1 h) rfl rfl, by decide +kernel⟩, tg_in 201 tables_1_7 (fun _ h => tb7 h) rfl rfl, tg_p (List.mem_of_getElem? (i := 79) rfl) rfl⟩
theorem mf_X11_fingerAt : MfV yX11_fingerAt cX11_fingerAt 2 (some .int) 1 := ⟨⟨tg_in 39 tables_1_7 (fun _ h => tb7 h) rfl rfl, tg_in 14 tables_1_1 (fun _ h => tb1 h) rfl rfl, by decide +kernel⟩, tg_in 38 tables_1_7 (fun _ h => tb7 h) rfl rfl, tg_p (List.mem_of_getElem? (i := 48) rfl) rfl⟩
theorem mf_X11_turnAt : MfV yX11_turnAt cX11_turnAt 2 (some .int) 1 := ⟨⟨tg_in 43 tables_1_7 (fun _ h => tb7 h) rfl rfl, tg_in 14 tables_1_1 (fun _ h => tb1 h) rfl rfl, by decide +kernel⟩, tg_in 42 tables_1_7 (fun _ h => tb7 h) rfl rfl, tg_p (List.mem_of_getElem? (i := 49) rfl) rfl⟩
theorem mf_X11_lackBehind : MfV yX11_lackBehind cX11_lackBehind 2 (some .int) 1 := ⟨⟨tg_in 59 tables_1_7 (fun _ h => tb7 h) rfl rfl, tg_in 14 tables_1_1 (fun _ h => tb1 h) rfl rfl, by decide +kernel⟩, tg_in 58 tables_1_7 (fun _ h => tb7 h) rfl rfl, tg_p (List.mem_of_getElem? (i := 53) rfl) rfl⟩
theorem mf_X11_gapsNow : MfV yX11_gapsNow cX11_gapsNow 3 (some .int) 0 := ⟨⟨tg_in 147 tables_1_7 (fun _ h => tb7 h) rfl rfl, tg_in 14 tables_1_1 (fun _ h => tb1 h) rfl rfl, by decide +kernel⟩, tg_in 146 tables_1_7 (fun _ h => tb7 h) rfl rfl, tg_p (List.mem_of_getElem? (i := 69) rfl) rfl⟩
theorem mf_X11_breaksNow : MfV yX11_breaksNow cX11_breaksNow 3 (some .int) 0 := ⟨⟨tg_in 151 tables_1_7 (fun _ h => tb7 h) rfl rfl, tg_in 14 tables_1_1 (fun _ h => tb1 h) rfl rfl, by decide +kernel⟩, tg_in 150 tables_1_7 (fun _ h => tb7 h) rfl rfl, tg_p (List.mem_of_getElem? (i := 70) rfl) rfl⟩
theorem mf_X11_laysColumn : MfV yX11_laysColumn cX11_laysColumn 5 none 4 := ⟨⟨tg_in 55 tables_1_7 (fun _ h => tb7 h) rfl rfl, tg_in 14 tables_1_1 (fun _ h => tb1 h) rfl rfl, by decide +kernel⟩, tg_in 54 tables_1_7 (fun _ h => tb7 h) rfl rfl, tg_p (List.mem_of_getElem? (i := 52) rfl) rfl⟩
theorem mf_X11_laysNet : MfV yX11_laysNet cX11_laysNet 3 none 1 := ⟨⟨tg_in 71 tables_1_7 (fun _ h => tb7 h) rfl rfl, tg_in 14 tables_1_1 (fun _ h => tb1 h) rfl rfl, by decide +kernel⟩, tg_in 70 tables_1_7 (fun _ h => tb7 h) rfl rfl, tg_p (List.mem_of_getElem? (i := 56) rfl) rfl⟩
theorem mf_X11_laysColumns : MfV yX11_laysColumns cX11_laysColumns 5 none 0 := ⟨⟨tg_in 35 tables_1_7 (fun _ h => tb7 h) rfl rfl, tg_in 14 tables_1_1 (fun _ h => tb1 h) rfl rfl, by decide +kernel⟩, tg_in 34 tables_1_7 (fun _ h => tb7 h) rfl rfl, tg_p (List.mem_of_getElem? (i := 47) rfl) rfl⟩
theorem mf_X11_beyond : MfV yX11_beyond cX11_beyond 3 (some .int) 2 := ⟨⟨tg_in 98 tables_1_7 (fun _ h => tb7 h) rfl rfl, tg_in 14 tables_1_1 (fun _ h => tb1 h) rfl rfl, by decide +kernel⟩, tg_in 97 tables_1_7 (fun _ h => tb7 h) rfl rfl, tg_p (List.mem_of_getElem? (i := 61) rfl) rfl⟩
theorem mf_X11_has : MfS yX11_has cX11_has 2 (some .boolean) 2 := ⟨⟨tg_in 238 tables_1_6 (fun _ h => tb6 h) rfl rfl, tg_in 14 tables_1_1 (fun _ h => tb1 h) rfl rfl, by decide +kernel⟩, tg_in 237 tables_1_6 (fun _ h => tb6 h) rfl rfl⟩
theorem mf_X11_restOf : MfV yX11_restOf cX11_restOf 6 (some .int) 2 := ⟨⟨tg_in 94 tables_1_7 (fun _ h => tb7 h) rfl rfl, tg_in 14 tables_1_1 (fun _ h => tb1 h) rfl rfl, by decide +kernel⟩, tg_in 93 tables_1_7 (fun _ h => tb7 h) rfl rfl, tg_p (List.mem_of_getElem? (i := 60) rfl) rfl⟩
theorem mf_X11_laysPins : MfV yX11_laysPins cX11_laysPins 6 none 0 := ⟨⟨tg_in 90 tables_1_7 (fun _ h => tb7 h) rfl rfl, tg_in 14 tables_1_1 (fun _ h => tb1 h) rfl rfl, by decide +kernel⟩, tg_in 89 tables_1_7 (fun _ h => tb7 h) rfl rfl, tg_p (List.mem_of_getElem? (i := 59) rfl) rfl⟩
theorem mf_X11_hasWire : MfV yX11_hasWire cX11_hasWire 2 (some .boolean) 1 := ⟨⟨tg_in 124 tables_1_7 (fun _ h => tb7 h) rfl rfl, tg_in 14 tables_1_1 (fun _ h => tb1 h) rfl rfl, by decide +kernel⟩, tg_in 123 tables_1_7 (fun _ h => tb7 h) rfl rfl, tg_p (List.mem_of_getElem? (i := 66) rfl) rfl⟩
theorem mf_X11_laysWire : MfV yX11_laysWire cX11_laysWire 4 none 1 := ⟨⟨tg_in 108 tables_1_7 (fun _ h => tb7 h) rfl rfl, tg_in 14 tables_1_1 (fun _ h => tb1 h) rfl rfl, by decide +kernel⟩, tg_in 107 tables_1_7 (fun _ h => tb7 h) rfl rfl, tg_p (List.mem_of_getElem? (i := 62) rfl) rfl⟩
theorem mf_X11_crosses : MfV yX11_crosses cX11_crosses 4 (some .boolean) 3 := ⟨⟨tg_in 120 tables_1_7 (fun _ h => tb7 h) rfl rfl, tg_in 14 tables_1_1 (fun _ h => tb1 h) rfl rfl, by decide +kernel⟩, tg_in 119 tables_1_7 (fun _ h => tb7 h) rfl rfl, tg_p (List.mem_of_getElem? (i := 65) rfl) rfl⟩
theorem mf_X11_isFree : MfV yX11_isFree cX11_isFree 5 (some .boolean) 2 := ⟨⟨tg_in 116 tables_1_7 (fun _ h => tb7 h) rfl rfl, tg_in 14 tables_1_1 (fun _ h => tb1 h) rfl rfl, by decide +kernel⟩, tg_in 115 tables_1_7 (fun _ h => tb7 h) rfl rfl, tg_p (List.mem_of_getElem? (i := 64) rfl) rfl⟩
theorem mf_X11_laysTracks : MfV yX11_laysTracks cX11_laysTracks 4 none 0 := ⟨⟨tg_in 112 tables_1_7 (fun _ h => tb7 h) rfl rfl, tg_in 14 tables_1_1 (fun _ h => tb1 h) rfl rfl, by decide +kernel⟩, tg_in 111 tables_1_7 (fun _ h => tb7 h) rfl rfl, tg_p (List.mem_of_getElem? (i := 63) rfl) rfl⟩
theorem mf_X11_laysOut : MfV yX11_laysOut cX11_laysOut 2 none 0 := ⟨⟨tg_in 86 tables_1_7 (fun _ h => tb7 h) rfl rfl, tg_in 14 tables_1_1 (fun _ h => tb1 h) rfl rfl, by decide +kernel⟩, tg_in 85 tables_1_7 (fun _ h => tb7 h) rfl rfl, tg_p (List.mem_of_getElem? (i := 58) rfl) rfl⟩
theorem mf_X11_cut : MfV yX11_cut cX11_cut 4 (some .int) 1 := ⟨⟨tg_in 128 tables_1_7 (fun _ h => tb7 h) rfl rfl, tg_in 14 tables_1_1 (fun _ h => tb1 h) rfl rfl, by decide +kernel⟩, tg_in 127 tables_1_7 (fun _ h => tb7 h) rfl rfl, tg_p (List.mem_of_getElem? (i := 67) rfl) rfl⟩
theorem mf_X11_worst : MfV yX11_worst cX11_worst 4 (some .int) 0 := ⟨⟨tg_in 159 tables_1_7 (fun _ h => tb7 h) rfl rfl, tg_in 14 tables_1_1 (fun _ h => tb1 h) rfl rfl, by decide +kernel⟩, tg_in 158 tables_1_7 (fun _ h => tb7 h) rfl rfl, tg_p (List.mem_of_getElem? (i := 72) rfl) rfl⟩
theorem mf_X11_wires : MfV yX11_wires cX11_wires 3 (some .int) 0 := ⟨⟨tg_in 155 tables_1_7 (fun _ h => tb7 h) rfl rfl, tg_in 14 tables_1_1 (fun _ h => tb1 h) rfl rfl, by decide +kernel⟩, tg_in 154 tables_1_7 (fun _ h => tb7 h) rfl rfl, tg_p (List.mem_of_getElem? (i := 71) rfl) rfl⟩
theorem mf_X11_tracks : MfV yX11_tracks cX11_tracks 3 (some .int) 0 := ⟨⟨tg_in 143 tables_1_7 (fun _ h => tb7 h) rfl rfl, tg_in 14 tables_1_1 (fun _ h => tb1 h) rfl rfl, by decide +kernel⟩, tg_in 142 tables_1_7 (fun _ h => tb7 h) rfl rfl, tg_p (List.mem_of_getElem? (i := 68) rfl) rfl⟩
theorem mf_X11_lost : MfV yX11_lost cX11_lost 3 (some .int) 0 := ⟨⟨tg_in 163 tables_1_7 (fun _ h => tb7 h) rfl rfl, tg_in 14 tables_1_1 (fun _ h => tb1 h) rfl rfl, by decide +kernel⟩, tg_in 162 tables_1_7 (fun _ h => tb7 h) rfl rfl, tg_p (List.mem_of_getElem? (i := 73) rfl) rfl⟩
theorem mf_X11_length : MfV yX11_length cX11_length 3 (some .int) 0 := ⟨⟨tg_in 167 tables_1_7 (fun _ h => tb7 h) rfl rfl, tg_in 14 tables_1_1 (fun _ h => tb1 h) rfl rfl, by decide +kernel⟩, tg_in 166 tables_1_7 (fun _ h => tb7 h) rfl rfl, tg_p (List.mem_of_getElem? (i := 74) rfl) rfl⟩
theorem mf_X11_isSame : MfV yX11_isSame cX11_isSame 3 (some .boolean) 0 := ⟨⟨tg_in 171 tables_1_7 (fun _ h => tb7 h) rfl rfl, tg_in 14 tables_1_1 (fun _ h => tb1 h) rfl rfl, by decide +kernel⟩, tg_in 170 tables_1_7 (fun _ h => tb7 h) rfl rfl, tg_p (List.mem_of_getElem? (i := 75) rfl) rfl⟩
theorem mf_X11_feed : MfV yX11_feed cX11_feed 8 (some .int) 5 := ⟨⟨tg_in 184 tables_1_6 (fun _ h => tb6 h) rfl rfl, tg_in 14 tables_1_1 (fun _ h => tb1 h) rfl rfl, by decide +kernel⟩, tg_in 182 tables_1_6 (fun _ h => tb6 h) rfl rfl, tg_in 183 tables_1_6 (fun _ h => tb6 h) rfl rfl⟩
theorem mf_X11_end : MfV yX11_end cX11_end 2 (some .boolean) 1 := ⟨⟨tg_in 188 tables_1_6 (fun _ h => tb6 h) rfl rfl, tg_in 14 tables_1_1 (fun _ h => tb1 h) rfl rfl, by decide +kernel⟩, tg_in 186 tables_1_6 (fun _ h => tb6 h) rfl rfl, tg_in 187 tables_1_6 (fun _ h => tb6 h) rfl rfl⟩
theorem mf_X11_here : MfV yX11_here cX11_here 1 (some .int) 0 := ⟨⟨tg_in 208 tables_1_6 (fun _ h => tb6 h) rfl rfl, tg_in 14 tables_1_1 (fun _ h => tb1 h) rfl rfl, by decide +kernel⟩, tg_in 207 tables_1_6 (fun _ h => tb6 h) rfl rfl, tg_p (List.mem_of_getElem? (i := 37) rfl) rfl⟩
theorem mf_X11_wrong : MfV yX11_wrong cX11_wrong 2 none 1 := ⟨⟨tg_in 214 tables_1_6 (fun _ h => tb6 h) rfl rfl, tg_in 14 tables_1_1 (fun _ h => tb1 h) rfl rfl, by decide +kernel⟩, tg_in 213 tables_1_6 (fun _ h => tb6 h) rfl rfl, tg_p (List.mem_of_getElem? (i := 38) rfl) rfl⟩
theorem mf_X11_has_ : MfV yX11_has_ cX11_has_ 4 (some .boolean) 1 := ⟨⟨tg_in 204 tables_1_6 (fun _ h => tb6 h) rfl rfl, tg_in 14 tables_1_1 (fun _ h => tb1 h) rfl rfl, by decide +kernel⟩, tg_in 203 tables_1_6 (fun _ h => tb6 h) rfl rfl, tg_p (List.mem_of_getElem? (i := 36) rfl) rfl⟩
theorem mf_X11_expects : MfV yX11_expects cX11_expects 2 none 1 := ⟨⟨tg_in 200 tables_1_6 (fun _ h => tb6 h) rfl rfl, tg_in 14 tables_1_1 (fun _ h => tb1 h) rfl rfl, by decide +kernel⟩, tg_in 199 tables_1_6 (fun _ h => tb6 h) rfl rfl, tg_p (List.mem_of_getElem? (i := 35) rfl) rfl⟩
theorem mf_X11_number : MfV yX11_number cX11_number 5 (some .int) 2 := ⟨⟨tg_in 218 tables_1_6 (fun _ h => tb6 h) rfl rfl, tg_in 14 tables_1_1 (fun _ h => tb1 h) rfl rfl, by decide +kernel⟩, tg_in 217 tables_1_6 (fun _ h => tb6 h) rfl rfl, tg_p (List.mem_of_getElem? (i := 39) rfl) rfl⟩
theorem mf_X11_pairLine : MfV yX11_pairLine cX11_pairLine 5 none 1 := ⟨⟨tg_in 227 tables_1_6 (fun _ h => tb6 h) rfl rfl, tg_in 14 tables_1_1 (fun _ h => tb1 h) rfl rfl, by decide +kernel⟩, tg_in 226 tables_1_6 (fun _ h => tb6 h) rfl rfl, tg_p (List.mem_of_getElem? (i := 41) rfl) rfl⟩
theorem mf_X11_netLine : MfV yX11_netLine cX11_netLine 4 none 1 := ⟨⟨tg_in 235 tables_1_6 (fun _ h => tb6 h) rfl rfl, tg_in 14 tables_1_1 (fun _ h => tb1 h) rfl rfl, by decide +kernel⟩, tg_in 234 tables_1_6 (fun _ h => tb6 h) rfl rfl, tg_p (List.mem_of_getElem? (i := 42) rfl) rfl⟩
theorem mf_X11_members : MfS yX11_members cX11_members 3 (some .int) 1 := ⟨⟨tg_in 2 tables_1_7 (fun _ h => tb7 h) rfl rfl, tg_in 14 tables_1_1 (fun _ h => tb1 h) rfl rfl, by decide +kernel⟩, tg_in 1 tables_1_7 (fun _ h => tb7 h) rfl rfl⟩
theorem mf_X11_blockLine : MfV yX11_blockLine cX11_blockLine 3 none 1 := ⟨⟨tg_in 7 tables_1_7 (fun _ h => tb7 h) rfl rfl, tg_in 14 tables_1_1 (fun _ h => tb1 h) rfl rfl, by decide +kernel⟩, tg_in 6 tables_1_7 (fun _ h => tb7 h) rfl rfl, tg_p (List.mem_of_getElem? (i := 43) rfl) rfl⟩
theorem mf_X11_line : MfV yX11_line cX11_line 2 none 0 := ⟨⟨tg_in 222 tables_1_6 (fun _ h => tb6 h) rfl rfl, tg_in 14 tables_1_1 (fun _ h => tb1 h) rfl rfl, by decide +kernel⟩, tg_in 221 tables_1_6 (fun _ h => tb6 h) rfl rfl, tg_p (List.mem_of_getElem? (i := 40) rfl) rfl⟩
theorem mf_X11_cell : MfV yX11_cell cX11_cell 2 (some .int) 0 := ⟨⟨tg_in 195 tables_1_6 (fun _ h => tb6 h) rfl rfl, tg_in 14 tables_1_1 (fun _ h => tb1 h) rfl rfl, by decide +kernel⟩, tg_in 193 tables_1_6 (fun _ h => tb6 h) rfl rfl, tg_in 194 tables_1_6 (fun _ h => tb6 h) rfl rfl⟩
theorem mf_X11_fault : MfV yX11_fault cX11_fault 1 (some .int) 0 := ⟨⟨tg_in 15 tables_1_7 (fun _ h => tb7 h) rfl rfl, tg_in 14 tables_1_1 (fun _ h => tb1 h) rfl rfl, by decide +kernel⟩, tg_in 13 tables_1_7 (fun _ h => tb7 h) rfl rfl, tg_in 14 tables_1_7 (fun _ h => tb7 h) rfl rfl⟩
theorem mf_X11_fingersOf : MfV yX11_fingersOf cX11_fingersOf 4 (some .int) 1 := ⟨⟨tg_in 23 tables_1_7 (fun _ h => tb7 h) rfl rfl, tg_in 14 tables_1_1 (fun _ h => tb1 h) rfl rfl, by decide +kernel⟩, tg_in 22 tables_1_7 (fun _ h => tb7 h) rfl rfl, tg_p (List.mem_of_getElem? (i := 45) rfl) rfl⟩
theorem mf_X11_pair : MfV yX11_pair cX11_pair 3 (some .int) 2 := ⟨⟨tg_in 19 tables_1_7 (fun _ h => tb7 h) rfl rfl, tg_in 14 tables_1_1 (fun _ h => tb1 h) rfl rfl, by decide +kernel⟩, tg_in 17 tables_1_7 (fun _ h => tb7 h) rfl rfl, tg_in 18 tables_1_7 (fun _ h => tb7 h) rfl rfl⟩
theorem mf_X11_areLike : MfS yX11_areLike cX11_areLike 4 (some .boolean) 4 := ⟨⟨tg_in 78 tables_1_7 (fun _ h => tb7 h) rfl rfl, tg_in 14 tables_1_1 (fun _ h => tb1 h) rfl rfl, by decide +kernel⟩, tg_in 77 tables_1_7 (fun _ h => tb7 h) rfl rfl⟩
theorem mf_X11_isReadBack : MfV yX11_isReadBack cX11_isReadBack 4 (some .boolean) 1 := ⟨⟨tg_in 75 tables_1_7 (fun _ h => tb7 h) rfl rfl, tg_in 14 tables_1_1 (fun _ h => tb1 h) rfl rfl, by decide +kernel⟩, tg_in 74 tables_1_7 (fun _ h => tb7 h) rfl rfl, tg_p (List.mem_of_getElem? (i := 57) rfl) rfl⟩
theorem mf_X11_at : MfV yX11_at cX11_at 3 (some .int) 2 := ⟨⟨tg_in 27 tables_1_7 (fun _ h => tb7 h) rfl rfl, tg_in 14 tables_1_1 (fun _ h => tb1 h) rfl rfl, by decide +kernel⟩, tg_in 25 tables_1_7 (fun _ h => tb7 h) rfl rfl, tg_in 26 tables_1_7 (fun _ h => tb7 h) rfl rfl⟩
theorem mf_X11_column : MfV yX11_column cX11_column 3 (some .int) 2 := ⟨⟨tg_in 82 tables_1_7 (fun _ h => tb7 h) rfl rfl, tg_in 14 tables_1_1 (fun _ h => tb1 h) rfl rfl, by decide +kernel⟩, tg_in 80 tables_1_7 (fun _ h => tb7 h) rfl rfl, tg_in 81 tables_1_7 (fun _ h => tb7 h) rfl rfl⟩
theorem mf_X11_net : MfV yX11_net cX11_net 3 (some .int) 2 := ⟨⟨tg_in 132 tables_1_7 (fun _ h => tb7 h) rfl rfl, tg_in 14 tables_1_1 (fun _ h => tb1 h) rfl rfl, by decide +kernel⟩, tg_in 130 tables_1_7 (fun _ h => tb7 h) rfl rfl, tg_in 131 tables_1_7 (fun _ h => tb7 h) rfl rfl⟩
theorem mf_X11_layout : MfV yX11_layout cX11_layout 3 (some .int) 1 := ⟨⟨tg_in 139 tables_1_7 (fun _ h => tb7 h) rfl rfl, tg_in 14 tables_1_1 (fun _ h => tb1 h) rfl rfl, by decide +kernel⟩, tg_in 137 tables_1_7 (fun _ h => tb7 h) rfl rfl, tg_in 138 tables_1_7 (fun _ h => tb7 h) rfl rfl⟩
theorem mf_X11_least : MfV yX11_least cX11_least 1 (some .int) 0 := ⟨⟨tg_in 175 tables_1_7 (fun _ h => tb7 h) rfl rfl, tg_in 14 tables_1_1 (fun _ h => tb1 h) rfl rfl, by decide +kernel⟩, tg_in 173 tables_1_7 (fun _ h => tb7 h) rfl rfl, tg_in 174 tables_1_7 (fun _ h => tb7 h) rfl rfl⟩
theorem mf_X11_many : MfV yX11_many cX11_many 1 (some .long) 0 := ⟨⟨tg_in 194 tables_1_7 (fun _ h => tb7 h) rfl rfl, tg_in 14 tables_1_1 (fun _ h => tb1 h) rfl rfl, by decide +kernel⟩, tg_in 192 tables_1_7 (fun _ h => tb7 h) rfl rfl, tg_in 193 tables_1_7 (fun _ h => tb7 h) rfl rfl⟩
theorem mf_X11_best : MfV yX11_best cX11_best 5 (some .int) 3 := ⟨⟨tg_in 198 tables_1_7 (fun _ h => tb7 h) rfl rfl, tg_in 14 tables_1_1 (fun _ h => tb1 h) rfl rfl, by decide +kernel⟩, tg_in 196 tables_1_7 (fun _ h => tb7 h) rfl rfl, tg_in 197 tables_1_7 (fun _ h => tb7 h) rfl rfl⟩
theorem mf_X11_calm : MfV yX11_calm cX11_calm 1 (some .int) 0 := ⟨⟨tg_in 206 tables_1_7 (fun _ h => tb7 h) rfl rfl, tg_in 14 tables_1_1 (fun _ h => tb1 h) rfl rfl, by decide +kernel⟩, tg_in 204 tables_1_7 (fun _ h => tb7 h) rfl rfl, tg_in 205 tables_1_7 (fun _ h => tb7 h) rfl rfl⟩
theorem mf_X11_with : MfV yX11_with cX11_with 5 (some .int) 2 := ⟨⟨tg_in 210 tables_1_7 (fun _ h => tb7 h) rfl rfl, tg_in 14 tables_1_1 (fun _ h => tb1 h) rfl rfl, by decide +kernel⟩, tg_in 208 tables_1_7 (fun _ h => tb7 h) rfl rfl, tg_in 209 tables_1_7 (fun _ h => tb7 h) rfl rfl⟩
theorem mf_X11_tiedTo : MfV yX11_tiedTo cX11_tiedTo 7 (some .int) 2 := ⟨⟨tg_in 226 tables_1_7 (fun _ h => tb7 h) rfl rfl, tg_in 14 tables_1_1 (fun _ h => tb1 h) rfl rfl, by decide +kernel⟩, tg_in 225 tables_1_7 (fun _ h => tb7 h) rfl rfl, tg_p (List.mem_of_getElem? (i := 82) rfl) rfl⟩
theorem mf_X11_timesOf : MfV yX11_timesOf cX11_timesOf 5 (some .int) 2 := ⟨⟨tg_in 222 tables_1_7 (fun _ h => tb7 h) rfl rfl, tg_in 14 tables_1_1 (fun _ h => tb1 h) rfl rfl, by decide +kernel⟩, tg_in 221 tables_1_7 (fun _ h => tb7 h) rfl rfl, tg_p (List.mem_of_getElem? (i := 81) rfl) rfl⟩
theorem mf_X11_bound0 : MfV yX11_bound0 cX11_bound0 8 (some .int) 1 := ⟨⟨tg_in 218 tables_1_7 (fun _ h => tb7 h) rfl rfl, tg_in 14 tables_1_1 (fun _ h => tb1 h) rfl rfl, by decide +kernel⟩, tg_in 217 tables_1_7 (fun _ h => tb7 h) rfl rfl, tg_p (List.mem_of_getElem? (i := 80) rfl) rfl⟩
theorem mf_X11_bound : MfV yX11_bound cX11_bound 2 (some .int) 1 := ⟨⟨tg_in 214 tables_1_7 (fun _ h => tb7 h) rfl rfl, tg_in 14 tables_1_1 (fun _ h => tb1 h) rfl rfl, by decide +kernel⟩, tg_in 212 tables_1_7 (fun _ h => tb7 h) rfl rfl, tg_in 213 tables_1_7 (fun _ h => tb7 h) rfl rfl⟩
theorem mf_X11_agrees : MfV yX11_agrees cX11_agrees 1 (some .boolean) 0 := ⟨⟨tg_in 230 tables_1_7 (fun _ h => tb7 h) rfl rfl, tg_in 14 tables_1_1 (fun _ h => tb1 h) rfl rfl, by decide +kernel⟩, tg_in 228 tables_1_7 (fun _ h => tb7 h) rfl rfl, tg_in 229 tables_1_7 (fun _ h => tb7 h) rfl rfl⟩
theorem mf_X11_gapsOf : MfV yX11_gapsOf cX11_gapsOf 5 (some .int) 1 := ⟨⟨tg_in 10 tables_1_8 (fun _ h => tb8 h) rfl rfl, tg_in 14 tables_1_1 (fun _ h => tb1 h) rfl rfl, by decide +kernel⟩, tg_in 9 tables_1_8 (fun _ h => tb8 h) rfl rfl, tg_p (List.mem_of_getElem? (i := 86) rfl) rfl⟩
theorem mf_X11_everyFinger : MfV yX11_everyFinger cX11_everyFinger 1 (some .int) 0 := ⟨⟨tg_in 238 tables_1_7 (fun _ h => tb7 h) rfl rfl, tg_in 14 tables_1_1 (fun _ h => tb1 h) rfl rfl, by decide +kernel⟩, tg_in 237 tables_1_7 (fun _ h => tb7 h) rfl rfl, tg_p (List.mem_of_getElem? (i := 83) rfl) rfl⟩
theorem mf_X11_ofSet : MfV yX11_ofSet cX11_ofSet 2 (some .int) 1 := ⟨⟨tg_in 234 tables_1_7 (fun _ h => tb7 h) rfl rfl, tg_in 14 tables_1_1 (fun _ h => tb1 h) rfl rfl, by decide +kernel⟩, tg_in 232 tables_1_7 (fun _ h => tb7 h) rfl rfl, tg_in 233 tables_1_7 (fun _ h => tb7 h) rfl rfl⟩
theorem mf_X11_parted : MfV yX11_parted cX11_parted 7 (some .int) 2 := ⟨⟨tg_in 14 tables_1_8 (fun _ h => tb8 h) rfl rfl, tg_in 14 tables_1_1 (fun _ h => tb1 h) rfl rfl, by decide +kernel⟩, tg_in 12 tables_1_8 (fun _ h => tb8 h) rfl rfl, tg_in 13 tables_1_8 (fun _ h => tb8 h) rfl rfl⟩
theorem mf_X11_dearest : MfV yX11_dearest cX11_dearest 5 (some .int) 0 := ⟨⟨tg_in 18 tables_1_8 (fun _ h => tb8 h) rfl rfl, tg_in 14 tables_1_1 (fun _ h => tb1 h) rfl rfl, by decide +kernel⟩, tg_in 16 tables_1_8 (fun _ h => tb8 h) rfl rfl, tg_in 17 tables_1_8 (fun _ h => tb8 h) rfl rfl⟩
theorem mf_X11_canJoin : MfV yX11_canJoin cX11_canJoin 4 (some .boolean) 2 := ⟨⟨tg_in 26 tables_1_8 (fun _ h => tb8 h) rfl rfl, tg_in 14 tables_1_1 (fun _ h => tb1 h) rfl rfl, by decide +kernel⟩, tg_in 25 tables_1_8 (fun _ h => tb8 h) rfl rfl, tg_p (List.mem_of_getElem? (i := 87) rfl) rfl⟩
theorem mf_X11_ties : MfV yX11_ties cX11_ties 4 (some .int) 0 := ⟨⟨tg_in 22 tables_1_8 (fun _ h => tb8 h) rfl rfl, tg_in 14 tables_1_1 (fun _ h => tb1 h) rfl rfl, by decide +kernel⟩, tg_in 20 tables_1_8 (fun _ h => tb8 h) rfl rfl, tg_in 21 tables_1_8 (fun _ h => tb8 h) rfl rfl⟩
theorem mf_X11_lonely : MfV yX11_lonely cX11_lonely 5 (some .int) 0 := ⟨⟨tg_in 30 tables_1_8 (fun _ h => tb8 h) rfl rfl, tg_in 14 tables_1_1 (fun _ h => tb1 h) rfl rfl, by decide +kernel⟩, tg_in 28 tables_1_8 (fun _ h => tb8 h) rfl rfl, tg_in 29 tables_1_8 (fun _ h => tb8 h) rfl rfl⟩
theorem mf_X11_copies : MfV yX11_copies cX11_copies 6 none 4 := ⟨⟨tg_in 42 tables_1_8 (fun _ h => tb8 h) rfl rfl, tg_in 14 tables_1_1 (fun _ h => tb1 h) rfl rfl, by decide +kernel⟩, tg_in 41 tables_1_8 (fun _ h => tb8 h) rfl rfl, tg_p (List.mem_of_getElem? (i := 89) rfl) rfl⟩
theorem mf_X11_remembers : MfV yX11_remembers cX11_remembers 2 none 0 := ⟨⟨tg_in 38 tables_1_8 (fun _ h => tb8 h) rfl rfl, tg_in 14 tables_1_1 (fun _ h => tb1 h) rfl rfl, by decide +kernel⟩, tg_in 37 tables_1_8 (fun _ h => tb8 h) rfl rfl, tg_p (List.mem_of_getElem? (i := 88) rfl) rfl⟩
theorem mf_X11_moves : MfV yX11_moves cX11_moves 7 none 2 := ⟨⟨tg_in 50 tables_1_8 (fun _ h => tb8 h) rfl rfl, tg_in 14 tables_1_1 (fun _ h => tb1 h) rfl rfl, by decide +kernel⟩, tg_in 49 tables_1_8 (fun _ h => tb8 h) rfl rfl, tg_p (List.mem_of_getElem? (i := 90) rfl) rfl⟩
theorem mf_X11_turn : MfV yX11_turn cX11_turn 4 (some .int) 2 := ⟨⟨tg_in 34 tables_1_8 (fun _ h => tb8 h) rfl rfl, tg_in 14 tables_1_1 (fun _ h => tb1 h) rfl rfl, by decide +kernel⟩, tg_in 32 tables_1_8 (fun _ h => tb8 h) rfl rfl, tg_in 33 tables_1_8 (fun _ h => tb8 h) rfl rfl⟩
theorem mf_X11_move : MfV yX11_move cX11_move 3 (some .int) 2 := ⟨⟨tg_in 46 tables_1_8 (fun _ h => tb8 h) rfl rfl, tg_in 14 tables_1_1 (fun _ h => tb1 h) rfl rfl, by decide +kernel⟩, tg_in 44 tables_1_8 (fun _ h => tb8 h) rfl rfl, tg_in 45 tables_1_8 (fun _ h => tb8 h) rfl rfl⟩
theorem mf_X11_laysTold : MfV yX11_laysTold cX11_laysTold 2 none 0 := ⟨⟨tg_in 58 tables_1_8 (fun _ h => tb8 h) rfl rfl, tg_in 14 tables_1_1 (fun _ h => tb1 h) rfl rfl, by decide +kernel⟩, tg_in 57 tables_1_8 (fun _ h => tb8 h) rfl rfl, tg_p (List.mem_of_getElem? (i := 91) rfl) rfl⟩
theorem mf_X11_mirror : MfV yX11_mirror cX11_mirror 2 (some .int) 0 := ⟨⟨tg_in 54 tables_1_8 (fun _ h => tb8 h) rfl rfl, tg_in 14 tables_1_1 (fun _ h => tb1 h) rfl rfl, by decide +kernel⟩, tg_in 52 tables_1_8 (fun _ h => tb8 h) rfl rfl, tg_in 53 tables_1_8 (fun _ h => tb8 h) rfl rfl⟩
theorem mf_X11_lay : MfV yX11_lay cX11_lay 3 (some .int) 1 := ⟨⟨tg_in 62 tables_1_8 (fun _ h => tb8 h) rfl rfl, tg_in 14 tables_1_1 (fun _ h => tb1 h) rfl rfl, by decide +kernel⟩, tg_in 60 tables_1_8 (fun _ h => tb8 h) rfl rfl, tg_in 61 tables_1_8 (fun _ h => tb8 h) rfl rfl⟩
theorem mf_X11_undo : MfV yX11_undo cX11_undo 1 (some .int) 0 := ⟨⟨tg_in 66 tables_1_8 (fun _ h => tb8 h) rfl rfl, tg_in 14 tables_1_1 (fun _ h => tb1 h) rfl rfl, by decide +kernel⟩, tg_in 64 tables_1_8 (fun _ h => tb8 h) rfl rfl, tg_in 65 tables_1_8 (fun _ h => tb8 h) rfl rfl⟩
theorem mf_X11_tries : MfV yX11_tries cX11_tries 5 none 3 := ⟨⟨tg_in 74 tables_1_8 (fun _ h => tb8 h) rfl rfl, tg_in 14 tables_1_1 (fun _ h => tb1 h) rfl rfl, by decide +kernel⟩, tg_in 73 tables_1_8 (fun _ h => tb8 h) rfl rfl, tg_p (List.mem_of_getElem? (i := 92) rfl) rfl⟩
theorem mf_X11_better : MfV yX11_better cX11_better 4 (some .int) 1 := ⟨⟨tg_in 70 tables_1_8 (fun _ h => tb8 h) rfl rfl, tg_in 14 tables_1_1 (fun _ h => tb1 h) rfl rfl, by decide +kernel⟩, tg_in 68 tables_1_8 (fun _ h => tb8 h) rfl rfl, tg_in 69 tables_1_8 (fun _ h => tb8 h) rfl rfl⟩
theorem mf_X11_shortest : MfV yX11_shortest cX11_shortest 6 (some .int) 2 := ⟨⟨tg_in 78 tables_1_8 (fun _ h => tb8 h) rfl rfl, tg_in 14 tables_1_1 (fun _ h => tb1 h) rfl rfl, by decide +kernel⟩, tg_in 76 tables_1_8 (fun _ h => tb8 h) rfl rfl, tg_in 77 tables_1_8 (fun _ h => tb8 h) rfl rfl⟩
theorem mf_X11_aheadOf : MfV yX11_aheadOf cX11_aheadOf 10 (some .long) 2 := ⟨⟨tg_in 86 tables_1_8 (fun _ h => tb8 h) rfl rfl, tg_in 14 tables_1_1 (fun _ h => tb1 h) rfl rfl, by decide +kernel⟩, tg_in 85 tables_1_8 (fun _ h => tb8 h) rfl rfl, tg_p (List.mem_of_getElem? (i := 93) rfl) rfl⟩
theorem mf_X11_neighbours : MfV yX11_neighbours cX11_neighbours 3 (some .long) 2 := ⟨⟨tg_in 82 tables_1_8 (fun _ h => tb8 h) rfl rfl, tg_in 14 tables_1_1 (fun _ h => tb1 h) rfl rfl, by decide +kernel⟩, tg_in 80 tables_1_8 (fun _ h => tb8 h) rfl rfl, tg_in 81 tables_1_8 (fun _ h => tb8 h) rfl rfl⟩
theorem mf_X11_starts : MfV yX11_starts cX11_starts 6 (some .long) 1 := ⟨⟨tg_in 90 tables_1_8 (fun _ h => tb8 h) rfl rfl, tg_in 14 tables_1_1 (fun _ h => tb1 h) rfl rfl, by decide +kernel⟩, tg_in 88 tables_1_8 (fun _ h => tb8 h) rfl rfl, tg_in 89 tables_1_8 (fun _ h => tb8 h) rfl rfl⟩
theorem mf_X11_fits : MfV yX11_fits cX11_fits 3 (some .int) 2 := ⟨⟨tg_in 94 tables_1_8 (fun _ h => tb8 h) rfl rfl, tg_in 14 tables_1_1 (fun _ h => tb1 h) rfl rfl, by decide +kernel⟩, tg_in 92 tables_1_8 (fun _ h => tb8 h) rfl rfl, tg_in 93 tables_1_8 (fun _ h => tb8 h) rfl rfl⟩
theorem mf_X11_room : MfV yX11_room cX11_room 4 (some .int) 1 := ⟨⟨tg_in 98 tables_1_8 (fun _ h => tb8 h) rfl rfl, tg_in 14 tables_1_1 (fun _ h => tb1 h) rfl rfl, by decide +kernel⟩, tg_in 96 tables_1_8 (fun _ h => tb8 h) rfl rfl, tg_in 97 tables_1_8 (fun _ h => tb8 h) rfl rfl⟩
theorem mf_X11_image : MfV yX11_image cX11_image 2 none 0 := ⟨⟨tg_in 102 tables_1_8 (fun _ h => tb8 h) rfl rfl, tg_in 14 tables_1_1 (fun _ h => tb1 h) rfl rfl, by decide +kernel⟩, tg_in 100 tables_1_8 (fun _ h => tb8 h) rfl rfl, tg_in 101 tables_1_8 (fun _ h => tb8 h) rfl rfl⟩
theorem mf_X11_back : MfV yX11_back cX11_back 2 (some .boolean) 0 := ⟨⟨tg_in 106 tables_1_8 (fun _ h => tb8 h) rfl rfl, tg_in 14 tables_1_1 (fun _ h => tb1 h) rfl rfl, by decide +kernel⟩, tg_in 104 tables_1_8 (fun _ h => tb8 h) rfl rfl, tg_in 105 tables_1_8 (fun _ h => tb8 h) rfl rfl⟩
theorem mf_X11_count : MfV yX11_count cX11_count 2 (some .int) 1 := ⟨⟨tg_in 110 tables_1_8 (fun _ h => tb8 h) rfl rfl, tg_in 14 tables_1_1 (fun _ h => tb1 h) rfl rfl, by decide +kernel⟩, tg_in 108 tables_1_8 (fun _ h => tb8 h) rfl rfl, tg_in 109 tables_1_8 (fun _ h => tb8 h) rfl rfl⟩
theorem mf_X10_cell : MfV yX10_cell cX10_cell 2 (some .int) 0 := ⟨⟨tg_in 194 tables_1_3 (fun _ h => tb3 h) rfl rfl, tg_in 1 tables_1_1 (fun _ h => tb1 h) rfl rfl, by decide +kernel⟩, tg_in 192 tables_1_3 (fun _ h => tb3 h) rfl rfl, tg_in 193 tables_1_3 (fun _ h => tb3 h) rfl rfl⟩
theorem mf_X10_pair : MfV yX10_pair cX10_pair 3 (some .int) 2 := ⟨⟨tg_in 173 tables_1_4 (fun _ h => tb4 h) rfl rfl, tg_in 1 tables_1_1 (fun _ h => tb1 h) rfl rfl, by decide +kernel⟩, tg_in 171 tables_1_4 (fun _ h => tb4 h) rfl rfl, tg_in 172 tables_1_4 (fun _ h => tb4 h) rfl rfl⟩
theorem mf_X10_at : MfV yX10_at cX10_at 4 (some .int) 2 := ⟨⟨tg_in 217 tables_1_4 (fun _ h => tb4 h) rfl rfl, tg_in 1 tables_1_1 (fun _ h => tb1 h) rfl rfl, by decide +kernel⟩, tg_in 215 tables_1_4 (fun _ h => tb4 h) rfl rfl, tg_in 216 tables_1_4 (fun _ h => tb4 h) rfl rfl⟩
theorem mf_X10_column : MfV yX10_column cX10_column 3 (some .int) 2 := ⟨⟨tg_in 4 tables_1_5 (fun _ h => tb5 h) rfl rfl, tg_in 1 tables_1_1 (fun _ h => tb1 h) rfl rfl, by decide +kernel⟩, tg_in 2 tables_1_5 (fun _ h => tb5 h) rfl rfl, tg_in 3 tables_1_5 (fun _ h => tb5 h) rfl rfl⟩
theorem mf_X10_net : MfV yX10_net cX10_net 3 (some .int) 2 := ⟨⟨tg_in 13 tables_1_5 (fun _ h => tb5 h) rfl rfl, tg_in 1 tables_1_1 (fun _ h => tb1 h) rfl rfl, by decide +kernel⟩, tg_in 11 tables_1_5 (fun _ h => tb5 h) rfl rfl, tg_in 12 tables_1_5 (fun _ h => tb5 h) rfl rfl⟩
theorem mf_X10_layout : MfV yX10_layout cX10_layout 2 (some .int) 1 := ⟨⟨tg_in 25 tables_1_5 (fun _ h => tb5 h) rfl rfl, tg_in 1 tables_1_1 (fun _ h => tb1 h) rfl rfl, by decide +kernel⟩, tg_in 23 tables_1_5 (fun _ h => tb5 h) rfl rfl, tg_in 24 tables_1_5 (fun _ h => tb5 h) rfl rfl⟩
theorem mf_X10_best : MfV yX10_best cX10_best 5 (some .int) 3 := ⟨⟨tg_in 69 tables_1_5 (fun _ h => tb5 h) rfl rfl, tg_in 1 tables_1_1 (fun _ h => tb1 h) rfl rfl, by decide +kernel⟩, tg_in 67 tables_1_5 (fun _ h => tb5 h) rfl rfl, tg_in 68 tables_1_5 (fun _ h => tb5 h) rfl rfl⟩
theorem mf_X10_with : MfV yX10_with cX10_with 3 (some .int) 2 := ⟨⟨tg_in 86 tables_1_5 (fun _ h => tb5 h) rfl rfl, tg_in 1 tables_1_1 (fun _ h => tb1 h) rfl rfl, by decide +kernel⟩, tg_in 84 tables_1_5 (fun _ h => tb5 h) rfl rfl, tg_in 85 tables_1_5 (fun _ h => tb5 h) rfl rfl⟩
theorem mf_X10_ofSet : MfV yX10_ofSet cX10_ofSet 2 (some .int) 1 := ⟨⟨tg_in 103 tables_1_5 (fun _ h => tb5 h) rfl rfl, tg_in 1 tables_1_1 (fun _ h => tb1 h) rfl rfl, by decide +kernel⟩, tg_in 101 tables_1_5 (fun _ h => tb5 h) rfl rfl, tg_in 102 tables_1_5 (fun _ h => tb5 h) rfl rfl⟩
theorem mf_X10_parted : MfV yX10_parted cX10_parted 4 (some .int) 2 := ⟨⟨tg_in 110 tables_1_5 (fun _ h => tb5 h) rfl rfl, tg_in 1 tables_1_1 (fun _ h => tb1 h) rfl rfl, by decide +kernel⟩, tg_in 108 tables_1_5 (fun _ h => tb5 h) rfl rfl, tg_in 109 tables_1_5 (fun _ h => tb5 h) rfl rfl⟩
theorem mf_X10_better : MfV yX10_better cX10_better 2 (some .int) 1 := ⟨⟨tg_in 128 tables_1_5 (fun _ h => tb5 h) rfl rfl, tg_in 1 tables_1_1 (fun _ h => tb1 h) rfl rfl, by decide +kernel⟩, tg_in 126 tables_1_5 (fun _ h => tb5 h) rfl rfl, tg_in 127 tables_1_5 (fun _ h => tb5 h) rfl rfl⟩
theorem mf_X10_shortest : MfV yX10_shortest cX10_shortest 7 (some .int) 2 := ⟨⟨tg_in 160 tables_1_5 (fun _ h => tb5 h) rfl rfl, tg_in 1 tables_1_1 (fun _ h => tb1 h) rfl rfl, by decide +kernel⟩, tg_in 158 tables_1_5 (fun _ h => tb5 h) rfl rfl, tg_in 159 tables_1_5 (fun _ h => tb5 h) rfl rfl⟩
theorem mf_X10_neighbours : MfV yX10_neighbours cX10_neighbours 3 (some .long) 2 := ⟨⟨tg_in 172 tables_1_5 (fun _ h => tb5 h) rfl rfl, tg_in 1 tables_1_1 (fun _ h => tb1 h) rfl rfl, by decide +kernel⟩, tg_in 170 tables_1_5 (fun _ h => tb5 h) rfl rfl, tg_in 171 tables_1_5 (fun _ h => tb5 h) rfl rfl⟩
theorem mf_X10_starts : MfV yX10_starts cX10_starts 2 (some .long) 1 := ⟨⟨tg_in 190 tables_1_5 (fun _ h => tb5 h) rfl rfl, tg_in 1 tables_1_1 (fun _ h => tb1 h) rfl rfl, by decide +kernel⟩, tg_in 188 tables_1_5 (fun _ h => tb5 h) rfl rfl, tg_in 189 tables_1_5 (fun _ h => tb5 h) rfl rfl⟩
theorem mf_X10_turn : MfV yX10_turn cX10_turn 4 (some .int) 2 := ⟨⟨tg_in 201 tables_1_5 (fun _ h => tb5 h) rfl rfl, tg_in 1 tables_1_1 (fun _ h => tb1 h) rfl rfl, by decide +kernel⟩, tg_in 199 tables_1_5 (fun _ h => tb5 h) rfl rfl, tg_in 200 tables_1_5 (fun _ h => tb5 h) rfl rfl⟩
theorem mf_X10_move : MfV yX10_move cX10_move 3 (some .int) 2 := ⟨⟨tg_in 216 tables_1_5 (fun _ h => tb5 h) rfl rfl, tg_in 1 tables_1_1 (fun _ h => tb1 h) rfl rfl, by decide +kernel⟩, tg_in 214 tables_1_5 (fun _ h => tb5 h) rfl rfl, tg_in 215 tables_1_5 (fun _ h => tb5 h) rfl rfl⟩
theorem mf_X10_mirror : MfV yX10_mirror cX10_mirror 1 (some .int) 0 := ⟨⟨tg_in 226 tables_1_5 (fun _ h => tb5 h) rfl rfl, tg_in 1 tables_1_1 (fun _ h => tb1 h) rfl rfl, by decide +kernel⟩, tg_in 224 tables_1_5 (fun _ h => tb5 h) rfl rfl, tg_in 225 tables_1_5 (fun _ h => tb5 h) rfl rfl⟩
theorem mf_X10_lay : MfV yX10_lay cX10_lay 3 (some .int) 1 := ⟨⟨tg_in 13 tables_1_6 (fun _ h => tb6 h) rfl rfl, tg_in 1 tables_1_1 (fun _ h => tb1 h) rfl rfl, by decide +kernel⟩, tg_in 11 tables_1_6 (fun _ h => tb6 h) rfl rfl, tg_in 12 tables_1_6 (fun _ h => tb6 h) rfl rfl⟩
theorem mf_X10_undo : MfV yX10_undo cX10_undo 1 (some .int) 0 := ⟨⟨tg_in 20 tables_1_6 (fun _ h => tb6 h) rfl rfl, tg_in 1 tables_1_1 (fun _ h => tb1 h) rfl rfl, by decide +kernel⟩, tg_in 18 tables_1_6 (fun _ h => tb6 h) rfl rfl, tg_in 19 tables_1_6 (fun _ h => tb6 h) rfl rfl⟩
theorem mf_X10_fits : MfV yX10_fits cX10_fits 3 (some .int) 2 := ⟨⟨tg_in 32 tables_1_6 (fun _ h => tb6 h) rfl rfl, tg_in 1 tables_1_1 (fun _ h => tb1 h) rfl rfl, by decide +kernel⟩, tg_in 30 tables_1_6 (fun _ h => tb6 h) rfl rfl, tg_in 31 tables_1_6 (fun _ h => tb6 h) rfl rfl⟩
theorem mf_X10_room : MfV yX10_room cX10_room 2 (some .int) 1 := ⟨⟨tg_in 42 tables_1_6 (fun _ h => tb6 h) rfl rfl, tg_in 1 tables_1_1 (fun _ h => tb1 h) rfl rfl, by decide +kernel⟩, tg_in 40 tables_1_6 (fun _ h => tb6 h) rfl rfl, tg_in 41 tables_1_6 (fun _ h => tb6 h) rfl rfl⟩
theorem mf_X8_init : MfC yX8_init cX8_init 1 none 0 := ⟨⟨tg_in 38 tables_1_1 (fun _ h => tb1 h) rfl rfl, tg_in 2 tables_1_1 (fun _ h => tb1 h) rfl rfl, by decide +kernel⟩, rfl, tg_in 37 tables_1_1 (fun _ h => tb1 h) rfl rfl⟩
theorem mf_X1_init : MfC yX1_init cX1_init 1 none 0 := ⟨⟨tg_in 70 tables_1_1 (fun _ h => tb1 h) rfl rfl, tg_in 4 tables_1_1 (fun _ h => tb1 h) rfl rfl, by decide +kernel⟩, rfl, tg_in 69 tables_1_1 (fun _ h => tb1 h) rfl rfl⟩
theorem mf_X3_init : MfC yX3_init cX3_init 1 none 0 := ⟨⟨tg_in 136 tables_1_1 (fun _ h => tb1 h) rfl rfl, tg_in 5 tables_1_1 (fun _ h => tb1 h) rfl rfl, by decide +kernel⟩, rfl, tg_in 135 tables_1_1 (fun _ h => tb1 h) rfl rfl⟩
theorem mf_X4_init : MfC yX4_init cX4_init 2 none 1 := ⟨⟨tg_in 64 tables_1_1 (fun _ h => tb1 h) rfl rfl, tg_in 3 tables_1_1 (fun _ h => tb1 h) rfl rfl, by decide +kernel⟩, rfl, tg_in 63 tables_1_1 (fun _ h => tb1 h) rfl rfl⟩
theorem mf_X7_init : MfC yX7_init cX7_init 1 none 0 := ⟨⟨tg_in 182 tables_1_1 (fun _ h => tb1 h) rfl rfl, tg_in 6 tables_1_1 (fun _ h => tb1 h) rfl rfl, by decide +kernel⟩, rfl, tg_in 181 tables_1_1 (fun _ h => tb1 h) rfl rfl⟩
theorem mf_X5_init : MfC yX5_init cX5_init 2 none 0 := ⟨⟨tg_in 200 tables_1_1 (fun _ h => tb1 h) rfl rfl, tg_in 7 tables_1_1 (fun _ h => tb1 h) rfl rfl, by decide +kernel⟩, rfl, tg_in 199 tables_1_1 (fun _ h => tb1 h) rfl rfl⟩
theorem mf_X2_init : MfC yX2_init cX2_init 1 none 0 := ⟨⟨tg_in 220 tables_1_1 (fun _ h => tb1 h) rfl rfl, tg_in 8 tables_1_1 (fun _ h => tb1 h) rfl rfl, by decide +kernel⟩, rfl, tg_in 219 tables_1_1 (fun _ h => tb1 h) rfl rfl⟩
theorem mf_X6_init : MfC yX6_init cX6_init 1 none 0 := ⟨⟨tg_in 25 tables_1_2 (fun _ h => tb2 h) rfl rfl, tg_in 10 tables_1_1 (fun _ h => tb1 h) rfl rfl, by decide +kernel⟩, rfl, tg_in 24 tables_1_2 (fun _ h => tb2 h) rfl rfl⟩
theorem mf_X9_init : MfC yX9_init cX9_init 1 none 0 := ⟨⟨tg_in 19 tables_1_2 (fun _ h => tb2 h) rfl rfl, tg_in 9 tables_1_1 (fun _ h => tb1 h) rfl rfl, by decide +kernel⟩, rfl, tg_in 18 tables_1_2 (fun _ h => tb2 h) rfl rfl⟩
theorem mf_X0_init : MfC yX0_init cX0_init 1 none 0 := ⟨⟨tg_in 88 tables_1_2 (fun _ h => tb2 h) rfl rfl, tg_in 11 tables_1_1 (fun _ h => tb1 h) rfl rfl, by decide +kernel⟩, rfl, tg_in 87 tables_1_2 (fun _ h => tb2 h) rfl rfl⟩
theorem mf_X10_init : MfC yX10_init cX10_init 2 none 0 := ⟨⟨tg_in 30 tables_1_1 (fun _ h => tb1 h) rfl rfl, tg_in 1 tables_1_1 (fun _ h => tb1 h) rfl rfl, by decide +kernel⟩, rfl, tg_in 29 tables_1_1 (fun _ h => tb1 h) rfl rfl⟩
theorem mf_X11_init : MfC yX11_init cX11_init 1 none 0 := ⟨⟨tg_in 48 tables_1_6 (fun _ h => tb6 h) rfl rfl, tg_in 14 tables_1_1 (fun _ h => tb1 h) rfl rfl, by decide +kernel⟩, rfl, tg_in 47 tables_1_6 (fun _ h => tb6 h) rfl rfl⟩
theorem lc_13 : Cond.classLink RL 13 "java/lang/IllegalArgumentException" ∈ Tg := tg_in 190 tables_1_3 (fun _ h => tb3 h) rfl rfl
theorem lc_19 : Cond.classLink RL 19 "java/lang/IndexOutOfBoundsException" ∈ Tg := tg_in 168 tables_1_4 (fun _ h => tb4 h) rfl rfl
theorem lc_21 : Cond.classLink RL 21 "java/util/NoSuchElementException" ∈ Tg := tg_in 169 tables_1_4 (fun _ h => tb4 h) rfl rfl
theorem lc_73 : Cond.classLink RL 73 "java/lang/IllegalStateException" ∈ Tg := tg_in 222 tables_1_5 (fun _ h => tb5 h) rfl rfl
theorem ins_0 : Cond.instantiable RX0 1 ∈ Tg := tg_in 85 tables_1_2 (fun _ h => tb2 h) rfl rfl
theorem ini_0 : Cond.initialized RX0 ∈ Tg := tg_in 11 tables_1_1 (fun _ h => tb1 h) rfl rfl
theorem ins_1 : Cond.instantiable RX1 12 ∈ Tg := tg_in 67 tables_1_1 (fun _ h => tb1 h) rfl rfl
theorem ini_1 : Cond.initialized RX1 ∈ Tg := tg_in 4 tables_1_1 (fun _ h => tb1 h) rfl rfl
theorem ins_2 : Cond.instantiable RX2 7 ∈ Tg := tg_in 217 tables_1_1 (fun _ h => tb1 h) rfl rfl
theorem ini_2 : Cond.initialized RX2 ∈ Tg := tg_in 8 tables_1_1 (fun _ h => tb1 h) rfl rfl
theorem ins_3 : Cond.instantiable RX3 3 ∈ Tg := tg_in 133 tables_1_1 (fun _ h => tb1 h) rfl rfl
theorem ini_3 : Cond.initialized RX3 ∈ Tg := tg_in 5 tables_1_1 (fun _ h => tb1 h) rfl rfl
theorem ins_4 : Cond.instantiable RX4 7 ∈ Tg := tg_in 61 tables_1_1 (fun _ h => tb1 h) rfl rfl
theorem ini_4 : Cond.initialized RX4 ∈ Tg := tg_in 3 tables_1_1 (fun _ h => tb1 h) rfl rfl
theorem ins_5 : Cond.instantiable RX5 3 ∈ Tg := tg_in 197 tables_1_1 (fun _ h => tb1 h) rfl rfl
theorem ini_5 : Cond.initialized RX5 ∈ Tg := tg_in 7 tables_1_1 (fun _ h => tb1 h) rfl rfl
theorem ins_6 : Cond.instantiable RX6 4 ∈ Tg := tg_in 22 tables_1_2 (fun _ h => tb2 h) rfl rfl
theorem ini_6 : Cond.initialized RX6 ∈ Tg := tg_in 10 tables_1_1 (fun _ h => tb1 h) rfl rfl
theorem ins_7 : Cond.instantiable RX7 2 ∈ Tg := tg_in 179 tables_1_1 (fun _ h => tb1 h) rfl rfl
theorem ini_7 : Cond.initialized RX7 ∈ Tg := tg_in 6 tables_1_1 (fun _ h => tb1 h) rfl rfl
theorem ins_8 : Cond.instantiable RX8 5 ∈ Tg := tg_in 35 tables_1_1 (fun _ h => tb1 h) rfl rfl
theorem ini_8 : Cond.initialized RX8 ∈ Tg := tg_in 2 tables_1_1 (fun _ h => tb1 h) rfl rfl
theorem ins_9 : Cond.instantiable RX9 10 ∈ Tg := tg_in 16 tables_1_2 (fun _ h => tb2 h) rfl rfl
theorem ini_9 : Cond.initialized RX9 ∈ Tg := tg_in 9 tables_1_1 (fun _ h => tb1 h) rfl rfl
theorem ins_10 : Cond.instantiable RX10 15 ∈ Tg := tg_in 27 tables_1_1 (fun _ h => tb1 h) rfl rfl
theorem ini_10 : Cond.initialized RX10 ∈ Tg := tg_in 1 tables_1_1 (fun _ h => tb1 h) rfl rfl
theorem ins_11 : Cond.instantiable RX11 41 ∈ Tg := tg_in 45 tables_1_6 (fun _ h => tb6 h) rfl rfl
theorem ini_11 : Cond.initialized RX11 ∈ Tg := tg_in 14 tables_1_1 (fun _ h => tb1 h) rfl rfl
theorem ar_int : Cond.arrayClass .int ∈ Tg := tg_in 58 tables_1_1 (fun _ h => tb1 h) rfl rfl
theorem ar_long : Cond.arrayClass .long ∈ Tg := tg_in 177 tables_1_1 (fun _ h => tb1 h) rfl rfl
theorem ar_byte : Cond.arrayClass .byte ∈ Tg := tg_in 59 tables_1_1 (fun _ h => tb1 h) rfl rfl
theorem oi_ins : Cond.instanceMethod Lib.objectInit ∈ Tg := tg_in 32 tables_1_1 (fun _ h => tb1 h) rfl rfl
theorem oi_code : Cond.code Lib.objectInit ⟨#[0xb1]⟩ 1 none ∈ Tg := tg_in 33 tables_1_1 (fun _ h => tb1 h) rfl rfl
theorem cl_4_18 : Cond.classLink RX4 18 RX3 ∈ Tg := tg_in 132 tables_1_1 (fun _ h => tb1 h) rfl rfl
theorem cl_4_9 : Cond.classLink RX4 9 RX1 ∈ Tg := tg_in 66 tables_1_1 (fun _ h => tb1 h) rfl rfl
theorem cl_5_18 : Cond.classLink RX5 18 RX7 ∈ Tg := tg_in 202 tables_1_1 (fun _ h => tb1 h) rfl rfl
theorem cl_9_36 : Cond.classLink RX9 36 RX6 ∈ Tg := tg_in 21 tables_1_2 (fun _ h => tb2 h) rfl rfl
theorem cl_10_16 : Cond.classLink RX10 16 RX4 ∈ Tg := tg_in 60 tables_1_1 (fun _ h => tb1 h) rfl rfl
theorem cl_10_28 : Cond.classLink RX10 28 RX7 ∈ Tg := tg_in 178 tables_1_1 (fun _ h => tb1 h) rfl rfl
theorem cl_10_38 : Cond.classLink RX10 38 RX5 ∈ Tg := tg_in 196 tables_1_1 (fun _ h => tb1 h) rfl rfl
theorem cl_10_45 : Cond.classLink RX10 45 RX2 ∈ Tg := tg_in 216 tables_1_1 (fun _ h => tb1 h) rfl rfl
theorem cl_10_52 : Cond.classLink RX10 52 RX9 ∈ Tg := tg_in 15 tables_1_2 (fun _ h => tb2 h) rfl rfl
theorem cl_10_68 : Cond.classLink RX10 68 RX0 ∈ Tg := tg_in 84 tables_1_2 (fun _ h => tb2 h) rfl rfl
theorem cl_10_81 : Cond.classLink RX10 81 RX1 ∈ Tg := tg_in 95 tables_1_2 (fun _ h => tb2 h) rfl rfl
theorem cl_10_9 : Cond.classLink RX10 9 RX8 ∈ Tg := tg_in 34 tables_1_1 (fun _ h => tb1 h) rfl rfl
theorem oi_0_3 : Cond.methodLink RX0 3 Lib.objectInit ∈ Tg := tg_in 89 tables_1_2 (fun _ h => tb2 h) rfl rfl
theorem oi_1_3 : Cond.methodLink RX1 3 Lib.objectInit ∈ Tg := tg_in 71 tables_1_1 (fun _ h => tb1 h) rfl rfl
theorem oi_2_3 : Cond.methodLink RX2 3 Lib.objectInit ∈ Tg := tg_in 221 tables_1_1 (fun _ h => tb1 h) rfl rfl
theorem oi_3_3 : Cond.methodLink RX3 3 Lib.objectInit ∈ Tg := tg_in 137 tables_1_1 (fun _ h => tb1 h) rfl rfl
theorem oi_4_3 : Cond.methodLink RX4 3 Lib.objectInit ∈ Tg := tg_in 65 tables_1_1 (fun _ h => tb1 h) rfl rfl
theorem oi_5_3 : Cond.methodLink RX5 3 Lib.objectInit ∈ Tg := tg_in 201 tables_1_1 (fun _ h => tb1 h) rfl rfl
theorem oi_6_3 : Cond.methodLink RX6 3 Lib.objectInit ∈ Tg := tg_in 26 tables_1_2 (fun _ h => tb2 h) rfl rfl
theorem oi_7_3 : Cond.methodLink RX7 3 Lib.objectInit ∈ Tg := tg_in 183 tables_1_1 (fun _ h => tb1 h) rfl rfl
theorem oi_8_3 : Cond.methodLink RX8 3 Lib.objectInit ∈ Tg := tg_in 39 tables_1_1 (fun _ h => tb1 h) rfl rfl
theorem oi_9_3 : Cond.methodLink RX9 3 Lib.objectInit ∈ Tg := tg_in 20 tables_1_2 (fun _ h => tb2 h) rfl rfl
theorem oi_10_1 : Cond.methodLink RX10 1 Lib.objectInit ∈ Tg := tg_in 31 tables_1_1 (fun _ h => tb1 h) rfl rfl
theorem oi_11_1 : Cond.methodLink RX11 1 Lib.objectInit ∈ Tg := tg_in 49 tables_1_6 (fun _ h => tb6 h) rfl rfl
theorem kB_10 : (Int8.ofInt (10)).toInt32 = (10 : Int32) := by decide
theorem kB_106 : (Int8.ofInt (106)).toInt32 = (106 : Int32) := by decide
theorem kB_11 : (Int8.ofInt (11)).toInt32 = (11 : Int32) := by decide
theorem kB_112 : (Int8.ofInt (112)).toInt32 = (112 : Int32) := by decide
theorem kB_12 : (Int8.ofInt (12)).toInt32 = (12 : Int32) := by decide
theorem kB_122 : (Int8.ofInt (122)).toInt32 = (122 : Int32) := by decide
theorem kB_15 : (Int8.ofInt (15)).toInt32 = (15 : Int32) := by decide
theorem kB_16 : (Int8.ofInt (16)).toInt32 = (16 : Int32) := by decide
theorem kB_18 : (Int8.ofInt (18)).toInt32 = (18 : Int32) := by decide
theorem kB_20 : (Int8.ofInt (20)).toInt32 = (20 : Int32) := by decide
theorem kB_24 : (Int8.ofInt (24)).toInt32 = (24 : Int32) := by decide
theorem kB_30 : (Int8.ofInt (30)).toInt32 = (30 : Int32) := by decide
theorem kB_31 : (Int8.ofInt (31)).toInt32 = (31 : Int32) := by decide
theorem kB_32 : (Int8.ofInt (32)).toInt32 = (32 : Int32) := by decide
theorem kB_40 : (Int8.ofInt (40)).toInt32 = (40 : Int32) := by decide
theorem kB_48 : (Int8.ofInt (48)).toInt32 = (48 : Int32) := by decide
theorem kB_53 : (Int8.ofInt (53)).toInt32 = (53 : Int32) := by decide
theorem kB_54 : (Int8.ofInt (54)).toInt32 = (54 : Int32) := by decide
theorem kB_57 : (Int8.ofInt (57)).toInt32 = (57 : Int32) := by decide
theorem kB_59 : (Int8.ofInt (59)).toInt32 = (59 : Int32) := by decide
theorem kB_6 : (Int8.ofInt (6)).toInt32 = (6 : Int32) := by decide
theorem kB_63 : (Int8.ofInt (63)).toInt32 = (63 : Int32) := by decide
theorem kB_64 : (Int8.ofInt (64)).toInt32 = (64 : Int32) := by decide
theorem kB_72 : (Int8.ofInt (72)).toInt32 = (72 : Int32) := by decide
theorem kB_73 : (Int8.ofInt (73)).toInt32 = (73 : Int32) := by decide
theorem kB_8 : (Int8.ofInt (8)).toInt32 = (8 : Int32) := by decide
theorem kB_81 : (Int8.ofInt (81)).toInt32 = (81 : Int32) := by decide
theorem kB_89 : (Int8.ofInt (89)).toInt32 = (89 : Int32) := by decide
theorem kB_9 : (Int8.ofInt (9)).toInt32 = (9 : Int32) := by decide
theorem kB_97 : (Int8.ofInt (97)).toInt32 = (97 : Int32) := by decide
theorem kC_1 : ∀ v : Int32, v + Int32.ofInt (1) = v + (1 : Int32) := by intro v; rfl
theorem kC_m1 : ∀ v : Int32, v + Int32.ofInt (-1) = v + (-1 : Int32) := by intro v; rfl
theorem kC_m8 : ∀ v : Int32, v + Int32.ofInt (-8) = v + (-8 : Int32) := by intro v; rfl
theorem kI_0 : Int32.ofInt (0) = (0 : Int32) := by decide
theorem kI_1 : Int32.ofInt (1) = (1 : Int32) := by decide
theorem kI_2 : Int32.ofInt (2) = (2 : Int32) := by decide
theorem kI_3 : Int32.ofInt (3) = (3 : Int32) := by decide
theorem kI_4 : Int32.ofInt (4) = (4 : Int32) := by decide
theorem kI_5 : Int32.ofInt (5) = (5 : Int32) := by decide
theorem kI_m1 : Int32.ofInt (-1) = (-1 : Int32) := by decide
theorem kL_0 : Int64.ofNat ((0 : Fin 2) : Nat) = (0 : Int64) := by decide
theorem kL_1 : Int64.ofNat ((1 : Fin 2) : Nat) = (1 : Int64) := by decide
theorem kS_1000 : (Int16.ofInt (1000)).toInt32 = (1000 : Int32) := by decide
theorem kS_128 : (Int16.ofInt (128)).toInt32 = (128 : Int32) := by decide
theorem kS_255 : (Int16.ofInt (255)).toInt32 = (255 : Int32) := by decide
theorem kS_256 : (Int16.ofInt (256)).toInt32 = (256 : Int32) := by decide
theorem kS_400 : (Int16.ofInt (400)).toInt32 = (400 : Int32) := by decide
theorem kS_8192 : (Int16.ofInt (8192)).toInt32 = (8192 : Int32) := by decide
theorem w_max : Cond.static Lib.Math.max.name ∈ Tg ∧ Cond.initialized "java/lang/Math" ∈ Tg ∧ Cond.code Lib.Math.max.name Lib.Math.max.code 2 (some .int) ∈ Tg := ⟨tg_in 233 tables_1_2 (fun _ h => tb2 h) rfl rfl, tg_in 13 tables_1_1 (fun _ h => tb1 h) rfl rfl, tg_in 234 tables_1_2 (fun _ h => tb2 h) rfl rfl⟩
theorem w_min : Cond.static Lib.Math.min.name ∈ Tg ∧ Cond.initialized "java/lang/Math" ∈ Tg ∧ Cond.code Lib.Math.min.name Lib.Math.min.code 2 (some .int) ∈ Tg := ⟨tg_in 177 tables_1_2 (fun _ h => tb2 h) rfl rfl, tg_in 13 tables_1_1 (fun _ h => tb1 h) rfl rfl, tg_in 178 tables_1_2 (fun _ h => tb2 h) rfl rfl⟩
section
variable {x : CX} {cc : ByteArray} {own : String} {rm0 : Room} {kc ks pc : Nat} {lv : List (Nat × Value)} {st : List Value} {h : HP}
theorem R_jmx (hc : Cx x cc own rm0) {idx : Nat} {a b : Int32} (ml : Cond.methodLink own idx yJ9_max_7cf53 ∈ Tg) (hf : 1 ≤ rm0.frames) (hlo : (st.map fun v => v.category).sum + 13 ≤ rm0.locals) (hcs : kc ≤ rm0.cells ∧ ks ≤ rm0.slots) (hd : decode cc pc = .ok (.invokestatic idx, 3)) (k : Rn x kc ks (pc + 3) lv (.int (jmx a b) :: st) h) : Rn x kc ks pc lv (.int b :: .int a :: st) h := fun H locs ls hl hS hP => va_mmax hc.1 hc.2.1 (hc.2.2.1.trans hl.1.symm) hc.2.2.2.1 (hc.ts _ ml) (hc.ts _ w_max.1) (hc.ts _ w_max.2.1) (hc.ts _ w_max.2.2) (by rw [hc.r]; exact hf) (by rw [hc.r]; exact hlo) (by rw [hc.r]; exact hcs.1) (by rw [hc.r]; exact hcs.2) hd (k H locs ls hl hS hP)
theorem R_jmn (hc : Cx x cc own rm0) {idx : Nat} {a b : Int32} (ml : Cond.methodLink own idx yJ9_min_7cf53 ∈ Tg) (hf : 1 ≤ rm0.frames) (hlo : (st.map fun v => v.category).sum + 13 ≤ rm0.locals) (hcs : kc ≤ rm0.cells ∧ ks ≤ rm0.slots) (hd : decode cc pc = .ok (.invokestatic idx, 3)) (k : Rn x kc ks (pc + 3) lv (.int (jmn a b) :: st) h) : Rn x kc ks pc lv (.int b :: .int a :: st) h := fun H locs ls hl hS hP => va_mmin hc.1 hc.2.1 (hc.2.2.1.trans hl.1.symm) hc.2.2.2.1 (hc.ts _ ml) (hc.ts _ w_min.1) (hc.ts _ w_min.2.1) (hc.ts _ w_min.2.2) (by rw [hc.r]; exact hf) (by rw [hc.r]; exact hlo) (by rw [hc.r]; exact hcs.1) (by rw [hc.r]; exact hcs.2) hd (k H locs ls hl hS hP)
end
