theorem cl0 : CLok 0 RX1 TX1 3 tyX1 := by
  refine ⟨rfl, ?_, tyX1_ok, nmX1⟩
  intro w hw
  obtain ⟨k, hk, rfl⟩ := List.mem_map.mp hw
  have hk : k < 3 := List.mem_range.mp hk
  match k, hk with
  | 0, _ => exact gm 166 (by decide +kernel) rfl
  | 1, _ => exact gm 168 (by decide +kernel) rfl
  | 2, _ => exact gm 170 (by decide +kernel) rfl
  | k + 3, h => omega
theorem cl1 : CLok 1 RX2 TX2 2 tyX2 := by
  refine ⟨rfl, ?_, tyX2_ok, nmX2⟩
  intro w hw
  obtain ⟨k, hk, rfl⟩ := List.mem_map.mp hw
  have hk : k < 2 := List.mem_range.mp hk
  match k, hk with
  | 0, _ => exact gm 303 (by decide +kernel) rfl
  | 1, _ => exact gm 305 (by decide +kernel) rfl
  | k + 2, h => omega
theorem cl2 : CLok 2 RX3 TX3 4 tyX3 := by
  refine ⟨rfl, ?_, tyX3_ok, nmX3⟩
  intro w hw
  obtain ⟨k, hk, rfl⟩ := List.mem_map.mp hw
  have hk : k < 4 := List.mem_range.mp hk
  match k, hk with
  | 0, _ => exact gm 270 (by decide +kernel) rfl
  | 1, _ => exact gm 272 (by decide +kernel) rfl
  | 2, _ => exact gm 274 (by decide +kernel) rfl
  | 3, _ => exact gm 276 (by decide +kernel) rfl
  | k + 4, h => omega
theorem cl3 : CLok 3 RX4 TX4 3 tyX4 := by
  refine ⟨rfl, ?_, tyX4_ok, nmX4⟩
  intro w hw
  obtain ⟨k, hk, rfl⟩ := List.mem_map.mp hw
  have hk : k < 3 := List.mem_range.mp hk
  match k, hk with
  | 0, _ => exact gm 288 (by decide +kernel) rfl
  | 1, _ => exact gm 290 (by decide +kernel) rfl
  | 2, _ => exact gm 292 (by decide +kernel) rfl
  | k + 3, h => omega
theorem cl4 : CLok 4 RX5 TX5 2 tyX5 := by
  refine ⟨rfl, ?_, tyX5_ok, nmX5⟩
  intro w hw
  obtain ⟨k, hk, rfl⟩ := List.mem_map.mp hw
  have hk : k < 2 := List.mem_range.mp hk
  match k, hk with
  | 0, _ => exact gm 316 (by decide +kernel) rfl
  | 1, _ => exact gm 318 (by decide +kernel) rfl
  | k + 2, h => omega
theorem cl5 : CLok 5 RX6 TX6 4 tyX6 := by
  refine ⟨rfl, ?_, tyX6_ok, nmX6⟩
  intro w hw
  obtain ⟨k, hk, rfl⟩ := List.mem_map.mp hw
  have hk : k < 4 := List.mem_range.mp hk
  match k, hk with
  | 0, _ => exact gm 111 (by decide +kernel) rfl
  | 1, _ => exact gm 113 (by decide +kernel) rfl
  | 2, _ => exact gm 115 (by decide +kernel) rfl
  | 3, _ => exact gm 117 (by decide +kernel) rfl
  | k + 4, h => omega
theorem cl6 : CLok 6 RX7 TX7 6 tyX7 := by
  refine ⟨rfl, ?_, tyX7_ok, nmX7⟩
  intro w hw
  obtain ⟨k, hk, rfl⟩ := List.mem_map.mp hw
  have hk : k < 6 := List.mem_range.mp hk
  match k, hk with
  | 0, _ => exact gm 141 (by decide +kernel) rfl
  | 1, _ => exact gm 143 (by decide +kernel) rfl
  | 2, _ => exact gm 145 (by decide +kernel) rfl
  | 3, _ => exact gm 147 (by decide +kernel) rfl
  | 4, _ => exact gm 149 (by decide +kernel) rfl
  | 5, _ => exact gm 151 (by decide +kernel) rfl
  | k + 6, h => omega
theorem cl7 : CLok 7 RX8 TX8 7 tyX8 := by
  refine ⟨rfl, ?_, tyX8_ok, nmX8⟩
  intro w hw
  obtain ⟨k, hk, rfl⟩ := List.mem_map.mp hw
  have hk : k < 7 := List.mem_range.mp hk
  match k, hk with
  | 0, _ => exact gm 241 (by decide +kernel) rfl
  | 1, _ => exact gm 243 (by decide +kernel) rfl
  | 2, _ => exact gm 245 (by decide +kernel) rfl
  | 3, _ => exact gm 247 (by decide +kernel) rfl
  | 4, _ => exact gm 249 (by decide +kernel) rfl
  | 5, _ => exact gm 251 (by decide +kernel) rfl
  | 6, _ => exact gm 253 (by decide +kernel) rfl
  | k + 7, h => omega
theorem cl8 : CLok 8 RX9 TX9 3 tyX9 := by
  refine ⟨rfl, ?_, tyX9_ok, nmX9⟩
  intro w hw
  obtain ⟨k, hk, rfl⟩ := List.mem_map.mp hw
  have hk : k < 3 := List.mem_range.mp hk
  match k, hk with
  | 0, _ => exact gm 185 (by decide +kernel) rfl
  | 1, _ => exact gm 187 (by decide +kernel) rfl
  | 2, _ => exact gm 189 (by decide +kernel) rfl
  | k + 3, h => omega
theorem cl9 : CLok 9 RX10 TX10 7 tyX10 := by
  refine ⟨rfl, ?_, tyX10_ok, nmX10⟩
  intro w hw
  obtain ⟨k, hk, rfl⟩ := List.mem_map.mp hw
  have hk : k < 7 := List.mem_range.mp hk
  match k, hk with
  | 0, _ => exact gm 210 (by decide +kernel) rfl
  | 1, _ => exact gm 212 (by decide +kernel) rfl
  | 2, _ => exact gm 214 (by decide +kernel) rfl
  | 3, _ => exact gm 216 (by decide +kernel) rfl
  | 4, _ => exact gm 218 (by decide +kernel) rfl
  | 5, _ => exact gm 220 (by decide +kernel) rfl
  | 6, _ => exact gm 222 (by decide +kernel) rfl
  | k + 7, h => omega
theorem cl10 : CLok 10 RX11 TX11 12 tyX11 := by
  refine ⟨rfl, ?_, tyX11_ok, nmX11⟩
  intro w hw
  obtain ⟨k, hk, rfl⟩ := List.mem_map.mp hw
  have hk : k < 12 := List.mem_range.mp hk
  match k, hk with
  | 0, _ => exact gm 345 (by decide +kernel) rfl
  | 1, _ => exact gm 347 (by decide +kernel) rfl
  | 2, _ => exact gm 349 (by decide +kernel) rfl
  | 3, _ => exact gm 351 (by decide +kernel) rfl
  | 4, _ => exact gm 353 (by decide +kernel) rfl
  | 5, _ => exact gm 355 (by decide +kernel) rfl
  | 6, _ => exact gm 357 (by decide +kernel) rfl
  | 7, _ => exact gm 359 (by decide +kernel) rfl
  | 8, _ => exact gm 361 (by decide +kernel) rfl
  | 9, _ => exact gm 363 (by decide +kernel) rfl
  | 10, _ => exact gm 365 (by decide +kernel) rfl
  | 11, _ => exact gm 367 (by decide +kernel) rfl
  | k + 12, h => omega
theorem cl11 : CLok 11 RX12 TX12 25 tyX12 := by
  refine ⟨rfl, ?_, tyX12_ok, nmX12⟩
  intro w hw
  obtain ⟨k, hk, rfl⟩ := List.mem_map.mp hw
  have hk : k < 25 := List.mem_range.mp hk
  match k, hk with
  | 0, _ => exact gm 924 (by decide +kernel) rfl
  | 1, _ => exact gm 926 (by decide +kernel) rfl
  | 2, _ => exact gm 928 (by decide +kernel) rfl
  | 3, _ => exact gm 930 (by decide +kernel) rfl
  | 4, _ => exact gm 932 (by decide +kernel) rfl
  | 5, _ => exact gm 934 (by decide +kernel) rfl
  | 6, _ => exact gm 936 (by decide +kernel) rfl
  | 7, _ => exact gm 938 (by decide +kernel) rfl
  | 8, _ => exact gm 940 (by decide +kernel) rfl
  | 9, _ => exact gm 942 (by decide +kernel) rfl
  | 10, _ => exact gm 944 (by decide +kernel) rfl
  | 11, _ => exact gm 946 (by decide +kernel) rfl
  | 12, _ => exact gm 948 (by decide +kernel) rfl
  | 13, _ => exact gm 950 (by decide +kernel) rfl
  | 14, _ => exact gm 952 (by decide +kernel) rfl
  | 15, _ => exact gm 954 (by decide +kernel) rfl
  | 16, _ => exact gm 956 (by decide +kernel) rfl
  | 17, _ => exact gm 958 (by decide +kernel) rfl
  | 18, _ => exact gm 960 (by decide +kernel) rfl
  | 19, _ => exact gm 962 (by decide +kernel) rfl
  | 20, _ => exact gm 964 (by decide +kernel) rfl
  | 21, _ => exact gm 966 (by decide +kernel) rfl
  | 22, _ => exact gm 968 (by decide +kernel) rfl
  | 23, _ => exact gm 970 (by decide +kernel) rfl
  | 24, _ => exact gm 972 (by decide +kernel) rfl
  | k + 25, h => omega
theorem fl_X6_9 : FL RX6 9 5 0 := ⟨RX6, TX6, 4, tyX6, cl5, by decide, gm 90 (by decide +kernel) rfl⟩
theorem fp_X6_9 : FP RX6 9 5 0 false tpI := ⟨RX6, TX6, 4, tyX6, cl5, by decide, gm 90 (by decide +kernel) rfl, rfl, rfl, by intro h; cases h⟩
theorem fl_X3_48 : FL RX3 48 5 0 := ⟨RX6, TX6, 4, tyX6, cl5, by decide, gm 91 (by decide +kernel) rfl⟩
theorem fp_X3_48 : FP RX3 48 5 0 false tpI := ⟨RX6, TX6, 4, tyX6, cl5, by decide, gm 91 (by decide +kernel) rfl, rfl, rfl, by intro h; cases h⟩
theorem fl_X5_24 : FL RX5 24 5 0 := ⟨RX6, TX6, 4, tyX6, cl5, by decide, gm 92 (by decide +kernel) rfl⟩
theorem fp_X5_24 : FP RX5 24 5 0 false tpI := ⟨RX6, TX6, 4, tyX6, cl5, by decide, gm 92 (by decide +kernel) rfl, rfl, rfl, by intro h; cases h⟩
theorem fl_X10_72 : FL RX10 72 5 0 := ⟨RX6, TX6, 4, tyX6, cl5, by decide, gm 93 (by decide +kernel) rfl⟩
theorem fp_X10_72 : FP RX10 72 5 0 false tpI := ⟨RX6, TX6, 4, tyX6, cl5, by decide, gm 93 (by decide +kernel) rfl, rfl, rfl, by intro h; cases h⟩
theorem fl_X11_177 : FL RX11 177 5 0 := ⟨RX6, TX6, 4, tyX6, cl5, by decide, gm 94 (by decide +kernel) rfl⟩
theorem fp_X11_177 : FP RX11 177 5 0 false tpI := ⟨RX6, TX6, 4, tyX6, cl5, by decide, gm 94 (by decide +kernel) rfl, rfl, rfl, by intro h; cases h⟩
theorem fl_X6_15 : FL RX6 15 5 1 := ⟨RX6, TX6, 4, tyX6, cl5, by decide, gm 95 (by decide +kernel) rfl⟩
theorem fp_X6_15 : FP RX6 15 5 1 false tpI := ⟨RX6, TX6, 4, tyX6, cl5, by decide, gm 95 (by decide +kernel) rfl, rfl, rfl, by intro h; cases h⟩
theorem fl_X0_15 : FL RX0 15 5 1 := ⟨RX6, TX6, 4, tyX6, cl5, by decide, gm 96 (by decide +kernel) rfl⟩
theorem fp_X0_15 : FP RX0 15 5 1 false tpI := ⟨RX6, TX6, 4, tyX6, cl5, by decide, gm 96 (by decide +kernel) rfl, rfl, rfl, by intro h; cases h⟩
theorem fl_X4_39 : FL RX4 39 5 1 := ⟨RX6, TX6, 4, tyX6, cl5, by decide, gm 97 (by decide +kernel) rfl⟩
theorem fp_X4_39 : FP RX4 39 5 1 false tpI := ⟨RX6, TX6, 4, tyX6, cl5, by decide, gm 97 (by decide +kernel) rfl, rfl, rfl, by intro h; cases h⟩
theorem fl_X5_40 : FL RX5 40 5 1 := ⟨RX6, TX6, 4, tyX6, cl5, by decide, gm 98 (by decide +kernel) rfl⟩
theorem fp_X5_40 : FP RX5 40 5 1 false tpI := ⟨RX6, TX6, 4, tyX6, cl5, by decide, gm 98 (by decide +kernel) rfl, rfl, rfl, by intro h; cases h⟩
theorem fl_X8_104 : FL RX8 104 5 1 := ⟨RX6, TX6, 4, tyX6, cl5, by decide, gm 99 (by decide +kernel) rfl⟩
theorem fp_X8_104 : FP RX8 104 5 1 false tpI := ⟨RX6, TX6, 4, tyX6, cl5, by decide, gm 99 (by decide +kernel) rfl, rfl, rfl, by intro h; cases h⟩
theorem fl_X11_166 : FL RX11 166 5 1 := ⟨RX6, TX6, 4, tyX6, cl5, by decide, gm 100 (by decide +kernel) rfl⟩
theorem fp_X11_166 : FP RX11 166 5 1 false tpI := ⟨RX6, TX6, 4, tyX6, cl5, by decide, gm 100 (by decide +kernel) rfl, rfl, rfl, by intro h; cases h⟩
theorem fl_X6_18 : FL RX6 18 5 2 := ⟨RX6, TX6, 4, tyX6, cl5, by decide, gm 101 (by decide +kernel) rfl⟩
theorem fp_X6_18 : FP RX6 18 5 2 true tpR := ⟨RX6, TX6, 4, tyX6, cl5, by decide, gm 101 (by decide +kernel) rfl, rfl, Or.inr ⟨_, rfl⟩, fun _ => rfl⟩
theorem fl_X2_40 : FL RX2 40 5 2 := ⟨RX6, TX6, 4, tyX6, cl5, by decide, gm 102 (by decide +kernel) rfl⟩
theorem fl_X5_30 : FL RX5 30 5 2 := ⟨RX6, TX6, 4, tyX6, cl5, by decide, gm 103 (by decide +kernel) rfl⟩
theorem fl_X4_64 : FL RX4 64 5 2 := ⟨RX6, TX6, 4, tyX6, cl5, by decide, gm 104 (by decide +kernel) rfl⟩
theorem fl_X8_95 : FL RX8 95 5 2 := ⟨RX6, TX6, 4, tyX6, cl5, by decide, gm 105 (by decide +kernel) rfl⟩
theorem fl_X10_75 : FL RX10 75 5 2 := ⟨RX6, TX6, 4, tyX6, cl5, by decide, gm 106 (by decide +kernel) rfl⟩
theorem fl_X3_106 : FL RX3 106 5 2 := ⟨RX6, TX6, 4, tyX6, cl5, by decide, gm 107 (by decide +kernel) rfl⟩
theorem fl_X11_169 : FL RX11 169 5 2 := ⟨RX6, TX6, 4, tyX6, cl5, by decide, gm 108 (by decide +kernel) rfl⟩
theorem fl_X7_71 : FL RX7 71 5 2 := ⟨RX6, TX6, 4, tyX6, cl5, by decide, gm 109 (by decide +kernel) rfl⟩
theorem fl_X6_22 : FL RX6 22 5 3 := ⟨RX6, TX6, 4, tyX6, cl5, by decide, gm 110 (by decide +kernel) rfl⟩
theorem fp_X6_22 : FP RX6 22 5 3 true tpR := ⟨RX6, TX6, 4, tyX6, cl5, by decide, gm 110 (by decide +kernel) rfl, rfl, Or.inr ⟨_, rfl⟩, fun _ => rfl⟩
theorem fl_X7_9 : FL RX7 9 6 0 := ⟨RX7, TX7, 6, tyX7, cl6, by decide, gm 121 (by decide +kernel) rfl⟩
theorem fp_X7_9 : FP RX7 9 6 0 false tpI := ⟨RX7, TX7, 6, tyX7, cl6, by decide, gm 121 (by decide +kernel) rfl, rfl, rfl, by intro h; cases h⟩
theorem fl_X3_44 : FL RX3 44 6 0 := ⟨RX7, TX7, 6, tyX7, cl6, by decide, gm 122 (by decide +kernel) rfl⟩
theorem fp_X3_44 : FP RX3 44 6 0 false tpI := ⟨RX7, TX7, 6, tyX7, cl6, by decide, gm 122 (by decide +kernel) rfl, rfl, rfl, by intro h; cases h⟩
theorem fl_X8_60 : FL RX8 60 6 0 := ⟨RX7, TX7, 6, tyX7, cl6, by decide, gm 123 (by decide +kernel) rfl⟩
theorem fp_X8_60 : FP RX8 60 6 0 false tpI := ⟨RX7, TX7, 6, tyX7, cl6, by decide, gm 123 (by decide +kernel) rfl, rfl, rfl, by intro h; cases h⟩
theorem fl_X10_34 : FL RX10 34 6 0 := ⟨RX7, TX7, 6, tyX7, cl6, by decide, gm 124 (by decide +kernel) rfl⟩
theorem fp_X10_34 : FP RX10 34 6 0 false tpI := ⟨RX7, TX7, 6, tyX7, cl6, by decide, gm 124 (by decide +kernel) rfl, rfl, rfl, by intro h; cases h⟩
theorem fl_X2_26 : FL RX2 26 6 0 := ⟨RX7, TX7, 6, tyX7, cl6, by decide, gm 125 (by decide +kernel) rfl⟩
theorem fp_X2_26 : FP RX2 26 6 0 false tpI := ⟨RX7, TX7, 6, tyX7, cl6, by decide, gm 125 (by decide +kernel) rfl, rfl, rfl, by intro h; cases h⟩
theorem fl_X0_33 : FL RX0 33 6 0 := ⟨RX7, TX7, 6, tyX7, cl6, by decide, gm 126 (by decide +kernel) rfl⟩
theorem fp_X0_33 : FP RX0 33 6 0 false tpI := ⟨RX7, TX7, 6, tyX7, cl6, by decide, gm 126 (by decide +kernel) rfl, rfl, rfl, by intro h; cases h⟩
theorem fl_X4_61 : FL RX4 61 6 0 := ⟨RX7, TX7, 6, tyX7, cl6, by decide, gm 127 (by decide +kernel) rfl⟩
theorem fp_X4_61 : FP RX4 61 6 0 false tpI := ⟨RX7, TX7, 6, tyX7, cl6, by decide, gm 127 (by decide +kernel) rfl, rfl, rfl, by intro h; cases h⟩
theorem fl_X11_147 : FL RX11 147 6 0 := ⟨RX7, TX7, 6, tyX7, cl6, by decide, gm 128 (by decide +kernel) rfl⟩
theorem fp_X11_147 : FP RX11 147 6 0 false tpI := ⟨RX7, TX7, 6, tyX7, cl6, by decide, gm 128 (by decide +kernel) rfl, rfl, rfl, by intro h; cases h⟩
theorem fl_X7_15 : FL RX7 15 6 1 := ⟨RX7, TX7, 6, tyX7, cl6, by decide, gm 129 (by decide +kernel) rfl⟩
theorem fp_X7_15 : FP RX7 15 6 1 true tpR := ⟨RX7, TX7, 6, tyX7, cl6, by decide, gm 129 (by decide +kernel) rfl, rfl, Or.inr ⟨_, rfl⟩, fun _ => rfl⟩
theorem fl_X11_138 : FL RX11 138 6 1 := ⟨RX7, TX7, 6, tyX7, cl6, by decide, gm 130 (by decide +kernel) rfl⟩
theorem fl_X7_19 : FL RX7 19 6 2 := ⟨RX7, TX7, 6, tyX7, cl6, by decide, gm 131 (by decide +kernel) rfl⟩
theorem fp_X7_19 : FP RX7 19 6 2 true tpR := ⟨RX7, TX7, 6, tyX7, cl6, by decide, gm 131 (by decide +kernel) rfl, rfl, Or.inr ⟨_, rfl⟩, fun _ => rfl⟩
theorem fl_X10_37 : FL RX10 37 6 2 := ⟨RX7, TX7, 6, tyX7, cl6, by decide, gm 132 (by decide +kernel) rfl⟩
theorem fl_X7_22 : FL RX7 22 6 3 := ⟨RX7, TX7, 6, tyX7, cl6, by decide, gm 133 (by decide +kernel) rfl⟩
theorem fp_X7_22 : FP RX7 22 6 3 true tpR := ⟨RX7, TX7, 6, tyX7, cl6, by decide, gm 133 (by decide +kernel) rfl, rfl, Or.inr ⟨_, rfl⟩, fun _ => rfl⟩
theorem fl_X7_25 : FL RX7 25 6 4 := ⟨RX7, TX7, 6, tyX7, cl6, by decide, gm 134 (by decide +kernel) rfl⟩
theorem fp_X7_25 : FP RX7 25 6 4 true tpR := ⟨RX7, TX7, 6, tyX7, cl6, by decide, gm 134 (by decide +kernel) rfl, rfl, Or.inr ⟨_, rfl⟩, fun _ => rfl⟩
theorem fl_X7_31 : FL RX7 31 6 5 := ⟨RX7, TX7, 6, tyX7, cl6, by decide, gm 135 (by decide +kernel) rfl⟩
theorem fp_X7_31 : FP RX7 31 6 5 true tpR := ⟨RX7, TX7, 6, tyX7, cl6, by decide, gm 135 (by decide +kernel) rfl, rfl, Or.inl ⟨_, rfl⟩, fun _ => rfl⟩
theorem fl_X3_66 : FL RX3 66 6 5 := ⟨RX7, TX7, 6, tyX7, cl6, by decide, gm 136 (by decide +kernel) rfl⟩
theorem fl_X2_20 : FL RX2 20 6 5 := ⟨RX7, TX7, 6, tyX7, cl6, by decide, gm 137 (by decide +kernel) rfl⟩
theorem fl_X4_33 : FL RX4 33 6 5 := ⟨RX7, TX7, 6, tyX7, cl6, by decide, gm 138 (by decide +kernel) rfl⟩
theorem fl_X8_91 : FL RX8 91 6 5 := ⟨RX7, TX7, 6, tyX7, cl6, by decide, gm 139 (by decide +kernel) rfl⟩
theorem fl_X11_163 : FL RX11 163 6 5 := ⟨RX7, TX7, 6, tyX7, cl6, by decide, gm 140 (by decide +kernel) rfl⟩
theorem fl_X1_9 : FL RX1 9 0 0 := ⟨RX1, TX1, 3, tyX1, cl0, by decide, gm 162 (by decide +kernel) rfl⟩
theorem fp_X1_9 : FP RX1 9 0 0 false tpI := ⟨RX1, TX1, 3, tyX1, cl0, by decide, gm 162 (by decide +kernel) rfl, rfl, rfl, by intro h; cases h⟩
theorem fl_X11_175 : FL RX11 175 0 0 := ⟨RX1, TX1, 3, tyX1, cl0, by decide, gm 163 (by decide +kernel) rfl⟩
theorem fp_X11_175 : FP RX11 175 0 0 false tpI := ⟨RX1, TX1, 3, tyX1, cl0, by decide, gm 163 (by decide +kernel) rfl, rfl, rfl, by intro h; cases h⟩
theorem fl_X1_15 : FL RX1 15 0 1 := ⟨RX1, TX1, 3, tyX1, cl0, by decide, gm 164 (by decide +kernel) rfl⟩
theorem fp_X1_15 : FP RX1 15 0 1 false tpI := ⟨RX1, TX1, 3, tyX1, cl0, by decide, gm 164 (by decide +kernel) rfl, rfl, rfl, by intro h; cases h⟩
theorem fl_X1_20 : FL RX1 20 0 2 := ⟨RX1, TX1, 3, tyX1, cl0, by decide, gm 165 (by decide +kernel) rfl⟩
theorem fp_X1_20 : FP RX1 20 0 2 true tpR := ⟨RX1, TX1, 3, tyX1, cl0, by decide, gm 165 (by decide +kernel) rfl, rfl, Or.inr ⟨_, rfl⟩, fun _ => rfl⟩
theorem fl_X9_9 : FL RX9 9 8 0 := ⟨RX9, TX9, 3, tyX9, cl8, by decide, gm 179 (by decide +kernel) rfl⟩
theorem fp_X9_9 : FP RX9 9 8 0 false tpI := ⟨RX9, TX9, 3, tyX9, cl8, by decide, gm 179 (by decide +kernel) rfl, rfl, rfl, by intro h; cases h⟩
theorem fl_X11_124 : FL RX11 124 8 0 := ⟨RX9, TX9, 3, tyX9, cl8, by decide, gm 180 (by decide +kernel) rfl⟩
theorem fp_X11_124 : FP RX11 124 8 0 false tpI := ⟨RX9, TX9, 3, tyX9, cl8, by decide, gm 180 (by decide +kernel) rfl, rfl, rfl, by intro h; cases h⟩
theorem fl_X9_15 : FL RX9 15 8 1 := ⟨RX9, TX9, 3, tyX9, cl8, by decide, gm 181 (by decide +kernel) rfl⟩
theorem fp_X9_15 : FP RX9 15 8 1 false tpI := ⟨RX9, TX9, 3, tyX9, cl8, by decide, gm 181 (by decide +kernel) rfl, rfl, rfl, by intro h; cases h⟩
theorem fl_X11_121 : FL RX11 121 8 1 := ⟨RX9, TX9, 3, tyX9, cl8, by decide, gm 182 (by decide +kernel) rfl⟩
theorem fp_X11_121 : FP RX11 121 8 1 false tpI := ⟨RX9, TX9, 3, tyX9, cl8, by decide, gm 182 (by decide +kernel) rfl, rfl, rfl, by intro h; cases h⟩
theorem fl_X9_18 : FL RX9 18 8 2 := ⟨RX9, TX9, 3, tyX9, cl8, by decide, gm 183 (by decide +kernel) rfl⟩
theorem fp_X9_18 : FP RX9 18 8 2 true tpR := ⟨RX9, TX9, 3, tyX9, cl8, by decide, gm 183 (by decide +kernel) rfl, rfl, Or.inr ⟨_, rfl⟩, fun _ => rfl⟩
theorem fl_X11_142 : FL RX11 142 8 2 := ⟨RX9, TX9, 3, tyX9, cl8, by decide, gm 184 (by decide +kernel) rfl⟩
theorem fl_X10_9 : FL RX10 9 9 0 := ⟨RX10, TX10, 7, tyX10, cl9, by decide, gm 199 (by decide +kernel) rfl⟩
theorem fp_X10_9 : FP RX10 9 9 0 false tpI := ⟨RX10, TX10, 7, tyX10, cl9, by decide, gm 199 (by decide +kernel) rfl, rfl, rfl, by intro h; cases h⟩
theorem fl_X11_176 : FL RX11 176 9 0 := ⟨RX10, TX10, 7, tyX10, cl9, by decide, gm 200 (by decide +kernel) rfl⟩
theorem fp_X11_176 : FP RX11 176 9 0 false tpI := ⟨RX10, TX10, 7, tyX10, cl9, by decide, gm 200 (by decide +kernel) rfl, rfl, rfl, by intro h; cases h⟩
theorem fl_X10_15 : FL RX10 15 9 1 := ⟨RX10, TX10, 7, tyX10, cl9, by decide, gm 201 (by decide +kernel) rfl⟩
theorem fp_X10_15 : FP RX10 15 9 1 false tpI := ⟨RX10, TX10, 7, tyX10, cl9, by decide, gm 201 (by decide +kernel) rfl, rfl, rfl, by intro h; cases h⟩
theorem fl_X10_18 : FL RX10 18 9 2 := ⟨RX10, TX10, 7, tyX10, cl9, by decide, gm 202 (by decide +kernel) rfl⟩
theorem fp_X10_18 : FP RX10 18 9 2 true tpR := ⟨RX10, TX10, 7, tyX10, cl9, by decide, gm 202 (by decide +kernel) rfl, rfl, Or.inr ⟨_, rfl⟩, fun _ => rfl⟩
theorem fl_X11_231 : FL RX11 231 9 2 := ⟨RX10, TX10, 7, tyX10, cl9, by decide, gm 203 (by decide +kernel) rfl⟩
theorem fl_X10_22 : FL RX10 22 9 3 := ⟨RX10, TX10, 7, tyX10, cl9, by decide, gm 204 (by decide +kernel) rfl⟩
theorem fp_X10_22 : FP RX10 22 9 3 true tpR := ⟨RX10, TX10, 7, tyX10, cl9, by decide, gm 204 (by decide +kernel) rfl, rfl, Or.inr ⟨_, rfl⟩, fun _ => rfl⟩
theorem fl_X11_234 : FL RX11 234 9 3 := ⟨RX10, TX10, 7, tyX10, cl9, by decide, gm 205 (by decide +kernel) rfl⟩
theorem fl_X10_25 : FL RX10 25 9 4 := ⟨RX10, TX10, 7, tyX10, cl9, by decide, gm 206 (by decide +kernel) rfl⟩
theorem fp_X10_25 : FP RX10 25 9 4 true tpR := ⟨RX10, TX10, 7, tyX10, cl9, by decide, gm 206 (by decide +kernel) rfl, rfl, Or.inr ⟨_, rfl⟩, fun _ => rfl⟩
theorem fl_X11_237 : FL RX11 237 9 4 := ⟨RX10, TX10, 7, tyX10, cl9, by decide, gm 207 (by decide +kernel) rfl⟩
theorem fl_X10_28 : FL RX10 28 9 5 := ⟨RX10, TX10, 7, tyX10, cl9, by decide, gm 208 (by decide +kernel) rfl⟩
theorem fp_X10_28 : FP RX10 28 9 5 true tpR := ⟨RX10, TX10, 7, tyX10, cl9, by decide, gm 208 (by decide +kernel) rfl, rfl, Or.inr ⟨_, rfl⟩, fun _ => rfl⟩
theorem fl_X10_31 : FL RX10 31 9 6 := ⟨RX10, TX10, 7, tyX10, cl9, by decide, gm 209 (by decide +kernel) rfl⟩
theorem fp_X10_31 : FP RX10 31 9 6 false tpI := ⟨RX10, TX10, 7, tyX10, cl9, by decide, gm 209 (by decide +kernel) rfl, rfl, rfl, by intro h; cases h⟩
theorem fl_X8_9 : FL RX8 9 7 0 := ⟨RX8, TX8, 7, tyX8, cl7, by decide, gm 234 (by decide +kernel) rfl⟩
theorem fp_X8_9 : FP RX8 9 7 0 true tpR := ⟨RX8, TX8, 7, tyX8, cl7, by decide, gm 234 (by decide +kernel) rfl, rfl, Or.inr ⟨_, rfl⟩, fun _ => rfl⟩
theorem fl_X8_15 : FL RX8 15 7 1 := ⟨RX8, TX8, 7, tyX8, cl7, by decide, gm 235 (by decide +kernel) rfl⟩
theorem fp_X8_15 : FP RX8 15 7 1 true tpR := ⟨RX8, TX8, 7, tyX8, cl7, by decide, gm 235 (by decide +kernel) rfl, rfl, Or.inr ⟨_, rfl⟩, fun _ => rfl⟩
theorem fl_X8_19 : FL RX8 19 7 2 := ⟨RX8, TX8, 7, tyX8, cl7, by decide, gm 236 (by decide +kernel) rfl⟩
theorem fp_X8_19 : FP RX8 19 7 2 true tpR := ⟨RX8, TX8, 7, tyX8, cl7, by decide, gm 236 (by decide +kernel) rfl, rfl, Or.inr ⟨_, rfl⟩, fun _ => rfl⟩
theorem fl_X8_22 : FL RX8 22 7 3 := ⟨RX8, TX8, 7, tyX8, cl7, by decide, gm 237 (by decide +kernel) rfl⟩
theorem fp_X8_22 : FP RX8 22 7 3 false tpL := ⟨RX8, TX8, 7, tyX8, cl7, by decide, gm 237 (by decide +kernel) rfl, rfl, rfl, by intro h; cases h⟩
theorem fl_X8_26 : FL RX8 26 7 4 := ⟨RX8, TX8, 7, tyX8, cl7, by decide, gm 238 (by decide +kernel) rfl⟩
theorem fp_X8_26 : FP RX8 26 7 4 false tpI := ⟨RX8, TX8, 7, tyX8, cl7, by decide, gm 238 (by decide +kernel) rfl, rfl, rfl, by intro h; cases h⟩
theorem fl_X8_30 : FL RX8 30 7 5 := ⟨RX8, TX8, 7, tyX8, cl7, by decide, gm 239 (by decide +kernel) rfl⟩
theorem fp_X8_30 : FP RX8 30 7 5 false tpI := ⟨RX8, TX8, 7, tyX8, cl7, by decide, gm 239 (by decide +kernel) rfl, rfl, rfl, by intro h; cases h⟩
theorem fl_X8_33 : FL RX8 33 7 6 := ⟨RX8, TX8, 7, tyX8, cl7, by decide, gm 240 (by decide +kernel) rfl⟩
theorem fp_X8_33 : FP RX8 33 7 6 false tpI := ⟨RX8, TX8, 7, tyX8, cl7, by decide, gm 240 (by decide +kernel) rfl, rfl, rfl, by intro h; cases h⟩
theorem fl_X3_9 : FL RX3 9 2 0 := ⟨RX3, TX3, 4, tyX3, cl2, by decide, gm 266 (by decide +kernel) rfl⟩
theorem fp_X3_9 : FP RX3 9 2 0 true tpR := ⟨RX3, TX3, 4, tyX3, cl2, by decide, gm 266 (by decide +kernel) rfl, rfl, Or.inr ⟨_, rfl⟩, fun _ => rfl⟩
theorem fl_X3_15 : FL RX3 15 2 1 := ⟨RX3, TX3, 4, tyX3, cl2, by decide, gm 267 (by decide +kernel) rfl⟩
theorem fp_X3_15 : FP RX3 15 2 1 true tpR := ⟨RX3, TX3, 4, tyX3, cl2, by decide, gm 267 (by decide +kernel) rfl, rfl, Or.inr ⟨_, rfl⟩, fun _ => rfl⟩
theorem fl_X3_22 : FL RX3 22 2 2 := ⟨RX3, TX3, 4, tyX3, cl2, by decide, gm 268 (by decide +kernel) rfl⟩
theorem fp_X3_22 : FP RX3 22 2 2 true tpR := ⟨RX3, TX3, 4, tyX3, cl2, by decide, gm 268 (by decide +kernel) rfl, rfl, Or.inl ⟨_, rfl⟩, fun _ => rfl⟩
theorem fl_X3_29 : FL RX3 29 2 3 := ⟨RX3, TX3, 4, tyX3, cl2, by decide, gm 269 (by decide +kernel) rfl⟩
theorem fp_X3_29 : FP RX3 29 2 3 true tpR := ⟨RX3, TX3, 4, tyX3, cl2, by decide, gm 269 (by decide +kernel) rfl, rfl, Or.inl ⟨_, rfl⟩, fun _ => rfl⟩
theorem fl_X4_9 : FL RX4 9 3 0 := ⟨RX4, TX4, 3, tyX4, cl3, by decide, gm 285 (by decide +kernel) rfl⟩
theorem fp_X4_9 : FP RX4 9 3 0 true tpR := ⟨RX4, TX4, 3, tyX4, cl3, by decide, gm 285 (by decide +kernel) rfl, rfl, Or.inr ⟨_, rfl⟩, fun _ => rfl⟩
theorem fl_X4_15 : FL RX4 15 3 1 := ⟨RX4, TX4, 3, tyX4, cl3, by decide, gm 286 (by decide +kernel) rfl⟩
theorem fp_X4_15 : FP RX4 15 3 1 true tpR := ⟨RX4, TX4, 3, tyX4, cl3, by decide, gm 286 (by decide +kernel) rfl, rfl, Or.inr ⟨_, rfl⟩, fun _ => rfl⟩
theorem fl_X4_19 : FL RX4 19 3 2 := ⟨RX4, TX4, 3, tyX4, cl3, by decide, gm 287 (by decide +kernel) rfl⟩
theorem fp_X4_19 : FP RX4 19 3 2 false tpL := ⟨RX4, TX4, 3, tyX4, cl3, by decide, gm 287 (by decide +kernel) rfl, rfl, rfl, by intro h; cases h⟩
theorem fl_X2_9 : FL RX2 9 1 0 := ⟨RX2, TX2, 2, tyX2, cl1, by decide, gm 301 (by decide +kernel) rfl⟩
theorem fp_X2_9 : FP RX2 9 1 0 true tpR := ⟨RX2, TX2, 2, tyX2, cl1, by decide, gm 301 (by decide +kernel) rfl, rfl, Or.inr ⟨_, rfl⟩, fun _ => rfl⟩
theorem fl_X2_15 : FL RX2 15 1 1 := ⟨RX2, TX2, 2, tyX2, cl1, by decide, gm 302 (by decide +kernel) rfl⟩
theorem fp_X2_15 : FP RX2 15 1 1 true tpR := ⟨RX2, TX2, 2, tyX2, cl1, by decide, gm 302 (by decide +kernel) rfl, rfl, Or.inr ⟨_, rfl⟩, fun _ => rfl⟩
theorem fl_X5_11 : FL RX5 11 4 0 := ⟨RX5, TX5, 2, tyX5, cl4, by decide, gm 314 (by decide +kernel) rfl⟩
theorem fp_X5_11 : FP RX5 11 4 0 true tpR := ⟨RX5, TX5, 2, tyX5, cl4, by decide, gm 314 (by decide +kernel) rfl, rfl, Or.inr ⟨_, rfl⟩, fun _ => rfl⟩
theorem fl_X5_15 : FL RX5 15 4 1 := ⟨RX5, TX5, 2, tyX5, cl4, by decide, gm 315 (by decide +kernel) rfl⟩
theorem fp_X5_15 : FP RX5 15 4 1 true tpR := ⟨RX5, TX5, 2, tyX5, cl4, by decide, gm 315 (by decide +kernel) rfl, rfl, Or.inr ⟨_, rfl⟩, fun _ => rfl⟩
theorem fl_X11_10 : FL RX11 10 10 0 := ⟨RX11, TX11, 12, tyX11, cl10, by decide, gm 333 (by decide +kernel) rfl⟩
theorem fp_X11_10 : FP RX11 10 10 0 true tpR := ⟨RX11, TX11, 12, tyX11, cl10, by decide, gm 333 (by decide +kernel) rfl, rfl, Or.inl ⟨_, rfl⟩, fun _ => rfl⟩
theorem fl_X11_19 : FL RX11 19 10 1 := ⟨RX11, TX11, 12, tyX11, cl10, by decide, gm 334 (by decide +kernel) rfl⟩
theorem fp_X11_19 : FP RX11 19 10 1 true tpR := ⟨RX11, TX11, 12, tyX11, cl10, by decide, gm 334 (by decide +kernel) rfl, rfl, Or.inl ⟨_, rfl⟩, fun _ => rfl⟩
theorem fl_X11_26 : FL RX11 26 10 2 := ⟨RX11, TX11, 12, tyX11, cl10, by decide, gm 335 (by decide +kernel) rfl⟩
theorem fp_X11_26 : FP RX11 26 10 2 true tpR := ⟨RX11, TX11, 12, tyX11, cl10, by decide, gm 335 (by decide +kernel) rfl, rfl, Or.inl ⟨_, rfl⟩, fun _ => rfl⟩
theorem fl_X11_33 : FL RX11 33 10 3 := ⟨RX11, TX11, 12, tyX11, cl10, by decide, gm 336 (by decide +kernel) rfl⟩
theorem fp_X11_33 : FP RX11 33 10 3 true tpR := ⟨RX11, TX11, 12, tyX11, cl10, by decide, gm 336 (by decide +kernel) rfl, rfl, Or.inl ⟨_, rfl⟩, fun _ => rfl⟩
theorem fl_X11_39 : FL RX11 39 10 4 := ⟨RX11, TX11, 12, tyX11, cl10, by decide, gm 337 (by decide +kernel) rfl⟩
theorem fp_X11_39 : FP RX11 39 10 4 true tpR := ⟨RX11, TX11, 12, tyX11, cl10, by decide, gm 337 (by decide +kernel) rfl, rfl, Or.inr ⟨_, rfl⟩, fun _ => rfl⟩
theorem fl_X11_44 : FL RX11 44 10 5 := ⟨RX11, TX11, 12, tyX11, cl10, by decide, gm 338 (by decide +kernel) rfl⟩
theorem fp_X11_44 : FP RX11 44 10 5 true tpR := ⟨RX11, TX11, 12, tyX11, cl10, by decide, gm 338 (by decide +kernel) rfl, rfl, Or.inl ⟨_, rfl⟩, fun _ => rfl⟩
theorem fl_X11_51 : FL RX11 51 10 6 := ⟨RX11, TX11, 12, tyX11, cl10, by decide, gm 339 (by decide +kernel) rfl⟩
theorem fp_X11_51 : FP RX11 51 10 6 true tpR := ⟨RX11, TX11, 12, tyX11, cl10, by decide, gm 339 (by decide +kernel) rfl, rfl, Or.inl ⟨_, rfl⟩, fun _ => rfl⟩
theorem fl_X11_58 : FL RX11 58 10 7 := ⟨RX11, TX11, 12, tyX11, cl10, by decide, gm 340 (by decide +kernel) rfl⟩
theorem fp_X11_58 : FP RX11 58 10 7 true tpR := ⟨RX11, TX11, 12, tyX11, cl10, by decide, gm 340 (by decide +kernel) rfl, rfl, Or.inl ⟨_, rfl⟩, fun _ => rfl⟩
theorem fl_X11_65 : FL RX11 65 10 8 := ⟨RX11, TX11, 12, tyX11, cl10, by decide, gm 341 (by decide +kernel) rfl⟩
theorem fp_X11_65 : FP RX11 65 10 8 true tpR := ⟨RX11, TX11, 12, tyX11, cl10, by decide, gm 341 (by decide +kernel) rfl, rfl, Or.inl ⟨_, rfl⟩, fun _ => rfl⟩
theorem fl_X11_72 : FL RX11 72 10 9 := ⟨RX11, TX11, 12, tyX11, cl10, by decide, gm 342 (by decide +kernel) rfl⟩
theorem fp_X11_72 : FP RX11 72 10 9 true tpR := ⟨RX11, TX11, 12, tyX11, cl10, by decide, gm 342 (by decide +kernel) rfl, rfl, Or.inl ⟨_, rfl⟩, fun _ => rfl⟩
theorem fl_X11_79 : FL RX11 79 10 10 := ⟨RX11, TX11, 12, tyX11, cl10, by decide, gm 343 (by decide +kernel) rfl⟩
theorem fp_X11_79 : FP RX11 79 10 10 true tpR := ⟨RX11, TX11, 12, tyX11, cl10, by decide, gm 343 (by decide +kernel) rfl, rfl, Or.inl ⟨_, rfl⟩, fun _ => rfl⟩
theorem fl_X11_83 : FL RX11 83 10 11 := ⟨RX11, TX11, 12, tyX11, cl10, by decide, gm 344 (by decide +kernel) rfl⟩
theorem fp_X11_83 : FP RX11 83 10 11 false tpI := ⟨RX11, TX11, 12, tyX11, cl10, by decide, gm 344 (by decide +kernel) rfl, rfl, rfl, by intro h; cases h⟩
theorem gs_X2_61 : Cond.fieldLink RX2 61 RX2 "ORDERS" "[I" ∈ gtb := gm 750 (by decide +kernel) rfl
theorem fl_X12_9 : FL RX12 9 11 0 := ⟨RX12, TX12, 25, tyX12, cl11, by decide, gm 899 (by decide +kernel) rfl⟩
theorem fp_X12_9 : FP RX12 9 11 0 true tpR := ⟨RX12, TX12, 25, tyX12, cl11, by decide, gm 899 (by decide +kernel) rfl, rfl, Or.inr ⟨_, rfl⟩, fun _ => rfl⟩
theorem fl_X12_13 : FL RX12 13 11 1 := ⟨RX12, TX12, 25, tyX12, cl11, by decide, gm 900 (by decide +kernel) rfl⟩
theorem fp_X12_13 : FP RX12 13 11 1 true tpR := ⟨RX12, TX12, 25, tyX12, cl11, by decide, gm 900 (by decide +kernel) rfl, rfl, Or.inr ⟨_, rfl⟩, fun _ => rfl⟩
theorem fl_X12_16 : FL RX12 16 11 2 := ⟨RX12, TX12, 25, tyX12, cl11, by decide, gm 901 (by decide +kernel) rfl⟩
theorem fp_X12_16 : FP RX12 16 11 2 true tpR := ⟨RX12, TX12, 25, tyX12, cl11, by decide, gm 901 (by decide +kernel) rfl, rfl, Or.inr ⟨_, rfl⟩, fun _ => rfl⟩
theorem fl_X12_19 : FL RX12 19 11 3 := ⟨RX12, TX12, 25, tyX12, cl11, by decide, gm 902 (by decide +kernel) rfl⟩
theorem fp_X12_19 : FP RX12 19 11 3 true tpR := ⟨RX12, TX12, 25, tyX12, cl11, by decide, gm 902 (by decide +kernel) rfl, rfl, Or.inr ⟨_, rfl⟩, fun _ => rfl⟩
theorem fl_X12_22 : FL RX12 22 11 4 := ⟨RX12, TX12, 25, tyX12, cl11, by decide, gm 903 (by decide +kernel) rfl⟩
theorem fp_X12_22 : FP RX12 22 11 4 true tpR := ⟨RX12, TX12, 25, tyX12, cl11, by decide, gm 903 (by decide +kernel) rfl, rfl, Or.inr ⟨_, rfl⟩, fun _ => rfl⟩
theorem fl_X12_26 : FL RX12 26 11 5 := ⟨RX12, TX12, 25, tyX12, cl11, by decide, gm 904 (by decide +kernel) rfl⟩
theorem fp_X12_26 : FP RX12 26 11 5 true tpR := ⟨RX12, TX12, 25, tyX12, cl11, by decide, gm 904 (by decide +kernel) rfl, rfl, Or.inr ⟨_, rfl⟩, fun _ => rfl⟩
theorem fl_X12_80 : FL RX12 80 11 6 := ⟨RX12, TX12, 25, tyX12, cl11, by decide, gm 905 (by decide +kernel) rfl⟩
theorem fp_X12_80 : FP RX12 80 11 6 false tpI := ⟨RX12, TX12, 25, tyX12, cl11, by decide, gm 905 (by decide +kernel) rfl, rfl, rfl, by intro h; cases h⟩
theorem fl_X12_83 : FL RX12 83 11 7 := ⟨RX12, TX12, 25, tyX12, cl11, by decide, gm 906 (by decide +kernel) rfl⟩
theorem fp_X12_83 : FP RX12 83 11 7 false tpI := ⟨RX12, TX12, 25, tyX12, cl11, by decide, gm 906 (by decide +kernel) rfl, rfl, rfl, by intro h; cases h⟩
theorem fl_X12_29 : FL RX12 29 11 8 := ⟨RX12, TX12, 25, tyX12, cl11, by decide, gm 907 (by decide +kernel) rfl⟩
theorem fp_X12_29 : FP RX12 29 11 8 false tpI := ⟨RX12, TX12, 25, tyX12, cl11, by decide, gm 907 (by decide +kernel) rfl, rfl, rfl, by intro h; cases h⟩
theorem fl_X12_113 : FL RX12 113 11 9 := ⟨RX12, TX12, 25, tyX12, cl11, by decide, gm 908 (by decide +kernel) rfl⟩
theorem fp_X12_113 : FP RX12 113 11 9 false tpI := ⟨RX12, TX12, 25, tyX12, cl11, by decide, gm 908 (by decide +kernel) rfl, rfl, rfl, by intro h; cases h⟩
theorem fl_X12_33 : FL RX12 33 11 10 := ⟨RX12, TX12, 25, tyX12, cl11, by decide, gm 909 (by decide +kernel) rfl⟩
theorem fp_X12_33 : FP RX12 33 11 10 true tpR := ⟨RX12, TX12, 25, tyX12, cl11, by decide, gm 909 (by decide +kernel) rfl, rfl, Or.inr ⟨_, rfl⟩, fun _ => rfl⟩
theorem fl_X12_37 : FL RX12 37 11 11 := ⟨RX12, TX12, 25, tyX12, cl11, by decide, gm 910 (by decide +kernel) rfl⟩
theorem fp_X12_37 : FP RX12 37 11 11 false tpI := ⟨RX12, TX12, 25, tyX12, cl11, by decide, gm 910 (by decide +kernel) rfl, rfl, rfl, by intro h; cases h⟩
theorem fl_X12_40 : FL RX12 40 11 12 := ⟨RX12, TX12, 25, tyX12, cl11, by decide, gm 911 (by decide +kernel) rfl⟩
theorem fp_X12_40 : FP RX12 40 11 12 true tpR := ⟨RX12, TX12, 25, tyX12, cl11, by decide, gm 911 (by decide +kernel) rfl, rfl, Or.inr ⟨_, rfl⟩, fun _ => rfl⟩
theorem fl_X12_43 : FL RX12 43 11 13 := ⟨RX12, TX12, 25, tyX12, cl11, by decide, gm 912 (by decide +kernel) rfl⟩
theorem fp_X12_43 : FP RX12 43 11 13 true tpR := ⟨RX12, TX12, 25, tyX12, cl11, by decide, gm 912 (by decide +kernel) rfl, rfl, Or.inr ⟨_, rfl⟩, fun _ => rfl⟩
theorem fl_X12_46 : FL RX12 46 11 14 := ⟨RX12, TX12, 25, tyX12, cl11, by decide, gm 913 (by decide +kernel) rfl⟩
theorem fp_X12_46 : FP RX12 46 11 14 true tpR := ⟨RX12, TX12, 25, tyX12, cl11, by decide, gm 913 (by decide +kernel) rfl, rfl, Or.inr ⟨_, rfl⟩, fun _ => rfl⟩
theorem fl_X12_49 : FL RX12 49 11 15 := ⟨RX12, TX12, 25, tyX12, cl11, by decide, gm 914 (by decide +kernel) rfl⟩
theorem fp_X12_49 : FP RX12 49 11 15 true tpR := ⟨RX12, TX12, 25, tyX12, cl11, by decide, gm 914 (by decide +kernel) rfl, rfl, Or.inr ⟨_, rfl⟩, fun _ => rfl⟩
theorem fl_X12_52 : FL RX12 52 11 16 := ⟨RX12, TX12, 25, tyX12, cl11, by decide, gm 915 (by decide +kernel) rfl⟩
theorem fp_X12_52 : FP RX12 52 11 16 true tpR := ⟨RX12, TX12, 25, tyX12, cl11, by decide, gm 915 (by decide +kernel) rfl, rfl, Or.inr ⟨_, rfl⟩, fun _ => rfl⟩
theorem fl_X12_55 : FL RX12 55 11 17 := ⟨RX12, TX12, 25, tyX12, cl11, by decide, gm 916 (by decide +kernel) rfl⟩
theorem fp_X12_55 : FP RX12 55 11 17 true tpR := ⟨RX12, TX12, 25, tyX12, cl11, by decide, gm 916 (by decide +kernel) rfl, rfl, Or.inr ⟨_, rfl⟩, fun _ => rfl⟩
theorem fl_X12_154 : FL RX12 154 11 18 := ⟨RX12, TX12, 25, tyX12, cl11, by decide, gm 917 (by decide +kernel) rfl⟩
theorem fp_X12_154 : FP RX12 154 11 18 false tpI := ⟨RX12, TX12, 25, tyX12, cl11, by decide, gm 917 (by decide +kernel) rfl, rfl, rfl, by intro h; cases h⟩
theorem fl_X12_77 : FL RX12 77 11 19 := ⟨RX12, TX12, 25, tyX12, cl11, by decide, gm 918 (by decide +kernel) rfl⟩
theorem fp_X12_77 : FP RX12 77 11 19 false tpI := ⟨RX12, TX12, 25, tyX12, cl11, by decide, gm 918 (by decide +kernel) rfl, rfl, rfl, by intro h; cases h⟩
theorem fl_X12_58 : FL RX12 58 11 20 := ⟨RX12, TX12, 25, tyX12, cl11, by decide, gm 919 (by decide +kernel) rfl⟩
theorem fp_X12_58 : FP RX12 58 11 20 true tpR := ⟨RX12, TX12, 25, tyX12, cl11, by decide, gm 919 (by decide +kernel) rfl, rfl, Or.inr ⟨_, rfl⟩, fun _ => rfl⟩
theorem fl_X12_61 : FL RX12 61 11 21 := ⟨RX12, TX12, 25, tyX12, cl11, by decide, gm 920 (by decide +kernel) rfl⟩
theorem fp_X12_61 : FP RX12 61 11 21 true tpR := ⟨RX12, TX12, 25, tyX12, cl11, by decide, gm 920 (by decide +kernel) rfl, rfl, Or.inr ⟨_, rfl⟩, fun _ => rfl⟩
theorem fl_X12_64 : FL RX12 64 11 22 := ⟨RX12, TX12, 25, tyX12, cl11, by decide, gm 921 (by decide +kernel) rfl⟩
theorem fp_X12_64 : FP RX12 64 11 22 true tpR := ⟨RX12, TX12, 25, tyX12, cl11, by decide, gm 921 (by decide +kernel) rfl, rfl, Or.inr ⟨_, rfl⟩, fun _ => rfl⟩
theorem fl_X12_67 : FL RX12 67 11 23 := ⟨RX12, TX12, 25, tyX12, cl11, by decide, gm 922 (by decide +kernel) rfl⟩
theorem fp_X12_67 : FP RX12 67 11 23 true tpR := ⟨RX12, TX12, 25, tyX12, cl11, by decide, gm 922 (by decide +kernel) rfl, rfl, Or.inr ⟨_, rfl⟩, fun _ => rfl⟩
theorem fl_X12_70 : FL RX12 70 11 24 := ⟨RX12, TX12, 25, tyX12, cl11, by decide, gm 923 (by decide +kernel) rfl⟩
theorem fp_X12_70 : FP RX12 70 11 24 true tpR := ⟨RX12, TX12, 25, tyX12, cl11, by decide, gm 923 (by decide +kernel) rfl, rfl, Or.inr ⟨_, rfl⟩, fun _ => rfl⟩
theorem ymX0_ofParting : YM yX0_ofParting cX0_ofParting 6 (some .long) 3 := ⟨gm 524 (by decide +kernel) rfl, gm 68 (by decide +kernel) rfl, by decide, by decide +kernel, by decide +kernel⟩
theorem ysX0_ofParting : Cond.static yX0_ofParting ∈ gtb := gm 523 (by decide +kernel) rfl
theorem ymX0_ground : YM yX0_ground cX0_ground 6 (some .long) 2 := ⟨gm 527 (by decide +kernel) rfl, gm 68 (by decide +kernel) rfl, by decide, by decide +kernel, by decide +kernel⟩
theorem ysX0_ground : Cond.static yX0_ground ∈ gtb := gm 526 (by decide +kernel) rfl
theorem ymX0_with : YM yX0_with cX0_with 5 (some .long) 3 := ⟨gm 564 (by decide +kernel) rfl, gm 68 (by decide +kernel) rfl, by decide, by decide +kernel, by decide +kernel⟩
theorem ysX0_with : Cond.static yX0_with ∈ gtb := gm 563 (by decide +kernel) rfl
theorem ymX0_ofHeap : YM yX0_ofHeap cX0_ofHeap 3 (some .long) 3 := ⟨gm 536 (by decide +kernel) rfl, gm 68 (by decide +kernel) rfl, by decide, by decide +kernel, by decide +kernel⟩
theorem ysX0_ofHeap : Cond.static yX0_ofHeap ∈ gtb := gm 535 (by decide +kernel) rfl
theorem ymX0_has : YM yX0_has cX0_has 2 (some .boolean) 2 := ⟨gm 542 (by decide +kernel) rfl, gm 68 (by decide +kernel) rfl, by decide, by decide +kernel, by decide +kernel⟩
theorem ysX0_has : Cond.static yX0_has ∈ gtb := gm 541 (by decide +kernel) rfl
theorem ymX0_spread : YM yX0_spread cX0_spread 9 (some .long) 2 := ⟨gm 539 (by decide +kernel) rfl, gm 68 (by decide +kernel) rfl, by decide, by decide +kernel, by decide +kernel⟩
theorem ysX0_spread : Cond.static yX0_spread ∈ gtb := gm 538 (by decide +kernel) rfl
theorem ymX0_middleOf : YM yX0_middleOf cX0_middleOf 8 (some .int) 2 := ⟨gm 547 (by decide +kernel) rfl, gm 68 (by decide +kernel) rfl, by decide, by decide +kernel, by decide +kernel⟩
theorem ysX0_middleOf : Cond.static yX0_middleOf ∈ gtb := gm 546 (by decide +kernel) rfl
theorem ymX0_sumFrom : YM yX0_sumFrom cX0_sumFrom 6 (some .long) 3 := ⟨gm 551 (by decide +kernel) rfl, gm 68 (by decide +kernel) rfl, by decide, by decide +kernel, by decide +kernel⟩
theorem ysX0_sumFrom : Cond.static yX0_sumFrom ∈ gtb := gm 550 (by decide +kernel) rfl
theorem ymX0_width : YM yX0_width cX0_width 4 (some .long) 2 := ⟨gm 554 (by decide +kernel) rfl, gm 68 (by decide +kernel) rfl, by decide, by decide +kernel, by decide +kernel⟩
theorem ysX0_width : Cond.static yX0_width ∈ gtb := gm 553 (by decide +kernel) rfl
theorem ymX0_reach : YM yX0_reach cX0_reach 6 (some .int) 4 := ⟨gm 557 (by decide +kernel) rfl, gm 68 (by decide +kernel) rfl, by decide, by decide +kernel, by decide +kernel⟩
theorem ysX0_reach : Cond.static yX0_reach ∈ gtb := gm 556 (by decide +kernel) rfl
theorem ymX0_quarrels : YM yX0_quarrels cX0_quarrels 7 (some .long) 2 := ⟨gm 561 (by decide +kernel) rfl, gm 68 (by decide +kernel) rfl, by decide, by decide +kernel, by decide +kernel⟩
theorem ysX0_quarrels : Cond.static yX0_quarrels ∈ gtb := gm 560 (by decide +kernel) rfl
theorem ymX1_init : YM yX1_init cX1_init 1 none 0 := ⟨gm 158 (by decide +kernel) rfl, gm 56 (by decide +kernel) rfl, by decide, by decide +kernel, by decide +kernel⟩
theorem yiX1_init : Cond.instanceMethod yX1_init ∈ gtb := gm 157 (by decide +kernel) rfl
theorem ymX1_remember : YM yX1_remember cX1_remember 2 none 1 := ⟨gm 385 (by decide +kernel) rfl, gm 56 (by decide +kernel) rfl, by decide, by decide +kernel, by decide +kernel⟩
theorem yvX1_remember : YV yX1_remember 0 := ⟨gm 383 (by decide +kernel) rfl, gm 384 (by decide +kernel) rfl, _, rfl, rfl⟩
theorem ymX1_bringBack : YM yX1_bringBack cX1_bringBack 3 none 1 := ⟨gm 884 (by decide +kernel) rfl, gm 56 (by decide +kernel) rfl, by decide, by decide +kernel, by decide +kernel⟩
theorem yvX1_bringBack : YV yX1_bringBack 0 := ⟨gm 882 (by decide +kernel) rfl, gm 883 (by decide +kernel) rfl, _, rfl, rfl⟩
theorem ymX2_init : YM yX2_init cX2_init 1 none 0 := ⟨gm 299 (by decide +kernel) rfl, gm 62 (by decide +kernel) rfl, by decide, by decide +kernel, by decide +kernel⟩
theorem yiX2_init : Cond.instanceMethod yX2_init ∈ gtb := gm 298 (by decide +kernel) rfl
theorem ymX2_shuffle : YM yX2_shuffle cX2_shuffle 7 none 2 := ⟨gm 720 (by decide +kernel) rfl, gm 62 (by decide +kernel) rfl, by decide, by decide +kernel, by decide +kernel⟩
theorem yvX2_shuffle : YV yX2_shuffle 1 := ⟨gm 718 (by decide +kernel) rfl, gm 719 (by decide +kernel) rfl, _, rfl, rfl⟩
theorem ymX2_gather : YM yX2_gather cX2_gather 8 none 1 := ⟨gm 725 (by decide +kernel) rfl, gm 62 (by decide +kernel) rfl, by decide, by decide +kernel, by decide +kernel⟩
theorem yvX2_gather : YV yX2_gather 1 := ⟨gm 723 (by decide +kernel) rfl, gm 724 (by decide +kernel) rfl, _, rfl, rfl⟩
theorem ymX2_likedBy : YM yX2_likedBy cX2_likedBy 5 (some .int) 3 := ⟨gm 729 (by decide +kernel) rfl, gm 62 (by decide +kernel) rfl, by decide, by decide +kernel, by decide +kernel⟩
theorem ysX2_likedBy : Cond.static yX2_likedBy ∈ gtb := gm 728 (by decide +kernel) rfl
theorem ymX2_sumOverOrders : YM yX2_sumOverOrders cX2_sumOverOrders 4 (some .long) 1 := ⟨gm 744 (by decide +kernel) rfl, gm 62 (by decide +kernel) rfl, by decide, by decide +kernel, by decide +kernel⟩
theorem yvX2_sumOverOrders : YV yX2_sumOverOrders 1 := ⟨gm 742 (by decide +kernel) rfl, gm 743 (by decide +kernel) rfl, _, rfl, rfl⟩
theorem ymX2_sumOver : YM yX2_sumOver cX2_sumOver 10 (some .long) 2 := ⟨gm 749 (by decide +kernel) rfl, gm 62 (by decide +kernel) rfl, by decide, by decide +kernel, by decide +kernel⟩
theorem yvX2_sumOver : YV yX2_sumOver 1 := ⟨gm 748 (by decide +kernel) rfl, gm 21 (by decide +kernel) rfl, _, rfl, rfl⟩
theorem ymX2_costOfTaking : YM yX2_costOfTaking cX2_costOfTaking 9 (some .long) 3 := ⟨gm 755 (by decide +kernel) rfl, gm 62 (by decide +kernel) rfl, by decide, by decide +kernel, by decide +kernel⟩
theorem ysX2_costOfTaking : Cond.static yX2_costOfTaking ∈ gtb := gm 754 (by decide +kernel) rfl
theorem ymX2_brokenRounds : YM yX2_brokenRounds cX2_brokenRounds 5 (some .int) 1 := ⟨gm 764 (by decide +kernel) rfl, gm 62 (by decide +kernel) rfl, by decide, by decide +kernel, by decide +kernel⟩
theorem ysX2_brokenRounds : Cond.static yX2_brokenRounds ∈ gtb := gm 763 (by decide +kernel) rfl
theorem ymX2_isBroken : YM yX2_isBroken cX2_isBroken 5 (some .boolean) 4 := ⟨gm 767 (by decide +kernel) rfl, gm 62 (by decide +kernel) rfl, by decide, by decide +kernel, by decide +kernel⟩
theorem ysX2_isBroken : Cond.static yX2_isBroken ∈ gtb := gm 766 (by decide +kernel) rfl
theorem ymX3_init : YM yX3_init cX3_init 1 none 0 := ⟨gm 260 (by decide +kernel) rfl, gm 60 (by decide +kernel) rfl, by decide, by decide +kernel, by decide +kernel⟩
theorem yiX3_init : Cond.instanceMethod yX3_init ∈ gtb := gm 259 (by decide +kernel) rfl
theorem ymX3_run : YM yX3_run cX3_run 9 (some .long) 3 := ⟨gm 613 (by decide +kernel) rfl, gm 60 (by decide +kernel) rfl, by decide, by decide +kernel, by decide +kernel⟩
theorem yvX3_run : YV yX3_run 2 := ⟨gm 611 (by decide +kernel) rfl, gm 612 (by decide +kernel) rfl, _, rfl, rfl⟩
theorem ymX3_flatten : YM yX3_flatten cX3_flatten 4 none 1 := ⟨gm 617 (by decide +kernel) rfl, gm 60 (by decide +kernel) rfl, by decide, by decide +kernel, by decide +kernel⟩
theorem yvX3_flatten : YV yX3_flatten 2 := ⟨gm 616 (by decide +kernel) rfl, gm 9 (by decide +kernel) rfl, _, rfl, rfl⟩
theorem ymX3_sortThings : YM yX3_sortThings cX3_sortThings 4 none 1 := ⟨gm 627 (by decide +kernel) rfl, gm 60 (by decide +kernel) rfl, by decide, by decide +kernel, by decide +kernel⟩
theorem yvX3_sortThings : YV yX3_sortThings 2 := ⟨gm 626 (by decide +kernel) rfl, gm 10 (by decide +kernel) rfl, _, rfl, rfl⟩
theorem ymX3_costAllSpans : YM yX3_costAllSpans cX3_costAllSpans 5 none 1 := ⟨gm 631 (by decide +kernel) rfl, gm 60 (by decide +kernel) rfl, by decide, by decide +kernel, by decide +kernel⟩
theorem yvX3_costAllSpans : YV yX3_costAllSpans 2 := ⟨gm 630 (by decide +kernel) rfl, gm 11 (by decide +kernel) rfl, _, rfl, rfl⟩
theorem ymX3_endsAt : YM yX3_endsAt cX3_endsAt 3 (some .boolean) 2 := ⟨gm 647 (by decide +kernel) rfl, gm 60 (by decide +kernel) rfl, by decide, by decide +kernel, by decide +kernel⟩
theorem yvX3_endsAt : YV yX3_endsAt 2 := ⟨gm 646 (by decide +kernel) rfl, gm 13 (by decide +kernel) rfl, _, rfl, rfl⟩
theorem ymX3_costOf : YM yX3_costOf cX3_costOf 7 (some .long) 2 := ⟨gm 643 (by decide +kernel) rfl, gm 60 (by decide +kernel) rfl, by decide, by decide +kernel, by decide +kernel⟩
theorem yvX3_costOf : YV yX3_costOf 2 := ⟨gm 642 (by decide +kernel) rfl, gm 12 (by decide +kernel) rfl, _, rfl, rfl⟩
theorem ymX3_partBy : YM yX3_partBy cX3_partBy 4 none 1 := ⟨gm 653 (by decide +kernel) rfl, gm 60 (by decide +kernel) rfl, by decide, by decide +kernel, by decide +kernel⟩
theorem yvX3_partBy : YV yX3_partBy 2 := ⟨gm 652 (by decide +kernel) rfl, gm 14 (by decide +kernel) rfl, _, rfl, rfl⟩
theorem ymX4_init : YM yX4_init cX4_init 1 none 0 := ⟨gm 283 (by decide +kernel) rfl, gm 61 (by decide +kernel) rfl, by decide, by decide +kernel, by decide +kernel⟩
theorem yiX4_init : Cond.instanceMethod yX4_init ∈ gtb := gm 282 (by decide +kernel) rfl
theorem ymX4_run : YM yX4_run cX4_run 4 (some .int) 2 := ⟨gm 667 (by decide +kernel) rfl, gm 61 (by decide +kernel) rfl, by decide, by decide +kernel, by decide +kernel⟩
theorem yvX4_run : YV yX4_run 3 := ⟨gm 665 (by decide +kernel) rfl, gm 666 (by decide +kernel) rfl, _, rfl, rfl⟩
theorem ymX4_weighHeaps : YM yX4_weighHeaps cX4_weighHeaps 4 none 2 := ⟨gm 676 (by decide +kernel) rfl, gm 61 (by decide +kernel) rfl, by decide, by decide +kernel, by decide +kernel⟩
theorem yvX4_weighHeaps : YV yX4_weighHeaps 3 := ⟨gm 675 (by decide +kernel) rfl, gm 16 (by decide +kernel) rfl, _, rfl, rfl⟩
theorem ymX4_makeBestMove : YM yX4_makeBestMove cX4_makeBestMove 15 (some .boolean) 2 := ⟨gm 672 (by decide +kernel) rfl, gm 61 (by decide +kernel) rfl, by decide, by decide +kernel, by decide +kernel⟩
theorem yvX4_makeBestMove : YV yX4_makeBestMove 3 := ⟨gm 671 (by decide +kernel) rfl, gm 15 (by decide +kernel) rfl, _, rfl, rfl⟩
theorem ymX4_costAfter : YM yX4_costAfter cX4_costAfter 10 (some .long) 4 := ⟨gm 684 (by decide +kernel) rfl, gm 61 (by decide +kernel) rfl, by decide, by decide +kernel, by decide +kernel⟩
theorem yvX4_costAfter : YV yX4_costAfter 3 := ⟨gm 683 (by decide +kernel) rfl, gm 17 (by decide +kernel) rfl, _, rfl, rfl⟩
theorem ymX5_init : YM yX5_init cX5_init 3 none 0 := ⟨gm 312 (by decide +kernel) rfl, gm 63 (by decide +kernel) rfl, by decide, by decide +kernel, by decide +kernel⟩
theorem yiX5_init : Cond.instanceMethod yX5_init ∈ gtb := gm 311 (by decide +kernel) rfl
theorem ymX5_allOf : YM yX5_allOf cX5_allOf 2 (some .long) 1 := ⟨gm 817 (by decide +kernel) rfl, gm 63 (by decide +kernel) rfl, by decide, by decide +kernel, by decide +kernel⟩
theorem yvX5_allOf : YV yX5_allOf 4 := ⟨gm 815 (by decide +kernel) rfl, gm 816 (by decide +kernel) rfl, _, rfl, rfl⟩
theorem ymX5_withHeaps : YM yX5_withHeaps cX5_withHeaps 5 (some .long) 2 := ⟨gm 821 (by decide +kernel) rfl, gm 63 (by decide +kernel) rfl, by decide, by decide +kernel, by decide +kernel⟩
theorem yvX5_withHeaps : YV yX5_withHeaps 4 := ⟨gm 819 (by decide +kernel) rfl, gm 820 (by decide +kernel) rfl, _, rfl, rfl⟩
theorem ymX5_rankOf : YM yX5_rankOf cX5_rankOf 7 (some .long) 1 := ⟨gm 830 (by decide +kernel) rfl, gm 63 (by decide +kernel) rfl, by decide, by decide +kernel, by decide +kernel⟩
theorem yvX5_rankOf : YV yX5_rankOf 4 := ⟨gm 828 (by decide +kernel) rfl, gm 829 (by decide +kernel) rfl, _, rfl, rfl⟩
theorem ymX5_unrank : YM yX5_unrank cX5_unrank 11 none 2 := ⟨gm 839 (by decide +kernel) rfl, gm 63 (by decide +kernel) rfl, by decide, by decide +kernel, by decide +kernel⟩
theorem yvX5_unrank : YV yX5_unrank 4 := ⟨gm 837 (by decide +kernel) rfl, gm 838 (by decide +kernel) rfl, _, rfl, rfl⟩
theorem ymX6_init : YM yX6_init cX6_init 1 none 0 := ⟨gm 88 (by decide +kernel) rfl, gm 55 (by decide +kernel) rfl, by decide, by decide +kernel, by decide +kernel⟩
theorem yiX6_init : Cond.instanceMethod yX6_init ∈ gtb := gm 87 (by decide +kernel) rfl
theorem ymX6_copyFrom : YM yX6_copyFrom cX6_copyFrom 2 none 1 := ⟨gm 397 (by decide +kernel) rfl, gm 55 (by decide +kernel) rfl, by decide, by decide +kernel, by decide +kernel⟩
theorem yvX6_copyFrom : YV yX6_copyFrom 5 := ⟨gm 395 (by decide +kernel) rfl, gm 396 (by decide +kernel) rfl, _, rfl, rfl⟩
theorem ymX6_allInOne : YM yX6_allInOne cX6_allInOne 2 none 1 := ⟨gm 331 (by decide +kernel) rfl, gm 55 (by decide +kernel) rfl, by decide, by decide +kernel, by decide +kernel⟩
theorem yvX6_allInOne : YV yX6_allInOne 5 := ⟨gm 329 (by decide +kernel) rfl, gm 330 (by decide +kernel) rfl, _, rfl, rfl⟩
theorem ymX6_renumber : YM yX6_renumber cX6_renumber 3 none 0 := ⟨gm 494 (by decide +kernel) rfl, gm 55 (by decide +kernel) rfl, by decide, by decide +kernel, by decide +kernel⟩
theorem yvX6_renumber : YV yX6_renumber 5 := ⟨gm 492 (by decide +kernel) rfl, gm 493 (by decide +kernel) rfl, _, rfl, rfl⟩
theorem ymX6_membersOf : YM yX6_membersOf cX6_membersOf 4 (some .int) 1 := ⟨gm 533 (by decide +kernel) rfl, gm 55 (by decide +kernel) rfl, by decide, by decide +kernel, by decide +kernel⟩
theorem yvX6_membersOf : YV yX6_membersOf 5 := ⟨gm 531 (by decide +kernel) rfl, gm 532 (by decide +kernel) rfl, _, rfl, rfl⟩
theorem ymX6_pairsApart : YM yX6_pairsApart cX6_pairsApart 7 (some .int) 1 := ⟨gm 856 (by decide +kernel) rfl, gm 55 (by decide +kernel) rfl, by decide, by decide +kernel, by decide +kernel⟩
theorem yvX6_pairsApart : YV yX6_pairsApart 5 := ⟨gm 854 (by decide +kernel) rfl, gm 855 (by decide +kernel) rfl, _, rfl, rfl⟩
theorem ymX6_meet : YM yX6_meet cX6_meet 4 none 1 := ⟨gm 864 (by decide +kernel) rfl, gm 55 (by decide +kernel) rfl, by decide, by decide +kernel, by decide +kernel⟩
theorem yvX6_meet : YV yX6_meet 5 := ⟨gm 862 (by decide +kernel) rfl, gm 863 (by decide +kernel) rfl, _, rfl, rfl⟩
theorem ymX6_standsAhead : YM yX6_standsAhead cX6_standsAhead 3 (some .boolean) 1 := ⟨gm 658 (by decide +kernel) rfl, gm 55 (by decide +kernel) rfl, by decide, by decide +kernel, by decide +kernel⟩
theorem yvX6_standsAhead : YV yX6_standsAhead 5 := ⟨gm 656 (by decide +kernel) rfl, gm 657 (by decide +kernel) rfl, _, rfl, rfl⟩
theorem ymX7_init : YM yX7_init cX7_init 1 none 0 := ⟨gm 82 (by decide +kernel) rfl, gm 54 (by decide +kernel) rfl, by decide, by decide +kernel, by decide +kernel⟩
theorem yiX7_init : Cond.instanceMethod yX7_init ∈ gtb := gm 81 (by decide +kernel) rfl
theorem ymX7_restart : YM yX7_restart cX7_restart 2 none 1 := ⟨gm 324 (by decide +kernel) rfl, gm 54 (by decide +kernel) rfl, by decide, by decide +kernel, by decide +kernel⟩
theorem yvX7_restart : YV yX7_restart 6 := ⟨gm 322 (by decide +kernel) rfl, gm 323 (by decide +kernel) rfl, _, rfl, rfl⟩
theorem ymX7_copyFrom : YM yX7_copyFrom cX7_copyFrom 2 none 1 := ⟨gm 390 (by decide +kernel) rfl, gm 54 (by decide +kernel) rfl, by decide, by decide +kernel, by decide +kernel⟩
theorem yvX7_copyFrom : YV yX7_copyFrom 6 := ⟨gm 388 (by decide +kernel) rfl, gm 389 (by decide +kernel) rfl, _, rfl, rfl⟩
theorem ymX7_wayOf : YM yX7_wayOf cX7_wayOf 3 (some .int) 2 := ⟨gm 425 (by decide +kernel) rfl, gm 54 (by decide +kernel) rfl, by decide, by decide +kernel, by decide +kernel⟩
theorem yvX7_wayOf : YV yX7_wayOf 6 := ⟨gm 423 (by decide +kernel) rfl, gm 424 (by decide +kernel) rfl, _, rfl, rfl⟩
theorem ymX7_weightOf : YM yX7_weightOf cX7_weightOf 3 (some .int) 2 := ⟨gm 510 (by decide +kernel) rfl, gm 54 (by decide +kernel) rfl, by decide, by decide +kernel, by decide +kernel⟩
theorem yvX7_weightOf : YV yX7_weightOf 6 := ⟨gm 508 (by decide +kernel) rfl, gm 509 (by decide +kernel) rfl, _, rfl, rfl⟩
theorem ymX7_likeOf : YM yX7_likeOf cX7_likeOf 3 (some .int) 2 := ⟨gm 514 (by decide +kernel) rfl, gm 54 (by decide +kernel) rfl, by decide, by decide +kernel, by decide +kernel⟩
theorem yvX7_likeOf : YV yX7_likeOf 6 := ⟨gm 512 (by decide +kernel) rfl, gm 513 (by decide +kernel) rfl, _, rfl, rfl⟩
theorem ymX7_setWay : YM yX7_setWay cX7_setWay 4 none 3 := ⟨gm 429 (by decide +kernel) rfl, gm 54 (by decide +kernel) rfl, by decide, by decide +kernel, by decide +kernel⟩
theorem yvX7_setWay : YV yX7_setWay 6 := ⟨gm 427 (by decide +kernel) rfl, gm 428 (by decide +kernel) rfl, _, rfl, rfl⟩
theorem ymX7_setQuarrel : YM yX7_setQuarrel cX7_setQuarrel 5 none 4 := ⟨gm 486 (by decide +kernel) rfl, gm 54 (by decide +kernel) rfl, by decide, by decide +kernel, by decide +kernel⟩
theorem yvX7_setQuarrel : YV yX7_setQuarrel 6 := ⟨gm 484 (by decide +kernel) rfl, gm 485 (by decide +kernel) rfl, _, rfl, rfl⟩
theorem ymX7_pulls : YM yX7_pulls cX7_pulls 3 (some .boolean) 2 := ⟨gm 733 (by decide +kernel) rfl, gm 54 (by decide +kernel) rfl, by decide, by decide +kernel, by decide +kernel⟩
theorem yvX7_pulls : YV yX7_pulls 6 := ⟨gm 731 (by decide +kernel) rfl, gm 732 (by decide +kernel) rfl, _, rfl, rfl⟩
theorem ymX7_firstNumber : YM yX7_firstNumber cX7_firstNumber 2 (some .int) 1 := ⟨gm 621 (by decide +kernel) rfl, gm 54 (by decide +kernel) rfl, by decide, by decide +kernel, by decide +kernel⟩
theorem yvX7_firstNumber : YV yX7_firstNumber 6 := ⟨gm 619 (by decide +kernel) rfl, gm 620 (by decide +kernel) rfl, _, rfl, rfl⟩
theorem ymX7_gapOf : YM yX7_gapOf cX7_gapOf 7 (some .int) 3 := ⟨gm 471 (by decide +kernel) rfl, gm 54 (by decide +kernel) rfl, by decide, by decide +kernel, by decide +kernel⟩
theorem yvX7_gapOf : YV yX7_gapOf 6 := ⟨gm 469 (by decide +kernel) rfl, gm 470 (by decide +kernel) rfl, _, rfl, rfl⟩
theorem ymX7_partByCentres : YM yX7_partByCentres cX7_partByCentres 3 (some .int) 1 := ⟨gm 698 (by decide +kernel) rfl, gm 54 (by decide +kernel) rfl, by decide, by decide +kernel, by decide +kernel⟩
theorem yvX7_partByCentres : YV yX7_partByCentres 6 := ⟨gm 696 (by decide +kernel) rfl, gm 697 (by decide +kernel) rfl, _, rfl, rfl⟩
theorem ymX7_wayToCentre : YM yX7_wayToCentre cX7_wayToCentre 2 (some .int) 1 := ⟨gm 706 (by decide +kernel) rfl, gm 54 (by decide +kernel) rfl, by decide, by decide +kernel, by decide +kernel⟩
theorem yvX7_wayToCentre : YV yX7_wayToCentre 6 := ⟨gm 705 (by decide +kernel) rfl, gm 19 (by decide +kernel) rfl, _, rfl, rfl⟩
theorem ymX7_farthestFromCentre : YM yX7_farthestFromCentre cX7_farthestFromCentre 3 (some .int) 0 := ⟨gm 702 (by decide +kernel) rfl, gm 54 (by decide +kernel) rfl, by decide, by decide +kernel, by decide +kernel⟩
theorem yvX7_farthestFromCentre : YV yX7_farthestFromCentre 6 := ⟨gm 701 (by decide +kernel) rfl, gm 18 (by decide +kernel) rfl, _, rfl, rfl⟩
theorem ymX7_gatherNearer : YM yX7_gatherNearer cX7_gatherNearer 3 none 1 := ⟨gm 711 (by decide +kernel) rfl, gm 54 (by decide +kernel) rfl, by decide, by decide +kernel, by decide +kernel⟩
theorem yvX7_gatherNearer : YV yX7_gatherNearer 6 := ⟨gm 710 (by decide +kernel) rfl, gm 20 (by decide +kernel) rfl, _, rfl, rfl⟩
theorem ymX8_init : YM yX8_init cX8_init 1 none 0 := ⟨gm 232 (by decide +kernel) rfl, gm 59 (by decide +kernel) rfl, by decide, by decide +kernel, by decide +kernel⟩
theorem yiX8_init : Cond.instanceMethod yX8_init ∈ gtb := gm 231 (by decide +kernel) rfl
theorem ymX8_run : YM yX8_run cX8_run 5 (some .long) 4 := ⟨gm 581 (by decide +kernel) rfl, gm 59 (by decide +kernel) rfl, by decide, by decide +kernel, by decide +kernel⟩
theorem yvX8_run : YV yX8_run 7 := ⟨gm 579 (by decide +kernel) rfl, gm 580 (by decide +kernel) rfl, _, rfl, rfl⟩
theorem ymX8_costAllHeaps : YM yX8_costAllHeaps cX8_costAllHeaps 4 none 1 := ⟨gm 586 (by decide +kernel) rfl, gm 59 (by decide +kernel) rfl, by decide, by decide +kernel, by decide +kernel⟩
theorem yvX8_costAllHeaps : YV yX8_costAllHeaps 7 := ⟨gm 585 (by decide +kernel) rfl, gm 5 (by decide +kernel) rfl, _, rfl, rfl⟩
theorem ymX8_descend : YM yX8_descend cX8_descend 11 none 4 := ⟨gm 594 (by decide +kernel) rfl, gm 59 (by decide +kernel) rfl, by decide, by decide +kernel, by decide +kernel⟩
theorem yvX8_descend : YV yX8_descend 7 := ⟨gm 593 (by decide +kernel) rfl, gm 6 (by decide +kernel) rfl, _, rfl, rfl⟩
theorem ymX8_grown : YM yX8_grown cX8_grown 7 (some .long) 4 := ⟨gm 603 (by decide +kernel) rfl, gm 59 (by decide +kernel) rfl, by decide, by decide +kernel, by decide +kernel⟩
theorem yvX8_grown : YV yX8_grown 7 := ⟨gm 602 (by decide +kernel) rfl, gm 8 (by decide +kernel) rfl, _, rfl, rfl⟩
theorem ymX8_take : YM yX8_take cX8_take 5 none 3 := ⟨gm 598 (by decide +kernel) rfl, gm 59 (by decide +kernel) rfl, by decide, by decide +kernel, by decide +kernel⟩
theorem yvX8_take : YV yX8_take 7 := ⟨gm 597 (by decide +kernel) rfl, gm 7 (by decide +kernel) rfl, _, rfl, rfl⟩
theorem ymX9_init : YM yX9_init cX9_init 1 none 0 := ⟨gm 177 (by decide +kernel) rfl, gm 57 (by decide +kernel) rfl, by decide, by decide +kernel, by decide +kernel⟩
theorem yiX9_init : Cond.instanceMethod yX9_init ∈ gtb := gm 176 (by decide +kernel) rfl
theorem ymX9_renew : YM yX9_renew cX9_renew 3 none 2 := ⟨gm 437 (by decide +kernel) rfl, gm 57 (by decide +kernel) rfl, by decide, by decide +kernel, by decide +kernel⟩
theorem yvX9_renew : YV yX9_renew 8 := ⟨gm 435 (by decide +kernel) rfl, gm 436 (by decide +kernel) rfl, _, rfl, rfl⟩
theorem ymX9_drop : YM yX9_drop cX9_drop 1 none 0 := ⟨gm 462 (by decide +kernel) rfl, gm 57 (by decide +kernel) rfl, by decide, by decide +kernel, by decide +kernel⟩
theorem yvX9_drop : YV yX9_drop 8 := ⟨gm 460 (by decide +kernel) rfl, gm 461 (by decide +kernel) rfl, _, rfl, rfl⟩
theorem ymX9_write : YM yX9_write cX9_write 4 none 2 := ⟨gm 448 (by decide +kernel) rfl, gm 57 (by decide +kernel) rfl, by decide, by decide +kernel, by decide +kernel⟩
theorem yvX9_write : YV yX9_write 8 := ⟨gm 446 (by decide +kernel) rfl, gm 447 (by decide +kernel) rfl, _, rfl, rfl⟩
theorem ymX9_isPlace : YM yX9_isPlace cX9_isPlace 2 (some .boolean) 0 := ⟨gm 456 (by decide +kernel) rfl, gm 57 (by decide +kernel) rfl, by decide, by decide +kernel, by decide +kernel⟩
theorem yvX9_isPlace : YV yX9_isPlace 8 := ⟨gm 454 (by decide +kernel) rfl, gm 455 (by decide +kernel) rfl, _, rfl, rfl⟩
theorem ymX10_init : YM yX10_init cX10_init 1 none 0 := ⟨gm 197 (by decide +kernel) rfl, gm 58 (by decide +kernel) rfl, by decide, by decide +kernel, by decide +kernel⟩
theorem yiX10_init : Cond.instanceMethod yX10_init ∈ gtb := gm 196 (by decide +kernel) rfl
theorem ymX10_drop : YM yX10_drop cX10_drop 1 none 0 := ⟨gm 405 (by decide +kernel) rfl, gm 58 (by decide +kernel) rfl, by decide, by decide +kernel, by decide +kernel⟩
theorem yvX10_drop : YV yX10_drop 9 := ⟨gm 403 (by decide +kernel) rfl, gm 404 (by decide +kernel) rfl, _, rfl, rfl⟩
theorem ymX10_grow : YM yX10_grow cX10_grow 4 none 2 := ⟨gm 775 (by decide +kernel) rfl, gm 58 (by decide +kernel) rfl, by decide, by decide +kernel, by decide +kernel⟩
theorem yvX10_grow : YV yX10_grow 9 := ⟨gm 773 (by decide +kernel) rfl, gm 774 (by decide +kernel) rfl, _, rfl, rfl⟩
theorem ymX10_findLowest : YM yX10_findLowest cX10_findLowest 5 none 1 := ⟨gm 780 (by decide +kernel) rfl, gm 58 (by decide +kernel) rfl, by decide, by decide +kernel, by decide +kernel⟩
theorem yvX10_findLowest : YV yX10_findLowest 9 := ⟨gm 779 (by decide +kernel) rfl, gm 22 (by decide +kernel) rfl, _, rfl, rfl⟩
theorem ymX10_joinLowest : YM yX10_joinLowest cX10_joinLowest 9 none 2 := ⟨gm 786 (by decide +kernel) rfl, gm 58 (by decide +kernel) rfl, by decide, by decide +kernel, by decide +kernel⟩
theorem yvX10_joinLowest : YV yX10_joinLowest 9 := ⟨gm 785 (by decide +kernel) rfl, gm 23 (by decide +kernel) rfl, _, rfl, rfl⟩
theorem ymX10_heightOf : YM yX10_heightOf cX10_heightOf 6 (some .int) 2 := ⟨gm 800 (by decide +kernel) rfl, gm 58 (by decide +kernel) rfl, by decide, by decide +kernel, by decide +kernel⟩
theorem yvX10_heightOf : YV yX10_heightOf 9 := ⟨gm 798 (by decide +kernel) rfl, gm 799 (by decide +kernel) rfl, _, rfl, rfl⟩
theorem ymX10_partBelow : YM yX10_partBelow cX10_partBelow 5 none 2 := ⟨gm 808 (by decide +kernel) rfl, gm 58 (by decide +kernel) rfl, by decide, by decide +kernel, by decide +kernel⟩
theorem yvX10_partBelow : YV yX10_partBelow 9 := ⟨gm 806 (by decide +kernel) rfl, gm 807 (by decide +kernel) rfl, _, rfl, rfl⟩
theorem ymX11_init : YM yX11_init cX11_init 2 none 0 := ⟨gm 74 (by decide +kernel) rfl, gm 53 (by decide +kernel) rfl, by decide, by decide +kernel, by decide +kernel⟩
theorem yiX11_init : Cond.instanceMethod yX11_init ∈ gtb := gm 73 (by decide +kernel) rfl
theorem ymX11_things : YM yX11_things cX11_things 2 (some .boolean) 1 := ⟨gm 373 (by decide +kernel) rfl, gm 53 (by decide +kernel) rfl, by decide, by decide +kernel, by decide +kernel⟩
theorem yvX11_things : YV yX11_things 10 := ⟨gm 371 (by decide +kernel) rfl, gm 372 (by decide +kernel) rfl, _, rfl, rfl⟩
theorem ymX11_way : YM yX11_way cX11_way 5 (some .int) 3 := ⟨gm 409 (by decide +kernel) rfl, gm 53 (by decide +kernel) rfl, by decide, by decide +kernel, by decide +kernel⟩
theorem yvX11_way : YV yX11_way 10 := ⟨gm 407 (by decide +kernel) rfl, gm 408 (by decide +kernel) rfl, _, rfl, rfl⟩
theorem ymX11_sheet : YM yX11_sheet cX11_sheet 3 (some .int) 2 := ⟨gm 433 (by decide +kernel) rfl, gm 53 (by decide +kernel) rfl, by decide, by decide +kernel, by decide +kernel⟩
theorem yvX11_sheet : YV yX11_sheet 10 := ⟨gm 431 (by decide +kernel) rfl, gm 432 (by decide +kernel) rfl, _, rfl, rfl⟩
theorem ymX11_entry : YM yX11_entry cX11_entry 4 (some .boolean) 2 := ⟨gm 444 (by decide +kernel) rfl, gm 53 (by decide +kernel) rfl, by decide, by decide +kernel, by decide +kernel⟩
theorem yvX11_entry : YV yX11_entry 10 := ⟨gm 442 (by decide +kernel) rfl, gm 443 (by decide +kernel) rfl, _, rfl, rfl⟩
theorem ymX11_lay : YM yX11_lay cX11_lay 3 (some .boolean) 1 := ⟨gm 452 (by decide +kernel) rfl, gm 53 (by decide +kernel) rfl, by decide, by decide +kernel, by decide +kernel⟩
theorem yvX11_lay : YV yX11_lay 10 := ⟨gm 450 (by decide +kernel) rfl, gm 451 (by decide +kernel) rfl, _, rfl, rfl⟩
theorem ymX11_measure : YM yX11_measure cX11_measure 6 (some .int) 1 := ⟨gm 467 (by decide +kernel) rfl, gm 53 (by decide +kernel) rfl, by decide, by decide +kernel, by decide +kernel⟩
theorem yvX11_measure : YV yX11_measure 10 := ⟨gm 465 (by decide +kernel) rfl, gm 466 (by decide +kernel) rfl, _, rfl, rfl⟩
theorem ymX11_quarrel : YM yX11_quarrel cX11_quarrel 5 (some .boolean) 4 := ⟨gm 482 (by decide +kernel) rfl, gm 53 (by decide +kernel) rfl, by decide, by decide +kernel, by decide +kernel⟩
theorem yvX11_quarrel : YV yX11_quarrel 10 := ⟨gm 480 (by decide +kernel) rfl, gm 481 (by decide +kernel) rfl, _, rfl, rfl⟩
theorem ymX11_put : YM yX11_put cX11_put 3 (some .int) 2 := ⟨gm 490 (by decide +kernel) rfl, gm 53 (by decide +kernel) rfl, by decide, by decide +kernel, by decide +kernel⟩
theorem yvX11_put : YV yX11_put 10 := ⟨gm 488 (by decide +kernel) rfl, gm 489 (by decide +kernel) rfl, _, rfl, rfl⟩
theorem ymX11_count : YM yX11_count cX11_count 2 (some .int) 1 := ⟨gm 498 (by decide +kernel) rfl, gm 53 (by decide +kernel) rfl, by decide, by decide +kernel, by decide +kernel⟩
theorem yvX11_count : YV yX11_count 10 := ⟨gm 496 (by decide +kernel) rfl, gm 497 (by decide +kernel) rfl, _, rfl, rfl⟩
theorem ymX11_heap : YM yX11_heap cX11_heap 2 (some .int) 1 := ⟨gm 502 (by decide +kernel) rfl, gm 53 (by decide +kernel) rfl, by decide, by decide +kernel, by decide +kernel⟩
theorem yvX11_heap : YV yX11_heap 10 := ⟨gm 500 (by decide +kernel) rfl, gm 501 (by decide +kernel) rfl, _, rfl, rfl⟩
theorem ymX11_pair : YM yX11_pair cX11_pair 4 (some .int) 3 := ⟨gm 506 (by decide +kernel) rfl, gm 53 (by decide +kernel) rfl, by decide, by decide +kernel, by decide +kernel⟩
theorem yvX11_pair : YV yX11_pair 10 := ⟨gm 504 (by decide +kernel) rfl, gm 505 (by decide +kernel) rfl, _, rfl, rfl⟩
theorem ymX11_cost : YM yX11_cost cX11_cost 2 (some .long) 1 := ⟨gm 518 (by decide +kernel) rfl, gm 53 (by decide +kernel) rfl, by decide, by decide +kernel, by decide +kernel⟩
theorem yvX11_cost : YV yX11_cost 10 := ⟨gm 516 (by decide +kernel) rfl, gm 517 (by decide +kernel) rfl, _, rfl, rfl⟩
theorem ymX11_middle : YM yX11_middle cX11_middle 2 (some .int) 1 := ⟨gm 571 (by decide +kernel) rfl, gm 53 (by decide +kernel) rfl, by decide, by decide +kernel, by decide +kernel⟩
theorem yvX11_middle : YV yX11_middle 10 := ⟨gm 569 (by decide +kernel) rfl, gm 570 (by decide +kernel) rfl, _, rfl, rfl⟩
theorem ymX11_best : YM yX11_best cX11_best 5 (some .long) 2 := ⟨gm 577 (by decide +kernel) rfl, gm 53 (by decide +kernel) rfl, by decide, by decide +kernel, by decide +kernel⟩
theorem yvX11_best : YV yX11_best 10 := ⟨gm 575 (by decide +kernel) rfl, gm 576 (by decide +kernel) rfl, _, rfl, rfl⟩
theorem ymX11_line : YM yX11_line cX11_line 3 (some .long) 2 := ⟨gm 609 (by decide +kernel) rfl, gm 53 (by decide +kernel) rfl, by decide, by decide +kernel, by decide +kernel⟩
theorem yvX11_line : YV yX11_line 10 := ⟨gm 607 (by decide +kernel) rfl, gm 608 (by decide +kernel) rfl, _, rfl, rfl⟩
theorem ymX11_better : YM yX11_better cX11_better 2 (some .int) 1 := ⟨gm 663 (by decide +kernel) rfl, gm 53 (by decide +kernel) rfl, by decide, by decide +kernel, by decide +kernel⟩
theorem yvX11_better : YV yX11_better 10 := ⟨gm 661 (by decide +kernel) rfl, gm 662 (by decide +kernel) rfl, _, rfl, rfl⟩
theorem ymX11_two : YM yX11_two cX11_two 1 (some .int) 0 := ⟨gm 690 (by decide +kernel) rfl, gm 53 (by decide +kernel) rfl, by decide, by decide +kernel, by decide +kernel⟩
theorem yvX11_two : YV yX11_two 10 := ⟨gm 688 (by decide +kernel) rfl, gm 689 (by decide +kernel) rfl, _, rfl, rfl⟩
theorem ymX11_centres : YM yX11_centres cX11_centres 2 (some .int) 1 := ⟨gm 694 (by decide +kernel) rfl, gm 53 (by decide +kernel) rfl, by decide, by decide +kernel, by decide +kernel⟩
theorem yvX11_centres : YV yX11_centres 10 := ⟨gm 692 (by decide +kernel) rfl, gm 693 (by decide +kernel) rfl, _, rfl, rfl⟩
theorem ymX11_third : YM yX11_third cX11_third 2 (some .long) 1 := ⟨gm 716 (by decide +kernel) rfl, gm 53 (by decide +kernel) rfl, by decide, by decide +kernel, by decide +kernel⟩
theorem yvX11_third : YV yX11_third 10 := ⟨gm 714 (by decide +kernel) rfl, gm 715 (by decide +kernel) rfl, _, rfl, rfl⟩
theorem ymX11_thirds : YM yX11_thirds cX11_thirds 1 (some .long) 0 := ⟨gm 740 (by decide +kernel) rfl, gm 53 (by decide +kernel) rfl, by decide, by decide +kernel, by decide +kernel⟩
theorem yvX11_thirds : YV yX11_thirds 10 := ⟨gm 738 (by decide +kernel) rfl, gm 739 (by decide +kernel) rfl, _, rfl, rfl⟩
theorem ymX11_rounds : YM yX11_rounds cX11_rounds 1 (some .int) 0 := ⟨gm 761 (by decide +kernel) rfl, gm 53 (by decide +kernel) rfl, by decide, by decide +kernel, by decide +kernel⟩
theorem yvX11_rounds : YV yX11_rounds 10 := ⟨gm 759 (by decide +kernel) rfl, gm 760 (by decide +kernel) rfl, _, rfl, rfl⟩
theorem ymX11_tree : YM yX11_tree cX11_tree 2 (some .int) 1 := ⟨gm 771 (by decide +kernel) rfl, gm 53 (by decide +kernel) rfl, by decide, by decide +kernel, by decide +kernel⟩
theorem yvX11_tree : YV yX11_tree 10 := ⟨gm 769 (by decide +kernel) rfl, gm 770 (by decide +kernel) rfl, _, rfl, rfl⟩
theorem ymX11_joined : YM yX11_joined cX11_joined 3 (some .int) 2 := ⟨gm 792 (by decide +kernel) rfl, gm 53 (by decide +kernel) rfl, by decide, by decide +kernel, by decide +kernel⟩
theorem yvX11_joined : YV yX11_joined 10 := ⟨gm 790 (by decide +kernel) rfl, gm 791 (by decide +kernel) rfl, _, rfl, rfl⟩
theorem ymX11_height : YM yX11_height cX11_height 3 (some .int) 2 := ⟨gm 796 (by decide +kernel) rfl, gm 53 (by decide +kernel) rfl, by decide, by decide +kernel, by decide +kernel⟩
theorem yvX11_height : YV yX11_height 10 := ⟨gm 794 (by decide +kernel) rfl, gm 795 (by decide +kernel) rfl, _, rfl, rfl⟩
theorem ymX11_cut : YM yX11_cut cX11_cut 2 (some .int) 1 := ⟨gm 804 (by decide +kernel) rfl, gm 53 (by decide +kernel) rfl, by decide, by decide +kernel, by decide +kernel⟩
theorem yvX11_cut : YV yX11_cut 10 := ⟨gm 802 (by decide +kernel) rfl, gm 803 (by decide +kernel) rfl, _, rfl, rfl⟩
theorem ymX11_many : YM yX11_many cX11_many 3 (some .long) 2 := ⟨gm 813 (by decide +kernel) rfl, gm 53 (by decide +kernel) rfl, by decide, by decide +kernel, by decide +kernel⟩
theorem yvX11_many : YV yX11_many 10 := ⟨gm 811 (by decide +kernel) rfl, gm 812 (by decide +kernel) rfl, _, rfl, rfl⟩
theorem ymX11_rank : YM yX11_rank cX11_rank 1 (some .long) 0 := ⟨gm 826 (by decide +kernel) rfl, gm 53 (by decide +kernel) rfl, by decide, by decide +kernel, by decide +kernel⟩
theorem yvX11_rank : YV yX11_rank 10 := ⟨gm 824 (by decide +kernel) rfl, gm 825 (by decide +kernel) rfl, _, rfl, rfl⟩
theorem ymX11_of : YM yX11_of cX11_of 3 (some .boolean) 1 := ⟨gm 835 (by decide +kernel) rfl, gm 53 (by decide +kernel) rfl, by decide, by decide +kernel, by decide +kernel⟩
theorem yvX11_of : YV yX11_of 10 := ⟨gm 833 (by decide +kernel) rfl, gm 834 (by decide +kernel) rfl, _, rfl, rfl⟩
theorem ymX11_keep : YM yX11_keep cX11_keep 2 (some .boolean) 1 := ⟨gm 843 (by decide +kernel) rfl, gm 53 (by decide +kernel) rfl, by decide, by decide +kernel, by decide +kernel⟩
theorem yvX11_keep : YV yX11_keep 10 := ⟨gm 841 (by decide +kernel) rfl, gm 842 (by decide +kernel) rfl, _, rfl, rfl⟩
theorem ymX11_differ : YM yX11_differ cX11_differ 3 (some .int) 1 := ⟨gm 848 (by decide +kernel) rfl, gm 53 (by decide +kernel) rfl, by decide, by decide +kernel, by decide +kernel⟩
theorem yvX11_differ : YV yX11_differ 10 := ⟨gm 846 (by decide +kernel) rfl, gm 847 (by decide +kernel) rfl, _, rfl, rfl⟩
theorem ymX11_both : YM yX11_both cX11_both 3 (some .int) 1 := ⟨gm 860 (by decide +kernel) rfl, gm 53 (by decide +kernel) rfl, by decide, by decide +kernel, by decide +kernel⟩
theorem yvX11_both : YV yX11_both 10 := ⟨gm 858 (by decide +kernel) rfl, gm 859 (by decide +kernel) rfl, _, rfl, rfl⟩
theorem ymX11_tell : YM yX11_tell cX11_tell 2 (some .int) 1 := ⟨gm 868 (by decide +kernel) rfl, gm 53 (by decide +kernel) rfl, by decide, by decide +kernel, by decide +kernel⟩
theorem yvX11_tell : YV yX11_tell 10 := ⟨gm 866 (by decide +kernel) rfl, gm 867 (by decide +kernel) rfl, _, rfl, rfl⟩
theorem ymX11_check : YM yX11_check cX11_check 7 (some .int) 2 := ⟨gm 872 (by decide +kernel) rfl, gm 53 (by decide +kernel) rfl, by decide, by decide +kernel, by decide +kernel⟩
theorem yvX11_check : YV yX11_check 10 := ⟨gm 870 (by decide +kernel) rfl, gm 871 (by decide +kernel) rfl, _, rfl, rfl⟩
theorem ymX11_load : YM yX11_load cX11_load 1 (some .int) 0 := ⟨gm 876 (by decide +kernel) rfl, gm 53 (by decide +kernel) rfl, by decide, by decide +kernel, by decide +kernel⟩
theorem yvX11_load : YV yX11_load 10 := ⟨gm 874 (by decide +kernel) rfl, gm 875 (by decide +kernel) rfl, _, rfl, rfl⟩
theorem ymX11_undo : YM yX11_undo cX11_undo 1 (some .int) 0 := ⟨gm 880 (by decide +kernel) rfl, gm 53 (by decide +kernel) rfl, by decide, by decide +kernel, by decide +kernel⟩
theorem yvX11_undo : YV yX11_undo 10 := ⟨gm 878 (by decide +kernel) rfl, gm 879 (by decide +kernel) rfl, _, rfl, rfl⟩
theorem ymX11_fault : YM yX11_fault cX11_fault 1 (some .int) 0 := ⟨gm 888 (by decide +kernel) rfl, gm 53 (by decide +kernel) rfl, by decide, by decide +kernel, by decide +kernel⟩
theorem yvX11_fault : YV yX11_fault 10 := ⟨gm 886 (by decide +kernel) rfl, gm 887 (by decide +kernel) rfl, _, rfl, rfl⟩
theorem ymX11_refuse : YM yX11_refuse cX11_refuse 2 (some .int) 1 := ⟨gm 421 (by decide +kernel) rfl, gm 53 (by decide +kernel) rfl, by decide, by decide +kernel, by decide +kernel⟩
theorem yvX11_refuse : YV yX11_refuse 10 := ⟨gm 420 (by decide +kernel) rfl, gm 4 (by decide +kernel) rfl, _, rfl, rfl⟩
theorem ymX11_deny : YM yX11_deny cX11_deny 2 (some .boolean) 1 := ⟨gm 377 (by decide +kernel) rfl, gm 53 (by decide +kernel) rfl, by decide, by decide +kernel, by decide +kernel⟩
theorem yvX11_deny : YV yX11_deny 10 := ⟨gm 376 (by decide +kernel) rfl, gm 0 (by decide +kernel) rfl, _, rfl, rfl⟩
theorem ymX11_change : YM yX11_change cX11_change 1 none 0 := ⟨gm 381 (by decide +kernel) rfl, gm 53 (by decide +kernel) rfl, by decide, by decide +kernel, by decide +kernel⟩
theorem yvX11_change : YV yX11_change 10 := ⟨gm 380 (by decide +kernel) rfl, gm 1 (by decide +kernel) rfl, _, rfl, rfl⟩
theorem ymX11_isThing : YM yX11_isThing cX11_isThing 2 (some .boolean) 1 := ⟨gm 417 (by decide +kernel) rfl, gm 53 (by decide +kernel) rfl, by decide, by decide +kernel, by decide +kernel⟩
theorem yvX11_isThing : YV yX11_isThing 10 := ⟨gm 416 (by decide +kernel) rfl, gm 3 (by decide +kernel) rfl, _, rfl, rfl⟩
theorem ymX11_isCouple : YM yX11_isCouple cX11_isCouple 3 (some .boolean) 2 := ⟨gm 413 (by decide +kernel) rfl, gm 53 (by decide +kernel) rfl, by decide, by decide +kernel, by decide +kernel⟩
theorem yvX11_isCouple : YV yX11_isCouple 10 := ⟨gm 412 (by decide +kernel) rfl, gm 2 (by decide +kernel) rfl, _, rfl, rfl⟩
theorem ymX11_isGoal : YM yX11_isGoal cX11_isGoal 1 (some .boolean) 1 := ⟨gm 521 (by decide +kernel) rfl, gm 53 (by decide +kernel) rfl, by decide, by decide +kernel, by decide +kernel⟩
theorem ysX11_isGoal : Cond.static yX11_isGoal ∈ gtb := gm 520 (by decide +kernel) rfl
theorem ymX11_keepFault : YM yX11_keepFault cX11_keepFault 2 (some .int) 1 := ⟨gm 852 (by decide +kernel) rfl, gm 53 (by decide +kernel) rfl, by decide, by decide +kernel, by decide +kernel⟩
theorem yvX11_keepFault : YV yX11_keepFault 10 := ⟨gm 851 (by decide +kernel) rfl, gm 24 (by decide +kernel) rfl, _, rfl, rfl⟩
theorem ymX12_init : YM yX12_init cX12_init 1 none 0 := ⟨gm 893 (by decide +kernel) rfl, gm 65 (by decide +kernel) rfl, by decide, by decide +kernel, by decide +kernel⟩
theorem yiX12_init : Cond.instanceMethod yX12_init ∈ gtb := gm 892 (by decide +kernel) rfl
theorem ymX12_no : YM yX12_no cX12_no 2 (some .int) 1 := ⟨gm 983 (by decide +kernel) rfl, gm 65 (by decide +kernel) rfl, by decide, by decide +kernel, by decide +kernel⟩
theorem yvX12_no : YV yX12_no 11 := ⟨gm 982 (by decide +kernel) rfl, gm 26 (by decide +kernel) rfl, _, rfl, rfl⟩
theorem ymX12_n : YM yX12_n cX12_n 1 (some .int) 0 := ⟨gm 1007 (by decide +kernel) rfl, gm 65 (by decide +kernel) rfl, by decide, by decide +kernel, by decide +kernel⟩
theorem yvX12_n : YV yX12_n 11 := ⟨gm 1006 (by decide +kernel) rfl, gm 31 (by decide +kernel) rfl, _, rfl, rfl⟩
theorem ymX12_begin : YM yX12_begin cX12_begin 3 none 1 := ⟨gm 898 (by decide +kernel) rfl, gm 65 (by decide +kernel) rfl, by decide, by decide +kernel, by decide +kernel⟩
theorem yvX12_begin : YV yX12_begin 11 := ⟨gm 897 (by decide +kernel) rfl, gm 25 (by decide +kernel) rfl, _, rfl, rfl⟩
theorem ymX12_copy : YM yX12_copy cX12_copy 4 none 2 := ⟨gm 991 (by decide +kernel) rfl, gm 65 (by decide +kernel) rfl, by decide, by decide +kernel, by decide +kernel⟩
theorem yvX12_copy : YV yX12_copy 11 := ⟨gm 990 (by decide +kernel) rfl, gm 28 (by decide +kernel) rfl, _, rfl, rfl⟩
theorem ymX12_change : YM yX12_change cX12_change 1 none 0 := ⟨gm 987 (by decide +kernel) rfl, gm 65 (by decide +kernel) rfl, by decide, by decide +kernel, by decide +kernel⟩
theorem yvX12_change : YV yX12_change 11 := ⟨gm 986 (by decide +kernel) rfl, gm 27 (by decide +kernel) rfl, _, rfl, rfl⟩
theorem ymX12_isThing : YM yX12_isThing cX12_isThing 2 (some .boolean) 1 := ⟨gm 1003 (by decide +kernel) rfl, gm 65 (by decide +kernel) rfl, by decide, by decide +kernel, by decide +kernel⟩
theorem yvX12_isThing : YV yX12_isThing 11 := ⟨gm 1002 (by decide +kernel) rfl, gm 30 (by decide +kernel) rfl, _, rfl, rfl⟩
theorem ymX12_arePair : YM yX12_arePair cX12_arePair 3 (some .boolean) 2 := ⟨gm 999 (by decide +kernel) rfl, gm 65 (by decide +kernel) rfl, by decide, by decide +kernel, by decide +kernel⟩
theorem yvX12_arePair : YV yX12_arePair 11 := ⟨gm 998 (by decide +kernel) rfl, gm 29 (by decide +kernel) rfl, _, rfl, rfl⟩
theorem ymX12_things : YM yX12_things cX12_things 2 (some .boolean) 1 := ⟨gm 979 (by decide +kernel) rfl, gm 65 (by decide +kernel) rfl, by decide, by decide +kernel, by decide +kernel⟩
theorem yvX12_things : YV yX12_things 11 := ⟨gm 977 (by decide +kernel) rfl, gm 978 (by decide +kernel) rfl, _, rfl, rfl⟩
theorem ymX12_setWay : YM yX12_setWay cX12_setWay 4 none 3 := ⟨gm 1011 (by decide +kernel) rfl, gm 65 (by decide +kernel) rfl, by decide, by decide +kernel, by decide +kernel⟩
theorem yvX12_setWay : YV yX12_setWay 11 := ⟨gm 1010 (by decide +kernel) rfl, gm 32 (by decide +kernel) rfl, _, rfl, rfl⟩
theorem ymX12_way : YM yX12_way cX12_way 5 (some .int) 3 := ⟨gm 995 (by decide +kernel) rfl, gm 65 (by decide +kernel) rfl, by decide, by decide +kernel, by decide +kernel⟩
theorem yvX12_way : YV yX12_way 11 := ⟨gm 993 (by decide +kernel) rfl, gm 994 (by decide +kernel) rfl, _, rfl, rfl⟩
theorem ymX12_sheet : YM yX12_sheet cX12_sheet 4 (some .int) 2 := ⟨gm 1015 (by decide +kernel) rfl, gm 65 (by decide +kernel) rfl, by decide, by decide +kernel, by decide +kernel⟩
theorem yvX12_sheet : YV yX12_sheet 11 := ⟨gm 1013 (by decide +kernel) rfl, gm 1014 (by decide +kernel) rfl, _, rfl, rfl⟩
theorem ymX12_entry : YM yX12_entry cX12_entry 5 (some .boolean) 2 := ⟨gm 1019 (by decide +kernel) rfl, gm 65 (by decide +kernel) rfl, by decide, by decide +kernel, by decide +kernel⟩
theorem yvX12_entry : YV yX12_entry 11 := ⟨gm 1017 (by decide +kernel) rfl, gm 1018 (by decide +kernel) rfl, _, rfl, rfl⟩
theorem ymX12_lay : YM yX12_lay cX12_lay 4 (some .boolean) 1 := ⟨gm 1023 (by decide +kernel) rfl, gm 65 (by decide +kernel) rfl, by decide, by decide +kernel, by decide +kernel⟩
theorem yvX12_lay : YV yX12_lay 11 := ⟨gm 1021 (by decide +kernel) rfl, gm 1022 (by decide +kernel) rfl, _, rfl, rfl⟩
theorem ymX12_measure : YM yX12_measure cX12_measure 8 (some .int) 1 := ⟨gm 1029 (by decide +kernel) rfl, gm 65 (by decide +kernel) rfl, by decide, by decide +kernel, by decide +kernel⟩
theorem yvX12_measure : YV yX12_measure 11 := ⟨gm 1027 (by decide +kernel) rfl, gm 1028 (by decide +kernel) rfl, _, rfl, rfl⟩
theorem ymX12_quarrel : YM yX12_quarrel cX12_quarrel 5 (some .boolean) 4 := ⟨gm 1035 (by decide +kernel) rfl, gm 65 (by decide +kernel) rfl, by decide, by decide +kernel, by decide +kernel⟩
theorem yvX12_quarrel : YV yX12_quarrel 11 := ⟨gm 1033 (by decide +kernel) rfl, gm 1034 (by decide +kernel) rfl, _, rfl, rfl⟩
theorem ymX12_number : YM yX12_number cX12_number 6 (some .int) 1 := ⟨gm 1051 (by decide +kernel) rfl, gm 65 (by decide +kernel) rfl, by decide, by decide +kernel, by decide +kernel⟩
theorem yvX12_number : YV yX12_number 11 := ⟨gm 1050 (by decide +kernel) rfl, gm 35 (by decide +kernel) rfl, _, rfl, rfl⟩
theorem ymX12_heaps : YM yX12_heaps cX12_heaps 4 (some .int) 1 := ⟨gm 1043 (by decide +kernel) rfl, gm 65 (by decide +kernel) rfl, by decide, by decide +kernel, by decide +kernel⟩
theorem yvX12_heaps : YV yX12_heaps 11 := ⟨gm 1042 (by decide +kernel) rfl, gm 33 (by decide +kernel) rfl, _, rfl, rfl⟩
theorem ymX12_next : YM yX12_next cX12_next 4 (some .boolean) 0 := ⟨gm 1108 (by decide +kernel) rfl, gm 65 (by decide +kernel) rfl, by decide, by decide +kernel, by decide +kernel⟩
theorem yvX12_next : YV yX12_next 11 := ⟨gm 1107 (by decide +kernel) rfl, gm 42 (by decide +kernel) rfl, _, rfl, rfl⟩
theorem ymX12_isAhead : YM yX12_isAhead cX12_isAhead 4 (some .boolean) 2 := ⟨gm 1117 (by decide +kernel) rfl, gm 65 (by decide +kernel) rfl, by decide, by decide +kernel, by decide +kernel⟩
theorem yvX12_isAhead : YV yX12_isAhead 11 := ⟨gm 1116 (by decide +kernel) rfl, gm 43 (by decide +kernel) rfl, _, rfl, rfl⟩
theorem ymX12_useWays : YM yX12_useWays cX12_useWays 2 none 0 := ⟨gm 1078 (by decide +kernel) rfl, gm 65 (by decide +kernel) rfl, by decide, by decide +kernel, by decide +kernel⟩
theorem yvX12_useWays : YV yX12_useWays 11 := ⟨gm 1077 (by decide +kernel) rfl, gm 37 (by decide +kernel) rfl, _, rfl, rfl⟩
theorem ymX12_sumTo : YM yX12_sumTo cX12_sumTo 6 (some .int) 3 := ⟨gm 1090 (by decide +kernel) rfl, gm 65 (by decide +kernel) rfl, by decide, by decide +kernel, by decide +kernel⟩
theorem yvX12_sumTo : YV yX12_sumTo 11 := ⟨gm 1089 (by decide +kernel) rfl, gm 40 (by decide +kernel) rfl, _, rfl, rfl⟩
theorem ymX12_middleOf : YM yX12_middleOf cX12_middleOf 5 (some .int) 2 := ⟨gm 1086 (by decide +kernel) rfl, gm 65 (by decide +kernel) rfl, by decide, by decide +kernel, by decide +kernel⟩
theorem yvX12_middleOf : YV yX12_middleOf 11 := ⟨gm 1085 (by decide +kernel) rfl, gm 39 (by decide +kernel) rfl, _, rfl, rfl⟩
theorem ymX12_costOf : YM yX12_costOf cX12_costOf 12 (some .long) 2 := ⟨gm 1082 (by decide +kernel) rfl, gm 65 (by decide +kernel) rfl, by decide, by decide +kernel, by decide +kernel⟩
theorem yvX12_costOf : YV yX12_costOf 11 := ⟨gm 1081 (by decide +kernel) rfl, gm 38 (by decide +kernel) rfl, _, rfl, rfl⟩
theorem ymX12_become : YM yX12_become cX12_become 3 none 1 := ⟨gm 1055 (by decide +kernel) rfl, gm 65 (by decide +kernel) rfl, by decide, by decide +kernel, by decide +kernel⟩
theorem yvX12_become : YV yX12_become 11 := ⟨gm 1054 (by decide +kernel) rfl, gm 36 (by decide +kernel) rfl, _, rfl, rfl⟩
theorem ymX12_takeNow : YM yX12_takeNow cX12_takeNow 2 none 0 := ⟨gm 1047 (by decide +kernel) rfl, gm 65 (by decide +kernel) rfl, by decide, by decide +kernel, by decide +kernel⟩
theorem yvX12_takeNow : YV yX12_takeNow 11 := ⟨gm 1046 (by decide +kernel) rfl, gm 34 (by decide +kernel) rfl, _, rfl, rfl⟩
theorem ymX12_put : YM yX12_put cX12_put 4 (some .int) 2 := ⟨gm 1039 (by decide +kernel) rfl, gm 65 (by decide +kernel) rfl, by decide, by decide +kernel, by decide +kernel⟩
theorem yvX12_put : YV yX12_put 11 := ⟨gm 1037 (by decide +kernel) rfl, gm 1038 (by decide +kernel) rfl, _, rfl, rfl⟩
theorem ymX12_count : YM yX12_count cX12_count 2 (some .int) 1 := ⟨gm 1059 (by decide +kernel) rfl, gm 65 (by decide +kernel) rfl, by decide, by decide +kernel, by decide +kernel⟩
theorem yvX12_count : YV yX12_count 11 := ⟨gm 1057 (by decide +kernel) rfl, gm 1058 (by decide +kernel) rfl, _, rfl, rfl⟩
theorem ymX12_heap : YM yX12_heap cX12_heap 2 (some .int) 1 := ⟨gm 1063 (by decide +kernel) rfl, gm 65 (by decide +kernel) rfl, by decide, by decide +kernel, by decide +kernel⟩
theorem yvX12_heap : YV yX12_heap 11 := ⟨gm 1061 (by decide +kernel) rfl, gm 1062 (by decide +kernel) rfl, _, rfl, rfl⟩
theorem ymX12_pair : YM yX12_pair cX12_pair 5 (some .int) 3 := ⟨gm 1067 (by decide +kernel) rfl, gm 65 (by decide +kernel) rfl, by decide, by decide +kernel, by decide +kernel⟩
theorem yvX12_pair : YV yX12_pair 11 := ⟨gm 1065 (by decide +kernel) rfl, gm 1066 (by decide +kernel) rfl, _, rfl, rfl⟩
theorem ymX12_isGoal : YM yX12_isGoal cX12_isGoal 1 (some .boolean) 1 := ⟨gm 1074 (by decide +kernel) rfl, gm 65 (by decide +kernel) rfl, by decide, by decide +kernel, by decide +kernel⟩
theorem ysX12_isGoal : Cond.static yX12_isGoal ∈ gtb := gm 1073 (by decide +kernel) rfl
theorem ymX12_cost : YM yX12_cost cX12_cost 2 (some .long) 1 := ⟨gm 1071 (by decide +kernel) rfl, gm 65 (by decide +kernel) rfl, by decide, by decide +kernel, by decide +kernel⟩
theorem yvX12_cost : YV yX12_cost 11 := ⟨gm 1069 (by decide +kernel) rfl, gm 1070 (by decide +kernel) rfl, _, rfl, rfl⟩
theorem ymX12_middle : YM yX12_middle cX12_middle 2 (some .int) 1 := ⟨gm 1095 (by decide +kernel) rfl, gm 65 (by decide +kernel) rfl, by decide, by decide +kernel, by decide +kernel⟩
theorem yvX12_middle : YV yX12_middle 11 := ⟨gm 1093 (by decide +kernel) rfl, gm 1094 (by decide +kernel) rfl, _, rfl, rfl⟩
theorem ymX12_search : YM yX12_search cX12_search 11 (some .long) 3 := ⟨gm 1103 (by decide +kernel) rfl, gm 65 (by decide +kernel) rfl, by decide, by decide +kernel, by decide +kernel⟩
theorem yvX12_search : YV yX12_search 11 := ⟨gm 1102 (by decide +kernel) rfl, gm 41 (by decide +kernel) rfl, _, rfl, rfl⟩
theorem ymX12_best : YM yX12_best cX12_best 5 (some .long) 2 := ⟨gm 1099 (by decide +kernel) rfl, gm 65 (by decide +kernel) rfl, by decide, by decide +kernel, by decide +kernel⟩
theorem yvX12_best : YV yX12_best 11 := ⟨gm 1097 (by decide +kernel) rfl, gm 1098 (by decide +kernel) rfl, _, rfl, rfl⟩
theorem ymX12_line : YM yX12_line cX12_line 10 (some .long) 2 := ⟨gm 1112 (by decide +kernel) rfl, gm 65 (by decide +kernel) rfl, by decide, by decide +kernel, by decide +kernel⟩
theorem yvX12_line : YV yX12_line 11 := ⟨gm 1110 (by decide +kernel) rfl, gm 1111 (by decide +kernel) rfl, _, rfl, rfl⟩
theorem ymX12_better : YM yX12_better cX12_better 15 (some .int) 1 := ⟨gm 1121 (by decide +kernel) rfl, gm 65 (by decide +kernel) rfl, by decide, by decide +kernel, by decide +kernel⟩
theorem yvX12_better : YV yX12_better 11 := ⟨gm 1119 (by decide +kernel) rfl, gm 1120 (by decide +kernel) rfl, _, rfl, rfl⟩
theorem ymX12_two : YM yX12_two cX12_two 5 (some .int) 0 := ⟨gm 1125 (by decide +kernel) rfl, gm 65 (by decide +kernel) rfl, by decide, by decide +kernel, by decide +kernel⟩
theorem yvX12_two : YV yX12_two 11 := ⟨gm 1123 (by decide +kernel) rfl, gm 1124 (by decide +kernel) rfl, _, rfl, rfl⟩
theorem ymX12_nearest : YM yX12_nearest cX12_nearest 5 (some .int) 2 := ⟨gm 1133 (by decide +kernel) rfl, gm 65 (by decide +kernel) rfl, by decide, by decide +kernel, by decide +kernel⟩
theorem yvX12_nearest : YV yX12_nearest 11 := ⟨gm 1132 (by decide +kernel) rfl, gm 44 (by decide +kernel) rfl, _, rfl, rfl⟩
theorem ymX12_centres : YM yX12_centres cX12_centres 7 (some .int) 1 := ⟨gm 1129 (by decide +kernel) rfl, gm 65 (by decide +kernel) rfl, by decide, by decide +kernel, by decide +kernel⟩
theorem yvX12_centres : YV yX12_centres 11 := ⟨gm 1127 (by decide +kernel) rfl, gm 1128 (by decide +kernel) rfl, _, rfl, rfl⟩
theorem ymX12_like : YM yX12_like cX12_like 4 (some .boolean) 2 := ⟨gm 1146 (by decide +kernel) rfl, gm 65 (by decide +kernel) rfl, by decide, by decide +kernel, by decide +kernel⟩
theorem yvX12_like : YV yX12_like 11 := ⟨gm 1145 (by decide +kernel) rfl, gm 46 (by decide +kernel) rfl, _, rfl, rfl⟩
theorem ymX12_gather : YM yX12_gather cX12_gather 6 (some .long) 1 := ⟨gm 1142 (by decide +kernel) rfl, gm 65 (by decide +kernel) rfl, by decide, by decide +kernel, by decide +kernel⟩
theorem yvX12_gather : YV yX12_gather 11 := ⟨gm 1141 (by decide +kernel) rfl, gm 45 (by decide +kernel) rfl, _, rfl, rfl⟩
theorem ymX12_third : YM yX12_third cX12_third 6 (some .long) 1 := ⟨gm 1137 (by decide +kernel) rfl, gm 65 (by decide +kernel) rfl, by decide, by decide +kernel, by decide +kernel⟩
theorem yvX12_third : YV yX12_third 11 := ⟨gm 1135 (by decide +kernel) rfl, gm 1136 (by decide +kernel) rfl, _, rfl, rfl⟩
theorem ymX12_orders : YM yX12_orders cX12_orders 6 (some .long) 1 := ⟨gm 1154 (by decide +kernel) rfl, gm 65 (by decide +kernel) rfl, by decide, by decide +kernel, by decide +kernel⟩
theorem yvX12_orders : YV yX12_orders 11 := ⟨gm 1153 (by decide +kernel) rfl, gm 47 (by decide +kernel) rfl, _, rfl, rfl⟩
theorem ymX12_thirds : YM yX12_thirds cX12_thirds 2 (some .long) 0 := ⟨gm 1150 (by decide +kernel) rfl, gm 65 (by decide +kernel) rfl, by decide, by decide +kernel, by decide +kernel⟩
theorem yvX12_thirds : YV yX12_thirds 11 := ⟨gm 1148 (by decide +kernel) rfl, gm 1149 (by decide +kernel) rfl, _, rfl, rfl⟩
theorem ymX12_rounds : YM yX12_rounds cX12_rounds 6 (some .int) 0 := ⟨gm 1158 (by decide +kernel) rfl, gm 65 (by decide +kernel) rfl, by decide, by decide +kernel, by decide +kernel⟩
theorem yvX12_rounds : YV yX12_rounds 11 := ⟨gm 1156 (by decide +kernel) rfl, gm 1157 (by decide +kernel) rfl, _, rfl, rfl⟩
theorem ymX12_heightOf : YM yX12_heightOf cX12_heightOf 8 (some .int) 3 := ⟨gm 1166 (by decide +kernel) rfl, gm 65 (by decide +kernel) rfl, by decide, by decide +kernel, by decide +kernel⟩
theorem yvX12_heightOf : YV yX12_heightOf 11 := ⟨gm 1165 (by decide +kernel) rfl, gm 48 (by decide +kernel) rfl, _, rfl, rfl⟩
theorem ymX12_tree : YM yX12_tree cX12_tree 8 (some .int) 1 := ⟨gm 1162 (by decide +kernel) rfl, gm 65 (by decide +kernel) rfl, by decide, by decide +kernel, by decide +kernel⟩
theorem yvX12_tree : YV yX12_tree 11 := ⟨gm 1160 (by decide +kernel) rfl, gm 1161 (by decide +kernel) rfl, _, rfl, rfl⟩
theorem ymX12_joined : YM yX12_joined cX12_joined 3 (some .int) 2 := ⟨gm 1171 (by decide +kernel) rfl, gm 65 (by decide +kernel) rfl, by decide, by decide +kernel, by decide +kernel⟩
theorem yvX12_joined : YV yX12_joined 11 := ⟨gm 1169 (by decide +kernel) rfl, gm 1170 (by decide +kernel) rfl, _, rfl, rfl⟩
theorem ymX12_join : YM yX12_join cX12_join 4 none 1 := ⟨gm 1179 (by decide +kernel) rfl, gm 65 (by decide +kernel) rfl, by decide, by decide +kernel, by decide +kernel⟩
theorem yvX12_join : YV yX12_join 11 := ⟨gm 1178 (by decide +kernel) rfl, gm 49 (by decide +kernel) rfl, _, rfl, rfl⟩
theorem ymX12_height : YM yX12_height cX12_height 4 (some .int) 2 := ⟨gm 1175 (by decide +kernel) rfl, gm 65 (by decide +kernel) rfl, by decide, by decide +kernel, by decide +kernel⟩
theorem yvX12_height : YV yX12_height 11 := ⟨gm 1173 (by decide +kernel) rfl, gm 1174 (by decide +kernel) rfl, _, rfl, rfl⟩
theorem ymX12_cut : YM yX12_cut cX12_cut 4 (some .int) 1 := ⟨gm 1183 (by decide +kernel) rfl, gm 65 (by decide +kernel) rfl, by decide, by decide +kernel, by decide +kernel⟩
theorem yvX12_cut : YV yX12_cut 11 := ⟨gm 1181 (by decide +kernel) rfl, gm 1182 (by decide +kernel) rfl, _, rfl, rfl⟩
theorem ymX12_stirling : YM yX12_stirling cX12_stirling 2 (some .long) 2 := ⟨gm 1190 (by decide +kernel) rfl, gm 65 (by decide +kernel) rfl, by decide, by decide +kernel, by decide +kernel⟩
theorem ysX12_stirling : Cond.static yX12_stirling ∈ gtb := gm 1189 (by decide +kernel) rfl
theorem ymX12_many : YM yX12_many cX12_many 6 (some .long) 2 := ⟨gm 1187 (by decide +kernel) rfl, gm 65 (by decide +kernel) rfl, by decide, by decide +kernel, by decide +kernel⟩
theorem yvX12_many : YV yX12_many 11 := ⟨gm 1185 (by decide +kernel) rfl, gm 1186 (by decide +kernel) rfl, _, rfl, rfl⟩
theorem ymX12_waysOn : YM yX12_waysOn cX12_waysOn 2 (some .long) 2 := ⟨gm 1197 (by decide +kernel) rfl, gm 65 (by decide +kernel) rfl, by decide, by decide +kernel, by decide +kernel⟩
theorem ysX12_waysOn : Cond.static yX12_waysOn ∈ gtb := gm 1196 (by decide +kernel) rfl
theorem ymX12_rank : YM yX12_rank cX12_rank 5 (some .long) 0 := ⟨gm 1194 (by decide +kernel) rfl, gm 65 (by decide +kernel) rfl, by decide, by decide +kernel, by decide +kernel⟩
theorem yvX12_rank : YV yX12_rank 11 := ⟨gm 1192 (by decide +kernel) rfl, gm 1193 (by decide +kernel) rfl, _, rfl, rfl⟩
theorem ymX12_of : YM yX12_of cX12_of 10 (some .boolean) 1 := ⟨gm 1201 (by decide +kernel) rfl, gm 65 (by decide +kernel) rfl, by decide, by decide +kernel, by decide +kernel⟩
theorem yvX12_of : YV yX12_of 11 := ⟨gm 1199 (by decide +kernel) rfl, gm 1200 (by decide +kernel) rfl, _, rfl, rfl⟩
theorem ymX12_keep : YM yX12_keep cX12_keep 3 (some .boolean) 1 := ⟨gm 1205 (by decide +kernel) rfl, gm 65 (by decide +kernel) rfl, by decide, by decide +kernel, by decide +kernel⟩
theorem yvX12_keep : YV yX12_keep 11 := ⟨gm 1203 (by decide +kernel) rfl, gm 1204 (by decide +kernel) rfl, _, rfl, rfl⟩
theorem ymX12_keepWhy : YM yX12_keepWhy cX12_keepWhy 2 (some .int) 1 := ⟨gm 1213 (by decide +kernel) rfl, gm 65 (by decide +kernel) rfl, by decide, by decide +kernel, by decide +kernel⟩
theorem yvX12_keepWhy : YV yX12_keepWhy 11 := ⟨gm 1212 (by decide +kernel) rfl, gm 50 (by decide +kernel) rfl, _, rfl, rfl⟩
theorem ymX12_differ : YM yX12_differ cX12_differ 5 (some .int) 1 := ⟨gm 1209 (by decide +kernel) rfl, gm 65 (by decide +kernel) rfl, by decide, by decide +kernel, by decide +kernel⟩
theorem yvX12_differ : YV yX12_differ 11 := ⟨gm 1207 (by decide +kernel) rfl, gm 1208 (by decide +kernel) rfl, _, rfl, rfl⟩
theorem ymX12_both : YM yX12_both cX12_both 3 (some .int) 1 := ⟨gm 1217 (by decide +kernel) rfl, gm 65 (by decide +kernel) rfl, by decide, by decide +kernel, by decide +kernel⟩
theorem yvX12_both : YV yX12_both 11 := ⟨gm 1215 (by decide +kernel) rfl, gm 1216 (by decide +kernel) rfl, _, rfl, rfl⟩
theorem ymX12_tell : YM yX12_tell cX12_tell 2 (some .int) 1 := ⟨gm 1221 (by decide +kernel) rfl, gm 65 (by decide +kernel) rfl, by decide, by decide +kernel, by decide +kernel⟩
theorem yvX12_tell : YV yX12_tell 11 := ⟨gm 1219 (by decide +kernel) rfl, gm 1220 (by decide +kernel) rfl, _, rfl, rfl⟩
theorem ymX12_takeList : YM yX12_takeList cX12_takeList 2 (some .boolean) 0 := ⟨gm 1229 (by decide +kernel) rfl, gm 65 (by decide +kernel) rfl, by decide, by decide +kernel, by decide +kernel⟩
theorem yvX12_takeList : YV yX12_takeList 11 := ⟨gm 1228 (by decide +kernel) rfl, gm 51 (by decide +kernel) rfl, _, rfl, rfl⟩
theorem ymX12_check : YM yX12_check cX12_check 5 (some .int) 2 := ⟨gm 1225 (by decide +kernel) rfl, gm 65 (by decide +kernel) rfl, by decide, by decide +kernel, by decide +kernel⟩
theorem yvX12_check : YV yX12_check 11 := ⟨gm 1223 (by decide +kernel) rfl, gm 1224 (by decide +kernel) rfl, _, rfl, rfl⟩
theorem ymX12_load : YM yX12_load cX12_load 1 (some .int) 0 := ⟨gm 1233 (by decide +kernel) rfl, gm 65 (by decide +kernel) rfl, by decide, by decide +kernel, by decide +kernel⟩
theorem yvX12_load : YV yX12_load 11 := ⟨gm 1231 (by decide +kernel) rfl, gm 1232 (by decide +kernel) rfl, _, rfl, rfl⟩
theorem ymX12_undo : YM yX12_undo cX12_undo 1 (some .int) 0 := ⟨gm 1237 (by decide +kernel) rfl, gm 65 (by decide +kernel) rfl, by decide, by decide +kernel, by decide +kernel⟩
theorem yvX12_undo : YV yX12_undo 11 := ⟨gm 1235 (by decide +kernel) rfl, gm 1236 (by decide +kernel) rfl, _, rfl, rfl⟩
theorem ymX12_fault : YM yX12_fault cX12_fault 1 (some .int) 0 := ⟨gm 1241 (by decide +kernel) rfl, gm 65 (by decide +kernel) rfl, by decide, by decide +kernel, by decide +kernel⟩
theorem yvX12_fault : YV yX12_fault 11 := ⟨gm 1239 (by decide +kernel) rfl, gm 1240 (by decide +kernel) rfl, _, rfl, rfl⟩
theorem ymJ6_bitCount_0f7a4 : YM yJ6_bitCount_0f7a4 cJ6_bitCount_0f7a4 1 (some .int) 1 := ⟨gm 636 (by decide +kernel) rfl, gm 69 (by decide +kernel) rfl, by decide, by decide +kernel, by decide +kernel⟩
theorem ysJ6_bitCount_0f7a4 : Cond.static yJ6_bitCount_0f7a4 ∈ gtb := gm 635 (by decide +kernel) rfl
theorem ymJ7_fill_d0a16 : YM yJ7_fill_d0a16 cJ7_fill_d0a16 5 none 2 := ⟨gm 440 (by decide +kernel) rfl, gm 64 (by decide +kernel) rfl, by decide, by decide +kernel, by decide +kernel⟩
theorem ysJ7_fill_d0a16 : Cond.static yJ7_fill_d0a16 ∈ gtb := gm 439 (by decide +kernel) rfl
theorem ymJ7_fill_53178 : YM yJ7_fill_53178 cJ7_fill_53178 4 none 2 := ⟨gm 327 (by decide +kernel) rfl, gm 64 (by decide +kernel) rfl, by decide, by decide +kernel, by decide +kernel⟩
theorem ysJ7_fill_53178 : Cond.static yJ7_fill_53178 ∈ gtb := gm 326 (by decide +kernel) rfl
theorem ck_L_7 : Cond.classLink RL 7 (clN 10) ∈ gtb := gm 70 (by decide +kernel) rfl
theorem nl_L_7 : NL RL 7 10 12 [vr 0, vr 0, vr 0, vr 0, vr 0, vr 0, vr 0, vr 0, vr 0, vr 0, vr 0, vi 0] := ⟨RX11, TX11, tyX11, cl10, gm 70 (by decide +kernel) rfl, gm 71 (by decide +kernel) rfl, gm 53 (by decide +kernel) rfl, fun ad j hj => by
  rcases (show j = 0 ∨ j = 1 ∨ j = 2 ∨ j = 3 ∨ j = 4 ∨ j = 5 ∨ j = 6 ∨ j = 7 ∨ j = 8 ∨ j = 9 ∨ j = 10 ∨ j = 11 by omega) with rfl | rfl | rfl | rfl | rfl | rfl | rfl | rfl | rfl | rfl | rfl | rfl <;> rfl, fun k v hk => by
  have hm := List.mem_of_getElem? hk
  simp only [List.mem_cons, List.not_mem_nil, or_false] at hm
  rcases hm with rfl | rfl | rfl | rfl | rfl | rfl | rfl | rfl | rfl | rfl | rfl | rfl <;> first | exact ⟨by decide, by decide⟩ | exact Or.inl (Nat.le_refl 0)⟩
theorem ml_L_9 : Cond.methodLink RL 9 yX11_init ∈ gtb := gm 72 (by decide +kernel) rfl
theorem ml_X11_1 : Cond.methodLink RX11 1 objectInit ∈ gtb := gm 75 (by decide +kernel) rfl
theorem ck_X11_7 : Cond.classLink RX11 7 (clN 6) ∈ gtb := gm 78 (by decide +kernel) rfl
theorem nl_X11_7 : NL RX11 7 6 6 [vi 0, vr 0, vr 0, vr 0, vr 0, vr 0] := ⟨RX7, TX7, tyX7, cl6, gm 78 (by decide +kernel) rfl, gm 79 (by decide +kernel) rfl, gm 54 (by decide +kernel) rfl, fun ad j hj => by
  rcases (show j = 0 ∨ j = 1 ∨ j = 2 ∨ j = 3 ∨ j = 4 ∨ j = 5 by omega) with rfl | rfl | rfl | rfl | rfl | rfl <;> rfl, fun k v hk => by
  have hm := List.mem_of_getElem? hk
  simp only [List.mem_cons, List.not_mem_nil, or_false] at hm
  rcases hm with rfl | rfl | rfl | rfl | rfl | rfl <;> first | exact ⟨by decide, by decide⟩ | exact Or.inl (Nat.le_refl 0)⟩
theorem mn_X11_9 : Cond.methodLinkNest RX11 9 yX7_init "HeapBench" ∈ nwl := gn 80 (by decide +kernel) rfl
theorem ml_X7_3 : Cond.methodLink RX7 3 objectInit ∈ gtb := gm 83 (by decide +kernel) rfl
theorem ck_X7_28 : Cond.classLink RX7 28 (clN 5) ∈ gtb := gm 84 (by decide +kernel) rfl
theorem nl_X7_28 : NL RX7 28 5 4 [vi 0, vi 0, vr 0, vr 0] := ⟨RX6, TX6, tyX6, cl5, gm 84 (by decide +kernel) rfl, gm 85 (by decide +kernel) rfl, gm 55 (by decide +kernel) rfl, fun ad j hj => by
  rcases (show j = 0 ∨ j = 1 ∨ j = 2 ∨ j = 3 by omega) with rfl | rfl | rfl | rfl <;> rfl, fun k v hk => by
  have hm := List.mem_of_getElem? hk
  simp only [List.mem_cons, List.not_mem_nil, or_false] at hm
  rcases hm with rfl | rfl | rfl | rfl <;> first | exact ⟨by decide, by decide⟩ | exact Or.inl (Nat.le_refl 0)⟩
theorem mn_X7_30 : Cond.methodLinkNest RX7 30 yX6_init "HeapBench" ∈ nwl := gn 86 (by decide +kernel) rfl
theorem ml_X6_3 : Cond.methodLink RX6 3 objectInit ∈ gtb := gm 89 (by decide +kernel) rfl
theorem ck_X11_16 : Cond.classLink RX11 16 (clN 0) ∈ gtb := gm 154 (by decide +kernel) rfl
theorem nl_X11_16 : NL RX11 16 0 3 [vi 0, vi 0, vr 0] := ⟨RX1, TX1, tyX1, cl0, gm 154 (by decide +kernel) rfl, gm 155 (by decide +kernel) rfl, gm 56 (by decide +kernel) rfl, fun ad j hj => by
  rcases (show j = 0 ∨ j = 1 ∨ j = 2 by omega) with rfl | rfl | rfl <;> rfl, fun k v hk => by
  have hm := List.mem_of_getElem? hk
  simp only [List.mem_cons, List.not_mem_nil, or_false] at hm
  rcases hm with rfl | rfl | rfl <;> first | exact ⟨by decide, by decide⟩ | exact Or.inl (Nat.le_refl 0)⟩
theorem mn_X11_18 : Cond.methodLinkNest RX11 18 yX1_init "HeapBench" ∈ nwl := gn 156 (by decide +kernel) rfl
theorem ml_X1_3 : Cond.methodLink RX1 3 objectInit ∈ gtb := gm 159 (by decide +kernel) rfl
theorem ck_X1_18 : Cond.classLink RX1 18 (clN 6) ∈ gtb := gm 160 (by decide +kernel) rfl
theorem nl_X1_18 : NL RX1 18 6 6 [vi 0, vr 0, vr 0, vr 0, vr 0, vr 0] := ⟨RX7, TX7, tyX7, cl6, gm 160 (by decide +kernel) rfl, gm 79 (by decide +kernel) rfl, gm 54 (by decide +kernel) rfl, fun ad j hj => by
  rcases (show j = 0 ∨ j = 1 ∨ j = 2 ∨ j = 3 ∨ j = 4 ∨ j = 5 by omega) with rfl | rfl | rfl | rfl | rfl | rfl <;> rfl, fun k v hk => by
  have hm := List.mem_of_getElem? hk
  simp only [List.mem_cons, List.not_mem_nil, or_false] at hm
  rcases hm with rfl | rfl | rfl | rfl | rfl | rfl <;> first | exact ⟨by decide, by decide⟩ | exact Or.inl (Nat.le_refl 0)⟩
theorem ck_X11_23 : Cond.classLink RX11 23 (clN 8) ∈ gtb := gm 173 (by decide +kernel) rfl
theorem nl_X11_23 : NL RX11 23 8 3 [vi 0, vi 0, vr 0] := ⟨RX9, TX9, tyX9, cl8, gm 173 (by decide +kernel) rfl, gm 174 (by decide +kernel) rfl, gm 57 (by decide +kernel) rfl, fun ad j hj => by
  rcases (show j = 0 ∨ j = 1 ∨ j = 2 by omega) with rfl | rfl | rfl <;> rfl, fun k v hk => by
  have hm := List.mem_of_getElem? hk
  simp only [List.mem_cons, List.not_mem_nil, or_false] at hm
  rcases hm with rfl | rfl | rfl <;> first | exact ⟨by decide, by decide⟩ | exact Or.inl (Nat.le_refl 0)⟩
theorem mn_X11_25 : Cond.methodLinkNest RX11 25 yX9_init "HeapBench" ∈ nwl := gn 175 (by decide +kernel) rfl
theorem ml_X9_3 : Cond.methodLink RX9 3 objectInit ∈ gtb := gm 178 (by decide +kernel) rfl
theorem ck_X11_30 : Cond.classLink RX11 30 (clN 9) ∈ gtb := gm 193 (by decide +kernel) rfl
theorem nl_X11_30 : NL RX11 30 9 7 [vi 0, vi 0, vr 0, vr 0, vr 0, vr 0, vi 0] := ⟨RX10, TX10, tyX10, cl9, gm 193 (by decide +kernel) rfl, gm 194 (by decide +kernel) rfl, gm 58 (by decide +kernel) rfl, fun ad j hj => by
  rcases (show j = 0 ∨ j = 1 ∨ j = 2 ∨ j = 3 ∨ j = 4 ∨ j = 5 ∨ j = 6 by omega) with rfl | rfl | rfl | rfl | rfl | rfl | rfl <;> rfl, fun k v hk => by
  have hm := List.mem_of_getElem? hk
  simp only [List.mem_cons, List.not_mem_nil, or_false] at hm
  rcases hm with rfl | rfl | rfl | rfl | rfl | rfl | rfl <;> first | exact ⟨by decide, by decide⟩ | exact Or.inl (Nat.le_refl 0)⟩
theorem mn_X11_32 : Cond.methodLinkNest RX11 32 yX10_init "HeapBench" ∈ nwl := gn 195 (by decide +kernel) rfl
theorem ml_X10_3 : Cond.methodLink RX10 3 objectInit ∈ gtb := gm 198 (by decide +kernel) rfl
theorem ck_X11_37 : Cond.classLink RX11 37 (clN 5) ∈ gtb := gm 225 (by decide +kernel) rfl
theorem nl_X11_37 : NL RX11 37 5 4 [vi 0, vi 0, vr 0, vr 0] := ⟨RX6, TX6, tyX6, cl5, gm 225 (by decide +kernel) rfl, gm 85 (by decide +kernel) rfl, gm 55 (by decide +kernel) rfl, fun ad j hj => by
  rcases (show j = 0 ∨ j = 1 ∨ j = 2 ∨ j = 3 by omega) with rfl | rfl | rfl | rfl <;> rfl, fun k v hk => by
  have hm := List.mem_of_getElem? hk
  simp only [List.mem_cons, List.not_mem_nil, or_false] at hm
  rcases hm with rfl | rfl | rfl | rfl <;> first | exact ⟨by decide, by decide⟩ | exact Or.inl (Nat.le_refl 0)⟩
theorem mn_X11_43 : Cond.methodLinkNest RX11 43 yX6_init "HeapBench" ∈ nwl := gn 227 (by decide +kernel) rfl
theorem ck_X11_48 : Cond.classLink RX11 48 (clN 7) ∈ gtb := gm 228 (by decide +kernel) rfl
theorem nl_X11_48 : NL RX11 48 7 7 [vr 0, vr 0, vr 0, vl 0, vi 0, vi 0, vi 0] := ⟨RX8, TX8, tyX8, cl7, gm 228 (by decide +kernel) rfl, gm 229 (by decide +kernel) rfl, gm 59 (by decide +kernel) rfl, fun ad j hj => by
  rcases (show j = 0 ∨ j = 1 ∨ j = 2 ∨ j = 3 ∨ j = 4 ∨ j = 5 ∨ j = 6 by omega) with rfl | rfl | rfl | rfl | rfl | rfl | rfl <;> rfl, fun k v hk => by
  have hm := List.mem_of_getElem? hk
  simp only [List.mem_cons, List.not_mem_nil, or_false] at hm
  rcases hm with rfl | rfl | rfl | rfl | rfl | rfl | rfl <;> first | exact ⟨by decide, by decide⟩ | exact Or.inl (Nat.le_refl 0)⟩
theorem mn_X11_50 : Cond.methodLinkNest RX11 50 yX8_init "HeapBench" ∈ nwl := gn 230 (by decide +kernel) rfl
theorem ml_X8_3 : Cond.methodLink RX8 3 objectInit ∈ gtb := gm 233 (by decide +kernel) rfl
theorem ck_X11_55 : Cond.classLink RX11 55 (clN 2) ∈ gtb := gm 256 (by decide +kernel) rfl
theorem nl_X11_55 : NL RX11 55 2 4 [vr 0, vr 0, vr 0, vr 0] := ⟨RX3, TX3, tyX3, cl2, gm 256 (by decide +kernel) rfl, gm 257 (by decide +kernel) rfl, gm 60 (by decide +kernel) rfl, fun ad j hj => by
  rcases (show j = 0 ∨ j = 1 ∨ j = 2 ∨ j = 3 by omega) with rfl | rfl | rfl | rfl <;> rfl, fun k v hk => by
  have hm := List.mem_of_getElem? hk
  simp only [List.mem_cons, List.not_mem_nil, or_false] at hm
  rcases hm with rfl | rfl | rfl | rfl <;> first | exact ⟨by decide, by decide⟩ | exact Or.inl (Nat.le_refl 0)⟩
theorem mn_X11_57 : Cond.methodLinkNest RX11 57 yX3_init "HeapBench" ∈ nwl := gn 258 (by decide +kernel) rfl
theorem ml_X3_3 : Cond.methodLink RX3 3 objectInit ∈ gtb := gm 261 (by decide +kernel) rfl
theorem ck_X3_19 : Cond.classLink RX3 19 (clN 5) ∈ gtb := gm 262 (by decide +kernel) rfl
theorem nl_X3_19 : NL RX3 19 5 4 [vi 0, vi 0, vr 0, vr 0] := ⟨RX6, TX6, tyX6, cl5, gm 262 (by decide +kernel) rfl, gm 85 (by decide +kernel) rfl, gm 55 (by decide +kernel) rfl, fun ad j hj => by
  rcases (show j = 0 ∨ j = 1 ∨ j = 2 ∨ j = 3 by omega) with rfl | rfl | rfl | rfl <;> rfl, fun k v hk => by
  have hm := List.mem_of_getElem? hk
  simp only [List.mem_cons, List.not_mem_nil, or_false] at hm
  rcases hm with rfl | rfl | rfl | rfl <;> first | exact ⟨by decide, by decide⟩ | exact Or.inl (Nat.le_refl 0)⟩
theorem mn_X3_21 : Cond.methodLinkNest RX3 21 yX6_init "HeapBench" ∈ nwl := gn 263 (by decide +kernel) rfl
theorem ck_X3_26 : Cond.classLink RX3 26 (clN 6) ∈ gtb := gm 264 (by decide +kernel) rfl
theorem nl_X3_26 : NL RX3 26 6 6 [vi 0, vr 0, vr 0, vr 0, vr 0, vr 0] := ⟨RX7, TX7, tyX7, cl6, gm 264 (by decide +kernel) rfl, gm 79 (by decide +kernel) rfl, gm 54 (by decide +kernel) rfl, fun ad j hj => by
  rcases (show j = 0 ∨ j = 1 ∨ j = 2 ∨ j = 3 ∨ j = 4 ∨ j = 5 by omega) with rfl | rfl | rfl | rfl | rfl | rfl <;> rfl, fun k v hk => by
  have hm := List.mem_of_getElem? hk
  simp only [List.mem_cons, List.not_mem_nil, or_false] at hm
  rcases hm with rfl | rfl | rfl | rfl | rfl | rfl <;> first | exact ⟨by decide, by decide⟩ | exact Or.inl (Nat.le_refl 0)⟩
theorem mn_X3_28 : Cond.methodLinkNest RX3 28 yX7_init "HeapBench" ∈ nwl := gn 265 (by decide +kernel) rfl
theorem ck_X11_62 : Cond.classLink RX11 62 (clN 3) ∈ gtb := gm 279 (by decide +kernel) rfl
theorem nl_X11_62 : NL RX11 62 3 3 [vr 0, vr 0, vl 0] := ⟨RX4, TX4, tyX4, cl3, gm 279 (by decide +kernel) rfl, gm 280 (by decide +kernel) rfl, gm 61 (by decide +kernel) rfl, fun ad j hj => by
  rcases (show j = 0 ∨ j = 1 ∨ j = 2 by omega) with rfl | rfl | rfl <;> rfl, fun k v hk => by
  have hm := List.mem_of_getElem? hk
  simp only [List.mem_cons, List.not_mem_nil, or_false] at hm
  rcases hm with rfl | rfl | rfl <;> first | exact ⟨by decide, by decide⟩ | exact Or.inl (Nat.le_refl 0)⟩
theorem mn_X11_64 : Cond.methodLinkNest RX11 64 yX4_init "HeapBench" ∈ nwl := gn 281 (by decide +kernel) rfl
theorem ml_X4_3 : Cond.methodLink RX4 3 objectInit ∈ gtb := gm 284 (by decide +kernel) rfl
theorem ck_X11_69 : Cond.classLink RX11 69 (clN 1) ∈ gtb := gm 295 (by decide +kernel) rfl
theorem nl_X11_69 : NL RX11 69 1 2 [vr 0, vr 0] := ⟨RX2, TX2, tyX2, cl1, gm 295 (by decide +kernel) rfl, gm 296 (by decide +kernel) rfl, gm 62 (by decide +kernel) rfl, fun ad j hj => by
  rcases (show j = 0 ∨ j = 1 by omega) with rfl | rfl <;> rfl, fun k v hk => by
  have hm := List.mem_of_getElem? hk
  simp only [List.mem_cons, List.not_mem_nil, or_false] at hm
  rcases hm with rfl | rfl <;> first | exact ⟨by decide, by decide⟩ | exact Or.inl (Nat.le_refl 0)⟩
theorem mn_X11_71 : Cond.methodLinkNest RX11 71 yX2_init "HeapBench" ∈ nwl := gn 297 (by decide +kernel) rfl
theorem ml_X2_3 : Cond.methodLink RX2 3 objectInit ∈ gtb := gm 300 (by decide +kernel) rfl
theorem ck_X11_76 : Cond.classLink RX11 76 (clN 4) ∈ gtb := gm 308 (by decide +kernel) rfl
theorem nl_X11_76 : NL RX11 76 4 2 [vr 0, vr 0] := ⟨RX5, TX5, tyX5, cl4, gm 308 (by decide +kernel) rfl, gm 309 (by decide +kernel) rfl, gm 63 (by decide +kernel) rfl, fun ad j hj => by
  rcases (show j = 0 ∨ j = 1 by omega) with rfl | rfl <;> rfl, fun k v hk => by
  have hm := List.mem_of_getElem? hk
  simp only [List.mem_cons, List.not_mem_nil, or_false] at hm
  rcases hm with rfl | rfl <;> first | exact ⟨by decide, by decide⟩ | exact Or.inl (Nat.le_refl 0)⟩
theorem ml_X11_78 : Cond.methodLink RX11 78 yX5_init ∈ gtb := gm 310 (by decide +kernel) rfl
theorem ml_X5_3 : Cond.methodLink RX5 3 objectInit ∈ gtb := gm 313 (by decide +kernel) rfl
theorem ml_X11_87 : Cond.methodLink RX11 87 yX7_restart ∈ gtb := gm 321 (by decide +kernel) rfl
theorem ml_X7_35 : Cond.methodLink RX7 35 yJ7_fill_53178 ∈ gtb := gm 325 (by decide +kernel) rfl
theorem ml_X7_41 : Cond.methodLink RX7 41 yX6_allInOne ∈ gtb := gm 328 (by decide +kernel) rfl
theorem ml_X6_31 : Cond.methodLink RX6 31 yJ7_fill_53178 ∈ gtb := gm 332 (by decide +kernel) rfl
theorem ml_L_13 : Cond.methodLink RL 13 yX11_things ∈ gtb := gm 370 (by decide +kernel) rfl
theorem ml_X11_91 : Cond.methodLink RX11 91 yX11_deny ∈ gtb := gm 374 (by decide +kernel) rfl
theorem ml_X11_95 : Cond.methodLink RX11 95 yX11_change ∈ gtb := gm 378 (by decide +kernel) rfl
theorem ml_X11_280 : Cond.methodLink RX11 280 yX1_remember ∈ gtb := gm 382 (by decide +kernel) rfl
theorem mn_X1_24 : Cond.methodLinkNest RX1 24 yX7_init "HeapBench" ∈ nwl := gn 386 (by decide +kernel) rfl
theorem ml_X1_25 : Cond.methodLink RX1 25 yX7_copyFrom ∈ gtb := gm 387 (by decide +kernel) rfl
theorem ml_X7_45 : Cond.methodLink RX7 45 arraycopyName ∈ gtb := gm 391 (by decide +kernel) rfl
theorem ml_X7_51 : Cond.methodLink RX7 51 yX6_copyFrom ∈ gtb := gm 394 (by decide +kernel) rfl
theorem ml_X6_25 : Cond.methodLink RX6 25 arraycopyName ∈ gtb := gm 398 (by decide +kernel) rfl
theorem ml_X1_29 : Cond.methodLink RX1 29 yJ9_min_7cf53 ∈ gtb := gm 399 (by decide +kernel) rfl
theorem ml_X11_98 : Cond.methodLink RX11 98 yX10_drop ∈ gtb := gm 402 (by decide +kernel) rfl
theorem ml_L_18 : Cond.methodLink RL 18 yX11_way ∈ gtb := gm 406 (by decide +kernel) rfl
theorem ml_X11_101 : Cond.methodLink RX11 101 yX11_isCouple ∈ gtb := gm 410 (by decide +kernel) rfl
theorem ml_X11_131 : Cond.methodLink RX11 131 yX11_isThing ∈ gtb := gm 414 (by decide +kernel) rfl
theorem ml_X11_105 : Cond.methodLink RX11 105 yX11_refuse ∈ gtb := gm 418 (by decide +kernel) rfl
theorem ml_X11_109 : Cond.methodLink RX11 109 yX7_wayOf ∈ gtb := gm 422 (by decide +kernel) rfl
theorem ml_X11_113 : Cond.methodLink RX11 113 yX7_setWay ∈ gtb := gm 426 (by decide +kernel) rfl
theorem ml_L_23 : Cond.methodLink RL 23 yX11_sheet ∈ gtb := gm 430 (by decide +kernel) rfl
theorem ml_X11_117 : Cond.methodLink RX11 117 yX9_renew ∈ gtb := gm 434 (by decide +kernel) rfl
theorem ml_X9_22 : Cond.methodLink RX9 22 yJ7_fill_d0a16 ∈ gtb := gm 438 (by decide +kernel) rfl
theorem ml_L_30 : Cond.methodLink RL 30 yX11_entry ∈ gtb := gm 441 (by decide +kernel) rfl
theorem ml_X11_127 : Cond.methodLink RX11 127 yX9_write ∈ gtb := gm 445 (by decide +kernel) rfl
theorem ml_L_35 : Cond.methodLink RL 35 yX11_lay ∈ gtb := gm 449 (by decide +kernel) rfl
theorem ml_X11_134 : Cond.methodLink RX11 134 yX9_isPlace ∈ gtb := gm 453 (by decide +kernel) rfl
theorem kk_X9_32 : Cond.constantLong RX9 32 (-1000) ∈ gtb := gm 457 (by decide +kernel) rfl
theorem kk_X9_34 : Cond.constantLong RX9 34 (1000) ∈ gtb := gm 458 (by decide +kernel) rfl
theorem ml_X11_146 : Cond.methodLink RX11 146 yX9_drop ∈ gtb := gm 459 (by decide +kernel) rfl
theorem ml_X9_28 : Cond.methodLink RX9 28 yX9_renew ∈ gtb := gm 463 (by decide +kernel) rfl
theorem ml_L_39 : Cond.methodLink RL 39 yX11_measure ∈ gtb := gm 464 (by decide +kernel) rfl
theorem ml_X11_150 : Cond.methodLink RX11 150 yX7_gapOf ∈ gtb := gm 468 (by decide +kernel) rfl
theorem ml_X7_62 : Cond.methodLink RX7 62 yJ9_abs_0f7a4 ∈ gtb := gm 472 (by decide +kernel) rfl
theorem ml_X7_68 : Cond.methodLink RX7 68 yJ9_max_7cf53 ∈ gtb := gm 475 (by decide +kernel) rfl
theorem ml_X11_154 : Cond.methodLink RX11 154 yJ9_min_7cf53 ∈ gtb := gm 478 (by decide +kernel) rfl
theorem ml_L_44 : Cond.methodLink RL 44 yX11_quarrel ∈ gtb := gm 479 (by decide +kernel) rfl
theorem ml_X11_159 : Cond.methodLink RX11 159 yX7_setQuarrel ∈ gtb := gm 483 (by decide +kernel) rfl
theorem ml_L_49 : Cond.methodLink RL 49 yX11_put ∈ gtb := gm 487 (by decide +kernel) rfl
theorem ml_X11_172 : Cond.methodLink RX11 172 yX6_renumber ∈ gtb := gm 491 (by decide +kernel) rfl
theorem ml_L_53 : Cond.methodLink RL 53 yX11_count ∈ gtb := gm 495 (by decide +kernel) rfl
theorem ml_L_57 : Cond.methodLink RL 57 yX11_heap ∈ gtb := gm 499 (by decide +kernel) rfl
theorem ml_L_61 : Cond.methodLink RL 61 yX11_pair ∈ gtb := gm 503 (by decide +kernel) rfl
theorem ml_X11_178 : Cond.methodLink RX11 178 yX7_weightOf ∈ gtb := gm 507 (by decide +kernel) rfl
theorem ml_X11_181 : Cond.methodLink RX11 181 yX7_likeOf ∈ gtb := gm 511 (by decide +kernel) rfl
theorem ml_L_65 : Cond.methodLink RL 65 yX11_cost ∈ gtb := gm 515 (by decide +kernel) rfl
theorem ml_X11_184 : Cond.methodLink RX11 184 yX11_isGoal ∈ gtb := gm 519 (by decide +kernel) rfl
theorem ml_X11_187 : Cond.methodLink RX11 187 yX0_ofParting ∈ gtb := gm 522 (by decide +kernel) rfl
theorem ml_X0_9 : Cond.methodLink RX0 9 yX0_ground ∈ gtb := gm 525 (by decide +kernel) rfl
theorem ml_X0_38 : Cond.methodLink RX0 38 yX7_likeOf ∈ gtb := gm 528 (by decide +kernel) rfl
theorem ml_X0_42 : Cond.methodLink RX0 42 yX7_weightOf ∈ gtb := gm 529 (by decide +kernel) rfl
theorem ml_X0_21 : Cond.methodLink RX0 21 yX6_membersOf ∈ gtb := gm 530 (by decide +kernel) rfl
theorem ml_X0_25 : Cond.methodLink RX0 25 yX0_ofHeap ∈ gtb := gm 534 (by decide +kernel) rfl
theorem ml_X0_51 : Cond.methodLink RX0 51 yX0_spread ∈ gtb := gm 537 (by decide +kernel) rfl
theorem ml_X0_67 : Cond.methodLink RX0 67 yX0_has ∈ gtb := gm 540 (by decide +kernel) rfl
theorem ml_X0_71 : Cond.methodLink RX0 71 yX7_wayOf ∈ gtb := gm 543 (by decide +kernel) rfl
theorem kk_X0_74 : Cond.constantLong RX0 74 (27720) ∈ gtb := gm 544 (by decide +kernel) rfl
theorem ml_X0_54 : Cond.methodLink RX0 54 yX0_middleOf ∈ gtb := gm 545 (by decide +kernel) rfl
theorem kk_X0_78 : Cond.constantLong RX0 78 (9223372036854775807) ∈ gtb := gm 548 (by decide +kernel) rfl
theorem ml_X0_58 : Cond.methodLink RX0 58 yX0_sumFrom ∈ gtb := gm 549 (by decide +kernel) rfl
theorem ml_X0_61 : Cond.methodLink RX0 61 yX0_width ∈ gtb := gm 552 (by decide +kernel) rfl
theorem ml_X0_80 : Cond.methodLink RX0 80 yX0_reach ∈ gtb := gm 555 (by decide +kernel) rfl
theorem ml_X0_84 : Cond.methodLink RX0 84 yJ9_max_7cf53 ∈ gtb := gm 558 (by decide +kernel) rfl
theorem ml_X0_64 : Cond.methodLink RX0 64 yX0_quarrels ∈ gtb := gm 559 (by decide +kernel) rfl
theorem ml_X0_29 : Cond.methodLink RX0 29 yX0_with ∈ gtb := gm 562 (by decide +kernel) rfl
theorem ml_X0_45 : Cond.methodLink RX0 45 yJ9_max_f86c9 ∈ gtb := gm 565 (by decide +kernel) rfl
theorem ml_L_70 : Cond.methodLink RL 70 yX11_middle ∈ gtb := gm 568 (by decide +kernel) rfl
theorem ml_X11_193 : Cond.methodLink RX11 193 yX6_membersOf ∈ gtb := gm 572 (by decide +kernel) rfl
theorem ml_X11_196 : Cond.methodLink RX11 196 yX0_middleOf ∈ gtb := gm 573 (by decide +kernel) rfl
theorem ml_L_74 : Cond.methodLink RL 74 yX11_best ∈ gtb := gm 574 (by decide +kernel) rfl
theorem ml_X11_200 : Cond.methodLink RX11 200 yX8_run ∈ gtb := gm 578 (by decide +kernel) rfl
theorem kk_X8_38 : Cond.constantLong RX8 38 (9223372036854775807) ∈ gtb := gm 582 (by decide +kernel) rfl
theorem ml_X8_40 : Cond.methodLink RX8 40 yX8_costAllHeaps ∈ gtb := gm 583 (by decide +kernel) rfl
theorem ml_X8_65 : Cond.methodLink RX8 65 yJ9_min_7cf53 ∈ gtb := gm 587 (by decide +kernel) rfl
theorem ml_X8_71 : Cond.methodLink RX8 71 yX0_ofHeap ∈ gtb := gm 588 (by decide +kernel) rfl
theorem ml_X8_44 : Cond.methodLink RX8 44 yJ7_fill_53178 ∈ gtb := gm 589 (by decide +kernel) rfl
theorem ml_X8_50 : Cond.methodLink RX8 50 yX0_ground ∈ gtb := gm 590 (by decide +kernel) rfl
theorem ml_X8_56 : Cond.methodLink RX8 56 yX8_descend ∈ gtb := gm 591 (by decide +kernel) rfl
theorem ml_X8_75 : Cond.methodLink RX8 75 yX8_take ∈ gtb := gm 595 (by decide +kernel) rfl
theorem ml_X8_98 : Cond.methodLink RX8 98 arraycopyName ∈ gtb := gm 599 (by decide +kernel) rfl
theorem ml_X8_79 : Cond.methodLink RX8 79 yX8_grown ∈ gtb := gm 600 (by decide +kernel) rfl
theorem ml_X8_83 : Cond.methodLink RX8 83 yX0_reach ∈ gtb := gm 604 (by decide +kernel) rfl
theorem ml_X8_87 : Cond.methodLink RX8 87 yJ9_max_f86c9 ∈ gtb := gm 605 (by decide +kernel) rfl
theorem ml_L_79 : Cond.methodLink RL 79 yX11_line ∈ gtb := gm 606 (by decide +kernel) rfl
theorem ml_X11_204 : Cond.methodLink RX11 204 yX3_run ∈ gtb := gm 610 (by decide +kernel) rfl
theorem ml_X3_33 : Cond.methodLink RX3 33 yX3_flatten ∈ gtb := gm 614 (by decide +kernel) rfl
theorem ml_X3_77 : Cond.methodLink RX3 77 yX7_firstNumber ∈ gtb := gm 618 (by decide +kernel) rfl
theorem ml_X3_80 : Cond.methodLink RX3 80 yJ9_abs_0f7a4 ∈ gtb := gm 622 (by decide +kernel) rfl
theorem ml_X3_85 : Cond.methodLink RX3 85 yX7_setWay ∈ gtb := gm 623 (by decide +kernel) rfl
theorem ml_X3_37 : Cond.methodLink RX3 37 yX3_sortThings ∈ gtb := gm 624 (by decide +kernel) rfl
theorem ml_X3_40 : Cond.methodLink RX3 40 yX3_costAllSpans ∈ gtb := gm 628 (by decide +kernel) rfl
theorem ml_X3_89 : Cond.methodLink RX3 89 yX0_ofHeap ∈ gtb := gm 632 (by decide +kernel) rfl
theorem kk_X3_51 : Cond.constantLong RX3 51 (9223372036854775807) ∈ gtb := gm 633 (by decide +kernel) rfl
theorem ml_X3_53 : Cond.methodLink RX3 53 yJ6_bitCount_0f7a4 ∈ gtb := gm 634 (by decide +kernel) rfl
theorem kk_J6_265 : Cond.constant RJ6 265 (1431655765) ∈ gtb := gm 637 (by decide +kernel) rfl
theorem kk_J6_266 : Cond.constant RJ6 266 (858993459) ∈ gtb := gm 638 (by decide +kernel) rfl
theorem kk_J6_267 : Cond.constant RJ6 267 (252645135) ∈ gtb := gm 639 (by decide +kernel) rfl
theorem ml_X3_59 : Cond.methodLink RX3 59 yX3_costOf ∈ gtb := gm 640 (by decide +kernel) rfl
theorem ml_X3_99 : Cond.methodLink RX3 99 yX3_endsAt ∈ gtb := gm 644 (by decide +kernel) rfl
theorem ml_X3_95 : Cond.methodLink RX3 95 yX0_has ∈ gtb := gm 648 (by decide +kernel) rfl
theorem ml_X3_102 : Cond.methodLink RX3 102 yX0_with ∈ gtb := gm 649 (by decide +kernel) rfl
theorem ml_X3_63 : Cond.methodLink RX3 63 yX3_partBy ∈ gtb := gm 650 (by decide +kernel) rfl
theorem ml_X3_109 : Cond.methodLink RX3 109 yX6_renumber ∈ gtb := gm 654 (by decide +kernel) rfl
theorem ml_X3_69 : Cond.methodLink RX3 69 yX6_standsAhead ∈ gtb := gm 655 (by decide +kernel) rfl
theorem ml_X3_73 : Cond.methodLink RX3 73 yX6_copyFrom ∈ gtb := gm 659 (by decide +kernel) rfl
theorem ml_L_83 : Cond.methodLink RL 83 yX11_better ∈ gtb := gm 660 (by decide +kernel) rfl
theorem ml_X11_207 : Cond.methodLink RX11 207 yX4_run ∈ gtb := gm 664 (by decide +kernel) rfl
theorem kk_X4_23 : Cond.constant RX4 23 (1000000) ∈ gtb := gm 668 (by decide +kernel) rfl
theorem ml_X4_24 : Cond.methodLink RX4 24 yX4_makeBestMove ∈ gtb := gm 669 (by decide +kernel) rfl
theorem ml_X4_53 : Cond.methodLink RX4 53 yX4_weighHeaps ∈ gtb := gm 673 (by decide +kernel) rfl
theorem ml_X4_28 : Cond.methodLink RX4 28 yX0_ground ∈ gtb := gm 677 (by decide +kernel) rfl
theorem ml_X4_45 : Cond.methodLink RX4 45 yX6_membersOf ∈ gtb := gm 678 (by decide +kernel) rfl
theorem ml_X4_49 : Cond.methodLink RX4 49 yX0_ofHeap ∈ gtb := gm 679 (by decide +kernel) rfl
theorem ml_X4_57 : Cond.methodLink RX4 57 yX0_ofParting ∈ gtb := gm 680 (by decide +kernel) rfl
theorem ml_X4_67 : Cond.methodLink RX4 67 yX4_costAfter ∈ gtb := gm 681 (by decide +kernel) rfl
theorem ml_X4_74 : Cond.methodLink RX4 74 yX0_with ∈ gtb := gm 685 (by decide +kernel) rfl
theorem ml_X4_71 : Cond.methodLink RX4 71 yX6_renumber ∈ gtb := gm 686 (by decide +kernel) rfl
theorem ml_L_87 : Cond.methodLink RL 87 yX11_two ∈ gtb := gm 687 (by decide +kernel) rfl
theorem ml_L_92 : Cond.methodLink RL 92 yX11_centres ∈ gtb := gm 691 (by decide +kernel) rfl
theorem ml_X11_209 : Cond.methodLink RX11 209 yX7_partByCentres ∈ gtb := gm 695 (by decide +kernel) rfl
theorem ml_X7_74 : Cond.methodLink RX7 74 yX7_farthestFromCentre ∈ gtb := gm 699 (by decide +kernel) rfl
theorem ml_X7_81 : Cond.methodLink RX7 81 yX7_wayToCentre ∈ gtb := gm 703 (by decide +kernel) rfl
theorem ml_X7_87 : Cond.methodLink RX7 87 yX7_wayOf ∈ gtb := gm 707 (by decide +kernel) rfl
theorem ml_X7_78 : Cond.methodLink RX7 78 yX7_gatherNearer ∈ gtb := gm 708 (by decide +kernel) rfl
theorem ml_X7_84 : Cond.methodLink RX7 84 yX6_renumber ∈ gtb := gm 712 (by decide +kernel) rfl
theorem ml_L_96 : Cond.methodLink RL 96 yX11_third ∈ gtb := gm 713 (by decide +kernel) rfl
theorem ml_X11_212 : Cond.methodLink RX11 212 yX2_shuffle ∈ gtb := gm 717 (by decide +kernel) rfl
theorem kk_X2_19 : Cond.constant RX2 19 (1103515245) ∈ gtb := gm 721 (by decide +kernel) rfl
theorem ml_X11_215 : Cond.methodLink RX11 215 yX2_gather ∈ gtb := gm 722 (by decide +kernel) rfl
theorem ml_X2_30 : Cond.methodLink RX2 30 yX0_has ∈ gtb := gm 726 (by decide +kernel) rfl
theorem ml_X2_36 : Cond.methodLink RX2 36 yX2_likedBy ∈ gtb := gm 727 (by decide +kernel) rfl
theorem ml_X2_48 : Cond.methodLink RX2 48 yX7_pulls ∈ gtb := gm 730 (by decide +kernel) rfl
theorem ml_X7_55 : Cond.methodLink RX7 55 yX7_weightOf ∈ gtb := gm 734 (by decide +kernel) rfl
theorem ml_X7_59 : Cond.methodLink RX7 59 yX7_likeOf ∈ gtb := gm 735 (by decide +kernel) rfl
theorem ml_X2_45 : Cond.methodLink RX2 45 yX6_renumber ∈ gtb := gm 736 (by decide +kernel) rfl
theorem ml_L_100 : Cond.methodLink RL 100 yX11_thirds ∈ gtb := gm 737 (by decide +kernel) rfl
theorem ml_X11_219 : Cond.methodLink RX11 219 yX2_sumOverOrders ∈ gtb := gm 741 (by decide +kernel) rfl
theorem ml_X2_51 : Cond.methodLink RX2 51 yJ9_min_7cf53 ∈ gtb := gm 745 (by decide +kernel) rfl
theorem ml_X2_57 : Cond.methodLink RX2 57 yX2_sumOver ∈ gtb := gm 746 (by decide +kernel) rfl
theorem ml_X2_64 : Cond.methodLink RX2 64 yJ6_bitCount_0f7a4 ∈ gtb := gm 752 (by decide +kernel) rfl
theorem ml_X2_70 : Cond.methodLink RX2 70 yX2_costOfTaking ∈ gtb := gm 753 (by decide +kernel) rfl
theorem ml_X2_74 : Cond.methodLink RX2 74 yX7_likeOf ∈ gtb := gm 756 (by decide +kernel) rfl
theorem ml_X2_77 : Cond.methodLink RX2 77 yX7_weightOf ∈ gtb := gm 757 (by decide +kernel) rfl
theorem ml_L_105 : Cond.methodLink RL 105 yX11_rounds ∈ gtb := gm 758 (by decide +kernel) rfl
theorem ml_X11_223 : Cond.methodLink RX11 223 yX2_brokenRounds ∈ gtb := gm 762 (by decide +kernel) rfl
theorem ml_X2_80 : Cond.methodLink RX2 80 yX2_isBroken ∈ gtb := gm 765 (by decide +kernel) rfl
theorem ml_L_109 : Cond.methodLink RL 109 yX11_tree ∈ gtb := gm 768 (by decide +kernel) rfl
theorem ml_X11_227 : Cond.methodLink RX11 227 yX10_grow ∈ gtb := gm 772 (by decide +kernel) rfl
theorem ml_X10_40 : Cond.methodLink RX10 40 arraycopyName ∈ gtb := gm 776 (by decide +kernel) rfl
theorem ml_X10_46 : Cond.methodLink RX10 46 yX10_findLowest ∈ gtb := gm 777 (by decide +kernel) rfl
theorem kk_X10_56 : Cond.constant RX10 56 (2147483647) ∈ gtb := gm 781 (by decide +kernel) rfl
theorem ml_X10_57 : Cond.methodLink RX10 57 yX0_has ∈ gtb := gm 782 (by decide +kernel) rfl
theorem ml_X10_50 : Cond.methodLink RX10 50 yX10_joinLowest ∈ gtb := gm 783 (by decide +kernel) rfl
theorem ml_X10_63 : Cond.methodLink RX10 63 yJ9_min_7cf53 ∈ gtb := gm 787 (by decide +kernel) rfl
theorem ml_X10_69 : Cond.methodLink RX10 69 yJ9_max_7cf53 ∈ gtb := gm 788 (by decide +kernel) rfl
theorem ml_L_113 : Cond.methodLink RL 113 yX11_joined ∈ gtb := gm 789 (by decide +kernel) rfl
theorem ml_L_117 : Cond.methodLink RL 117 yX11_height ∈ gtb := gm 793 (by decide +kernel) rfl
theorem ml_X11_240 : Cond.methodLink RX11 240 yX10_heightOf ∈ gtb := gm 797 (by decide +kernel) rfl
theorem ml_L_121 : Cond.methodLink RL 121 yX11_cut ∈ gtb := gm 801 (by decide +kernel) rfl
theorem ml_X11_243 : Cond.methodLink RX11 243 yX10_partBelow ∈ gtb := gm 805 (by decide +kernel) rfl
theorem ml_X10_78 : Cond.methodLink RX10 78 yX6_renumber ∈ gtb := gm 809 (by decide +kernel) rfl
theorem ml_L_125 : Cond.methodLink RL 125 yX11_many ∈ gtb := gm 810 (by decide +kernel) rfl
theorem ml_X11_247 : Cond.methodLink RX11 247 yX5_allOf ∈ gtb := gm 814 (by decide +kernel) rfl
theorem ml_X11_251 : Cond.methodLink RX11 251 yX5_withHeaps ∈ gtb := gm 818 (by decide +kernel) rfl
theorem ml_X5_18 : Cond.methodLink RX5 18 yJ7_fill_d0a16 ∈ gtb := gm 822 (by decide +kernel) rfl
theorem ml_L_129 : Cond.methodLink RL 129 yX11_rank ∈ gtb := gm 823 (by decide +kernel) rfl
theorem ml_X11_255 : Cond.methodLink RX11 255 yX5_rankOf ∈ gtb := gm 827 (by decide +kernel) rfl
theorem ml_X5_34 : Cond.methodLink RX5 34 yJ9_max_7cf53 ∈ gtb := gm 831 (by decide +kernel) rfl
theorem ml_L_133 : Cond.methodLink RL 133 yX11_of ∈ gtb := gm 832 (by decide +kernel) rfl
theorem ml_X11_259 : Cond.methodLink RX11 259 yX5_unrank ∈ gtb := gm 836 (by decide +kernel) rfl
theorem ml_L_138 : Cond.methodLink RL 138 yX11_keep ∈ gtb := gm 840 (by decide +kernel) rfl
theorem ml_X11_263 : Cond.methodLink RX11 263 yX6_copyFrom ∈ gtb := gm 844 (by decide +kernel) rfl
theorem ml_L_142 : Cond.methodLink RL 142 yX11_differ ∈ gtb := gm 845 (by decide +kernel) rfl
theorem ml_X11_267 : Cond.methodLink RX11 267 yX11_keepFault ∈ gtb := gm 849 (by decide +kernel) rfl
theorem ml_X11_270 : Cond.methodLink RX11 270 yX6_pairsApart ∈ gtb := gm 853 (by decide +kernel) rfl
theorem ml_L_146 : Cond.methodLink RL 146 yX11_both ∈ gtb := gm 857 (by decide +kernel) rfl
theorem ml_X11_274 : Cond.methodLink RX11 274 yX6_meet ∈ gtb := gm 861 (by decide +kernel) rfl
theorem ml_L_150 : Cond.methodLink RL 150 yX11_tell ∈ gtb := gm 865 (by decide +kernel) rfl
theorem ml_L_154 : Cond.methodLink RL 154 yX11_check ∈ gtb := gm 869 (by decide +kernel) rfl
theorem ml_L_159 : Cond.methodLink RL 159 yX11_load ∈ gtb := gm 873 (by decide +kernel) rfl
theorem ml_L_163 : Cond.methodLink RL 163 yX11_undo ∈ gtb := gm 877 (by decide +kernel) rfl
theorem ml_X11_277 : Cond.methodLink RX11 277 yX1_bringBack ∈ gtb := gm 881 (by decide +kernel) rfl
theorem ml_L_167 : Cond.methodLink RL 167 yX11_fault ∈ gtb := gm 885 (by decide +kernel) rfl
theorem ck_L_10 : Cond.classLink RL 10 (clN 11) ∈ gtb := gm 889 (by decide +kernel) rfl
theorem nl_L_10 : NL RL 10 11 25 [vr 0, vr 0, vr 0, vr 0, vr 0, vr 0, vi 0, vi 0, vi 0, vi 0, vr 0, vi 0, vr 0, vr 0, vr 0, vr 0, vr 0, vr 0, vi 0, vi 0, vr 0, vr 0, vr 0, vr 0, vr 0] := ⟨RX12, TX12, tyX12, cl11, gm 889 (by decide +kernel) rfl, gm 890 (by decide +kernel) rfl, gm 65 (by decide +kernel) rfl, fun ad j hj => by
  rcases (show j = 0 ∨ j = 1 ∨ j = 2 ∨ j = 3 ∨ j = 4 ∨ j = 5 ∨ j = 6 ∨ j = 7 ∨ j = 8 ∨ j = 9 ∨ j = 10 ∨ j = 11 ∨ j = 12 ∨ j = 13 ∨ j = 14 ∨ j = 15 ∨ j = 16 ∨ j = 17 ∨ j = 18 ∨ j = 19 ∨ j = 20 ∨ j = 21 ∨ j = 22 ∨ j = 23 ∨ j = 24 by omega) with rfl | rfl | rfl | rfl | rfl | rfl | rfl | rfl | rfl | rfl | rfl | rfl | rfl | rfl | rfl | rfl | rfl | rfl | rfl | rfl | rfl | rfl | rfl | rfl | rfl <;> rfl, fun k v hk => by
  have hm := List.mem_of_getElem? hk
  simp only [List.mem_cons, List.not_mem_nil, or_false] at hm
  rcases hm with rfl | rfl | rfl | rfl | rfl | rfl | rfl | rfl | rfl | rfl | rfl | rfl | rfl | rfl | rfl | rfl | rfl | rfl | rfl | rfl | rfl | rfl | rfl | rfl | rfl <;> first | exact ⟨by decide, by decide⟩ | exact Or.inl (Nat.le_refl 0)⟩
theorem ml_L_12 : Cond.methodLink RL 12 yX12_init ∈ gtb := gm 891 (by decide +kernel) rfl
theorem ml_X12_1 : Cond.methodLink RX12 1 objectInit ∈ gtb := gm 894 (by decide +kernel) rfl
theorem ml_X12_73 : Cond.methodLink RX12 73 yX12_begin ∈ gtb := gm 895 (by decide +kernel) rfl
theorem ml_L_17 : Cond.methodLink RL 17 yX12_things ∈ gtb := gm 976 (by decide +kernel) rfl
theorem ml_X12_98 : Cond.methodLink RX12 98 yX12_no ∈ gtb := gm 980 (by decide +kernel) rfl
theorem ml_X12_102 : Cond.methodLink RX12 102 yX12_change ∈ gtb := gm 984 (by decide +kernel) rfl
theorem ml_X12_86 : Cond.methodLink RX12 86 yX12_copy ∈ gtb := gm 988 (by decide +kernel) rfl
theorem ml_L_22 : Cond.methodLink RL 22 yX12_way ∈ gtb := gm 992 (by decide +kernel) rfl
theorem ml_X12_105 : Cond.methodLink RX12 105 yX12_arePair ∈ gtb := gm 996 (by decide +kernel) rfl
theorem ml_X12_94 : Cond.methodLink RX12 94 yX12_isThing ∈ gtb := gm 1000 (by decide +kernel) rfl
theorem ml_X12_90 : Cond.methodLink RX12 90 yX12_n ∈ gtb := gm 1004 (by decide +kernel) rfl
theorem ml_X12_109 : Cond.methodLink RX12 109 yX12_setWay ∈ gtb := gm 1008 (by decide +kernel) rfl
theorem ml_L_27 : Cond.methodLink RL 27 yX12_sheet ∈ gtb := gm 1012 (by decide +kernel) rfl
theorem ml_L_34 : Cond.methodLink RL 34 yX12_entry ∈ gtb := gm 1016 (by decide +kernel) rfl
theorem ml_L_38 : Cond.methodLink RL 38 yX12_lay ∈ gtb := gm 1020 (by decide +kernel) rfl
theorem kk_X12_116 : Cond.constantLong RX12 116 (-1000) ∈ gtb := gm 1024 (by decide +kernel) rfl
theorem kk_X12_118 : Cond.constantLong RX12 118 (1000) ∈ gtb := gm 1025 (by decide +kernel) rfl
theorem ml_L_43 : Cond.methodLink RL 43 yX12_measure ∈ gtb := gm 1026 (by decide +kernel) rfl
theorem ml_X12_120 : Cond.methodLink RX12 120 yJ9_abs_0f7a4 ∈ gtb := gm 1030 (by decide +kernel) rfl
theorem ml_X12_125 : Cond.methodLink RX12 125 yJ9_max_7cf53 ∈ gtb := gm 1031 (by decide +kernel) rfl
theorem ml_L_48 : Cond.methodLink RL 48 yX12_quarrel ∈ gtb := gm 1032 (by decide +kernel) rfl
theorem ml_L_52 : Cond.methodLink RL 52 yX12_put ∈ gtb := gm 1036 (by decide +kernel) rfl
theorem ml_X12_133 : Cond.methodLink RX12 133 yX12_heaps ∈ gtb := gm 1040 (by decide +kernel) rfl
theorem ml_X12_144 : Cond.methodLink RX12 144 yX12_takeNow ∈ gtb := gm 1044 (by decide +kernel) rfl
theorem ml_X12_147 : Cond.methodLink RX12 147 yX12_number ∈ gtb := gm 1048 (by decide +kernel) rfl
theorem ml_X12_150 : Cond.methodLink RX12 150 yX12_become ∈ gtb := gm 1052 (by decide +kernel) rfl
theorem ml_L_56 : Cond.methodLink RL 56 yX12_count ∈ gtb := gm 1056 (by decide +kernel) rfl
theorem ml_L_60 : Cond.methodLink RL 60 yX12_heap ∈ gtb := gm 1060 (by decide +kernel) rfl
theorem ml_L_64 : Cond.methodLink RL 64 yX12_pair ∈ gtb := gm 1064 (by decide +kernel) rfl
theorem ml_L_69 : Cond.methodLink RL 69 yX12_cost ∈ gtb := gm 1068 (by decide +kernel) rfl
theorem ml_X12_157 : Cond.methodLink RX12 157 yX12_isGoal ∈ gtb := gm 1072 (by decide +kernel) rfl
theorem ml_X12_160 : Cond.methodLink RX12 160 yX12_useWays ∈ gtb := gm 1075 (by decide +kernel) rfl
theorem ml_X12_163 : Cond.methodLink RX12 163 yX12_costOf ∈ gtb := gm 1079 (by decide +kernel) rfl
theorem ml_X12_137 : Cond.methodLink RX12 137 yX12_middleOf ∈ gtb := gm 1083 (by decide +kernel) rfl
theorem ml_X12_129 : Cond.methodLink RX12 129 yX12_sumTo ∈ gtb := gm 1087 (by decide +kernel) rfl
theorem ml_X12_141 : Cond.methodLink RX12 141 yJ9_max_f86c9 ∈ gtb := gm 1091 (by decide +kernel) rfl
theorem ml_L_73 : Cond.methodLink RL 73 yX12_middle ∈ gtb := gm 1092 (by decide +kernel) rfl
theorem ml_L_78 : Cond.methodLink RL 78 yX12_best ∈ gtb := gm 1096 (by decide +kernel) rfl
theorem ml_X12_173 : Cond.methodLink RX12 173 yX12_search ∈ gtb := gm 1100 (by decide +kernel) rfl
theorem kk_X12_167 : Cond.constantLong RX12 167 (-1) ∈ gtb := gm 1104 (by decide +kernel) rfl
theorem ml_X12_169 : Cond.methodLink RX12 169 yX12_next ∈ gtb := gm 1105 (by decide +kernel) rfl
theorem ml_L_82 : Cond.methodLink RL 82 yX12_line ∈ gtb := gm 1109 (by decide +kernel) rfl
theorem ml_X12_177 : Cond.methodLink RX12 177 yJ6_bitCount_0f7a4 ∈ gtb := gm 1113 (by decide +kernel) rfl
theorem ml_X12_182 : Cond.methodLink RX12 182 yX12_isAhead ∈ gtb := gm 1114 (by decide +kernel) rfl
theorem ml_L_86 : Cond.methodLink RL 86 yX12_better ∈ gtb := gm 1118 (by decide +kernel) rfl
theorem ml_L_91 : Cond.methodLink RL 91 yX12_two ∈ gtb := gm 1122 (by decide +kernel) rfl
theorem ml_L_95 : Cond.methodLink RL 95 yX12_centres ∈ gtb := gm 1126 (by decide +kernel) rfl
theorem ml_X12_186 : Cond.methodLink RX12 186 yX12_nearest ∈ gtb := gm 1130 (by decide +kernel) rfl
theorem ml_L_99 : Cond.methodLink RL 99 yX12_third ∈ gtb := gm 1134 (by decide +kernel) rfl
theorem kk_X12_192 : Cond.constant RX12 192 (1103515245) ∈ gtb := gm 1138 (by decide +kernel) rfl
theorem ml_X12_193 : Cond.methodLink RX12 193 yX12_gather ∈ gtb := gm 1139 (by decide +kernel) rfl
theorem ml_X12_189 : Cond.methodLink RX12 189 yX12_like ∈ gtb := gm 1143 (by decide +kernel) rfl
theorem ml_L_104 : Cond.methodLink RL 104 yX12_thirds ∈ gtb := gm 1147 (by decide +kernel) rfl
theorem ml_X12_197 : Cond.methodLink RX12 197 yX12_orders ∈ gtb := gm 1151 (by decide +kernel) rfl
theorem ml_L_108 : Cond.methodLink RL 108 yX12_rounds ∈ gtb := gm 1155 (by decide +kernel) rfl
theorem ml_L_112 : Cond.methodLink RL 112 yX12_tree ∈ gtb := gm 1159 (by decide +kernel) rfl
theorem ml_X12_204 : Cond.methodLink RX12 204 yX12_heightOf ∈ gtb := gm 1163 (by decide +kernel) rfl
theorem ml_X12_201 : Cond.methodLink RX12 201 yJ9_min_7cf53 ∈ gtb := gm 1167 (by decide +kernel) rfl
theorem ml_L_116 : Cond.methodLink RL 116 yX12_joined ∈ gtb := gm 1168 (by decide +kernel) rfl
theorem ml_L_120 : Cond.methodLink RL 120 yX12_height ∈ gtb := gm 1172 (by decide +kernel) rfl
theorem ml_X12_208 : Cond.methodLink RX12 208 yX12_join ∈ gtb := gm 1176 (by decide +kernel) rfl
theorem ml_L_124 : Cond.methodLink RL 124 yX12_cut ∈ gtb := gm 1180 (by decide +kernel) rfl
theorem ml_L_128 : Cond.methodLink RL 128 yX12_many ∈ gtb := gm 1184 (by decide +kernel) rfl
theorem ml_X12_211 : Cond.methodLink RX12 211 yX12_stirling ∈ gtb := gm 1188 (by decide +kernel) rfl
theorem ml_L_132 : Cond.methodLink RL 132 yX12_rank ∈ gtb := gm 1191 (by decide +kernel) rfl
theorem ml_X12_215 : Cond.methodLink RX12 215 yX12_waysOn ∈ gtb := gm 1195 (by decide +kernel) rfl
theorem ml_L_137 : Cond.methodLink RL 137 yX12_of ∈ gtb := gm 1198 (by decide +kernel) rfl
theorem ml_L_141 : Cond.methodLink RL 141 yX12_keep ∈ gtb := gm 1202 (by decide +kernel) rfl
theorem ml_L_145 : Cond.methodLink RL 145 yX12_differ ∈ gtb := gm 1206 (by decide +kernel) rfl
theorem ml_X12_218 : Cond.methodLink RX12 218 yX12_keepWhy ∈ gtb := gm 1210 (by decide +kernel) rfl
theorem ml_L_149 : Cond.methodLink RL 149 yX12_both ∈ gtb := gm 1214 (by decide +kernel) rfl
theorem ml_L_153 : Cond.methodLink RL 153 yX12_tell ∈ gtb := gm 1218 (by decide +kernel) rfl
theorem ml_L_158 : Cond.methodLink RL 158 yX12_check ∈ gtb := gm 1222 (by decide +kernel) rfl
theorem ml_X12_221 : Cond.methodLink RX12 221 yX12_takeList ∈ gtb := gm 1226 (by decide +kernel) rfl
theorem ml_L_162 : Cond.methodLink RL 162 yX12_load ∈ gtb := gm 1230 (by decide +kernel) rfl
theorem ml_L_166 : Cond.methodLink RL 166 yX12_undo ∈ gtb := gm 1234 (by decide +kernel) rfl
theorem ml_L_170 : Cond.methodLink RL 170 yX12_fault ∈ gtb := gm 1238 (by decide +kernel) rfl
theorem kk_L_28 : Cond.constantLong RL 28 (4294967295) ∈ gtb := gm 1242 (by decide +kernel) rfl
theorem ak_int : Cond.arrayClass .int ∈ gtb := gm 120 (by decide +kernel) rfl
theorem ak_long : Cond.arrayClass .long ∈ gtb := gm 192 (by decide +kernel) rfl
theorem ak_boolean : Cond.arrayClass .boolean ∈ gtb := gm 975 (by decide +kernel) rfl
theorem oi_1 : Cond.instanceMethod objectInit ∈ gtb := gm 76 (by decide +kernel) rfl
theorem oi_2 : Cond.code objectInit ⟨#[0xb1]⟩ 1 none ∈ gtb := gm 77 (by decide +kernel) rfl
theorem sy_1 : Cond.native arraycopyName ∈ gtb := gm 393 (by decide +kernel) rfl
theorem sy_2 : Cond.static arraycopyName ∈ gtb := gm 392 (by decide +kernel) rfl
theorem sy_3 : Cond.initialized "java/lang/System" ∈ gtb := gm 66 (by decide +kernel) rfl
