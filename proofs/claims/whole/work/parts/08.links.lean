theorem sh_0 : shp 0 = (6, 0) := by decide +kernel
theorem sh_1 : shp 1 = (13, 6) := by decide +kernel
theorem sh_2 : shp 2 = (13, 4) := by decide +kernel
theorem sh_3 : shp 3 = (14, 6) := by decide +kernel
theorem sh_4 : shp 4 = (15, 4) := by decide +kernel
theorem sh_5 : shp 5 = (0, 0) := by decide +kernel
theorem sh_6 : shp 6 = (10, 6) := by decide +kernel
theorem sh_7 : shp 7 = (5, 0) := by decide +kernel
theorem sh_8 : shp 8 = (10, 60) := by decide +kernel
theorem sh_9 : shp 9 = (3, 0) := by decide +kernel
theorem sh_10 : shp 10 = (10, 40) := by decide +kernel
theorem sh_11 : shp 11 = (10, 64) := by decide +kernel
theorem sh_12 : shp 12 = (10, 64) := by decide +kernel
theorem sh_13 : shp 13 = (10, 40) := by decide +kernel
theorem sh_14 : shp 14 = (4, 0) := by decide +kernel
theorem sh_15 : shp 15 = (10, 40) := by decide +kernel
theorem sh_16 : shp 16 = (2, 0) := by decide +kernel
theorem sh_17 : shp 17 = (10, 6) := by decide +kernel
theorem sh_18 : shp 18 = (5, 0) := by decide +kernel
theorem sh_19 : shp 19 = (10, 60) := by decide +kernel
theorem sh_20 : shp 20 = (5, 0) := by decide +kernel
theorem sh_21 : shp 21 = (10, 60) := by decide +kernel
theorem sh_22 : shp 22 = (5, 0) := by decide +kernel
theorem sh_23 : shp 23 = (10, 60) := by decide +kernel
theorem sh_24 : shp 24 = (5, 0) := by decide +kernel
theorem sh_25 : shp 25 = (10, 60) := by decide +kernel
theorem sh_26 : shp 26 = (5, 0) := by decide +kernel
theorem sh_27 : shp 27 = (10, 60) := by decide +kernel
theorem sh_28 : shp 28 = (5, 0) := by decide +kernel
theorem sh_29 : shp 29 = (10, 60) := by decide +kernel
theorem sh_30 : shp 30 = (5, 0) := by decide +kernel
theorem sh_31 : shp 31 = (10, 60) := by decide +kernel
theorem sh_32 : shp 32 = (5, 0) := by decide +kernel
theorem sh_33 : shp 33 = (10, 60) := by decide +kernel
theorem sh_34 : shp 34 = (5, 0) := by decide +kernel
theorem sh_35 : shp 35 = (10, 60) := by decide +kernel
theorem sh_36 : shp 36 = (5, 0) := by decide +kernel
theorem sh_37 : shp 37 = (10, 60) := by decide +kernel
theorem sh_38 : shp 38 = (1, 0) := by decide +kernel
theorem sh_39 : shp 39 = (10, 40) := by decide +kernel
theorem sh_40 : shp 40 = (10, 40) := by decide +kernel
theorem sh_41 : shp 41 = (1, 0) := by decide +kernel
theorem sh_42 : shp 42 = (10, 40) := by decide +kernel
theorem sh_43 : shp 43 = (10, 40) := by decide +kernel
theorem sh_44 : shp 44 = (1, 0) := by decide +kernel
theorem sh_45 : shp 45 = (10, 40) := by decide +kernel
theorem sh_46 : shp 46 = (10, 40) := by decide +kernel
theorem sh_47 : shp 47 = (1, 0) := by decide +kernel
theorem sh_48 : shp 48 = (10, 40) := by decide +kernel
theorem sh_49 : shp 49 = (10, 40) := by decide +kernel
theorem sh_50 : shp 50 = (1, 0) := by decide +kernel
theorem sh_51 : shp 51 = (10, 40) := by decide +kernel
theorem sh_52 : shp 52 = (10, 40) := by decide +kernel
theorem sh_53 : shp 53 = (1, 0) := by decide +kernel
theorem sh_54 : shp 54 = (10, 40) := by decide +kernel
theorem sh_55 : shp 55 = (10, 40) := by decide +kernel
theorem sh_56 : shp 56 = (0, 0) := by decide +kernel
theorem sh_57 : shp 57 = (10, 6) := by decide +kernel
theorem sh_58 : shp 58 = (0, 0) := by decide +kernel
theorem sh_59 : shp 59 = (10, 6) := by decide +kernel
theorem sh_60 : shp 60 = (0, 0) := by decide +kernel
theorem sh_61 : shp 61 = (10, 6) := by decide +kernel
theorem sh_62 : shp 62 = (0, 0) := by decide +kernel
theorem sh_63 : shp 63 = (10, 6) := by decide +kernel
theorem sh_64 : shp 64 = (7, 0) := by decide +kernel
theorem sh_65 : shp 65 = (10, 6) := by decide +kernel
theorem sh_66 : shp 66 = (10, 6) := by decide +kernel
theorem sh_67 : shp 67 = (10, 240) := by decide +kernel
theorem sh_68 : shp 68 = (10, 40) := by decide +kernel
theorem sh_69 : shp 69 = (10, 4) := by decide +kernel
theorem sh_70 : shp 70 = (10, 240) := by decide +kernel
theorem sh_71 : shp 71 = (10, 6) := by decide +kernel
theorem sh_72 : shp 72 = (10, 6) := by decide +kernel
theorem sh_73 : shp 73 = (10, 240) := by decide +kernel
theorem sh_74 : shp 74 = (10, 240) := by decide +kernel
theorem sh_75 : shp 75 = (10, 6) := by decide +kernel
theorem sh_76 : shp 76 = (10, 6) := by decide +kernel
theorem sh_77 : shp 77 = (10, 40) := by decide +kernel
theorem sh_78 : shp 78 = (10, 4) := by decide +kernel
theorem sh_79 : shp 79 = (10, 4) := by decide +kernel
theorem sh_80 : shp 80 = (10, 24) := by decide +kernel
theorem sh_81 : shp 81 = (10, 6) := by decide +kernel
theorem sh_82 : shp 82 = (11, 40) := by decide +kernel
theorem sh_83 : shp 83 = (10, 64) := by decide +kernel
theorem sh_84 : shp 84 = (10, 40) := by decide +kernel
theorem sh_85 : shp 85 = (12, 10201) := by decide +kernel
theorem sh_86 : shp 86 = (10, 8) := by decide +kernel
theorem rf_0_0 : rf 0 0 = 1 := by decide +kernel
theorem rf_0_1 : rf 0 1 = 2 := by decide +kernel
theorem rf_0_2 : rf 0 2 = 3 := by decide +kernel
theorem rf_0_3 : rf 0 3 = 4 := by decide +kernel
theorem rf_0_4 : rf 0 4 = 5 := by decide +kernel
theorem rf_0_5 : rf 0 5 = 7 := by decide +kernel
theorem rf_0_6 : rf 0 6 = 9 := by decide +kernel
theorem rf_0_7 : rf 0 7 = 14 := by decide +kernel
theorem rf_0_8 : rf 0 8 = 16 := by decide +kernel
theorem rf_0_11 : rf 0 11 = 17 := by decide +kernel
theorem rf_5_0 : rf 5 0 = 6 := by decide +kernel
theorem rf_7_0 : rf 7 0 = 8 := by decide +kernel
theorem rf_9_0 : rf 9 0 = 10 := by decide +kernel
theorem rf_9_1 : rf 9 1 = 11 := by decide +kernel
theorem rf_9_2 : rf 9 2 = 12 := by decide +kernel
theorem rf_9_3 : rf 9 3 = 13 := by decide +kernel
theorem rf_14_0 : rf 14 0 = 15 := by decide +kernel
theorem rf_18_0 : rf 18 0 = 19 := by decide +kernel
theorem rf_20_0 : rf 20 0 = 21 := by decide +kernel
theorem rf_22_0 : rf 22 0 = 23 := by decide +kernel
theorem rf_24_0 : rf 24 0 = 25 := by decide +kernel
theorem rf_26_0 : rf 26 0 = 27 := by decide +kernel
theorem rf_28_0 : rf 28 0 = 29 := by decide +kernel
theorem rf_30_0 : rf 30 0 = 31 := by decide +kernel
theorem rf_32_0 : rf 32 0 = 33 := by decide +kernel
theorem rf_34_0 : rf 34 0 = 35 := by decide +kernel
theorem rf_36_0 : rf 36 0 = 37 := by decide +kernel
theorem rf_38_0 : rf 38 0 = 39 := by decide +kernel
theorem rf_38_1 : rf 38 1 = 40 := by decide +kernel
theorem rf_41_0 : rf 41 0 = 42 := by decide +kernel
theorem rf_41_1 : rf 41 1 = 43 := by decide +kernel
theorem rf_44_0 : rf 44 0 = 45 := by decide +kernel
theorem rf_44_1 : rf 44 1 = 46 := by decide +kernel
theorem rf_47_0 : rf 47 0 = 48 := by decide +kernel
theorem rf_47_1 : rf 47 1 = 49 := by decide +kernel
theorem rf_50_0 : rf 50 0 = 51 := by decide +kernel
theorem rf_50_1 : rf 50 1 = 52 := by decide +kernel
theorem rf_53_0 : rf 53 0 = 54 := by decide +kernel
theorem rf_53_1 : rf 53 1 = 55 := by decide +kernel
theorem rf_56_0 : rf 56 0 = 57 := by decide +kernel
theorem rf_58_0 : rf 58 0 = 59 := by decide +kernel
theorem rf_60_0 : rf 60 0 = 61 := by decide +kernel
theorem rf_62_0 : rf 62 0 = 63 := by decide +kernel
theorem rf_64_1 : rf 64 1 = 65 := by decide +kernel
theorem rf_64_5 : rf 64 5 = 66 := by decide +kernel
theorem rf_64_6 : rf 64 6 = 67 := by decide +kernel
theorem rf_64_7 : rf 64 7 = 68 := by decide +kernel
theorem rf_64_8 : rf 64 8 = 69 := by decide +kernel
theorem rf_64_9 : rf 64 9 = 70 := by decide +kernel
theorem rf_64_10 : rf 64 10 = 71 := by decide +kernel
theorem rf_64_11 : rf 64 11 = 72 := by decide +kernel
theorem rf_64_12 : rf 64 12 = 73 := by decide +kernel
theorem rf_64_13 : rf 64 13 = 74 := by decide +kernel
theorem rf_64_14 : rf 64 14 = 75 := by decide +kernel
theorem rf_64_15 : rf 64 15 = 76 := by decide +kernel
theorem rf_64_17 : rf 64 17 = 77 := by decide +kernel
theorem rf_64_18 : rf 64 18 = 78 := by decide +kernel
theorem rf_64_19 : rf 64 19 = 79 := by decide +kernel
theorem rf_64_20 : rf 64 20 = 80 := by decide +kernel
theorem rf_64_23 : rf 64 23 = 81 := by decide +kernel
theorem rf_64_24 : rf 64 24 = 82 := by decide +kernel
theorem rf_64_27 : rf 64 27 = 83 := by decide +kernel
theorem rf_64_28 : rf 64 28 = 84 := by decide +kernel
theorem rf_64_29 : rf 64 29 = 85 := by decide +kernel
theorem rf_64_30 : rf 64 30 = 86 := by decide +kernel
theorem uw_X0 : ∀ w ∈ u_ws RX0 TX0 3, w ∈ TB := by
  intro w hw
  obtain ⟨k, hk, rfl⟩ := List.mem_map.mp hw
  have hk := List.mem_range.mp hk
  match k, hk with
  | 0, _ => exact TB_mem 95 (by decide +kernel) (by decide +kernel)
  | 1, _ => exact TB_mem 97 (by decide +kernel) (by decide +kernel)
  | 2, _ => exact TB_mem 99 (by decide +kernel) (by decide +kernel)
  | k + 3, hk => omega
theorem uw_X1 : ∀ w ∈ u_ws RX1 TX1 6, w ∈ TB := by
  intro w hw
  obtain ⟨k, hk, rfl⟩ := List.mem_map.mp hw
  have hk := List.mem_range.mp hk
  match k, hk with
  | 0, _ => exact TB_mem 187 (by decide +kernel) (by decide +kernel)
  | 1, _ => exact TB_mem 189 (by decide +kernel) (by decide +kernel)
  | 2, _ => exact TB_mem 191 (by decide +kernel) (by decide +kernel)
  | 3, _ => exact TB_mem 193 (by decide +kernel) (by decide +kernel)
  | 4, _ => exact TB_mem 195 (by decide +kernel) (by decide +kernel)
  | 5, _ => exact TB_mem 197 (by decide +kernel) (by decide +kernel)
  | k + 6, hk => omega
theorem uw_X2 : ∀ w ∈ u_ws RX2 TX2 2, w ∈ TB := by
  intro w hw
  obtain ⟨k, hk, rfl⟩ := List.mem_map.mp hw
  have hk := List.mem_range.mp hk
  match k, hk with
  | 0, _ => exact TB_mem 166 (by decide +kernel) (by decide +kernel)
  | 1, _ => exact TB_mem 168 (by decide +kernel) (by decide +kernel)
  | k + 2, hk => omega
theorem uw_X3 : ∀ w ∈ u_ws RX3 TX3 5, w ∈ TB := by
  intro w hw
  obtain ⟨k, hk, rfl⟩ := List.mem_map.mp hw
  have hk := List.mem_range.mp hk
  match k, hk with
  | 0, _ => exact TB_mem 132 (by decide +kernel) (by decide +kernel)
  | 1, _ => exact TB_mem 134 (by decide +kernel) (by decide +kernel)
  | 2, _ => exact TB_mem 136 (by decide +kernel) (by decide +kernel)
  | 3, _ => exact TB_mem 138 (by decide +kernel) (by decide +kernel)
  | 4, _ => exact TB_mem 140 (by decide +kernel) (by decide +kernel)
  | k + 5, hk => omega
theorem uw_X4 : ∀ w ∈ u_ws RX4 TX4 2, w ∈ TB := by
  intro w hw
  obtain ⟨k, hk, rfl⟩ := List.mem_map.mp hw
  have hk := List.mem_range.mp hk
  match k, hk with
  | 0, _ => exact TB_mem 151 (by decide +kernel) (by decide +kernel)
  | 1, _ => exact TB_mem 153 (by decide +kernel) (by decide +kernel)
  | k + 2, hk => omega
theorem uw_X5 : ∀ w ∈ u_ws RX5 TX5 2, w ∈ TB := by
  intro w hw
  obtain ⟨k, hk, rfl⟩ := List.mem_map.mp hw
  have hk := List.mem_range.mp hk
  match k, hk with
  | 0, _ => exact TB_mem 116 (by decide +kernel) (by decide +kernel)
  | 1, _ => exact TB_mem 118 (by decide +kernel) (by decide +kernel)
  | k + 2, hk => omega
theorem uw_X6 : ∀ w ∈ u_ws RX6 TX6 12, w ∈ TB := by
  intro w hw
  obtain ⟨k, hk, rfl⟩ := List.mem_map.mp hw
  have hk := List.mem_range.mp hk
  match k, hk with
  | 0, _ => exact TB_mem 212 (by decide +kernel) (by decide +kernel)
  | 1, _ => exact TB_mem 214 (by decide +kernel) (by decide +kernel)
  | 2, _ => exact TB_mem 216 (by decide +kernel) (by decide +kernel)
  | 3, _ => exact TB_mem 218 (by decide +kernel) (by decide +kernel)
  | 4, _ => exact TB_mem 220 (by decide +kernel) (by decide +kernel)
  | 5, _ => exact TB_mem 222 (by decide +kernel) (by decide +kernel)
  | 6, _ => exact TB_mem 224 (by decide +kernel) (by decide +kernel)
  | 7, _ => exact TB_mem 226 (by decide +kernel) (by decide +kernel)
  | 8, _ => exact TB_mem 228 (by decide +kernel) (by decide +kernel)
  | 9, _ => exact TB_mem 230 (by decide +kernel) (by decide +kernel)
  | 10, _ => exact TB_mem 232 (by decide +kernel) (by decide +kernel)
  | 11, _ => exact TB_mem 234 (by decide +kernel) (by decide +kernel)
  | k + 12, hk => omega
theorem uw_X7 : ∀ w ∈ u_ws RX7 TX7 32, w ∈ TB := by
  intro w hw
  obtain ⟨k, hk, rfl⟩ := List.mem_map.mp hw
  have hk := List.mem_range.mp hk
  match k, hk with
  | 0, _ => exact TB_mem 946 (by decide +kernel) (by decide +kernel)
  | 1, _ => exact TB_mem 948 (by decide +kernel) (by decide +kernel)
  | 2, _ => exact TB_mem 950 (by decide +kernel) (by decide +kernel)
  | 3, _ => exact TB_mem 952 (by decide +kernel) (by decide +kernel)
  | 4, _ => exact TB_mem 954 (by decide +kernel) (by decide +kernel)
  | 5, _ => exact TB_mem 956 (by decide +kernel) (by decide +kernel)
  | 6, _ => exact TB_mem 958 (by decide +kernel) (by decide +kernel)
  | 7, _ => exact TB_mem 960 (by decide +kernel) (by decide +kernel)
  | 8, _ => exact TB_mem 962 (by decide +kernel) (by decide +kernel)
  | 9, _ => exact TB_mem 964 (by decide +kernel) (by decide +kernel)
  | 10, _ => exact TB_mem 966 (by decide +kernel) (by decide +kernel)
  | 11, _ => exact TB_mem 968 (by decide +kernel) (by decide +kernel)
  | 12, _ => exact TB_mem 970 (by decide +kernel) (by decide +kernel)
  | 13, _ => exact TB_mem 972 (by decide +kernel) (by decide +kernel)
  | 14, _ => exact TB_mem 974 (by decide +kernel) (by decide +kernel)
  | 15, _ => exact TB_mem 976 (by decide +kernel) (by decide +kernel)
  | 16, _ => exact TB_mem 978 (by decide +kernel) (by decide +kernel)
  | 17, _ => exact TB_mem 980 (by decide +kernel) (by decide +kernel)
  | 18, _ => exact TB_mem 982 (by decide +kernel) (by decide +kernel)
  | 19, _ => exact TB_mem 984 (by decide +kernel) (by decide +kernel)
  | 20, _ => exact TB_mem 986 (by decide +kernel) (by decide +kernel)
  | 21, _ => exact TB_mem 988 (by decide +kernel) (by decide +kernel)
  | 22, _ => exact TB_mem 990 (by decide +kernel) (by decide +kernel)
  | 23, _ => exact TB_mem 992 (by decide +kernel) (by decide +kernel)
  | 24, _ => exact TB_mem 994 (by decide +kernel) (by decide +kernel)
  | 25, _ => exact TB_mem 996 (by decide +kernel) (by decide +kernel)
  | 26, _ => exact TB_mem 998 (by decide +kernel) (by decide +kernel)
  | 27, _ => exact TB_mem 1000 (by decide +kernel) (by decide +kernel)
  | 28, _ => exact TB_mem 1002 (by decide +kernel) (by decide +kernel)
  | 29, _ => exact TB_mem 1004 (by decide +kernel) (by decide +kernel)
  | 30, _ => exact TB_mem 1006 (by decide +kernel) (by decide +kernel)
  | 31, _ => exact TB_mem 1008 (by decide +kernel) (by decide +kernel)
  | k + 32, hk => omega
theorem acL : Cond.arrayClass .long ∈ TB := TB_mem 736 (by decide +kernel) (by decide +kernel)
theorem fl_X0_15 : Fl RX0 15 0 1 := ⟨RX0, TX0, 3, rfl, by decide, uw_X0, rfl, Or.inl (TB_mem 90 (by decide +kernel) (by decide +kernel))⟩
theorem fl_X0_19 : Fl RX0 19 0 2 := ⟨RX0, TX0, 3, rfl, by decide, uw_X0, rfl, Or.inl (TB_mem 93 (by decide +kernel) (by decide +kernel))⟩
theorem fl_X0_26 : Fl RX0 26 1 3 := ⟨RX1, TX1, 6, rfl, by decide, uw_X1, rfl, Or.inr ⟨"HiddenWords", NB_mem 125 (by decide +kernel) (by decide +kernel)⟩⟩
theorem fl_X0_57 : Fl RX0 57 5 1 := ⟨RX5, TX5, 2, rfl, by decide, uw_X5, rfl, Or.inr ⟨"HiddenWords", NB_mem 58 (by decide +kernel) (by decide +kernel)⟩⟩
theorem fl_X0_9 : Fl RX0 9 0 0 := ⟨RX0, TX0, 3, rfl, by decide, uw_X0, rfl, Or.inl (TB_mem 89 (by decide +kernel) (by decide +kernel))⟩
theorem fl_X1_15 : Fl RX1 15 1 1 := ⟨RX1, TX1, 6, rfl, by decide, uw_X1, rfl, Or.inl (TB_mem 177 (by decide +kernel) (by decide +kernel))⟩
theorem fl_X1_18 : Fl RX1 18 1 2 := ⟨RX1, TX1, 6, rfl, by decide, uw_X1, rfl, Or.inl (TB_mem 178 (by decide +kernel) (by decide +kernel))⟩
theorem fl_X1_22 : Fl RX1 22 1 3 := ⟨RX1, TX1, 6, rfl, by decide, uw_X1, rfl, Or.inl (TB_mem 180 (by decide +kernel) (by decide +kernel))⟩
theorem fl_X1_25 : Fl RX1 25 1 4 := ⟨RX1, TX1, 6, rfl, by decide, uw_X1, rfl, Or.inl (TB_mem 184 (by decide +kernel) (by decide +kernel))⟩
theorem fl_X1_28 : Fl RX1 28 1 5 := ⟨RX1, TX1, 6, rfl, by decide, uw_X1, rfl, Or.inl (TB_mem 185 (by decide +kernel) (by decide +kernel))⟩
theorem fl_X1_31 : Fl RX1 31 5 0 := ⟨RX5, TX5, 2, rfl, by decide, uw_X5, rfl, Or.inr ⟨"HiddenWords", NB_mem 52 (by decide +kernel) (by decide +kernel)⟩⟩
theorem fl_X1_42 : Fl RX1 42 5 1 := ⟨RX5, TX5, 2, rfl, by decide, uw_X5, rfl, Or.inr ⟨"HiddenWords", NB_mem 56 (by decide +kernel) (by decide +kernel)⟩⟩
theorem fl_X1_9 : Fl RX1 9 1 0 := ⟨RX1, TX1, 6, rfl, by decide, uw_X1, rfl, Or.inl (TB_mem 176 (by decide +kernel) (by decide +kernel))⟩
theorem fl_X2_13 : Fl RX2 13 2 1 := ⟨RX2, TX2, 2, rfl, by decide, uw_X2, rfl, Or.inl (TB_mem 164 (by decide +kernel) (by decide +kernel))⟩
theorem fl_X2_7 : Fl RX2 7 2 0 := ⟨RX2, TX2, 2, rfl, by decide, uw_X2, rfl, Or.inl (TB_mem 162 (by decide +kernel) (by decide +kernel))⟩
theorem fl_X3_15 : Fl RX3 15 3 1 := ⟨RX3, TX3, 5, rfl, by decide, uw_X3, rfl, Or.inl (TB_mem 128 (by decide +kernel) (by decide +kernel))⟩
theorem fl_X3_18 : Fl RX3 18 3 2 := ⟨RX3, TX3, 5, rfl, by decide, uw_X3, rfl, Or.inl (TB_mem 129 (by decide +kernel) (by decide +kernel))⟩
theorem fl_X3_21 : Fl RX3 21 3 3 := ⟨RX3, TX3, 5, rfl, by decide, uw_X3, rfl, Or.inl (TB_mem 130 (by decide +kernel) (by decide +kernel))⟩
theorem fl_X3_24 : Fl RX3 24 3 4 := ⟨RX3, TX3, 5, rfl, by decide, uw_X3, rfl, Or.inl (TB_mem 131 (by decide +kernel) (by decide +kernel))⟩
theorem fl_X3_41 : Fl RX3 41 0 2 := ⟨RX0, TX0, 3, rfl, by decide, uw_X0, rfl, Or.inr ⟨"HiddenWords", NB_mem 37 (by decide +kernel) (by decide +kernel)⟩⟩
theorem fl_X3_57 : Fl RX3 57 0 1 := ⟨RX0, TX0, 3, rfl, by decide, uw_X0, rfl, Or.inr ⟨"HiddenWords", NB_mem 34 (by decide +kernel) (by decide +kernel)⟩⟩
theorem fl_X3_60 : Fl RX3 60 5 1 := ⟨RX5, TX5, 2, rfl, by decide, uw_X5, rfl, Or.inr ⟨"HiddenWords", NB_mem 55 (by decide +kernel) (by decide +kernel)⟩⟩
theorem fl_X3_9 : Fl RX3 9 3 0 := ⟨RX3, TX3, 5, rfl, by decide, uw_X3, rfl, Or.inl (TB_mem 127 (by decide +kernel) (by decide +kernel))⟩
theorem fl_X4_15 : Fl RX4 15 4 1 := ⟨RX4, TX4, 2, rfl, by decide, uw_X4, rfl, Or.inl (TB_mem 150 (by decide +kernel) (by decide +kernel))⟩
theorem fl_X4_26 : Fl RX4 26 1 3 := ⟨RX1, TX1, 6, rfl, by decide, uw_X1, rfl, Or.inr ⟨"HiddenWords", NB_mem 124 (by decide +kernel) (by decide +kernel)⟩⟩
theorem fl_X4_9 : Fl RX4 9 4 0 := ⟨RX4, TX4, 2, rfl, by decide, uw_X4, rfl, Or.inl (TB_mem 149 (by decide +kernel) (by decide +kernel))⟩
theorem fl_X5_15 : Fl RX5 15 5 1 := ⟨RX5, TX5, 2, rfl, by decide, uw_X5, rfl, Or.inl (TB_mem 111 (by decide +kernel) (by decide +kernel))⟩
theorem fl_X5_9 : Fl RX5 9 5 0 := ⟨RX5, TX5, 2, rfl, by decide, uw_X5, rfl, Or.inl (TB_mem 108 (by decide +kernel) (by decide +kernel))⟩
theorem fl_X6_105 : Fl RX6 105 5 0 := ⟨RX5, TX5, 2, rfl, by decide, uw_X5, rfl, Or.inr ⟨"HiddenWords", NB_mem 53 (by decide +kernel) (by decide +kernel)⟩⟩
theorem fl_X6_11 : Fl RX6 11 6 0 := ⟨RX6, TX6, 12, rfl, by decide, uw_X6, rfl, Or.inl (TB_mem 200 (by decide +kernel) (by decide +kernel))⟩
theorem fl_X6_114 : Fl RX6 114 5 1 := ⟨RX5, TX5, 2, rfl, by decide, uw_X5, rfl, Or.inr ⟨"HiddenWords", NB_mem 57 (by decide +kernel) (by decide +kernel)⟩⟩
theorem fl_X6_15 : Fl RX6 15 6 1 := ⟨RX6, TX6, 12, rfl, by decide, uw_X6, rfl, Or.inl (TB_mem 201 (by decide +kernel) (by decide +kernel))⟩
theorem fl_X6_151 : Fl RX6 151 1 3 := ⟨RX1, TX1, 6, rfl, by decide, uw_X1, rfl, Or.inr ⟨"HiddenWords", NB_mem 126 (by decide +kernel) (by decide +kernel)⟩⟩
theorem fl_X6_160 : Fl RX6 160 1 2 := ⟨RX1, TX1, 6, rfl, by decide, uw_X1, rfl, Or.inr ⟨"HiddenWords", NB_mem 122 (by decide +kernel) (by decide +kernel)⟩⟩
theorem fl_X6_195 : Fl RX6 195 0 1 := ⟨RX0, TX0, 3, rfl, by decide, uw_X0, rfl, Or.inr ⟨"HiddenWords", NB_mem 35 (by decide +kernel) (by decide +kernel)⟩⟩
theorem fl_X6_20 : Fl RX6 20 6 2 := ⟨RX6, TX6, 12, rfl, by decide, uw_X6, rfl, Or.inl (TB_mem 202 (by decide +kernel) (by decide +kernel))⟩
theorem fl_X6_26 : Fl RX6 26 6 3 := ⟨RX6, TX6, 12, rfl, by decide, uw_X6, rfl, Or.inl (TB_mem 203 (by decide +kernel) (by decide +kernel))⟩
theorem fl_X6_31 : Fl RX6 31 6 4 := ⟨RX6, TX6, 12, rfl, by decide, uw_X6, rfl, Or.inl (TB_mem 204 (by decide +kernel) (by decide +kernel))⟩
theorem fl_X6_339 : Fl RX6 339 2 0 := ⟨RX2, TX2, 2, rfl, by decide, uw_X2, rfl, Or.inr ⟨"HiddenWords", NB_mem 106 (by decide +kernel) (by decide +kernel)⟩⟩
theorem fl_X6_343 : Fl RX6 343 2 1 := ⟨RX2, TX2, 2, rfl, by decide, uw_X2, rfl, Or.inr ⟨"HiddenWords", NB_mem 108 (by decide +kernel) (by decide +kernel)⟩⟩
theorem fl_X6_36 : Fl RX6 36 6 5 := ⟨RX6, TX6, 12, rfl, by decide, uw_X6, rfl, Or.inl (TB_mem 205 (by decide +kernel) (by decide +kernel))⟩
theorem fl_X6_43 : Fl RX6 43 6 6 := ⟨RX6, TX6, 12, rfl, by decide, uw_X6, rfl, Or.inl (TB_mem 206 (by decide +kernel) (by decide +kernel))⟩
theorem fl_X6_50 : Fl RX6 50 6 7 := ⟨RX6, TX6, 12, rfl, by decide, uw_X6, rfl, Or.inl (TB_mem 207 (by decide +kernel) (by decide +kernel))⟩
theorem fl_X6_57 : Fl RX6 57 6 8 := ⟨RX6, TX6, 12, rfl, by decide, uw_X6, rfl, Or.inl (TB_mem 208 (by decide +kernel) (by decide +kernel))⟩
theorem fl_X6_61 : Fl RX6 61 6 9 := ⟨RX6, TX6, 12, rfl, by decide, uw_X6, rfl, Or.inl (TB_mem 209 (by decide +kernel) (by decide +kernel))⟩
theorem fl_X6_65 : Fl RX6 65 6 10 := ⟨RX6, TX6, 12, rfl, by decide, uw_X6, rfl, Or.inl (TB_mem 210 (by decide +kernel) (by decide +kernel))⟩
theorem fl_X6_68 : Fl RX6 68 6 11 := ⟨RX6, TX6, 12, rfl, by decide, uw_X6, rfl, Or.inl (TB_mem 211 (by decide +kernel) (by decide +kernel))⟩
theorem fl_X7_13 : Fl RX7 13 7 4 := ⟨RX7, TX7, 32, rfl, by decide, uw_X7, rfl, Or.inl (TB_mem 918 (by decide +kernel) (by decide +kernel))⟩
theorem fl_X7_165 : Fl RX7 165 7 16 := ⟨RX7, TX7, 32, rfl, by decide, uw_X7, rfl, Or.inl (TB_mem 930 (by decide +kernel) (by decide +kernel))⟩
theorem fl_X7_17 : Fl RX7 17 7 5 := ⟨RX7, TX7, 32, rfl, by decide, uw_X7, rfl, Or.inl (TB_mem 919 (by decide +kernel) (by decide +kernel))⟩
theorem fl_X7_179 : Fl RX7 179 7 21 := ⟨RX7, TX7, 32, rfl, by decide, uw_X7, rfl, Or.inl (TB_mem 935 (by decide +kernel) (by decide +kernel))⟩
theorem fl_X7_182 : Fl RX7 182 7 22 := ⟨RX7, TX7, 32, rfl, by decide, uw_X7, rfl, Or.inl (TB_mem 936 (by decide +kernel) (by decide +kernel))⟩
theorem fl_X7_20 : Fl RX7 20 7 6 := ⟨RX7, TX7, 32, rfl, by decide, uw_X7, rfl, Or.inl (TB_mem 920 (by decide +kernel) (by decide +kernel))⟩
theorem fl_X7_209 : Fl RX7 209 7 25 := ⟨RX7, TX7, 32, rfl, by decide, uw_X7, rfl, Or.inl (TB_mem 939 (by decide +kernel) (by decide +kernel))⟩
theorem fl_X7_212 : Fl RX7 212 7 26 := ⟨RX7, TX7, 32, rfl, by decide, uw_X7, rfl, Or.inl (TB_mem 940 (by decide +kernel) (by decide +kernel))⟩
theorem fl_X7_23 : Fl RX7 23 7 7 := ⟨RX7, TX7, 32, rfl, by decide, uw_X7, rfl, Or.inl (TB_mem 921 (by decide +kernel) (by decide +kernel))⟩
theorem fl_X7_26 : Fl RX7 26 7 8 := ⟨RX7, TX7, 32, rfl, by decide, uw_X7, rfl, Or.inl (TB_mem 922 (by decide +kernel) (by decide +kernel))⟩
theorem fl_X7_270 : Fl RX7 270 7 31 := ⟨RX7, TX7, 32, rfl, by decide, uw_X7, rfl, Or.inl (TB_mem 945 (by decide +kernel) (by decide +kernel))⟩
theorem fl_X7_29 : Fl RX7 29 7 9 := ⟨RX7, TX7, 32, rfl, by decide, uw_X7, rfl, Or.inl (TB_mem 923 (by decide +kernel) (by decide +kernel))⟩
theorem fl_X7_32 : Fl RX7 32 7 10 := ⟨RX7, TX7, 32, rfl, by decide, uw_X7, rfl, Or.inl (TB_mem 924 (by decide +kernel) (by decide +kernel))⟩
theorem fl_X7_35 : Fl RX7 35 7 11 := ⟨RX7, TX7, 32, rfl, by decide, uw_X7, rfl, Or.inl (TB_mem 925 (by decide +kernel) (by decide +kernel))⟩
theorem fl_X7_38 : Fl RX7 38 7 12 := ⟨RX7, TX7, 32, rfl, by decide, uw_X7, rfl, Or.inl (TB_mem 926 (by decide +kernel) (by decide +kernel))⟩
theorem fl_X7_41 : Fl RX7 41 7 13 := ⟨RX7, TX7, 32, rfl, by decide, uw_X7, rfl, Or.inl (TB_mem 927 (by decide +kernel) (by decide +kernel))⟩
theorem fl_X7_44 : Fl RX7 44 7 14 := ⟨RX7, TX7, 32, rfl, by decide, uw_X7, rfl, Or.inl (TB_mem 928 (by decide +kernel) (by decide +kernel))⟩
theorem fl_X7_47 : Fl RX7 47 7 15 := ⟨RX7, TX7, 32, rfl, by decide, uw_X7, rfl, Or.inl (TB_mem 929 (by decide +kernel) (by decide +kernel))⟩
theorem fl_X7_50 : Fl RX7 50 7 17 := ⟨RX7, TX7, 32, rfl, by decide, uw_X7, rfl, Or.inl (TB_mem 931 (by decide +kernel) (by decide +kernel))⟩
theorem fl_X7_53 : Fl RX7 53 7 18 := ⟨RX7, TX7, 32, rfl, by decide, uw_X7, rfl, Or.inl (TB_mem 932 (by decide +kernel) (by decide +kernel))⟩
theorem fl_X7_56 : Fl RX7 56 7 19 := ⟨RX7, TX7, 32, rfl, by decide, uw_X7, rfl, Or.inl (TB_mem 933 (by decide +kernel) (by decide +kernel))⟩
theorem fl_X7_59 : Fl RX7 59 7 20 := ⟨RX7, TX7, 32, rfl, by decide, uw_X7, rfl, Or.inl (TB_mem 934 (by decide +kernel) (by decide +kernel))⟩
theorem fl_X7_62 : Fl RX7 62 7 23 := ⟨RX7, TX7, 32, rfl, by decide, uw_X7, rfl, Or.inl (TB_mem 937 (by decide +kernel) (by decide +kernel))⟩
theorem fl_X7_65 : Fl RX7 65 7 24 := ⟨RX7, TX7, 32, rfl, by decide, uw_X7, rfl, Or.inl (TB_mem 938 (by decide +kernel) (by decide +kernel))⟩
theorem fl_X7_69 : Fl RX7 69 7 27 := ⟨RX7, TX7, 32, rfl, by decide, uw_X7, rfl, Or.inl (TB_mem 941 (by decide +kernel) (by decide +kernel))⟩
theorem fl_X7_7 : Fl RX7 7 7 1 := ⟨RX7, TX7, 32, rfl, by decide, uw_X7, rfl, Or.inl (TB_mem 915 (by decide +kernel) (by decide +kernel))⟩
theorem fl_X7_72 : Fl RX7 72 7 28 := ⟨RX7, TX7, 32, rfl, by decide, uw_X7, rfl, Or.inl (TB_mem 942 (by decide +kernel) (by decide +kernel))⟩
theorem fl_X7_75 : Fl RX7 75 7 29 := ⟨RX7, TX7, 32, rfl, by decide, uw_X7, rfl, Or.inl (TB_mem 943 (by decide +kernel) (by decide +kernel))⟩
theorem fl_X7_79 : Fl RX7 79 7 30 := ⟨RX7, TX7, 32, rfl, by decide, uw_X7, rfl, Or.inl (TB_mem 944 (by decide +kernel) (by decide +kernel))⟩
theorem fl_X7_82 : Fl RX7 82 7 0 := ⟨RX7, TX7, 32, rfl, by decide, uw_X7, rfl, Or.inl (TB_mem 914 (by decide +kernel) (by decide +kernel))⟩
theorem fl_X7_86 : Fl RX7 86 7 2 := ⟨RX7, TX7, 32, rfl, by decide, uw_X7, rfl, Or.inl (TB_mem 916 (by decide +kernel) (by decide +kernel))⟩
theorem fl_X7_89 : Fl RX7 89 7 3 := ⟨RX7, TX7, 32, rfl, by decide, uw_X7, rfl, Or.inl (TB_mem 917 (by decide +kernel) (by decide +kernel))⟩
theorem fpW : Flp RX4 15 4 1 (.array .long) := ⟨RX4, TX4, 2, tyX4, rfl, by decide, uw_X4, tyX4_ok, nmX4, rfl, by decide +kernel, rfl, Or.inl (TB_mem 150 (by decide +kernel) (by decide +kernel))⟩
theorem fp_X0_15 : Flp RX0 15 0 1 .int := ⟨RX0, TX0, 3, tyX0, rfl, by decide, uw_X0, tyX0_ok, nmX0, rfl, by decide +kernel, rfl, Or.inl (TB_mem 90 (by decide +kernel) (by decide +kernel))⟩
theorem fp_X0_19 : Flp RX0 19 0 2 .int := ⟨RX0, TX0, 3, tyX0, rfl, by decide, uw_X0, tyX0_ok, nmX0, rfl, by decide +kernel, rfl, Or.inl (TB_mem 93 (by decide +kernel) (by decide +kernel))⟩
theorem fp_X1_18 : Flp RX1 18 1 2 .int := ⟨RX1, TX1, 6, tyX1, rfl, by decide, uw_X1, tyX1_ok, nmX1, rfl, by decide +kernel, rfl, Or.inl (TB_mem 178 (by decide +kernel) (by decide +kernel))⟩
theorem fp_X1_22 : Flp RX1 22 1 3 .int := ⟨RX1, TX1, 6, tyX1, rfl, by decide, uw_X1, tyX1_ok, nmX1, rfl, by decide +kernel, rfl, Or.inl (TB_mem 180 (by decide +kernel) (by decide +kernel))⟩
theorem fp_X1_25 : Flp RX1 25 1 4 .int := ⟨RX1, TX1, 6, tyX1, rfl, by decide, uw_X1, tyX1_ok, nmX1, rfl, by decide +kernel, rfl, Or.inl (TB_mem 184 (by decide +kernel) (by decide +kernel))⟩
theorem fp_X1_28 : Flp RX1 28 1 5 .int := ⟨RX1, TX1, 6, tyX1, rfl, by decide, uw_X1, tyX1_ok, nmX1, rfl, by decide +kernel, rfl, Or.inl (TB_mem 185 (by decide +kernel) (by decide +kernel))⟩
theorem fp_X2_13 : Flp RX2 13 2 1 .long := ⟨RX2, TX2, 2, tyX2, rfl, by decide, uw_X2, tyX2_ok, nmX2, rfl, by decide +kernel, rfl, Or.inl (TB_mem 164 (by decide +kernel) (by decide +kernel))⟩
theorem fp_X2_7 : Flp RX2 7 2 0 .long := ⟨RX2, TX2, 2, tyX2, rfl, by decide, uw_X2, tyX2_ok, nmX2, rfl, by decide +kernel, rfl, Or.inl (TB_mem 162 (by decide +kernel) (by decide +kernel))⟩
theorem fp_X3_24 : Flp RX3 24 3 4 .int := ⟨RX3, TX3, 5, tyX3, rfl, by decide, uw_X3, tyX3_ok, nmX3, rfl, by decide +kernel, rfl, Or.inl (TB_mem 131 (by decide +kernel) (by decide +kernel))⟩
theorem fp_X5_15 : Flp RX5 15 5 1 .int := ⟨RX5, TX5, 2, tyX5, rfl, by decide, uw_X5, tyX5_ok, nmX5, rfl, by decide +kernel, rfl, Or.inl (TB_mem 111 (by decide +kernel) (by decide +kernel))⟩
theorem fp_X6_143 : Flp RX6 143 1 5 .int := ⟨RX1, TX1, 6, tyX1, rfl, by decide, uw_X1, tyX1_ok, nmX1, rfl, by decide +kernel, rfl, Or.inr ⟨"HiddenWords", NB_mem 129 (by decide +kernel) (by decide +kernel)⟩⟩
theorem fp_X6_61 : Flp RX6 61 6 9 .int := ⟨RX6, TX6, 12, tyX6, rfl, by decide, uw_X6, tyX6_ok, nmX6, rfl, by decide +kernel, rfl, Or.inl (TB_mem 209 (by decide +kernel) (by decide +kernel))⟩
theorem fp_X6_65 : Flp RX6 65 6 10 .int := ⟨RX6, TX6, 12, tyX6, rfl, by decide, uw_X6, tyX6_ok, nmX6, rfl, by decide +kernel, rfl, Or.inl (TB_mem 210 (by decide +kernel) (by decide +kernel))⟩
theorem fp_X7_13 : Flp RX7 13 7 4 .long := ⟨RX7, TX7, 32, tyX7, rfl, by decide, uw_X7, tyX7_ok, nmX7, rfl, by decide +kernel, rfl, Or.inl (TB_mem 918 (by decide +kernel) (by decide +kernel))⟩
theorem fp_X7_165 : Flp RX7 165 7 16 .int := ⟨RX7, TX7, 32, tyX7, rfl, by decide, uw_X7, tyX7_ok, nmX7, rfl, by decide +kernel, rfl, Or.inl (TB_mem 930 (by decide +kernel) (by decide +kernel))⟩
theorem fp_X7_179 : Flp RX7 179 7 21 .int := ⟨RX7, TX7, 32, tyX7, rfl, by decide, uw_X7, tyX7_ok, nmX7, rfl, by decide +kernel, rfl, Or.inl (TB_mem 935 (by decide +kernel) (by decide +kernel))⟩
theorem fp_X7_182 : Flp RX7 182 7 22 .int := ⟨RX7, TX7, 32, tyX7, rfl, by decide, uw_X7, tyX7_ok, nmX7, rfl, by decide +kernel, rfl, Or.inl (TB_mem 936 (by decide +kernel) (by decide +kernel))⟩
theorem fp_X7_209 : Flp RX7 209 7 25 .int := ⟨RX7, TX7, 32, tyX7, rfl, by decide, uw_X7, tyX7_ok, nmX7, rfl, by decide +kernel, rfl, Or.inl (TB_mem 939 (by decide +kernel) (by decide +kernel))⟩
theorem fp_X7_212 : Flp RX7 212 7 26 .int := ⟨RX7, TX7, 32, tyX7, rfl, by decide, uw_X7, tyX7_ok, nmX7, rfl, by decide +kernel, rfl, Or.inl (TB_mem 940 (by decide +kernel) (by decide +kernel))⟩
theorem fp_X7_270 : Flp RX7 270 7 31 .long := ⟨RX7, TX7, 32, tyX7, rfl, by decide, uw_X7, tyX7_ok, nmX7, rfl, by decide +kernel, rfl, Or.inl (TB_mem 945 (by decide +kernel) (by decide +kernel))⟩
theorem fp_X7_82 : Flp RX7 82 7 0 .int := ⟨RX7, TX7, 32, tyX7, rfl, by decide, uw_X7, tyX7_ok, nmX7, rfl, by decide +kernel, rfl, Or.inl (TB_mem 914 (by decide +kernel) (by decide +kernel))⟩
theorem fp_X7_86 : Flp RX7 86 7 2 .int := ⟨RX7, TX7, 32, tyX7, rfl, by decide, uw_X7, tyX7_ok, nmX7, rfl, by decide +kernel, rfl, Or.inl (TB_mem 916 (by decide +kernel) (by decide +kernel))⟩
theorem fp_X7_89 : Flp RX7 89 7 3 .long := ⟨RX7, TX7, 32, tyX7, rfl, by decide, uw_X7, tyX7_ok, nmX7, rfl, by decide +kernel, rfl, Or.inl (TB_mem 917 (by decide +kernel) (by decide +kernel))⟩
theorem kc_J6_265 : Cond.constant RJ6 265 (1431655765) ∈ TB := (TB_mem 623 (by decide +kernel) (by decide +kernel))
theorem kc_J6_266 : Cond.constant RJ6 266 (858993459) ∈ TB := (TB_mem 624 (by decide +kernel) (by decide +kernel))
theorem kc_J6_267 : Cond.constant RJ6 267 (252645135) ∈ TB := (TB_mem 625 (by decide +kernel) (by decide +kernel))
theorem kc_X0_65 : Cond.constantLong RX0 65 (31) ∈ TB := (TB_mem 902 (by decide +kernel) (by decide +kernel))
theorem kc_X1_111 : Cond.constantLong RX1 111 (31) ∈ TB := (TB_mem 895 (by decide +kernel) (by decide +kernel))
theorem kc_X3_87 : Cond.constant RX3 87 (1000000) ∈ TB := (TB_mem 591 (by decide +kernel) (by decide +kernel))
theorem kc_X5_38 : Cond.constantLong RX5 38 (31) ∈ TB := (TB_mem 907 (by decide +kernel) (by decide +kernel))
theorem kc_X6_307 : Cond.constantLong RX6 307 (2) ∈ TB := (TB_mem 781 (by decide +kernel) (by decide +kernel))
theorem kc_X6_328 : Cond.constantLong RX6 328 (1000003) ∈ TB := (TB_mem 827 (by decide +kernel) (by decide +kernel))
theorem kc_X6_360 : Cond.constantLong RX6 360 (17) ∈ TB := (TB_mem 887 (by decide +kernel) (by decide +kernel))
theorem kc_X6_362 : Cond.constantLong RX6 362 (31) ∈ TB := (TB_mem 888 (by decide +kernel) (by decide +kernel))
theorem kc_X6_379 : Cond.constant RX6 379 (1103515245) ∈ TB := (TB_mem 491 (by decide +kernel) (by decide +kernel))
theorem kc_X7_168 : Cond.constant RX7 168 (1103515245) ∈ TB := (TB_mem 1168 (by decide +kernel) (by decide +kernel))
theorem kc_X7_242 : Cond.constantLong RX7 242 (2) ∈ TB := (TB_mem 1293 (by decide +kernel) (by decide +kernel))
theorem kc_X7_260 : Cond.constantLong RX7 260 (1000003) ∈ TB := (TB_mem 1349 (by decide +kernel) (by decide +kernel))
theorem kc_X7_268 : Cond.constantLong RX7 268 (31) ∈ TB := (TB_mem 1395 (by decide +kernel) (by decide +kernel))
theorem kc_X7_276 : Cond.constantLong RX7 276 (17) ∈ TB := (TB_mem 1390 (by decide +kernel) (by decide +kernel))
theorem la_X0_35 : Lac RX0 35 := ⟨(TB_mem 534 (by decide +kernel) (by decide +kernel)), (TB_mem 308 (by decide +kernel) (by decide +kernel)), (TB_mem 307 (by decide +kernel) (by decide +kernel)), (TB_mem 68 (by decide +kernel) (by decide +kernel))⟩
theorem la_X1_36 : Lac RX1 36 := ⟨(TB_mem 353 (by decide +kernel) (by decide +kernel)), (TB_mem 308 (by decide +kernel) (by decide +kernel)), (TB_mem 307 (by decide +kernel) (by decide +kernel)), (TB_mem 68 (by decide +kernel) (by decide +kernel))⟩
theorem la_X6_108 : Lac RX6 108 := ⟨(TB_mem 306 (by decide +kernel) (by decide +kernel)), (TB_mem 308 (by decide +kernel) (by decide +kernel)), (TB_mem 307 (by decide +kernel) (by decide +kernel)), (TB_mem 68 (by decide +kernel) (by decide +kernel))⟩
theorem lk_J7_13 : LkS RJ7 13 yJ7_rangeCheck_23922 cJ7_rangeCheck_23922 3 none 3 := ⟨(TB_mem 262 (by decide +kernel) (by decide +kernel)), (TB_mem 263 (by decide +kernel) (by decide +kernel)), (TB_mem 67 (by decide +kernel) (by decide +kernel)), (TB_mem 264 (by decide +kernel) (by decide +kernel)), (by decide +kernel)⟩
theorem lk_X0_22 : LkV RX0 22 yX0_has cX0_has 2 (some .boolean) 1 := ⟨(TB_mem 551 (by decide +kernel) (by decide +kernel)), (TB_mem 544 (by decide +kernel) (by decide +kernel)), (TB_mem 545 (by decide +kernel) (by decide +kernel)), (TB_mem 59 (by decide +kernel) (by decide +kernel)), (TB_mem 546 (by decide +kernel) (by decide +kernel)), (by decide +kernel)⟩
theorem lk_X0_31 : LkV RX0 31 yX0_lineAt cX0_lineAt 2 (some .int) 1 := ⟨(TB_mem 582 (by decide +kernel) (by decide +kernel)), (TB_mem 548 (by decide +kernel) (by decide +kernel)), (TB_mem 549 (by decide +kernel) (by decide +kernel)), (TB_mem 59 (by decide +kernel) (by decide +kernel)), (TB_mem 550 (by decide +kernel) (by decide +kernel)), (by decide +kernel)⟩
theorem lk_X0_41 : LkS RX0 41 yX0_behindBlanks cX0_behindBlanks 3 (some .int) 2 := ⟨(TB_mem 507 (by decide +kernel) (by decide +kernel)), (TB_mem 508 (by decide +kernel) (by decide +kernel)), (TB_mem 59 (by decide +kernel) (by decide +kernel)), (TB_mem 509 (by decide +kernel) (by decide +kernel)), (by decide +kernel)⟩
theorem lk_X0_45 : LkV RX0 45 yX0_behindLine cX0_behindLine 5 (some .int) 2 := ⟨(TB_mem 511 (by decide +kernel) (by decide +kernel)), (TB_mem 513 (by decide +kernel) (by decide +kernel)), (TB_mem 8 (by decide +kernel) (by decide +kernel)), (TB_mem 59 (by decide +kernel) (by decide +kernel)), (TB_mem 514 (by decide +kernel) (by decide +kernel)), (by decide +kernel)⟩
theorem lk_X0_48 : LkV RX0 48 yX0_takeLine cX0_takeLine 7 (some .boolean) 3 := ⟨(TB_mem 518 (by decide +kernel) (by decide +kernel)), (TB_mem 520 (by decide +kernel) (by decide +kernel)), (TB_mem 9 (by decide +kernel) (by decide +kernel)), (TB_mem 59 (by decide +kernel) (by decide +kernel)), (TB_mem 521 (by decide +kernel) (by decide +kernel)), (by decide +kernel)⟩
theorem lk_X0_52 : LkV RX0 52 yX5_get cX5_get 2 (some .int) 1 := ⟨(TB_mem 510 (by decide +kernel) (by decide +kernel)), (TB_mem 278 (by decide +kernel) (by decide +kernel)), (TB_mem 279 (by decide +kernel) (by decide +kernel)), (TB_mem 60 (by decide +kernel) (by decide +kernel)), (TB_mem 280 (by decide +kernel) (by decide +kernel)), (by decide +kernel)⟩
theorem lk_X0_58 : LkS RX0 58 yX0_isSign cX0_isSign 1 (some .boolean) 1 := ⟨(TB_mem 515 (by decide +kernel) (by decide +kernel)), (TB_mem 516 (by decide +kernel) (by decide +kernel)), (TB_mem 59 (by decide +kernel) (by decide +kernel)), (TB_mem 517 (by decide +kernel) (by decide +kernel)), (by decide +kernel)⟩
theorem lk_X0_61 : LkV RX0 61 yX0_isMissing cX0_isMissing 1 (some .boolean) 0 := ⟨(TB_mem 901 (by decide +kernel) (by decide +kernel)), (TB_mem 540 (by decide +kernel) (by decide +kernel)), (TB_mem 541 (by decide +kernel) (by decide +kernel)), (TB_mem 59 (by decide +kernel) (by decide +kernel)), (TB_mem 542 (by decide +kernel) (by decide +kernel)), (by decide +kernel)⟩
theorem lk_X1_101 : LkV RX1 101 yX5_set cX5_set 3 none 2 := ⟨(TB_mem 777 (by decide +kernel) (by decide +kernel)), (TB_mem 283 (by decide +kernel) (by decide +kernel)), (TB_mem 284 (by decide +kernel) (by decide +kernel)), (TB_mem 60 (by decide +kernel) (by decide +kernel)), (TB_mem 285 (by decide +kernel) (by decide +kernel)), (by decide +kernel)⟩
theorem lk_X1_104 : LkV RX1 104 yX1_bringForward cX1_bringForward 4 none 2 := ⟨(TB_mem 839 (by decide +kernel) (by decide +kernel)), (TB_mem 840 (by decide +kernel) (by decide +kernel)), (TB_mem 841 (by decide +kernel) (by decide +kernel)), (TB_mem 64 (by decide +kernel) (by decide +kernel)), (TB_mem 842 (by decide +kernel) (by decide +kernel)), (by decide +kernel)⟩
theorem lk_X1_107 : LkV RX1 107 yX1_isMissing cX1_isMissing 1 (some .boolean) 0 := ⟨(TB_mem 894 (by decide +kernel) (by decide +kernel)), (TB_mem 383 (by decide +kernel) (by decide +kernel)), (TB_mem 384 (by decide +kernel) (by decide +kernel)), (TB_mem 64 (by decide +kernel) (by decide +kernel)), (TB_mem 385 (by decide +kernel) (by decide +kernel)), (by decide +kernel)⟩
theorem lk_X1_113 : LkV RX1 113 yX1_tellPlace cX1_tellPlace 3 (some .int) 2 := ⟨(TB_mem 896 (by decide +kernel) (by decide +kernel)), (TB_mem 424 (by decide +kernel) (by decide +kernel)), (TB_mem 425 (by decide +kernel) (by decide +kernel)), (TB_mem 64 (by decide +kernel) (by decide +kernel)), (TB_mem 426 (by decide +kernel) (by decide +kernel)), (by decide +kernel)⟩
theorem lk_X1_43 : LkV RX1 43 yX1_become cX1_become 4 none 3 := ⟨(TB_mem 354 (by decide +kernel) (by decide +kernel)), (TB_mem 356 (by decide +kernel) (by decide +kernel)), (TB_mem 5 (by decide +kernel) (by decide +kernel)), (TB_mem 64 (by decide +kernel) (by decide +kernel)), (TB_mem 357 (by decide +kernel) (by decide +kernel)), (by decide +kernel)⟩
theorem lk_X1_47 : LkS RX1 47 yJ9_min_7cf53 cJ9_min_7cf53 2 (some .int) 2 := ⟨(TB_mem 358 (by decide +kernel) (by decide +kernel)), (TB_mem 254 (by decide +kernel) (by decide +kernel)), (TB_mem 66 (by decide +kernel) (by decide +kernel)), (TB_mem 255 (by decide +kernel) (by decide +kernel)), (by decide +kernel)⟩
theorem lk_X1_53 : LkS RX1 53 yJ9_max_7cf53 cJ9_max_7cf53 2 (some .int) 2 := ⟨(TB_mem 359 (by decide +kernel) (by decide +kernel)), (TB_mem 257 (by decide +kernel) (by decide +kernel)), (TB_mem 66 (by decide +kernel) (by decide +kernel)), (TB_mem 258 (by decide +kernel) (by decide +kernel)), (by decide +kernel)⟩
theorem lk_X1_56 : LkS RX1 56 yJ7_fill_53178 cJ7_fill_53178 4 none 2 := ⟨(TB_mem 360 (by decide +kernel) (by decide +kernel)), (TB_mem 361 (by decide +kernel) (by decide +kernel)), (TB_mem 67 (by decide +kernel) (by decide +kernel)), (TB_mem 362 (by decide +kernel) (by decide +kernel)), (by decide +kernel)⟩
theorem lk_X1_62 : LkV RX1 62 yX1_has cX1_has 2 (some .boolean) 1 := ⟨(TB_mem 398 (by decide +kernel) (by decide +kernel)), (TB_mem 399 (by decide +kernel) (by decide +kernel)), (TB_mem 400 (by decide +kernel) (by decide +kernel)), (TB_mem 64 (by decide +kernel) (by decide +kernel)), (TB_mem 401 (by decide +kernel) (by decide +kernel)), (by decide +kernel)⟩
theorem lk_X1_66 : LkV RX1 66 yX1_dotAt cX1_dotAt 2 (some .int) 1 := ⟨(TB_mem 427 (by decide +kernel) (by decide +kernel)), (TB_mem 415 (by decide +kernel) (by decide +kernel)), (TB_mem 416 (by decide +kernel) (by decide +kernel)), (TB_mem 64 (by decide +kernel) (by decide +kernel)), (TB_mem 417 (by decide +kernel) (by decide +kernel)), (by decide +kernel)⟩
theorem lk_X1_70 : LkV RX1 70 yX1_choicesAt cX1_choicesAt 2 (some .int) 1 := ⟨(TB_mem 394 (by decide +kernel) (by decide +kernel)), (TB_mem 395 (by decide +kernel) (by decide +kernel)), (TB_mem 396 (by decide +kernel) (by decide +kernel)), (TB_mem 64 (by decide +kernel) (by decide +kernel)), (TB_mem 397 (by decide +kernel) (by decide +kernel)), (by decide +kernel)⟩
theorem lk_X1_73 : LkV RX1 73 yX1_isWet cX1_isWet 2 (some .boolean) 1 := ⟨(TB_mem 390 (by decide +kernel) (by decide +kernel)), (TB_mem 391 (by decide +kernel) (by decide +kernel)), (TB_mem 392 (by decide +kernel) (by decide +kernel)), (TB_mem 64 (by decide +kernel) (by decide +kernel)), (TB_mem 393 (by decide +kernel) (by decide +kernel)), (by decide +kernel)⟩
theorem lk_X1_76 : LkV RX1 76 yX1_roughnessAt cX1_roughnessAt 3 (some .int) 1 := ⟨(TB_mem 440 (by decide +kernel) (by decide +kernel)), (TB_mem 442 (by decide +kernel) (by decide +kernel)), (TB_mem 6 (by decide +kernel) (by decide +kernel)), (TB_mem 64 (by decide +kernel) (by decide +kernel)), (TB_mem 443 (by decide +kernel) (by decide +kernel)), (by decide +kernel)⟩
theorem lk_X1_79 : LkV RX1 79 yX1_gapBetween cX1_gapBetween 3 (some .int) 2 := ⟨(TB_mem 444 (by decide +kernel) (by decide +kernel)), (TB_mem 446 (by decide +kernel) (by decide +kernel)), (TB_mem 7 (by decide +kernel) (by decide +kernel)), (TB_mem 64 (by decide +kernel) (by decide +kernel)), (TB_mem 447 (by decide +kernel) (by decide +kernel)), (by decide +kernel)⟩
theorem lk_X1_82 : LkS RX1 82 yJ9_abs_0f7a4 cJ9_abs_0f7a4 1 (some .int) 1 := ⟨(TB_mem 448 (by decide +kernel) (by decide +kernel)), (TB_mem 449 (by decide +kernel) (by decide +kernel)), (TB_mem 66 (by decide +kernel) (by decide +kernel)), (TB_mem 450 (by decide +kernel) (by decide +kernel)), (by decide +kernel)⟩
theorem lk_X1_85 : LkV RX1 85 yX1_bitAt cX1_bitAt 2 (some .int) 1 := ⟨(TB_mem 428 (by decide +kernel) (by decide +kernel)), (TB_mem 429 (by decide +kernel) (by decide +kernel)), (TB_mem 430 (by decide +kernel) (by decide +kernel)), (TB_mem 64 (by decide +kernel) (by decide +kernel)), (TB_mem 431 (by decide +kernel) (by decide +kernel)), (by decide +kernel)⟩
theorem lk_X1_88 : LkV RX1 88 yX1_flippedAt cX1_flippedAt 3 (some .int) 1 := ⟨(TB_mem 432 (by decide +kernel) (by decide +kernel)), (TB_mem 433 (by decide +kernel) (by decide +kernel)), (TB_mem 434 (by decide +kernel) (by decide +kernel)), (TB_mem 64 (by decide +kernel) (by decide +kernel)), (TB_mem 435 (by decide +kernel) (by decide +kernel)), (by decide +kernel)⟩
theorem lk_X1_91 : LkV RX1 91 yX1_priceAt cX1_priceAt 4 (some .int) 1 := ⟨(TB_mem 436 (by decide +kernel) (by decide +kernel)), (TB_mem 437 (by decide +kernel) (by decide +kernel)), (TB_mem 438 (by decide +kernel) (by decide +kernel)), (TB_mem 64 (by decide +kernel) (by decide +kernel)), (TB_mem 439 (by decide +kernel) (by decide +kernel)), (by decide +kernel)⟩
theorem lk_X1_94 : LkV RX1 94 yX5_renew cX5_renew 3 none 2 := ⟨(TB_mem 775 (by decide +kernel) (by decide +kernel)), (TB_mem 250 (by decide +kernel) (by decide +kernel)), (TB_mem 251 (by decide +kernel) (by decide +kernel)), (TB_mem 60 (by decide +kernel) (by decide +kernel)), (TB_mem 252 (by decide +kernel) (by decide +kernel)), (by decide +kernel)⟩
theorem lk_X1_98 : LkV RX1 98 yX5_get cX5_get 2 (some .int) 1 := ⟨(TB_mem 776 (by decide +kernel) (by decide +kernel)), (TB_mem 278 (by decide +kernel) (by decide +kernel)), (TB_mem 279 (by decide +kernel) (by decide +kernel)), (TB_mem 60 (by decide +kernel) (by decide +kernel)), (TB_mem 280 (by decide +kernel) (by decide +kernel)), (by decide +kernel)⟩
theorem lk_X2_16 : LkS RX2 16 yX2_commonDivisor cX2_commonDivisor 11 (some .long) 2 := ⟨(TB_mem 651 (by decide +kernel) (by decide +kernel)), (TB_mem 652 (by decide +kernel) (by decide +kernel)), (TB_mem 63 (by decide +kernel) (by decide +kernel)), (TB_mem 653 (by decide +kernel) (by decide +kernel)), (by decide +kernel)⟩
theorem lk_X2_20 : LkV RX2 20 yX2_become cX2_become 7 none 2 := ⟨(TB_mem 818 (by decide +kernel) (by decide +kernel)), (TB_mem 648 (by decide +kernel) (by decide +kernel)), (TB_mem 649 (by decide +kernel) (by decide +kernel)), (TB_mem 63 (by decide +kernel) (by decide +kernel)), (TB_mem 650 (by decide +kernel) (by decide +kernel)), (by decide +kernel)⟩
theorem lk_X3_103 : LkS RX3 103 yJ7_fill_53178 cJ7_fill_53178 4 none 2 := ⟨(TB_mem 592 (by decide +kernel) (by decide +kernel)), (TB_mem 361 (by decide +kernel) (by decide +kernel)), (TB_mem 67 (by decide +kernel) (by decide +kernel)), (TB_mem 362 (by decide +kernel) (by decide +kernel)), (by decide +kernel)⟩
theorem lk_X3_109 : LkV RX3 109 yX3_joinPlace cX3_joinPlace 6 none 5 := ⟨(TB_mem 599 (by decide +kernel) (by decide +kernel)), (TB_mem 601 (by decide +kernel) (by decide +kernel)), (TB_mem 14 (by decide +kernel) (by decide +kernel)), (TB_mem 61 (by decide +kernel) (by decide +kernel)), (TB_mem 602 (by decide +kernel) (by decide +kernel)), (by decide +kernel)⟩
theorem lk_X3_113 : LkS RX3 113 yJ9_max_7cf53 cJ9_max_7cf53 2 (some .int) 2 := ⟨(TB_mem 658 (by decide +kernel) (by decide +kernel)), (TB_mem 257 (by decide +kernel) (by decide +kernel)), (TB_mem 66 (by decide +kernel) (by decide +kernel)), (TB_mem 258 (by decide +kernel) (by decide +kernel)), (by decide +kernel)⟩
theorem lk_X3_28 : LkS RX3 28 yJ9_min_7cf53 cJ9_min_7cf53 2 (some .int) 2 := ⟨(TB_mem 487 (by decide +kernel) (by decide +kernel)), (TB_mem 254 (by decide +kernel) (by decide +kernel)), (TB_mem 66 (by decide +kernel) (by decide +kernel)), (TB_mem 255 (by decide +kernel) (by decide +kernel)), (by decide +kernel)⟩
theorem lk_X3_34 : LkSN RX3 34 yX6_nextOfKey cX6_nextOfKey 1 (some .int) 1 := ⟨⟨"HiddenWords", NB_mem 431 (by decide +kernel) (by decide +kernel)⟩, (TB_mem 489 (by decide +kernel) (by decide +kernel)), (TB_mem 58 (by decide +kernel) (by decide +kernel)), (TB_mem 490 (by decide +kernel) (by decide +kernel)), (by decide +kernel)⟩
theorem lk_X3_38 : LkSN RX3 38 yX6_bitsOfKey cX6_bitsOfKey 1 (some .int) 1 := ⟨⟨"HiddenWords", NB_mem 435 (by decide +kernel) (by decide +kernel)⟩, (TB_mem 493 (by decide +kernel) (by decide +kernel)), (TB_mem 58 (by decide +kernel) (by decide +kernel)), (TB_mem 494 (by decide +kernel) (by decide +kernel)), (by decide +kernel)⟩
theorem lk_X3_46 : LkV RX3 46 yX3_placeAt cX3_placeAt 2 (some .int) 1 := ⟨(TB_mem 576 (by decide +kernel) (by decide +kernel)), (TB_mem 496 (by decide +kernel) (by decide +kernel)), (TB_mem 497 (by decide +kernel) (by decide +kernel)), (TB_mem 61 (by decide +kernel) (by decide +kernel)), (TB_mem 498 (by decide +kernel) (by decide +kernel)), (by decide +kernel)⟩
theorem lk_X3_49 : LkV RX3 49 yX1_bitAt cX1_bitAt 2 (some .int) 1 := ⟨(TB_mem 577 (by decide +kernel) (by decide +kernel)), (TB_mem 429 (by decide +kernel) (by decide +kernel)), (TB_mem 430 (by decide +kernel) (by decide +kernel)), (TB_mem 64 (by decide +kernel) (by decide +kernel)), (TB_mem 431 (by decide +kernel) (by decide +kernel)), (by decide +kernel)⟩
theorem lk_X3_54 : LkV RX3 54 yX0_columnAt cX0_columnAt 4 (some .int) 1 := ⟨(TB_mem 578 (by decide +kernel) (by decide +kernel)), (TB_mem 579 (by decide +kernel) (by decide +kernel)), (TB_mem 580 (by decide +kernel) (by decide +kernel)), (TB_mem 59 (by decide +kernel) (by decide +kernel)), (TB_mem 581 (by decide +kernel) (by decide +kernel)), (by decide +kernel)⟩
theorem lk_X3_65 : LkV RX3 65 yX3_bitsHeld cX3_bitsHeld 6 (some .int) 3 := ⟨(TB_mem 572 (by decide +kernel) (by decide +kernel)), (TB_mem 573 (by decide +kernel) (by decide +kernel)), (TB_mem 574 (by decide +kernel) (by decide +kernel)), (TB_mem 61 (by decide +kernel) (by decide +kernel)), (TB_mem 575 (by decide +kernel) (by decide +kernel)), (by decide +kernel)⟩
theorem lk_X3_69 : LkS RX3 69 yX3_bitsWanted cX3_bitsWanted 5 (some .int) 3 := ⟨(TB_mem 583 (by decide +kernel) (by decide +kernel)), (TB_mem 584 (by decide +kernel) (by decide +kernel)), (TB_mem 61 (by decide +kernel) (by decide +kernel)), (TB_mem 585 (by decide +kernel) (by decide +kernel)), (by decide +kernel)⟩
theorem lk_X3_73 : LkV RX3 73 yX3_startSets cX3_startSets 1 none 0 := ⟨(TB_mem 587 (by decide +kernel) (by decide +kernel)), (TB_mem 589 (by decide +kernel) (by decide +kernel)), (TB_mem 12 (by decide +kernel) (by decide +kernel)), (TB_mem 61 (by decide +kernel) (by decide +kernel)), (TB_mem 590 (by decide +kernel) (by decide +kernel)), (by decide +kernel)⟩
theorem lk_X3_76 : LkV RX3 76 yX1_isWet cX1_isWet 2 (some .boolean) 1 := ⟨(TB_mem 593 (by decide +kernel) (by decide +kernel)), (TB_mem 391 (by decide +kernel) (by decide +kernel)), (TB_mem 392 (by decide +kernel) (by decide +kernel)), (TB_mem 64 (by decide +kernel) (by decide +kernel)), (TB_mem 393 (by decide +kernel) (by decide +kernel)), (by decide +kernel)⟩
theorem lk_X3_80 : LkV RX3 80 yX1_priceAt cX1_priceAt 4 (some .int) 1 := ⟨(TB_mem 594 (by decide +kernel) (by decide +kernel)), (TB_mem 437 (by decide +kernel) (by decide +kernel)), (TB_mem 438 (by decide +kernel) (by decide +kernel)), (TB_mem 64 (by decide +kernel) (by decide +kernel)), (TB_mem 439 (by decide +kernel) (by decide +kernel)), (by decide +kernel)⟩
theorem lk_X3_83 : LkV RX3 83 yX3_growSets cX3_growSets 8 none 3 := ⟨(TB_mem 595 (by decide +kernel) (by decide +kernel)), (TB_mem 597 (by decide +kernel) (by decide +kernel)), (TB_mem 13 (by decide +kernel) (by decide +kernel)), (TB_mem 61 (by decide +kernel) (by decide +kernel)), (TB_mem 598 (by decide +kernel) (by decide +kernel)), (by decide +kernel)⟩
theorem lk_X3_88 : LkV RX3 88 yX5_get cX5_get 2 (some .int) 1 := ⟨(TB_mem 586 (by decide +kernel) (by decide +kernel)), (TB_mem 278 (by decide +kernel) (by decide +kernel)), (TB_mem 279 (by decide +kernel) (by decide +kernel)), (TB_mem 60 (by decide +kernel) (by decide +kernel)), (TB_mem 280 (by decide +kernel) (by decide +kernel)), (by decide +kernel)⟩
theorem lk_X3_91 : LkV RX3 91 yX1_flippedAt cX1_flippedAt 3 (some .int) 1 := ⟨(TB_mem 607 (by decide +kernel) (by decide +kernel)), (TB_mem 433 (by decide +kernel) (by decide +kernel)), (TB_mem 434 (by decide +kernel) (by decide +kernel)), (TB_mem 64 (by decide +kernel) (by decide +kernel)), (TB_mem 435 (by decide +kernel) (by decide +kernel)), (by decide +kernel)⟩
theorem lk_X3_94 : LkV RX3 94 yX1_setDot cX1_setDot 3 none 2 := ⟨(TB_mem 608 (by decide +kernel) (by decide +kernel)), (TB_mem 609 (by decide +kernel) (by decide +kernel)), (TB_mem 610 (by decide +kernel) (by decide +kernel)), (TB_mem 64 (by decide +kernel) (by decide +kernel)), (TB_mem 611 (by decide +kernel) (by decide +kernel)), (by decide +kernel)⟩
theorem lk_X3_98 : LkS RX3 98 yJ6_bitCount_0f7a4 cJ6_bitCount_0f7a4 1 (some .int) 1 := ⟨(TB_mem 620 (by decide +kernel) (by decide +kernel)), (TB_mem 621 (by decide +kernel) (by decide +kernel)), (TB_mem 69 (by decide +kernel) (by decide +kernel)), (TB_mem 622 (by decide +kernel) (by decide +kernel)), (by decide +kernel)⟩
theorem lk_X4_19 : LkSN RX4 19 yX6_nextOfKey cX6_nextOfKey 1 (some .int) 1 := ⟨⟨"HiddenWords", NB_mem 633 (by decide +kernel) (by decide +kernel)⟩, (TB_mem 489 (by decide +kernel) (by decide +kernel)), (TB_mem 58 (by decide +kernel) (by decide +kernel)), (TB_mem 490 (by decide +kernel) (by decide +kernel)), (by decide +kernel)⟩
theorem lk_X4_23 : LkSN RX4 23 yX6_bitsOfKey cX6_bitsOfKey 1 (some .int) 1 := ⟨⟨"HiddenWords", NB_mem 634 (by decide +kernel) (by decide +kernel)⟩, (TB_mem 493 (by decide +kernel) (by decide +kernel)), (TB_mem 58 (by decide +kernel) (by decide +kernel)), (TB_mem 494 (by decide +kernel) (by decide +kernel)), (by decide +kernel)⟩
theorem lk_X4_32 : LkV RX4 32 yX1_dotAt cX1_dotAt 2 (some .int) 1 := ⟨(TB_mem 707 (by decide +kernel) (by decide +kernel)), (TB_mem 415 (by decide +kernel) (by decide +kernel)), (TB_mem 416 (by decide +kernel) (by decide +kernel)), (TB_mem 64 (by decide +kernel) (by decide +kernel)), (TB_mem 417 (by decide +kernel) (by decide +kernel)), (by decide +kernel)⟩
theorem lk_X4_35 : LkV RX4 35 yX4_signAt cX4_signAt 2 (some .int) 1 := ⟨(TB_mem 708 (by decide +kernel) (by decide +kernel)), (TB_mem 693 (by decide +kernel) (by decide +kernel)), (TB_mem 694 (by decide +kernel) (by decide +kernel)), (TB_mem 62 (by decide +kernel) (by decide +kernel)), (TB_mem 695 (by decide +kernel) (by decide +kernel)), (by decide +kernel)⟩
theorem lk_X4_38 : LkV RX4 38 yX1_totalOfDots cX1_totalOfDots 3 (some .int) 0 := ⟨(TB_mem 721 (by decide +kernel) (by decide +kernel)), (TB_mem 722 (by decide +kernel) (by decide +kernel)), (TB_mem 723 (by decide +kernel) (by decide +kernel)), (TB_mem 64 (by decide +kernel) (by decide +kernel)), (TB_mem 724 (by decide +kernel) (by decide +kernel)), (by decide +kernel)⟩
theorem lk_X4_42 : LkS RX4 42 yJ9_floorDiv_7cf53 cJ9_floorDiv_7cf53 3 (some .int) 2 := ⟨(TB_mem 725 (by decide +kernel) (by decide +kernel)), (TB_mem 726 (by decide +kernel) (by decide +kernel)), (TB_mem 66 (by decide +kernel) (by decide +kernel)), (TB_mem 727 (by decide +kernel) (by decide +kernel)), (by decide +kernel)⟩
theorem lk_X4_48 : LkV RX4 48 yX4_countUpTo cX4_countUpTo 7 (some .long) 2 := ⟨(TB_mem 728 (by decide +kernel) (by decide +kernel)), (TB_mem 730 (by decide +kernel) (by decide +kernel)), (TB_mem 15 (by decide +kernel) (by decide +kernel)), (TB_mem 62 (by decide +kernel) (by decide +kernel)), (TB_mem 731 (by decide +kernel) (by decide +kernel)), (by decide +kernel)⟩
theorem lk_X4_52 : LkS RX4 52 yJ7_fill_bad5a cJ7_fill_bad5a 6 none 4 := ⟨(TB_mem 732 (by decide +kernel) (by decide +kernel)), (TB_mem 733 (by decide +kernel) (by decide +kernel)), (TB_mem 67 (by decide +kernel) (by decide +kernel)), (TB_mem 734 (by decide +kernel) (by decide +kernel)), (by decide +kernel)⟩
theorem lk_X4_58 : LkS RX4 58 yJ9_min_7cf53 cJ9_min_7cf53 2 (some .int) 2 := ⟨(TB_mem 735 (by decide +kernel) (by decide +kernel)), (TB_mem 254 (by decide +kernel) (by decide +kernel)), (TB_mem 66 (by decide +kernel) (by decide +kernel)), (TB_mem 255 (by decide +kernel) (by decide +kernel)), (by decide +kernel)⟩
theorem lk_X5_19 : LkV RX5 19 yX5_has cX5_has 2 (some .boolean) 1 := ⟨(TB_mem 281 (by decide +kernel) (by decide +kernel)), (TB_mem 274 (by decide +kernel) (by decide +kernel)), (TB_mem 275 (by decide +kernel) (by decide +kernel)), (TB_mem 60 (by decide +kernel) (by decide +kernel)), (TB_mem 276 (by decide +kernel) (by decide +kernel)), (by decide +kernel)⟩
theorem lk_X5_23 : LkS RX5 23 yJ9_min_7cf53 cJ9_min_7cf53 2 (some .int) 2 := ⟨(TB_mem 253 (by decide +kernel) (by decide +kernel)), (TB_mem 254 (by decide +kernel) (by decide +kernel)), (TB_mem 66 (by decide +kernel) (by decide +kernel)), (TB_mem 255 (by decide +kernel) (by decide +kernel)), (by decide +kernel)⟩
theorem lk_X5_29 : LkS RX5 29 yJ9_max_7cf53 cJ9_max_7cf53 2 (some .int) 2 := ⟨(TB_mem 256 (by decide +kernel) (by decide +kernel)), (TB_mem 257 (by decide +kernel) (by decide +kernel)), (TB_mem 66 (by decide +kernel) (by decide +kernel)), (TB_mem 258 (by decide +kernel) (by decide +kernel)), (by decide +kernel)⟩
theorem lk_X5_32 : LkS RX5 32 yJ7_fill_fda19 cJ7_fill_fda19 5 none 4 := ⟨(TB_mem 259 (by decide +kernel) (by decide +kernel)), (TB_mem 260 (by decide +kernel) (by decide +kernel)), (TB_mem 67 (by decide +kernel) (by decide +kernel)), (TB_mem 261 (by decide +kernel) (by decide +kernel)), (by decide +kernel)⟩
theorem lk_X6_101 : LkV RX6 101 yX5_hasSpan cX5_hasSpan 3 (some .boolean) 2 := ⟨(TB_mem 302 (by decide +kernel) (by decide +kernel)), (TB_mem 303 (by decide +kernel) (by decide +kernel)), (TB_mem 304 (by decide +kernel) (by decide +kernel)), (TB_mem 60 (by decide +kernel) (by decide +kernel)), (TB_mem 305 (by decide +kernel) (by decide +kernel)), (by decide +kernel)⟩
theorem lk_X6_117 : LkV RX6 117 yX5_total cX5_total 4 (some .long) 0 := ⟨(TB_mem 313 (by decide +kernel) (by decide +kernel)), (TB_mem 314 (by decide +kernel) (by decide +kernel)), (TB_mem 315 (by decide +kernel) (by decide +kernel)), (TB_mem 60 (by decide +kernel) (by decide +kernel)), (TB_mem 316 (by decide +kernel) (by decide +kernel)), (by decide +kernel)⟩
theorem lk_X6_121 : LkV RX6 121 yX6_isText cX6_isText 2 (some .boolean) 1 := ⟨(TB_mem 321 (by decide +kernel) (by decide +kernel)), (TB_mem 323 (by decide +kernel) (by decide +kernel)), (TB_mem 2 (by decide +kernel) (by decide +kernel)), (TB_mem 58 (by decide +kernel) (by decide +kernel)), (TB_mem 324 (by decide +kernel) (by decide +kernel)), (by decide +kernel)⟩
theorem lk_X6_124 : LkV RX6 124 yX6_isCover cX6_isCover 2 (some .boolean) 1 := ⟨(TB_mem 333 (by decide +kernel) (by decide +kernel)), (TB_mem 335 (by decide +kernel) (by decide +kernel)), (TB_mem 3 (by decide +kernel) (by decide +kernel)), (TB_mem 58 (by decide +kernel) (by decide +kernel)), (TB_mem 336 (by decide +kernel) (by decide +kernel)), (by decide +kernel)⟩
theorem lk_X6_127 : LkV RX6 127 yX6_drawn cX6_drawn 5 (some .int) 4 := ⟨(TB_mem 337 (by decide +kernel) (by decide +kernel)), (TB_mem 339 (by decide +kernel) (by decide +kernel)), (TB_mem 4 (by decide +kernel) (by decide +kernel)), (TB_mem 58 (by decide +kernel) (by decide +kernel)), (TB_mem 340 (by decide +kernel) (by decide +kernel)), (by decide +kernel)⟩
theorem lk_X6_131 : LkS RX6 131 yX6_areChoices cX6_areChoices 3 (some .boolean) 2 := ⟨(TB_mem 371 (by decide +kernel) (by decide +kernel)), (TB_mem 372 (by decide +kernel) (by decide +kernel)), (TB_mem 58 (by decide +kernel) (by decide +kernel)), (TB_mem 373 (by decide +kernel) (by decide +kernel)), (by decide +kernel)⟩
theorem lk_X6_135 : LkV RX6 135 yX1_renew cX1_renew 4 none 3 := ⟨(TB_mem 349 (by decide +kernel) (by decide +kernel)), (TB_mem 350 (by decide +kernel) (by decide +kernel)), (TB_mem 351 (by decide +kernel) (by decide +kernel)), (TB_mem 64 (by decide +kernel) (by decide +kernel)), (TB_mem 352 (by decide +kernel) (by decide +kernel)), (by decide +kernel)⟩
theorem lk_X6_138 : LkV RX6 138 yX1_takeChoices cX1_takeChoices 2 none 1 := ⟨(TB_mem 374 (by decide +kernel) (by decide +kernel)), (TB_mem 375 (by decide +kernel) (by decide +kernel)), (TB_mem 376 (by decide +kernel) (by decide +kernel)), (TB_mem 64 (by decide +kernel) (by decide +kernel)), (TB_mem 377 (by decide +kernel) (by decide +kernel)), (by decide +kernel)⟩
theorem lk_X6_142 : LkV RX6 142 yX1_isMissing cX1_isMissing 1 (some .boolean) 0 := ⟨(TB_mem 382 (by decide +kernel) (by decide +kernel)), (TB_mem 383 (by decide +kernel) (by decide +kernel)), (TB_mem 384 (by decide +kernel) (by decide +kernel)), (TB_mem 64 (by decide +kernel) (by decide +kernel)), (TB_mem 385 (by decide +kernel) (by decide +kernel)), (by decide +kernel)⟩
theorem lk_X6_146 : LkV RX6 146 yX1_countWet cX1_countWet 3 (some .int) 0 := ⟨(TB_mem 386 (by decide +kernel) (by decide +kernel)), (TB_mem 387 (by decide +kernel) (by decide +kernel)), (TB_mem 388 (by decide +kernel) (by decide +kernel)), (TB_mem 64 (by decide +kernel) (by decide +kernel)), (TB_mem 389 (by decide +kernel) (by decide +kernel)), (by decide +kernel)⟩
theorem lk_X6_150 : LkV RX6 150 yX1_lose cX1_lose 1 none 0 := ⟨(TB_mem 406 (by decide +kernel) (by decide +kernel)), (TB_mem 407 (by decide +kernel) (by decide +kernel)), (TB_mem 408 (by decide +kernel) (by decide +kernel)), (TB_mem 64 (by decide +kernel) (by decide +kernel)), (TB_mem 409 (by decide +kernel) (by decide +kernel)), (by decide +kernel)⟩
theorem lk_X6_152 : LkV RX6 152 yX1_dotAt cX1_dotAt 2 (some .int) 1 := ⟨(TB_mem 414 (by decide +kernel) (by decide +kernel)), (TB_mem 415 (by decide +kernel) (by decide +kernel)), (TB_mem 416 (by decide +kernel) (by decide +kernel)), (TB_mem 64 (by decide +kernel) (by decide +kernel)), (TB_mem 417 (by decide +kernel) (by decide +kernel)), (by decide +kernel)⟩
theorem lk_X6_155 : LkV RX6 155 yX1_has cX1_has 2 (some .boolean) 1 := ⟨(TB_mem 422 (by decide +kernel) (by decide +kernel)), (TB_mem 399 (by decide +kernel) (by decide +kernel)), (TB_mem 400 (by decide +kernel) (by decide +kernel)), (TB_mem 64 (by decide +kernel) (by decide +kernel)), (TB_mem 401 (by decide +kernel) (by decide +kernel)), (by decide +kernel)⟩
theorem lk_X6_156 : LkV RX6 156 yX1_tellPlace cX1_tellPlace 3 (some .int) 2 := ⟨(TB_mem 423 (by decide +kernel) (by decide +kernel)), (TB_mem 424 (by decide +kernel) (by decide +kernel)), (TB_mem 425 (by decide +kernel) (by decide +kernel)), (TB_mem 64 (by decide +kernel) (by decide +kernel)), (TB_mem 426 (by decide +kernel) (by decide +kernel)), (by decide +kernel)⟩
theorem lk_X6_163 : LkV RX6 163 yX1_isOfKind cX1_isOfKind 2 (some .boolean) 1 := ⟨(TB_mem 459 (by decide +kernel) (by decide +kernel)), (TB_mem 460 (by decide +kernel) (by decide +kernel)), (TB_mem 461 (by decide +kernel) (by decide +kernel)), (TB_mem 64 (by decide +kernel) (by decide +kernel)), (TB_mem 462 (by decide +kernel) (by decide +kernel)), (by decide +kernel)⟩
theorem lk_X6_166 : LkV RX6 166 yX1_countLines cX1_countLines 1 (some .int) 0 := ⟨(TB_mem 463 (by decide +kernel) (by decide +kernel)), (TB_mem 464 (by decide +kernel) (by decide +kernel)), (TB_mem 465 (by decide +kernel) (by decide +kernel)), (TB_mem 64 (by decide +kernel) (by decide +kernel)), (TB_mem 466 (by decide +kernel) (by decide +kernel)), (by decide +kernel)⟩
theorem lk_X6_169 : LkV RX6 169 yX1_countBright cX1_countBright 3 (some .int) 0 := ⟨(TB_mem 467 (by decide +kernel) (by decide +kernel)), (TB_mem 468 (by decide +kernel) (by decide +kernel)), (TB_mem 469 (by decide +kernel) (by decide +kernel)), (TB_mem 64 (by decide +kernel) (by decide +kernel)), (TB_mem 470 (by decide +kernel) (by decide +kernel)), (by decide +kernel)⟩
theorem lk_X6_172 : LkV RX6 172 yX1_countChoices cX1_countChoices 3 (some .int) 0 := ⟨(TB_mem 471 (by decide +kernel) (by decide +kernel)), (TB_mem 472 (by decide +kernel) (by decide +kernel)), (TB_mem 473 (by decide +kernel) (by decide +kernel)), (TB_mem 64 (by decide +kernel) (by decide +kernel)), (TB_mem 474 (by decide +kernel) (by decide +kernel)), (by decide +kernel)⟩
theorem lk_X6_175 : LkV RX6 175 yX1_countFalls cX1_countFalls 3 (some .int) 0 := ⟨(TB_mem 475 (by decide +kernel) (by decide +kernel)), (TB_mem 476 (by decide +kernel) (by decide +kernel)), (TB_mem 477 (by decide +kernel) (by decide +kernel)), (TB_mem 64 (by decide +kernel) (by decide +kernel)), (TB_mem 478 (by decide +kernel) (by decide +kernel)), (by decide +kernel)⟩
theorem lk_X6_178 : LkV RX6 178 yX3_orderBy cX3_orderBy 8 none 2 := ⟨(TB_mem 483 (by decide +kernel) (by decide +kernel)), (TB_mem 484 (by decide +kernel) (by decide +kernel)), (TB_mem 485 (by decide +kernel) (by decide +kernel)), (TB_mem 61 (by decide +kernel) (by decide +kernel)), (TB_mem 486 (by decide +kernel) (by decide +kernel)), (by decide +kernel)⟩
theorem lk_X6_181 : LkV RX6 181 yX3_placeAt cX3_placeAt 2 (some .int) 1 := ⟨(TB_mem 495 (by decide +kernel) (by decide +kernel)), (TB_mem 496 (by decide +kernel) (by decide +kernel)), (TB_mem 497 (by decide +kernel) (by decide +kernel)), (TB_mem 61 (by decide +kernel) (by decide +kernel)), (TB_mem 498 (by decide +kernel) (by decide +kernel)), (by decide +kernel)⟩
theorem lk_X6_184 : LkV RX6 184 yX0_readFrom cX0_readFrom 5 (some .int) 1 := ⟨(TB_mem 503 (by decide +kernel) (by decide +kernel)), (TB_mem 504 (by decide +kernel) (by decide +kernel)), (TB_mem 505 (by decide +kernel) (by decide +kernel)), (TB_mem 59 (by decide +kernel) (by decide +kernel)), (TB_mem 506 (by decide +kernel) (by decide +kernel)), (by decide +kernel)⟩
theorem lk_X6_188 : LkV RX6 188 yX6_isCode cX6_isCode 2 (some .boolean) 1 := ⟨(TB_mem 526 (by decide +kernel) (by decide +kernel)), (TB_mem 528 (by decide +kernel) (by decide +kernel)), (TB_mem 10 (by decide +kernel) (by decide +kernel)), (TB_mem 58 (by decide +kernel) (by decide +kernel)), (TB_mem 529 (by decide +kernel) (by decide +kernel)), (by decide +kernel)⟩
theorem lk_X6_191 : LkV RX6 191 yX0_take cX0_take 2 none 1 := ⟨(TB_mem 530 (by decide +kernel) (by decide +kernel)), (TB_mem 531 (by decide +kernel) (by decide +kernel)), (TB_mem 532 (by decide +kernel) (by decide +kernel)), (TB_mem 59 (by decide +kernel) (by decide +kernel)), (TB_mem 533 (by decide +kernel) (by decide +kernel)), (by decide +kernel)⟩
theorem lk_X6_198 : LkV RX6 198 yX0_isMissing cX0_isMissing 1 (some .boolean) 0 := ⟨(TB_mem 539 (by decide +kernel) (by decide +kernel)), (TB_mem 540 (by decide +kernel) (by decide +kernel)), (TB_mem 541 (by decide +kernel) (by decide +kernel)), (TB_mem 59 (by decide +kernel) (by decide +kernel)), (TB_mem 542 (by decide +kernel) (by decide +kernel)), (by decide +kernel)⟩
theorem lk_X6_199 : LkV RX6 199 yX0_has cX0_has 2 (some .boolean) 1 := ⟨(TB_mem 543 (by decide +kernel) (by decide +kernel)), (TB_mem 544 (by decide +kernel) (by decide +kernel)), (TB_mem 545 (by decide +kernel) (by decide +kernel)), (TB_mem 59 (by decide +kernel) (by decide +kernel)), (TB_mem 546 (by decide +kernel) (by decide +kernel)), (by decide +kernel)⟩
theorem lk_X6_200 : LkV RX6 200 yX0_lineAt cX0_lineAt 2 (some .int) 1 := ⟨(TB_mem 547 (by decide +kernel) (by decide +kernel)), (TB_mem 548 (by decide +kernel) (by decide +kernel)), (TB_mem 549 (by decide +kernel) (by decide +kernel)), (TB_mem 59 (by decide +kernel) (by decide +kernel)), (TB_mem 550 (by decide +kernel) (by decide +kernel)), (by decide +kernel)⟩
theorem lk_X6_203 : LkV RX6 203 yX0_countBlocks cX0_countBlocks 2 (some .int) 1 := ⟨(TB_mem 556 (by decide +kernel) (by decide +kernel)), (TB_mem 557 (by decide +kernel) (by decide +kernel)), (TB_mem 558 (by decide +kernel) (by decide +kernel)), (TB_mem 59 (by decide +kernel) (by decide +kernel)), (TB_mem 559 (by decide +kernel) (by decide +kernel)), (by decide +kernel)⟩
theorem lk_X6_207 : LkV RX6 207 yX6_plan cX6_plan 8 (some .int) 4 := ⟨(TB_mem 564 (by decide +kernel) (by decide +kernel)), (TB_mem 566 (by decide +kernel) (by decide +kernel)), (TB_mem 11 (by decide +kernel) (by decide +kernel)), (TB_mem 58 (by decide +kernel) (by decide +kernel)), (TB_mem 567 (by decide +kernel) (by decide +kernel)), (by decide +kernel)⟩
theorem lk_X6_211 : LkV RX6 211 yX3_flipAll cX3_flipAll 6 none 2 := ⟨(TB_mem 603 (by decide +kernel) (by decide +kernel)), (TB_mem 604 (by decide +kernel) (by decide +kernel)), (TB_mem 605 (by decide +kernel) (by decide +kernel)), (TB_mem 61 (by decide +kernel) (by decide +kernel)), (TB_mem 606 (by decide +kernel) (by decide +kernel)), (by decide +kernel)⟩
theorem lk_X6_215 : LkV RX6 215 yX3_countFlips cX3_countFlips 3 (some .int) 0 := ⟨(TB_mem 616 (by decide +kernel) (by decide +kernel)), (TB_mem 617 (by decide +kernel) (by decide +kernel)), (TB_mem 618 (by decide +kernel) (by decide +kernel)), (TB_mem 61 (by decide +kernel) (by decide +kernel)), (TB_mem 619 (by decide +kernel) (by decide +kernel)), (by decide +kernel)⟩
theorem lk_X6_218 : LkV RX6 218 yX3_bitsHeld cX3_bitsHeld 6 (some .int) 3 := ⟨(TB_mem 630 (by decide +kernel) (by decide +kernel)), (TB_mem 573 (by decide +kernel) (by decide +kernel)), (TB_mem 574 (by decide +kernel) (by decide +kernel)), (TB_mem 61 (by decide +kernel) (by decide +kernel)), (TB_mem 575 (by decide +kernel) (by decide +kernel)), (by decide +kernel)⟩
theorem lk_X6_222 : LkV RX6 222 yX3_weigh cX3_weigh 3 none 1 := ⟨(TB_mem 635 (by decide +kernel) (by decide +kernel)), (TB_mem 636 (by decide +kernel) (by decide +kernel)), (TB_mem 637 (by decide +kernel) (by decide +kernel)), (TB_mem 61 (by decide +kernel) (by decide +kernel)), (TB_mem 638 (by decide +kernel) (by decide +kernel)), (by decide +kernel)⟩
theorem lk_X6_225 : LkV RX6 225 yX3_sumOfCosts cX3_sumOfCosts 6 (some .int) 0 := ⟨(TB_mem 639 (by decide +kernel) (by decide +kernel)), (TB_mem 640 (by decide +kernel) (by decide +kernel)), (TB_mem 641 (by decide +kernel) (by decide +kernel)), (TB_mem 61 (by decide +kernel) (by decide +kernel)), (TB_mem 642 (by decide +kernel) (by decide +kernel)), (by decide +kernel)⟩
theorem lk_X6_228 : LkV RX6 228 yX3_countReached cX3_countReached 6 (some .int) 0 := ⟨(TB_mem 643 (by decide +kernel) (by decide +kernel)), (TB_mem 644 (by decide +kernel) (by decide +kernel)), (TB_mem 645 (by decide +kernel) (by decide +kernel)), (TB_mem 61 (by decide +kernel) (by decide +kernel)), (TB_mem 646 (by decide +kernel) (by decide +kernel)), (by decide +kernel)⟩
theorem lk_X6_231 : LkV RX6 231 yX2_become cX2_become 7 none 2 := ⟨(TB_mem 647 (by decide +kernel) (by decide +kernel)), (TB_mem 648 (by decide +kernel) (by decide +kernel)), (TB_mem 649 (by decide +kernel) (by decide +kernel)), (TB_mem 63 (by decide +kernel) (by decide +kernel)), (TB_mem 650 (by decide +kernel) (by decide +kernel)), (by decide +kernel)⟩
theorem lk_X6_235 : LkV RX6 235 yX3_mostCost cX3_mostCost 6 (some .int) 0 := ⟨(TB_mem 654 (by decide +kernel) (by decide +kernel)), (TB_mem 655 (by decide +kernel) (by decide +kernel)), (TB_mem 656 (by decide +kernel) (by decide +kernel)), (TB_mem 61 (by decide +kernel) (by decide +kernel)), (TB_mem 657 (by decide +kernel) (by decide +kernel)), (by decide +kernel)⟩
theorem lk_X6_238 : LkS RX6 238 yX6_nextOfKey cX6_nextOfKey 1 (some .int) 1 := ⟨(TB_mem 667 (by decide +kernel) (by decide +kernel)), (TB_mem 489 (by decide +kernel) (by decide +kernel)), (TB_mem 58 (by decide +kernel) (by decide +kernel)), (TB_mem 490 (by decide +kernel) (by decide +kernel)), (by decide +kernel)⟩
theorem lk_X6_241 : LkS RX6 241 yX6_bitsOfKey cX6_bitsOfKey 1 (some .int) 1 := ⟨(TB_mem 668 (by decide +kernel) (by decide +kernel)), (TB_mem 493 (by decide +kernel) (by decide +kernel)), (TB_mem 58 (by decide +kernel) (by decide +kernel)), (TB_mem 494 (by decide +kernel) (by decide +kernel)), (by decide +kernel)⟩
theorem lk_X6_244 : LkS RX6 244 yX6_powerOf cX6_powerOf 4 (some .int) 2 := ⟨(TB_mem 669 (by decide +kernel) (by decide +kernel)), (TB_mem 670 (by decide +kernel) (by decide +kernel)), (TB_mem 58 (by decide +kernel) (by decide +kernel)), (TB_mem 671 (by decide +kernel) (by decide +kernel)), (by decide +kernel)⟩
theorem lk_X6_247 : LkS RX6 247 yX6_areParts cX6_areParts 5 (some .boolean) 1 := ⟨(TB_mem 676 (by decide +kernel) (by decide +kernel)), (TB_mem 677 (by decide +kernel) (by decide +kernel)), (TB_mem 58 (by decide +kernel) (by decide +kernel)), (TB_mem 678 (by decide +kernel) (by decide +kernel)), (by decide +kernel)⟩
theorem lk_X6_251 : LkS RX6 251 yX6_weightOfPart cX6_weightOfPart 5 (some .int) 2 := ⟨(TB_mem 679 (by decide +kernel) (by decide +kernel)), (TB_mem 680 (by decide +kernel) (by decide +kernel)), (TB_mem 58 (by decide +kernel) (by decide +kernel)), (TB_mem 681 (by decide +kernel) (by decide +kernel)), (by decide +kernel)⟩
theorem lk_X6_255 : LkV RX6 255 yX4_signBy cX4_signBy 4 none 1 := ⟨(TB_mem 686 (by decide +kernel) (by decide +kernel)), (TB_mem 687 (by decide +kernel) (by decide +kernel)), (TB_mem 688 (by decide +kernel) (by decide +kernel)), (TB_mem 62 (by decide +kernel) (by decide +kernel)), (TB_mem 689 (by decide +kernel) (by decide +kernel)), (by decide +kernel)⟩
theorem lk_X6_259 : LkV RX6 259 yX4_signAt cX4_signAt 2 (some .int) 1 := ⟨(TB_mem 692 (by decide +kernel) (by decide +kernel)), (TB_mem 693 (by decide +kernel) (by decide +kernel)), (TB_mem 694 (by decide +kernel) (by decide +kernel)), (TB_mem 62 (by decide +kernel) (by decide +kernel)), (TB_mem 695 (by decide +kernel) (by decide +kernel)), (by decide +kernel)⟩
theorem lk_X6_262 : LkS RX6 262 yJ9_min_7cf53 cJ9_min_7cf53 2 (some .int) 2 := ⟨(TB_mem 696 (by decide +kernel) (by decide +kernel)), (TB_mem 254 (by decide +kernel) (by decide +kernel)), (TB_mem 66 (by decide +kernel) (by decide +kernel)), (TB_mem 255 (by decide +kernel) (by decide +kernel)), (by decide +kernel)⟩
theorem lk_X6_267 : LkS RX6 267 yJ9_max_7cf53 cJ9_max_7cf53 2 (some .int) 2 := ⟨(TB_mem 697 (by decide +kernel) (by decide +kernel)), (TB_mem 257 (by decide +kernel) (by decide +kernel)), (TB_mem 66 (by decide +kernel) (by decide +kernel)), (TB_mem 258 (by decide +kernel) (by decide +kernel)), (by decide +kernel)⟩
theorem lk_X6_270 : LkV RX6 270 yX1_setDot cX1_setDot 3 none 2 := ⟨(TB_mem 698 (by decide +kernel) (by decide +kernel)), (TB_mem 609 (by decide +kernel) (by decide +kernel)), (TB_mem 610 (by decide +kernel) (by decide +kernel)), (TB_mem 64 (by decide +kernel) (by decide +kernel)), (TB_mem 611 (by decide +kernel) (by decide +kernel)), (by decide +kernel)⟩
theorem lk_X6_273 : LkV RX6 273 yX4_sumOver cX4_sumOver 5 (some .int) 2 := ⟨(TB_mem 703 (by decide +kernel) (by decide +kernel)), (TB_mem 704 (by decide +kernel) (by decide +kernel)), (TB_mem 705 (by decide +kernel) (by decide +kernel)), (TB_mem 62 (by decide +kernel) (by decide +kernel)), (TB_mem 706 (by decide +kernel) (by decide +kernel)), (by decide +kernel)⟩
theorem lk_X6_277 : LkV RX6 277 yX4_countAsGreat cX4_countAsGreat 7 (some .long) 2 := ⟨(TB_mem 717 (by decide +kernel) (by decide +kernel)), (TB_mem 718 (by decide +kernel) (by decide +kernel)), (TB_mem 719 (by decide +kernel) (by decide +kernel)), (TB_mem 62 (by decide +kernel) (by decide +kernel)), (TB_mem 720 (by decide +kernel) (by decide +kernel)), (by decide +kernel)⟩
theorem lk_X6_281 : LkV RX6 281 yX1_takeSpan cX1_takeSpan 4 none 3 := ⟨(TB_mem 741 (by decide +kernel) (by decide +kernel)), (TB_mem 742 (by decide +kernel) (by decide +kernel)), (TB_mem 743 (by decide +kernel) (by decide +kernel)), (TB_mem 64 (by decide +kernel) (by decide +kernel)), (TB_mem 744 (by decide +kernel) (by decide +kernel)), (by decide +kernel)⟩
theorem lk_X6_285 : LkS RX6 285 yX6_isCopy cX6_isCopy 1 (some .boolean) 1 := ⟨(TB_mem 749 (by decide +kernel) (by decide +kernel)), (TB_mem 750 (by decide +kernel) (by decide +kernel)), (TB_mem 58 (by decide +kernel) (by decide +kernel)), (TB_mem 751 (by decide +kernel) (by decide +kernel)), (by decide +kernel)⟩
theorem lk_X6_288 : LkS RX6 288 yX6_wrongInNames cX6_wrongInNames 1 (some .int) 1 := ⟨(TB_mem 752 (by decide +kernel) (by decide +kernel)), (TB_mem 753 (by decide +kernel) (by decide +kernel)), (TB_mem 58 (by decide +kernel) (by decide +kernel)), (TB_mem 754 (by decide +kernel) (by decide +kernel)), (by decide +kernel)⟩
theorem lk_X6_291 : LkS RX6 291 yX6_canMake cX6_canMake 6 (some .boolean) 3 := ⟨(TB_mem 755 (by decide +kernel) (by decide +kernel)), (TB_mem 756 (by decide +kernel) (by decide +kernel)), (TB_mem 58 (by decide +kernel) (by decide +kernel)), (TB_mem 757 (by decide +kernel) (by decide +kernel)), (by decide +kernel)⟩
theorem lk_X6_295 : LkS RX6 295 yJ6_bitCount_0f7a4 cJ6_bitCount_0f7a4 1 (some .int) 1 := ⟨(TB_mem 762 (by decide +kernel) (by decide +kernel)), (TB_mem 621 (by decide +kernel) (by decide +kernel)), (TB_mem 69 (by decide +kernel) (by decide +kernel)), (TB_mem 622 (by decide +kernel) (by decide +kernel)), (by decide +kernel)⟩
theorem lk_X6_300 : LkV RX6 300 yX1_countInto cX1_countInto 4 none 1 := ⟨(TB_mem 771 (by decide +kernel) (by decide +kernel)), (TB_mem 772 (by decide +kernel) (by decide +kernel)), (TB_mem 773 (by decide +kernel) (by decide +kernel)), (TB_mem 64 (by decide +kernel) (by decide +kernel)), (TB_mem 774 (by decide +kernel) (by decide +kernel)), (by decide +kernel)⟩
theorem lk_X6_303 : LkS RX6 303 yX6_wrongInModels cX6_wrongInModels 2 (some .int) 2 := ⟨(TB_mem 778 (by decide +kernel) (by decide +kernel)), (TB_mem 779 (by decide +kernel) (by decide +kernel)), (TB_mem 58 (by decide +kernel) (by decide +kernel)), (TB_mem 780 (by decide +kernel) (by decide +kernel)), (by decide +kernel)⟩
theorem lk_X6_309 : LkS RX6 309 yX6_gapOf cX6_gapOf 5 (some .long) 2 := ⟨(TB_mem 782 (by decide +kernel) (by decide +kernel)), (TB_mem 783 (by decide +kernel) (by decide +kernel)), (TB_mem 58 (by decide +kernel) (by decide +kernel)), (TB_mem 784 (by decide +kernel) (by decide +kernel)), (by decide +kernel)⟩
theorem lk_X6_313 : LkS RX6 313 yX6_greaterShares cX6_greaterShares 4 (some .int) 2 := ⟨(TB_mem 795 (by decide +kernel) (by decide +kernel)), (TB_mem 796 (by decide +kernel) (by decide +kernel)), (TB_mem 58 (by decide +kernel) (by decide +kernel)), (TB_mem 797 (by decide +kernel) (by decide +kernel)), (by decide +kernel)⟩
theorem lk_X6_316 : LkV RX6 316 yX1_isFirstOfPair cX1_isFirstOfPair 3 (some .boolean) 1 := ⟨(TB_mem 806 (by decide +kernel) (by decide +kernel)), (TB_mem 807 (by decide +kernel) (by decide +kernel)), (TB_mem 808 (by decide +kernel) (by decide +kernel)), (TB_mem 64 (by decide +kernel) (by decide +kernel)), (TB_mem 809 (by decide +kernel) (by decide +kernel)), (by decide +kernel)⟩
theorem lk_X6_319 : LkV RX6 319 yX1_countDot cX1_countDot 4 (some .int) 1 := ⟨(TB_mem 810 (by decide +kernel) (by decide +kernel)), (TB_mem 811 (by decide +kernel) (by decide +kernel)), (TB_mem 812 (by decide +kernel) (by decide +kernel)), (TB_mem 64 (by decide +kernel) (by decide +kernel)), (TB_mem 813 (by decide +kernel) (by decide +kernel)), (by decide +kernel)⟩
theorem lk_X6_322 : LkV RX6 322 yX2_add cX2_add 5 none 2 := ⟨(TB_mem 814 (by decide +kernel) (by decide +kernel)), (TB_mem 815 (by decide +kernel) (by decide +kernel)), (TB_mem 816 (by decide +kernel) (by decide +kernel)), (TB_mem 63 (by decide +kernel) (by decide +kernel)), (TB_mem 817 (by decide +kernel) (by decide +kernel)), (by decide +kernel)⟩
theorem lk_X6_325 : LkV RX6 325 yX1_countLessBehind cX1_countLessBehind 4 (some .int) 1 := ⟨(TB_mem 823 (by decide +kernel) (by decide +kernel)), (TB_mem 824 (by decide +kernel) (by decide +kernel)), (TB_mem 825 (by decide +kernel) (by decide +kernel)), (TB_mem 64 (by decide +kernel) (by decide +kernel)), (TB_mem 826 (by decide +kernel) (by decide +kernel)), (by decide +kernel)⟩
theorem lk_X6_330 : LkS RX6 330 yX6_countOrders cX6_countOrders 3 (some .int) 1 := ⟨(TB_mem 832 (by decide +kernel) (by decide +kernel)), (TB_mem 833 (by decide +kernel) (by decide +kernel)), (TB_mem 58 (by decide +kernel) (by decide +kernel)), (TB_mem 834 (by decide +kernel) (by decide +kernel)), (by decide +kernel)⟩
theorem lk_X6_333 : LkV RX6 333 yX1_sort cX1_sort 4 none 0 := ⟨(TB_mem 835 (by decide +kernel) (by decide +kernel)), (TB_mem 836 (by decide +kernel) (by decide +kernel)), (TB_mem 837 (by decide +kernel) (by decide +kernel)), (TB_mem 64 (by decide +kernel) (by decide +kernel)), (TB_mem 838 (by decide +kernel) (by decide +kernel)), (by decide +kernel)⟩
theorem lk_X6_336 : LkV RX6 336 yX1_bringForward cX1_bringForward 4 none 2 := ⟨(TB_mem 843 (by decide +kernel) (by decide +kernel)), (TB_mem 840 (by decide +kernel) (by decide +kernel)), (TB_mem 841 (by decide +kernel) (by decide +kernel)), (TB_mem 64 (by decide +kernel) (by decide +kernel)), (TB_mem 842 (by decide +kernel) (by decide +kernel)), (by decide +kernel)⟩
theorem lk_X6_346 : LkS RX6 346 yX6_countThere cX6_countThere 6 (some .int) 1 := ⟨(TB_mem 860 (by decide +kernel) (by decide +kernel)), (TB_mem 861 (by decide +kernel) (by decide +kernel)), (TB_mem 58 (by decide +kernel) (by decide +kernel)), (TB_mem 862 (by decide +kernel) (by decide +kernel)), (by decide +kernel)⟩
theorem lk_X6_350 : LkV RX6 350 yX6_countCovers cX6_countCovers 7 (some .int) 1 := ⟨(TB_mem 863 (by decide +kernel) (by decide +kernel)), (TB_mem 865 (by decide +kernel) (by decide +kernel)), (TB_mem 16 (by decide +kernel) (by decide +kernel)), (TB_mem 58 (by decide +kernel) (by decide +kernel)), (TB_mem 866 (by decide +kernel) (by decide +kernel)), (by decide +kernel)⟩
theorem lk_X6_354 : LkV RX6 354 yX6_countCodes cX6_countCodes 6 (some .int) 0 := ⟨(TB_mem 867 (by decide +kernel) (by decide +kernel)), (TB_mem 869 (by decide +kernel) (by decide +kernel)), (TB_mem 17 (by decide +kernel) (by decide +kernel)), (TB_mem 58 (by decide +kernel) (by decide +kernel)), (TB_mem 870 (by decide +kernel) (by decide +kernel)), (by decide +kernel)⟩
theorem lk_X6_357 : LkV RX6 357 yX6_countDots cX6_countDots 6 (some .int) 0 := ⟨(TB_mem 871 (by decide +kernel) (by decide +kernel)), (TB_mem 873 (by decide +kernel) (by decide +kernel)), (TB_mem 18 (by decide +kernel) (by decide +kernel)), (TB_mem 58 (by decide +kernel) (by decide +kernel)), (TB_mem 874 (by decide +kernel) (by decide +kernel)), (by decide +kernel)⟩
theorem lk_X6_364 : LkV RX6 364 yX6_count cX6_count 2 (some .int) 1 := ⟨(TB_mem 889 (by decide +kernel) (by decide +kernel)), (TB_mem 857 (by decide +kernel) (by decide +kernel)), (TB_mem 858 (by decide +kernel) (by decide +kernel)), (TB_mem 58 (by decide +kernel) (by decide +kernel)), (TB_mem 859 (by decide +kernel) (by decide +kernel)), (by decide +kernel)⟩
theorem lk_X6_367 : LkV RX6 367 yX1_digestFrom cX1_digestFrom 7 (some .long) 1 := ⟨(TB_mem 890 (by decide +kernel) (by decide +kernel)), (TB_mem 891 (by decide +kernel) (by decide +kernel)), (TB_mem 892 (by decide +kernel) (by decide +kernel)), (TB_mem 64 (by decide +kernel) (by decide +kernel)), (TB_mem 893 (by decide +kernel) (by decide +kernel)), (by decide +kernel)⟩
theorem lk_X6_371 : LkV RX6 371 yX0_digestFrom cX0_digestFrom 6 (some .long) 1 := ⟨(TB_mem 897 (by decide +kernel) (by decide +kernel)), (TB_mem 898 (by decide +kernel) (by decide +kernel)), (TB_mem 899 (by decide +kernel) (by decide +kernel)), (TB_mem 59 (by decide +kernel) (by decide +kernel)), (TB_mem 900 (by decide +kernel) (by decide +kernel)), (by decide +kernel)⟩
theorem lk_X6_372 : LkV RX6 372 yX5_digestFrom cX5_digestFrom 6 (some .long) 1 := ⟨(TB_mem 903 (by decide +kernel) (by decide +kernel)), (TB_mem 904 (by decide +kernel) (by decide +kernel)), (TB_mem 905 (by decide +kernel) (by decide +kernel)), (TB_mem 60 (by decide +kernel) (by decide +kernel)), (TB_mem 906 (by decide +kernel) (by decide +kernel)), (by decide +kernel)⟩
theorem lk_X6_373 : LkV RX6 373 yX5_isWithin cX5_isWithin 4 (some .boolean) 2 := ⟨(TB_mem 341 (by decide +kernel) (by decide +kernel)), (TB_mem 342 (by decide +kernel) (by decide +kernel)), (TB_mem 343 (by decide +kernel) (by decide +kernel)), (TB_mem 60 (by decide +kernel) (by decide +kernel)), (TB_mem 344 (by decide +kernel) (by decide +kernel)), (by decide +kernel)⟩
theorem lk_X6_376 : LkV RX6 376 yX5_hasTwoAlike cX5_hasTwoAlike 3 (some .boolean) 0 := ⟨(TB_mem 345 (by decide +kernel) (by decide +kernel)), (TB_mem 346 (by decide +kernel) (by decide +kernel)), (TB_mem 347 (by decide +kernel) (by decide +kernel)), (TB_mem 60 (by decide +kernel) (by decide +kernel)), (TB_mem 348 (by decide +kernel) (by decide +kernel)), (by decide +kernel)⟩
theorem lk_X6_380 : LkV RX6 380 yX3_planAll cX3_planAll 9 (some .int) 3 := ⟨(TB_mem 568 (by decide +kernel) (by decide +kernel)), (TB_mem 569 (by decide +kernel) (by decide +kernel)), (TB_mem 570 (by decide +kernel) (by decide +kernel)), (TB_mem 61 (by decide +kernel) (by decide +kernel)), (TB_mem 571 (by decide +kernel) (by decide +kernel)), (by decide +kernel)⟩
theorem lk_X6_384 : LkS RX6 384 yX6_leadOf cX6_leadOf 3 (some .long) 3 := ⟨(TB_mem 785 (by decide +kernel) (by decide +kernel)), (TB_mem 786 (by decide +kernel) (by decide +kernel)), (TB_mem 58 (by decide +kernel) (by decide +kernel)), (TB_mem 787 (by decide +kernel) (by decide +kernel)), (by decide +kernel)⟩
theorem lk_X6_388 : LkS RX6 388 yJ9_abs_067f4 cJ9_abs_067f4 2 (some .long) 1 := ⟨(TB_mem 788 (by decide +kernel) (by decide +kernel)), (TB_mem 789 (by decide +kernel) (by decide +kernel)), (TB_mem 66 (by decide +kernel) (by decide +kernel)), (TB_mem 790 (by decide +kernel) (by decide +kernel)), (by decide +kernel)⟩
theorem lk_X6_73 : LkV RX6 73 yX6_isRow cX6_isRow 2 (some .boolean) 1 := ⟨(TB_mem 241 (by decide +kernel) (by decide +kernel)), (TB_mem 243 (by decide +kernel) (by decide +kernel)), (TB_mem 0 (by decide +kernel) (by decide +kernel)), (TB_mem 58 (by decide +kernel) (by decide +kernel)), (TB_mem 244 (by decide +kernel) (by decide +kernel)), (by decide +kernel)⟩
theorem lk_X6_77 : LkV RX6 77 yX6_found cX6_found 2 (some .int) 1 := ⟨(TB_mem 245 (by decide +kernel) (by decide +kernel)), (TB_mem 247 (by decide +kernel) (by decide +kernel)), (TB_mem 1 (by decide +kernel) (by decide +kernel)), (TB_mem 58 (by decide +kernel) (by decide +kernel)), (TB_mem 248 (by decide +kernel) (by decide +kernel)), (by decide +kernel)⟩
theorem lk_X6_81 : LkV RX6 81 yX5_renew cX5_renew 3 none 2 := ⟨(TB_mem 249 (by decide +kernel) (by decide +kernel)), (TB_mem 250 (by decide +kernel) (by decide +kernel)), (TB_mem 251 (by decide +kernel) (by decide +kernel)), (TB_mem 60 (by decide +kernel) (by decide +kernel)), (TB_mem 252 (by decide +kernel) (by decide +kernel)), (by decide +kernel)⟩
theorem lk_X6_85 : LkV RX6 85 yX5_isMissing cX5_isMissing 1 (some .boolean) 0 := ⟨(TB_mem 269 (by decide +kernel) (by decide +kernel)), (TB_mem 270 (by decide +kernel) (by decide +kernel)), (TB_mem 271 (by decide +kernel) (by decide +kernel)), (TB_mem 60 (by decide +kernel) (by decide +kernel)), (TB_mem 272 (by decide +kernel) (by decide +kernel)), (by decide +kernel)⟩
theorem lk_X6_89 : LkV RX6 89 yX5_has cX5_has 2 (some .boolean) 1 := ⟨(TB_mem 273 (by decide +kernel) (by decide +kernel)), (TB_mem 274 (by decide +kernel) (by decide +kernel)), (TB_mem 275 (by decide +kernel) (by decide +kernel)), (TB_mem 60 (by decide +kernel) (by decide +kernel)), (TB_mem 276 (by decide +kernel) (by decide +kernel)), (by decide +kernel)⟩
theorem lk_X6_92 : LkV RX6 92 yX5_get cX5_get 2 (some .int) 1 := ⟨(TB_mem 277 (by decide +kernel) (by decide +kernel)), (TB_mem 278 (by decide +kernel) (by decide +kernel)), (TB_mem 279 (by decide +kernel) (by decide +kernel)), (TB_mem 60 (by decide +kernel) (by decide +kernel)), (TB_mem 280 (by decide +kernel) (by decide +kernel)), (by decide +kernel)⟩
theorem lk_X6_95 : LkV RX6 95 yX5_set cX5_set 3 none 2 := ⟨(TB_mem 282 (by decide +kernel) (by decide +kernel)), (TB_mem 283 (by decide +kernel) (by decide +kernel)), (TB_mem 284 (by decide +kernel) (by decide +kernel)), (TB_mem 60 (by decide +kernel) (by decide +kernel)), (TB_mem 285 (by decide +kernel) (by decide +kernel)), (by decide +kernel)⟩
theorem lk_X6_98 : LkV RX6 98 yX5_lose cX5_lose 1 none 0 := ⟨(TB_mem 294 (by decide +kernel) (by decide +kernel)), (TB_mem 295 (by decide +kernel) (by decide +kernel)), (TB_mem 296 (by decide +kernel) (by decide +kernel)), (TB_mem 60 (by decide +kernel) (by decide +kernel)), (TB_mem 297 (by decide +kernel) (by decide +kernel)), (by decide +kernel)⟩
theorem lk_X7_100 : LkV RX7 100 yX7_meets cX7_meets 2 (some .int) 1 := ⟨(TB_mem 1022 (by decide +kernel) (by decide +kernel)), (TB_mem 1024 (by decide +kernel) (by decide +kernel)), (TB_mem 19 (by decide +kernel) (by decide +kernel)), (TB_mem 65 (by decide +kernel) (by decide +kernel)), (TB_mem 1025 (by decide +kernel) (by decide +kernel)), (by decide +kernel)⟩
theorem lk_X7_104 : LkS RX7 104 yX7_isText cX7_isText 1 (some .boolean) 1 := ⟨(TB_mem 1063 (by decide +kernel) (by decide +kernel)), (TB_mem 1064 (by decide +kernel) (by decide +kernel)), (TB_mem 65 (by decide +kernel) (by decide +kernel)), (TB_mem 1065 (by decide +kernel) (by decide +kernel)), (by decide +kernel)⟩
theorem lk_X7_107 : LkV RX7 107 yX7_askedRow cX7_askedRow 2 (some .int) 1 := ⟨(TB_mem 1030 (by decide +kernel) (by decide +kernel)), (TB_mem 1032 (by decide +kernel) (by decide +kernel)), (TB_mem 20 (by decide +kernel) (by decide +kernel)), (TB_mem 65 (by decide +kernel) (by decide +kernel)), (TB_mem 1033 (by decide +kernel) (by decide +kernel)), (by decide +kernel)⟩
theorem lk_X7_110 : LkV RX7 110 yX7_rowAt cX7_rowAt 3 (some .int) 2 := ⟨(TB_mem 1034 (by decide +kernel) (by decide +kernel)), (TB_mem 1036 (by decide +kernel) (by decide +kernel)), (TB_mem 21 (by decide +kernel) (by decide +kernel)), (TB_mem 65 (by decide +kernel) (by decide +kernel)), (TB_mem 1037 (by decide +kernel) (by decide +kernel)), (by decide +kernel)⟩
theorem lk_X7_114 : LkV RX7 114 yX7_ask cX7_ask 3 (some .int) 2 := ⟨(TB_mem 1038 (by decide +kernel) (by decide +kernel)), (TB_mem 1040 (by decide +kernel) (by decide +kernel)), (TB_mem 22 (by decide +kernel) (by decide +kernel)), (TB_mem 65 (by decide +kernel) (by decide +kernel)), (TB_mem 1041 (by decide +kernel) (by decide +kernel)), (by decide +kernel)⟩
theorem lk_X7_117 : LkV RX7 117 yX7_at cX7_at 4 (some .int) 2 := ⟨(TB_mem 1046 (by decide +kernel) (by decide +kernel)), (TB_mem 1027 (by decide +kernel) (by decide +kernel)), (TB_mem 1028 (by decide +kernel) (by decide +kernel)), (TB_mem 65 (by decide +kernel) (by decide +kernel)), (TB_mem 1029 (by decide +kernel) (by decide +kernel)), (by decide +kernel)⟩
theorem lk_X7_120 : LkV RX7 120 yX7_askedText cX7_askedText 2 (some .int) 1 := ⟨(TB_mem 1070 (by decide +kernel) (by decide +kernel)), (TB_mem 1072 (by decide +kernel) (by decide +kernel)), (TB_mem 23 (by decide +kernel) (by decide +kernel)), (TB_mem 65 (by decide +kernel) (by decide +kernel)), (TB_mem 1073 (by decide +kernel) (by decide +kernel)), (by decide +kernel)⟩
theorem lk_X7_123 : LkS RX7 123 yX7_isCover cX7_isCover 1 (some .boolean) 1 := ⟨(TB_mem 1078 (by decide +kernel) (by decide +kernel)), (TB_mem 1079 (by decide +kernel) (by decide +kernel)), (TB_mem 65 (by decide +kernel) (by decide +kernel)), (TB_mem 1080 (by decide +kernel) (by decide +kernel)), (by decide +kernel)⟩
theorem lk_X7_126 : LkV RX7 126 yX7_askedDots cX7_askedDots 6 (some .int) 2 := ⟨(TB_mem 1081 (by decide +kernel) (by decide +kernel)), (TB_mem 1083 (by decide +kernel) (by decide +kernel)), (TB_mem 24 (by decide +kernel) (by decide +kernel)), (TB_mem 65 (by decide +kernel) (by decide +kernel)), (TB_mem 1084 (by decide +kernel) (by decide +kernel)), (by decide +kernel)⟩
theorem lk_X7_130 : LkV RX7 130 yX7_come cX7_come 5 (some .int) 3 := ⟨(TB_mem 1085 (by decide +kernel) (by decide +kernel)), (TB_mem 1087 (by decide +kernel) (by decide +kernel)), (TB_mem 25 (by decide +kernel) (by decide +kernel)), (TB_mem 65 (by decide +kernel) (by decide +kernel)), (TB_mem 1088 (by decide +kernel) (by decide +kernel)), (by decide +kernel)⟩
theorem lk_X7_134 : LkS RX7 134 yX7_has cX7_has 2 (some .boolean) 2 := ⟨(TB_mem 1109 (by decide +kernel) (by decide +kernel)), (TB_mem 1110 (by decide +kernel) (by decide +kernel)), (TB_mem 65 (by decide +kernel) (by decide +kernel)), (TB_mem 1111 (by decide +kernel) (by decide +kernel)), (by decide +kernel)⟩
theorem lk_X7_138 : LkV RX7 138 yX7_askedCover cX7_askedCover 2 (some .int) 1 := ⟨(TB_mem 1101 (by decide +kernel) (by decide +kernel)), (TB_mem 1103 (by decide +kernel) (by decide +kernel)), (TB_mem 26 (by decide +kernel) (by decide +kernel)), (TB_mem 65 (by decide +kernel) (by decide +kernel)), (TB_mem 1104 (by decide +kernel) (by decide +kernel)), (by decide +kernel)⟩
theorem lk_X7_141 : LkV RX7 141 yX7_isWet cX7_isWet 3 (some .boolean) 2 := ⟨(TB_mem 1105 (by decide +kernel) (by decide +kernel)), (TB_mem 1107 (by decide +kernel) (by decide +kernel)), (TB_mem 27 (by decide +kernel) (by decide +kernel)), (TB_mem 65 (by decide +kernel) (by decide +kernel)), (TB_mem 1108 (by decide +kernel) (by decide +kernel)), (by decide +kernel)⟩
theorem lk_X7_144 : LkV RX7 144 yX7_row cX7_row 4 (some .int) 2 := ⟨(TB_mem 1120 (by decide +kernel) (by decide +kernel)), (TB_mem 1013 (by decide +kernel) (by decide +kernel)), (TB_mem 1014 (by decide +kernel) (by decide +kernel)), (TB_mem 65 (by decide +kernel) (by decide +kernel)), (TB_mem 1015 (by decide +kernel) (by decide +kernel)), (by decide +kernel)⟩
theorem lk_X7_147 : LkV RX7 147 yX7_dotAt cX7_dotAt 3 (some .int) 2 := ⟨(TB_mem 1121 (by decide +kernel) (by decide +kernel)), (TB_mem 1123 (by decide +kernel) (by decide +kernel)), (TB_mem 28 (by decide +kernel) (by decide +kernel)), (TB_mem 65 (by decide +kernel) (by decide +kernel)), (TB_mem 1124 (by decide +kernel) (by decide +kernel)), (by decide +kernel)⟩
theorem lk_X7_150 : LkS RX7 150 yX7_abs cX7_abs 1 (some .int) 1 := ⟨(TB_mem 1145 (by decide +kernel) (by decide +kernel)), (TB_mem 1146 (by decide +kernel) (by decide +kernel)), (TB_mem 65 (by decide +kernel) (by decide +kernel)), (TB_mem 1147 (by decide +kernel) (by decide +kernel)), (by decide +kernel)⟩
theorem lk_X7_153 : LkV RX7 153 yX7_bitOf cX7_bitOf 3 (some .int) 2 := ⟨(TB_mem 1133 (by decide +kernel) (by decide +kernel)), (TB_mem 1135 (by decide +kernel) (by decide +kernel)), (TB_mem 30 (by decide +kernel) (by decide +kernel)), (TB_mem 65 (by decide +kernel) (by decide +kernel)), (TB_mem 1136 (by decide +kernel) (by decide +kernel)), (by decide +kernel)⟩
theorem lk_X7_156 : LkV RX7 156 yX7_flipped cX7_flipped 5 (some .int) 2 := ⟨(TB_mem 1137 (by decide +kernel) (by decide +kernel)), (TB_mem 1139 (by decide +kernel) (by decide +kernel)), (TB_mem 31 (by decide +kernel) (by decide +kernel)), (TB_mem 65 (by decide +kernel) (by decide +kernel)), (TB_mem 1140 (by decide +kernel) (by decide +kernel)), (by decide +kernel)⟩
theorem lk_X7_159 : LkV RX7 159 yX7_priceOf cX7_priceOf 7 (some .int) 2 := ⟨(TB_mem 1141 (by decide +kernel) (by decide +kernel)), (TB_mem 1143 (by decide +kernel) (by decide +kernel)), (TB_mem 32 (by decide +kernel) (by decide +kernel)), (TB_mem 65 (by decide +kernel) (by decide +kernel)), (TB_mem 1144 (by decide +kernel) (by decide +kernel)), (by decide +kernel)⟩
theorem lk_X7_162 : LkV RX7 162 yX7_dotTells cX7_dotTells 4 (some .int) 3 := ⟨(TB_mem 1129 (by decide +kernel) (by decide +kernel)), (TB_mem 1131 (by decide +kernel) (by decide +kernel)), (TB_mem 29 (by decide +kernel) (by decide +kernel)), (TB_mem 65 (by decide +kernel) (by decide +kernel)), (TB_mem 1132 (by decide +kernel) (by decide +kernel)), (by decide +kernel)⟩
theorem lk_X7_169 : LkV RX7 169 yX7_draw cX7_draw 2 (some .int) 1 := ⟨(TB_mem 1164 (by decide +kernel) (by decide +kernel)), (TB_mem 1166 (by decide +kernel) (by decide +kernel)), (TB_mem 34 (by decide +kernel) (by decide +kernel)), (TB_mem 65 (by decide +kernel) (by decide +kernel)), (TB_mem 1167 (by decide +kernel) (by decide +kernel)), (by decide +kernel)⟩
theorem lk_X7_172 : LkV RX7 172 yX7_setOrder cX7_setOrder 6 none 2 := ⟨(TB_mem 1160 (by decide +kernel) (by decide +kernel)), (TB_mem 1162 (by decide +kernel) (by decide +kernel)), (TB_mem 33 (by decide +kernel) (by decide +kernel)), (TB_mem 65 (by decide +kernel) (by decide +kernel)), (TB_mem 1163 (by decide +kernel) (by decide +kernel)), (by decide +kernel)⟩
theorem lk_X7_176 : LkV RX7 176 yX7_byteAt cX7_byteAt 3 (some .int) 2 := ⟨(TB_mem 1177 (by decide +kernel) (by decide +kernel)), (TB_mem 1179 (by decide +kernel) (by decide +kernel)), (TB_mem 36 (by decide +kernel) (by decide +kernel)), (TB_mem 65 (by decide +kernel) (by decide +kernel)), (TB_mem 1180 (by decide +kernel) (by decide +kernel)), (by decide +kernel)⟩
theorem lk_X7_185 : LkS RX7 185 yX7_isSign cX7_isSign 1 (some .boolean) 1 := ⟨(TB_mem 1181 (by decide +kernel) (by decide +kernel)), (TB_mem 1182 (by decide +kernel) (by decide +kernel)), (TB_mem 65 (by decide +kernel) (by decide +kernel)), (TB_mem 1183 (by decide +kernel) (by decide +kernel)), (by decide +kernel)⟩
theorem lk_X7_188 : LkV RX7 188 yX7_reads cX7_reads 6 (some .int) 1 := ⟨(TB_mem 1173 (by decide +kernel) (by decide +kernel)), (TB_mem 1175 (by decide +kernel) (by decide +kernel)), (TB_mem 35 (by decide +kernel) (by decide +kernel)), (TB_mem 65 (by decide +kernel) (by decide +kernel)), (TB_mem 1176 (by decide +kernel) (by decide +kernel)), (by decide +kernel)⟩
theorem lk_X7_191 : LkS RX7 191 yX7_isCode cX7_isCode 1 (some .boolean) 1 := ⟨(TB_mem 1188 (by decide +kernel) (by decide +kernel)), (TB_mem 1189 (by decide +kernel) (by decide +kernel)), (TB_mem 65 (by decide +kernel) (by decide +kernel)), (TB_mem 1190 (by decide +kernel) (by decide +kernel)), (by decide +kernel)⟩
theorem lk_X7_194 : LkV RX7 194 yX7_askedCode cX7_askedCode 2 (some .int) 1 := ⟨(TB_mem 1195 (by decide +kernel) (by decide +kernel)), (TB_mem 1197 (by decide +kernel) (by decide +kernel)), (TB_mem 37 (by decide +kernel) (by decide +kernel)), (TB_mem 65 (by decide +kernel) (by decide +kernel)), (TB_mem 1198 (by decide +kernel) (by decide +kernel)), (by decide +kernel)⟩
theorem lk_X7_197 : LkV RX7 197 yX7_askedBoth cX7_askedBoth 3 (some .int) 2 := ⟨(TB_mem 1203 (by decide +kernel) (by decide +kernel)), (TB_mem 1205 (by decide +kernel) (by decide +kernel)), (TB_mem 38 (by decide +kernel) (by decide +kernel)), (TB_mem 65 (by decide +kernel) (by decide +kernel)), (TB_mem 1206 (by decide +kernel) (by decide +kernel)), (by decide +kernel)⟩
theorem lk_X7_200 : LkV RX7 200 yX7_blocksOf cX7_blocksOf 3 (some .int) 2 := ⟨(TB_mem 1207 (by decide +kernel) (by decide +kernel)), (TB_mem 1209 (by decide +kernel) (by decide +kernel)), (TB_mem 39 (by decide +kernel) (by decide +kernel)), (TB_mem 65 (by decide +kernel) (by decide +kernel)), (TB_mem 1210 (by decide +kernel) (by decide +kernel)), (by decide +kernel)⟩
theorem lk_X7_203 : LkS RX7 203 yX7_bits cX7_bits 3 (some .int) 1 := ⟨(TB_mem 1227 (by decide +kernel) (by decide +kernel)), (TB_mem 1228 (by decide +kernel) (by decide +kernel)), (TB_mem 65 (by decide +kernel) (by decide +kernel)), (TB_mem 1229 (by decide +kernel) (by decide +kernel)), (by decide +kernel)⟩
theorem lk_X7_206 : LkV RX7 206 yX7_sums cX7_sums 5 (some .int) 2 := ⟨(TB_mem 1223 (by decide +kernel) (by decide +kernel)), (TB_mem 1225 (by decide +kernel) (by decide +kernel)), (TB_mem 42 (by decide +kernel) (by decide +kernel)), (TB_mem 65 (by decide +kernel) (by decide +kernel)), (TB_mem 1226 (by decide +kernel) (by decide +kernel)), (by decide +kernel)⟩
theorem lk_X7_215 : LkV RX7 215 yX7_blockSet cX7_blockSet 6 (some .int) 3 := ⟨(TB_mem 1219 (by decide +kernel) (by decide +kernel)), (TB_mem 1221 (by decide +kernel) (by decide +kernel)), (TB_mem 41 (by decide +kernel) (by decide +kernel)), (TB_mem 65 (by decide +kernel) (by decide +kernel)), (TB_mem 1222 (by decide +kernel) (by decide +kernel)), (by decide +kernel)⟩
theorem lk_X7_218 : LkV RX7 218 yX7_hides cX7_hides 12 (some .boolean) 4 := ⟨(TB_mem 1230 (by decide +kernel) (by decide +kernel)), (TB_mem 1232 (by decide +kernel) (by decide +kernel)), (TB_mem 43 (by decide +kernel) (by decide +kernel)), (TB_mem 65 (by decide +kernel) (by decide +kernel)), (TB_mem 1233 (by decide +kernel) (by decide +kernel)), (by decide +kernel)⟩
theorem lk_X7_222 : LkV RX7 222 yX7_works cX7_works 10 (some .int) 4 := ⟨(TB_mem 1215 (by decide +kernel) (by decide +kernel)), (TB_mem 1217 (by decide +kernel) (by decide +kernel)), (TB_mem 40 (by decide +kernel) (by decide +kernel)), (TB_mem 65 (by decide +kernel) (by decide +kernel)), (TB_mem 1218 (by decide +kernel) (by decide +kernel)), (by decide +kernel)⟩
theorem lk_X7_226 : LkV RX7 226 yX7_setNeeds cX7_setNeeds 5 (some .int) 1 := ⟨(TB_mem 1246 (by decide +kernel) (by decide +kernel)), (TB_mem 1248 (by decide +kernel) (by decide +kernel)), (TB_mem 44 (by decide +kernel) (by decide +kernel)), (TB_mem 65 (by decide +kernel) (by decide +kernel)), (TB_mem 1249 (by decide +kernel) (by decide +kernel)), (by decide +kernel)⟩
theorem lk_X7_229 : LkV RX7 229 yX7_tell cX7_tell 12 (some .int) 3 := ⟨(TB_mem 1250 (by decide +kernel) (by decide +kernel)), (TB_mem 1252 (by decide +kernel) (by decide +kernel)), (TB_mem 45 (by decide +kernel) (by decide +kernel)), (TB_mem 65 (by decide +kernel) (by decide +kernel)), (TB_mem 1253 (by decide +kernel) (by decide +kernel)), (by decide +kernel)⟩
theorem lk_X7_233 : LkS RX7 233 yX7_inverse cX7_inverse 3 (some .int) 1 := ⟨(TB_mem 1266 (by decide +kernel) (by decide +kernel)), (TB_mem 1267 (by decide +kernel) (by decide +kernel)), (TB_mem 65 (by decide +kernel) (by decide +kernel)), (TB_mem 1268 (by decide +kernel) (by decide +kernel)), (by decide +kernel)⟩
theorem lk_X7_236 : LkV RX7 236 yX7_setSigns cX7_setSigns 4 none 2 := ⟨(TB_mem 1273 (by decide +kernel) (by decide +kernel)), (TB_mem 1275 (by decide +kernel) (by decide +kernel)), (TB_mem 46 (by decide +kernel) (by decide +kernel)), (TB_mem 65 (by decide +kernel) (by decide +kernel)), (TB_mem 1276 (by decide +kernel) (by decide +kernel)), (by decide +kernel)⟩
theorem lk_X7_239 : LkV RX7 239 yX7_sumBy cX7_sumBy 5 (some .int) 2 := ⟨(TB_mem 1281 (by decide +kernel) (by decide +kernel)), (TB_mem 1283 (by decide +kernel) (by decide +kernel)), (TB_mem 47 (by decide +kernel) (by decide +kernel)), (TB_mem 65 (by decide +kernel) (by decide +kernel)), (TB_mem 1284 (by decide +kernel) (by decide +kernel)), (by decide +kernel)⟩
theorem lk_X7_244 : LkS RX7 244 yX7_isName cX7_isName 1 (some .boolean) 1 := ⟨(TB_mem 1302 (by decide +kernel) (by decide +kernel)), (TB_mem 1303 (by decide +kernel) (by decide +kernel)), (TB_mem 65 (by decide +kernel) (by decide +kernel)), (TB_mem 1304 (by decide +kernel) (by decide +kernel)), (by decide +kernel)⟩
theorem lk_X7_247 : LkV RX7 247 yX7_askedNames cX7_askedNames 5 (some .int) 1 := ⟨(TB_mem 1305 (by decide +kernel) (by decide +kernel)), (TB_mem 1307 (by decide +kernel) (by decide +kernel)), (TB_mem 48 (by decide +kernel) (by decide +kernel)), (TB_mem 65 (by decide +kernel) (by decide +kernel)), (TB_mem 1308 (by decide +kernel) (by decide +kernel)), (by decide +kernel)⟩
theorem lk_X7_250 : LkV RX7 250 yX7_canMake cX7_canMake 7 (some .boolean) 3 := ⟨(TB_mem 1309 (by decide +kernel) (by decide +kernel)), (TB_mem 1311 (by decide +kernel) (by decide +kernel)), (TB_mem 49 (by decide +kernel) (by decide +kernel)), (TB_mem 65 (by decide +kernel) (by decide +kernel)), (TB_mem 1312 (by decide +kernel) (by decide +kernel)), (by decide +kernel)⟩
theorem lk_X7_253 : LkV RX7 253 yX7_askedCounts cX7_askedCounts 5 (some .int) 1 := ⟨(TB_mem 1325 (by decide +kernel) (by decide +kernel)), (TB_mem 1327 (by decide +kernel) (by decide +kernel)), (TB_mem 50 (by decide +kernel) (by decide +kernel)), (TB_mem 65 (by decide +kernel) (by decide +kernel)), (TB_mem 1328 (by decide +kernel) (by decide +kernel)), (by decide +kernel)⟩
theorem lk_X7_256 : LkV RX7 256 yX7_setCounted cX7_setCounted 3 none 1 := ⟨(TB_mem 1329 (by decide +kernel) (by decide +kernel)), (TB_mem 1331 (by decide +kernel) (by decide +kernel)), (TB_mem 51 (by decide +kernel) (by decide +kernel)), (TB_mem 65 (by decide +kernel) (by decide +kernel)), (TB_mem 1332 (by decide +kernel) (by decide +kernel)), (by decide +kernel)⟩
theorem lk_X7_262 : LkV RX7 262 yX7_dotsInto cX7_dotsInto 5 (some .int) 1 := ⟨(TB_mem 1354 (by decide +kernel) (by decide +kernel)), (TB_mem 1356 (by decide +kernel) (by decide +kernel)), (TB_mem 52 (by decide +kernel) (by decide +kernel)), (TB_mem 65 (by decide +kernel) (by decide +kernel)), (TB_mem 1357 (by decide +kernel) (by decide +kernel)), (by decide +kernel)⟩
theorem lk_X7_265 : LkV RX7 265 yX7_counts cX7_counts 4 (some .int) 1 := ⟨(TB_mem 1374 (by decide +kernel) (by decide +kernel)), (TB_mem 1376 (by decide +kernel) (by decide +kernel)), (TB_mem 53 (by decide +kernel) (by decide +kernel)), (TB_mem 65 (by decide +kernel) (by decide +kernel)), (TB_mem 1377 (by decide +kernel) (by decide +kernel)), (by decide +kernel)⟩
theorem lk_X7_273 : LkV RX7 273 yX7_mix cX7_mix 2 none 1 := ⟨(TB_mem 1391 (by decide +kernel) (by decide +kernel)), (TB_mem 1393 (by decide +kernel) (by decide +kernel)), (TB_mem 54 (by decide +kernel) (by decide +kernel)), (TB_mem 65 (by decide +kernel) (by decide +kernel)), (TB_mem 1394 (by decide +kernel) (by decide +kernel)), (by decide +kernel)⟩
theorem lk_X7_278 : LkV RX7 278 yX7_mixCover cX7_mixCover 4 none 1 := ⟨(TB_mem 1396 (by decide +kernel) (by decide +kernel)), (TB_mem 1398 (by decide +kernel) (by decide +kernel)), (TB_mem 55 (by decide +kernel) (by decide +kernel)), (TB_mem 65 (by decide +kernel) (by decide +kernel)), (TB_mem 1399 (by decide +kernel) (by decide +kernel)), (by decide +kernel)⟩
theorem lk_X7_281 : LkV RX7 281 yX7_mixCode cX7_mixCode 3 none 1 := ⟨(TB_mem 1400 (by decide +kernel) (by decide +kernel)), (TB_mem 1402 (by decide +kernel) (by decide +kernel)), (TB_mem 56 (by decide +kernel) (by decide +kernel)), (TB_mem 65 (by decide +kernel) (by decide +kernel)), (TB_mem 1403 (by decide +kernel) (by decide +kernel)), (by decide +kernel)⟩
theorem lk_X7_92 : LkS RX7 92 yX7_in cX7_in 3 (some .boolean) 3 := ⟨(TB_mem 1019 (by decide +kernel) (by decide +kernel)), (TB_mem 1020 (by decide +kernel) (by decide +kernel)), (TB_mem 65 (by decide +kernel) (by decide +kernel)), (TB_mem 1021 (by decide +kernel) (by decide +kernel)), (by decide +kernel)⟩
theorem lk_X7_96 : LkS RX7 96 yX7_isRow cX7_isRow 1 (some .boolean) 1 := ⟨(TB_mem 1016 (by decide +kernel) (by decide +kernel)), (TB_mem 1017 (by decide +kernel) (by decide +kernel)), (TB_mem 65 (by decide +kernel) (by decide +kernel)), (TB_mem 1018 (by decide +kernel) (by decide +kernel)), (by decide +kernel)⟩
