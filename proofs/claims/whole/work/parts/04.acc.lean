theorem pUX0 : ∀ w ∈ u_ws RX0 TX0 10, w ∈ pz_L := by
  intro w hw
  obtain ⟨k, hk, rfl⟩ := List.mem_map.mp hw
  have hk := List.mem_range.mp hk
  match k, hk with
    | 0, _ => exact (pz_w1 197 rfl rfl)
    | 1, _ => exact (pz_w1 199 rfl rfl)
    | 2, _ => exact (pz_w1 201 rfl rfl)
    | 3, _ => exact (pz_w1 203 rfl rfl)
    | 4, _ => exact (pz_w1 205 rfl rfl)
    | 5, _ => exact (pz_w1 207 rfl rfl)
    | 6, _ => exact (pz_w1 209 rfl rfl)
    | 7, _ => exact (pz_w1 211 rfl rfl)
    | 8, _ => exact (pz_w1 213 rfl rfl)
    | 9, _ => exact (pz_w1 215 rfl rfl)
theorem pUX1 : ∀ w ∈ u_ws RX1 TX1 8, w ∈ pz_L := by
  intro w hw
  obtain ⟨k, hk, rfl⟩ := List.mem_map.mp hw
  have hk := List.mem_range.mp hk
  match k, hk with
    | 0, _ => exact (pz_w1 94 rfl rfl)
    | 1, _ => exact (pz_w1 96 rfl rfl)
    | 2, _ => exact (pz_w1 98 rfl rfl)
    | 3, _ => exact (pz_w1 100 rfl rfl)
    | 4, _ => exact (pz_w1 102 rfl rfl)
    | 5, _ => exact (pz_w1 104 rfl rfl)
    | 6, _ => exact (pz_w1 106 rfl rfl)
    | 7, _ => exact (pz_w1 108 rfl rfl)
theorem pUX2 : ∀ w ∈ u_ws RX2 TX2 4, w ∈ pz_L := by
  intro w hw
  obtain ⟨k, hk, rfl⟩ := List.mem_map.mp hw
  have hk := List.mem_range.mp hk
  match k, hk with
    | 0, _ => exact (pz_w1 169 rfl rfl)
    | 1, _ => exact (pz_w1 171 rfl rfl)
    | 2, _ => exact (pz_w1 173 rfl rfl)
    | 3, _ => exact (pz_w1 175 rfl rfl)
theorem pUX3 : ∀ w ∈ u_ws RX3 TX3 3, w ∈ pz_L := by
  intro w hw
  obtain ⟨k, hk, rfl⟩ := List.mem_map.mp hw
  have hk := List.mem_range.mp hk
  match k, hk with
    | 0, _ => exact (pz_w1 143 rfl rfl)
    | 1, _ => exact (pz_w1 145 rfl rfl)
    | 2, _ => exact (pz_w1 147 rfl rfl)
theorem pUX4 : ∀ w ∈ u_ws RX4 TX4 3, w ∈ pz_L := by
  intro w hw
  obtain ⟨k, hk, rfl⟩ := List.mem_map.mp hw
  have hk := List.mem_range.mp hk
  match k, hk with
    | 0, _ => exact (pz_w1 127 rfl rfl)
    | 1, _ => exact (pz_w1 129 rfl rfl)
    | 2, _ => exact (pz_w1 131 rfl rfl)
theorem pUX5 : ∀ w ∈ u_ws RX5 TX5 10, w ∈ pz_L := by
  intro w hw
  obtain ⟨k, hk, rfl⟩ := List.mem_map.mp hw
  have hk := List.mem_range.mp hk
  match k, hk with
    | 0, _ => exact (pz_w1 228 rfl rfl)
    | 1, _ => exact (pz_w1 230 rfl rfl)
    | 2, _ => exact (pz_w1 232 rfl rfl)
    | 3, _ => exact (pz_w1 234 rfl rfl)
    | 4, _ => exact (pz_w1 236 rfl rfl)
    | 5, _ => exact (pz_w1 238 rfl rfl)
    | 6, _ => exact (pz_w2 0 rfl rfl)
    | 7, _ => exact (pz_w2 2 rfl rfl)
    | 8, _ => exact (pz_w2 4 rfl rfl)
    | 9, _ => exact (pz_w2 6 rfl rfl)
theorem pUX6 : ∀ w ∈ u_ws RX6 TX6 34, w ∈ pz_L := by
  intro w hw
  obtain ⟨k, hk, rfl⟩ := List.mem_map.mp hw
  have hk := List.mem_range.mp hk
  match k, hk with
    | 0, _ => exact (pz_w4 0 rfl rfl)
    | 1, _ => exact (pz_w4 2 rfl rfl)
    | 2, _ => exact (pz_w4 4 rfl rfl)
    | 3, _ => exact (pz_w4 6 rfl rfl)
    | 4, _ => exact (pz_w4 8 rfl rfl)
    | 5, _ => exact (pz_w4 10 rfl rfl)
    | 6, _ => exact (pz_w4 12 rfl rfl)
    | 7, _ => exact (pz_w4 14 rfl rfl)
    | 8, _ => exact (pz_w4 16 rfl rfl)
    | 9, _ => exact (pz_w4 18 rfl rfl)
    | 10, _ => exact (pz_w4 20 rfl rfl)
    | 11, _ => exact (pz_w4 22 rfl rfl)
    | 12, _ => exact (pz_w4 24 rfl rfl)
    | 13, _ => exact (pz_w4 26 rfl rfl)
    | 14, _ => exact (pz_w4 28 rfl rfl)
    | 15, _ => exact (pz_w4 30 rfl rfl)
    | 16, _ => exact (pz_w4 32 rfl rfl)
    | 17, _ => exact (pz_w4 34 rfl rfl)
    | 18, _ => exact (pz_w4 36 rfl rfl)
    | 19, _ => exact (pz_w4 38 rfl rfl)
    | 20, _ => exact (pz_w4 40 rfl rfl)
    | 21, _ => exact (pz_w4 42 rfl rfl)
    | 22, _ => exact (pz_w4 44 rfl rfl)
    | 23, _ => exact (pz_w4 46 rfl rfl)
    | 24, _ => exact (pz_w4 48 rfl rfl)
    | 25, _ => exact (pz_w4 50 rfl rfl)
    | 26, _ => exact (pz_w4 52 rfl rfl)
    | 27, _ => exact (pz_w4 54 rfl rfl)
    | 28, _ => exact (pz_w4 56 rfl rfl)
    | 29, _ => exact (pz_w4 58 rfl rfl)
    | 30, _ => exact (pz_w4 60 rfl rfl)
    | 31, _ => exact (pz_w4 62 rfl rfl)
    | 32, _ => exact (pz_w4 64 rfl rfl)
    | 33, _ => exact (pz_w4 66 rfl rfl)
theorem pFX5_10 : pz_F RX5 10 5 0 := ⟨RX5, TX5, 10, rfl, pUX5, by decide, (pz_w1 218 rfl rfl)⟩
theorem pFX5_19 : pz_F RX5 19 5 1 := ⟨RX5, TX5, 10, rfl, pUX5, by decide, (pz_w1 219 rfl rfl)⟩
theorem pFX5_28 : pz_F RX5 28 5 2 := ⟨RX5, TX5, 10, rfl, pUX5, by decide, (pz_w1 220 rfl rfl)⟩
theorem pFX5_37 : pz_F RX5 37 5 3 := ⟨RX5, TX5, 10, rfl, pUX5, by decide, (pz_w1 221 rfl rfl)⟩
theorem pFX5_46 : pz_F RX5 46 5 4 := ⟨RX5, TX5, 10, rfl, pUX5, by decide, (pz_w1 222 rfl rfl)⟩
theorem pFX5_50 : pz_F RX5 50 5 5 := ⟨RX5, TX5, 10, rfl, pUX5, by decide, (pz_w1 223 rfl rfl)⟩
theorem pFX5_53 : pz_F RX5 53 5 6 := ⟨RX5, TX5, 10, rfl, pUX5, by decide, (pz_w1 224 rfl rfl)⟩
theorem pFX5_56 : pz_F RX5 56 5 7 := ⟨RX5, TX5, 10, rfl, pUX5, by decide, (pz_w1 225 rfl rfl)⟩
theorem pFX5_60 : pz_F RX5 60 5 8 := ⟨RX5, TX5, 10, rfl, pUX5, by decide, (pz_w1 226 rfl rfl)⟩
theorem pFX5_63 : pz_F RX5 63 5 9 := ⟨RX5, TX5, 10, rfl, pUX5, by decide, (pz_w1 227 rfl rfl)⟩
theorem pFX0_9 : pz_F RX0 9 0 2 := ⟨RX0, TX0, 10, rfl, pUX0, by decide, (pz_w1 186 rfl rfl)⟩
theorem pFX0_15 : pz_F RX0 15 0 3 := ⟨RX0, TX0, 10, rfl, pUX0, by decide, (pz_w1 187 rfl rfl)⟩
theorem pFX0_18 : pz_F RX0 18 0 4 := ⟨RX0, TX0, 10, rfl, pUX0, by decide, (pz_w1 189 rfl rfl)⟩
theorem pFX0_21 : pz_F RX0 21 0 5 := ⟨RX0, TX0, 10, rfl, pUX0, by decide, (pz_w1 190 rfl rfl)⟩
theorem pFX0_24 : pz_F RX0 24 0 6 := ⟨RX0, TX0, 10, rfl, pUX0, by decide, (pz_w1 191 rfl rfl)⟩
theorem pFX0_27 : pz_F RX0 27 0 0 := ⟨RX0, TX0, 10, rfl, pUX0, by decide, (pz_w1 184 rfl rfl)⟩
theorem pFX0_37 : pz_F RX0 37 0 1 := ⟨RX0, TX0, 10, rfl, pUX0, by decide, (pz_w1 185 rfl rfl)⟩
theorem pFX0_38 : pz_F RX0 38 0 9 := ⟨RX0, TX0, 10, rfl, pUX0, by decide, (pz_w1 195 rfl rfl)⟩
theorem pFX0_57 : pz_F RX0 57 0 7 := ⟨RX0, TX0, 10, rfl, pUX0, by decide, (pz_w1 192 rfl rfl)⟩
theorem pFX0_91 : pz_F RX0 91 0 8 := ⟨RX0, TX0, 10, rfl, pUX0, by decide, (pz_w1 193 rfl rfl)⟩
theorem pFX1_9 : pz_F RX1 9 1 3 := ⟨RX1, TX1, 8, rfl, pUX1, by decide, (pz_w1 85 rfl rfl)⟩
theorem pFX1_15 : pz_F RX1 15 1 4 := ⟨RX1, TX1, 8, rfl, pUX1, by decide, (pz_w1 86 rfl rfl)⟩
theorem pFX1_18 : pz_F RX1 18 1 5 := ⟨RX1, TX1, 8, rfl, pUX1, by decide, (pz_w1 89 rfl rfl)⟩
theorem pFX1_21 : pz_F RX1 21 1 6 := ⟨RX1, TX1, 8, rfl, pUX1, by decide, (pz_w1 92 rfl rfl)⟩
theorem pFX1_24 : pz_F RX1 24 1 7 := ⟨RX1, TX1, 8, rfl, pUX1, by decide, (pz_w1 93 rfl rfl)⟩
theorem pFX1_34 : pz_F RX1 34 1 0 := ⟨RX1, TX1, 8, rfl, pUX1, by decide, (pz_w1 78 rfl rfl)⟩
theorem pFX1_38 : pz_F RX1 38 1 1 := ⟨RX1, TX1, 8, rfl, pUX1, by decide, (pz_w1 80 rfl rfl)⟩
theorem pFX1_45 : pz_F RX1 45 1 2 := ⟨RX1, TX1, 8, rfl, pUX1, by decide, (pz_w1 83 rfl rfl)⟩
theorem pFX2_9 : pz_F RX2 9 2 0 := ⟨RX2, TX2, 4, rfl, pUX2, by decide, (pz_w1 159 rfl rfl)⟩
theorem pFX2_21 : pz_F RX2 21 2 1 := ⟨RX2, TX2, 4, rfl, pUX2, by decide, (pz_w1 161 rfl rfl)⟩
theorem pFX2_25 : pz_F RX2 25 2 3 := ⟨RX2, TX2, 4, rfl, pUX2, by decide, (pz_w1 167 rfl rfl)⟩
theorem pFX2_32 : pz_F RX2 32 2 2 := ⟨RX2, TX2, 4, rfl, pUX2, by decide, (pz_w1 165 rfl rfl)⟩
theorem pFX3_9 : pz_F RX3 9 3 2 := ⟨RX3, TX3, 3, rfl, pUX3, by decide, (pz_w1 142 rfl rfl)⟩
theorem pFX3_15 : pz_F RX3 15 3 0 := ⟨RX3, TX3, 3, rfl, pUX3, by decide, (pz_w1 140 rfl rfl)⟩
theorem pFX3_19 : pz_F RX3 19 3 1 := ⟨RX3, TX3, 3, rfl, pUX3, by decide, (pz_w1 141 rfl rfl)⟩
theorem pFX4_9 : pz_F RX4 9 4 2 := ⟨RX4, TX4, 3, rfl, pUX4, by decide, (pz_w1 124 rfl rfl)⟩
theorem pFX4_15 : pz_F RX4 15 4 0 := ⟨RX4, TX4, 3, rfl, pUX4, by decide, (pz_w1 118 rfl rfl)⟩
theorem pFX4_19 : pz_F RX4 19 4 1 := ⟨RX4, TX4, 3, rfl, pUX4, by decide, (pz_w1 121 rfl rfl)⟩
theorem pFX6_1 : pz_F RX6 1 6 1 := ⟨RX6, TX6, 34, rfl, pUX6, by decide, (pz_w3 207 rfl rfl)⟩
theorem pFX6_7 : pz_F RX6 7 6 0 := ⟨RX6, TX6, 34, rfl, pUX6, by decide, (pz_w3 206 rfl rfl)⟩
theorem pFX6_14 : pz_F RX6 14 6 2 := ⟨RX6, TX6, 34, rfl, pUX6, by decide, (pz_w3 208 rfl rfl)⟩
theorem pFX6_23 : pz_F RX6 23 6 3 := ⟨RX6, TX6, 34, rfl, pUX6, by decide, (pz_w3 209 rfl rfl)⟩
theorem pFX6_27 : pz_F RX6 27 6 7 := ⟨RX6, TX6, 34, rfl, pUX6, by decide, (pz_w3 213 rfl rfl)⟩
theorem pFX6_58 : pz_F RX6 58 6 6 := ⟨RX6, TX6, 34, rfl, pUX6, by decide, (pz_w3 212 rfl rfl)⟩
theorem pFX6_61 : pz_F RX6 61 6 9 := ⟨RX6, TX6, 34, rfl, pUX6, by decide, (pz_w3 215 rfl rfl)⟩
theorem pFX6_64 : pz_F RX6 64 6 10 := ⟨RX6, TX6, 34, rfl, pUX6, by decide, (pz_w3 216 rfl rfl)⟩
theorem pFX6_67 : pz_F RX6 67 6 11 := ⟨RX6, TX6, 34, rfl, pUX6, by decide, (pz_w3 217 rfl rfl)⟩
theorem pFX6_70 : pz_F RX6 70 6 12 := ⟨RX6, TX6, 34, rfl, pUX6, by decide, (pz_w3 218 rfl rfl)⟩
theorem pFX6_73 : pz_F RX6 73 6 13 := ⟨RX6, TX6, 34, rfl, pUX6, by decide, (pz_w3 219 rfl rfl)⟩
theorem pFX6_76 : pz_F RX6 76 6 15 := ⟨RX6, TX6, 34, rfl, pUX6, by decide, (pz_w3 221 rfl rfl)⟩
theorem pFX6_79 : pz_F RX6 79 6 16 := ⟨RX6, TX6, 34, rfl, pUX6, by decide, (pz_w3 222 rfl rfl)⟩
theorem pFX6_82 : pz_F RX6 82 6 17 := ⟨RX6, TX6, 34, rfl, pUX6, by decide, (pz_w3 223 rfl rfl)⟩
theorem pFX6_85 : pz_F RX6 85 6 18 := ⟨RX6, TX6, 34, rfl, pUX6, by decide, (pz_w3 224 rfl rfl)⟩
theorem pFX6_88 : pz_F RX6 88 6 19 := ⟨RX6, TX6, 34, rfl, pUX6, by decide, (pz_w3 225 rfl rfl)⟩
theorem pFX6_91 : pz_F RX6 91 6 25 := ⟨RX6, TX6, 34, rfl, pUX6, by decide, (pz_w3 231 rfl rfl)⟩
theorem pFX6_94 : pz_F RX6 94 6 26 := ⟨RX6, TX6, 34, rfl, pUX6, by decide, (pz_w3 232 rfl rfl)⟩
theorem pFX6_97 : pz_F RX6 97 6 27 := ⟨RX6, TX6, 34, rfl, pUX6, by decide, (pz_w3 233 rfl rfl)⟩
theorem pFX6_100 : pz_F RX6 100 6 28 := ⟨RX6, TX6, 34, rfl, pUX6, by decide, (pz_w3 234 rfl rfl)⟩
theorem pFX6_103 : pz_F RX6 103 6 29 := ⟨RX6, TX6, 34, rfl, pUX6, by decide, (pz_w3 235 rfl rfl)⟩
theorem pFX6_106 : pz_F RX6 106 6 30 := ⟨RX6, TX6, 34, rfl, pUX6, by decide, (pz_w3 236 rfl rfl)⟩
theorem pFX6_109 : pz_F RX6 109 6 31 := ⟨RX6, TX6, 34, rfl, pUX6, by decide, (pz_w3 237 rfl rfl)⟩
theorem pFX6_130 : pz_F RX6 130 6 5 := ⟨RX6, TX6, 34, rfl, pUX6, by decide, (pz_w3 211 rfl rfl)⟩
theorem pFX6_133 : pz_F RX6 133 6 4 := ⟨RX6, TX6, 34, rfl, pUX6, by decide, (pz_w3 210 rfl rfl)⟩
theorem pFX6_150 : pz_F RX6 150 6 8 := ⟨RX6, TX6, 34, rfl, pUX6, by decide, (pz_w3 214 rfl rfl)⟩
theorem pFX6_174 : pz_F RX6 174 6 14 := ⟨RX6, TX6, 34, rfl, pUX6, by decide, (pz_w3 220 rfl rfl)⟩
theorem pFX6_199 : pz_F RX6 199 6 32 := ⟨RX6, TX6, 34, rfl, pUX6, by decide, (pz_w3 238 rfl rfl)⟩
theorem pFX6_202 : pz_F RX6 202 6 33 := ⟨RX6, TX6, 34, rfl, pUX6, by decide, (pz_w3 239 rfl rfl)⟩
theorem pFX6_226 : pz_F RX6 226 6 20 := ⟨RX6, TX6, 34, rfl, pUX6, by decide, (pz_w3 226 rfl rfl)⟩
theorem pFX6_229 : pz_F RX6 229 6 21 := ⟨RX6, TX6, 34, rfl, pUX6, by decide, (pz_w3 227 rfl rfl)⟩
theorem pFX6_232 : pz_F RX6 232 6 22 := ⟨RX6, TX6, 34, rfl, pUX6, by decide, (pz_w3 228 rfl rfl)⟩
theorem pFX6_235 : pz_F RX6 235 6 23 := ⟨RX6, TX6, 34, rfl, pUX6, by decide, (pz_w3 229 rfl rfl)⟩
theorem pFX6_238 : pz_F RX6 238 6 24 := ⟨RX6, TX6, 34, rfl, pUX6, by decide, (pz_w3 230 rfl rfl)⟩
theorem pFX5_78 : pz_FN RX5 78 1 2 := ⟨RX1, TX1, 8, "TurningGroups", rfl, pUX1, by decide, List.mem_of_getElem? (i := 2) rfl⟩
theorem pFX5_85 : pz_FN RX5 85 1 5 := ⟨RX1, TX1, 8, "TurningGroups", rfl, pUX1, by decide, List.mem_of_getElem? (i := 6) rfl⟩
theorem pFX5_88 : pz_FN RX5 88 1 4 := ⟨RX1, TX1, 8, "TurningGroups", rfl, pUX1, by decide, List.mem_of_getElem? (i := 4) rfl⟩
theorem pFX5_132 : pz_FN RX5 132 4 1 := ⟨RX4, TX4, 3, "TurningGroups", rfl, pUX4, by decide, List.mem_of_getElem? (i := 11) rfl⟩
theorem pFX5_135 : pz_FN RX5 135 4 0 := ⟨RX4, TX4, 3, "TurningGroups", rfl, pUX4, by decide, List.mem_of_getElem? (i := 9) rfl⟩
theorem pFX5_148 : pz_FN RX5 148 4 2 := ⟨RX4, TX4, 3, "TurningGroups", rfl, pUX4, by decide, List.mem_of_getElem? (i := 13) rfl⟩
theorem pFX5_154 : pz_FN RX5 154 2 2 := ⟨RX2, TX2, 4, "TurningGroups", rfl, pUX2, by decide, List.mem_of_getElem? (i := 18) rfl⟩
theorem pFX5_158 : pz_FN RX5 158 2 1 := ⟨RX2, TX2, 4, "TurningGroups", rfl, pUX2, by decide, List.mem_of_getElem? (i := 16) rfl⟩
theorem pFX5_195 : pz_FN RX5 195 0 8 := ⟨RX0, TX0, 10, "TurningGroups", rfl, pUX0, by decide, List.mem_of_getElem? (i := 21) rfl⟩
theorem pFX5_203 : pz_FN RX5 203 0 3 := ⟨RX0, TX0, 10, "TurningGroups", rfl, pUX0, by decide, List.mem_of_getElem? (i := 20) rfl⟩
theorem pFX5_246 : pz_FN RX5 246 1 0 := ⟨RX1, TX1, 8, "TurningGroups", rfl, pUX1, by decide, List.mem_of_getElem? (i := 0) rfl⟩
theorem pFX5_249 : pz_FN RX5 249 1 1 := ⟨RX1, TX1, 8, "TurningGroups", rfl, pUX1, by decide, List.mem_of_getElem? (i := 1) rfl⟩
theorem pFX5_252 : pz_FN RX5 252 2 3 := ⟨RX2, TX2, 4, "TurningGroups", rfl, pUX2, by decide, List.mem_of_getElem? (i := 19) rfl⟩
theorem pFX5_256 : pz_FN RX5 256 0 9 := ⟨RX0, TX0, 10, "TurningGroups", rfl, pUX0, by decide, List.mem_of_getElem? (i := 22) rfl⟩
theorem pFX0_61 : pz_FN RX0 61 2 2 := ⟨RX2, TX2, 4, "TurningGroups", rfl, pUX2, by decide, List.mem_of_getElem? (i := 17) rfl⟩
theorem pFX0_71 : pz_FN RX0 71 2 1 := ⟨RX2, TX2, 4, "TurningGroups", rfl, pUX2, by decide, List.mem_of_getElem? (i := 15) rfl⟩
theorem pFX3_35 : pz_FN RX3 35 4 0 := ⟨RX4, TX4, 3, "TurningGroups", rfl, pUX4, by decide, List.mem_of_getElem? (i := 8) rfl⟩
theorem pFX3_39 : pz_FN RX3 39 4 1 := ⟨RX4, TX4, 3, "TurningGroups", rfl, pUX4, by decide, List.mem_of_getElem? (i := 10) rfl⟩
theorem pFX3_59 : pz_FN RX3 59 1 5 := ⟨RX1, TX1, 8, "TurningGroups", rfl, pUX1, by decide, List.mem_of_getElem? (i := 7) rfl⟩
theorem pFX3_65 : pz_FN RX3 65 4 2 := ⟨RX4, TX4, 3, "TurningGroups", rfl, pUX4, by decide, List.mem_of_getElem? (i := 12) rfl⟩
theorem pFX3_72 : pz_FN RX3 72 1 4 := ⟨RX1, TX1, 8, "TurningGroups", rfl, pUX1, by decide, List.mem_of_getElem? (i := 5) rfl⟩
theorem pFX3_84 : pz_FN RX3 84 1 2 := ⟨RX1, TX1, 8, "TurningGroups", rfl, pUX1, by decide, List.mem_of_getElem? (i := 3) rfl⟩
theorem pTX5_imagePacked : pz_T 5 9 false .int := ⟨RX5, TX5, 10, tyX5, rfl, tyX5_ok, nmX5, rfl, tyX5_ok 9 (by decide), rfl⟩
theorem pTX0_count : pz_T 0 8 false .int := ⟨RX0, TX0, 10, tyX0, rfl, tyX0_ok, nmX0, rfl, tyX0_ok 8 (by decide), rfl⟩
theorem pTX0_known : pz_T 0 9 false .boolean := ⟨RX0, TX0, 10, tyX0, rfl, tyX0_ok, nmX0, rfl, tyX0_ok 9 (by decide), rfl⟩
theorem pTX0_moves : pz_T 0 7 false .int := ⟨RX0, TX0, 10, tyX0, rfl, tyX0_ok, nmX0, rfl, tyX0_ok 7 (by decide), rfl⟩
theorem pTX1_family : pz_T 1 0 false .int := ⟨RX1, TX1, 8, tyX1, rfl, tyX1_ok, nmX1, rfl, tyX1_ok 0 (by decide), rfl⟩
theorem pTX1_n : pz_T 1 1 false .int := ⟨RX1, TX1, 8, tyX1, rfl, tyX1_ok, nmX1, rfl, tyX1_ok 1 (by decide), rfl⟩
theorem pTX1_size : pz_T 1 2 false .int := ⟨RX1, TX1, 8, tyX1, rfl, tyX1_ok, nmX1, rfl, tyX1_ok 2 (by decide), rfl⟩
theorem pTX2_count : pz_T 2 2 false .int := ⟨RX2, TX2, 4, tyX2, rfl, tyX2_ok, nmX2, rfl, tyX2_ok 2 (by decide), rfl⟩
theorem pTX2_known : pz_T 2 3 false .boolean := ⟨RX2, TX2, 4, tyX2, rfl, tyX2_ok, nmX2, rfl, tyX2_ok 3 (by decide), rfl⟩
theorem pTX4_count : pz_T 4 1 false .int := ⟨RX4, TX4, 3, tyX4, rfl, tyX4_ok, nmX4, rfl, tyX4_ok 1 (by decide), rfl⟩
theorem pTX4_handles : pz_T 4 0 false .int := ⟨RX4, TX4, 3, tyX4, rfl, tyX4_ok, nmX4, rfl, tyX4_ok 0 (by decide), rfl⟩
theorem pTX6_areLaid : pz_T 6 7 false .boolean := ⟨RX6, TX6, 34, tyX6, rfl, tyX6_ok, nmX6, rfl, tyX6_ok 7 (by decide), rfl⟩
theorem pTX6_classMany : pz_T 6 14 false .int := ⟨RX6, TX6, 34, tyX6, rfl, tyX6_ok, nmX6, rfl, tyX6_ok 14 (by decide), rfl⟩
theorem pTX6_family : pz_T 6 0 false .int := ⟨RX6, TX6, 34, tyX6, rfl, tyX6_ok, nmX6, rfl, tyX6_ok 0 (by decide), rfl⟩
theorem pTX6_family1 : pz_T 6 21 false .int := ⟨RX6, TX6, 34, tyX6, rfl, tyX6_ok, nmX6, rfl, tyX6_ok 21 (by decide), rfl⟩
theorem pTX6_foundAt : pz_T 6 33 false .int := ⟨RX6, TX6, 34, tyX6, rfl, tyX6_ok, nmX6, rfl, tyX6_ok 33 (by decide), rfl⟩
theorem pTX6_foundMany : pz_T 6 32 false .int := ⟨RX6, TX6, 34, tyX6, rfl, tyX6_ok, nmX6, rfl, tyX6_ok 32 (by decide), rfl⟩
theorem pTX6_hands : pz_T 6 4 false .int := ⟨RX6, TX6, 34, tyX6, rfl, tyX6_ok, nmX6, rfl, tyX6_ok 4 (by decide), rfl⟩
theorem pTX6_hands1 : pz_T 6 23 false .int := ⟨RX6, TX6, 34, tyX6, rfl, tyX6_ok, nmX6, rfl, tyX6_ok 23 (by decide), rfl⟩
theorem pTX6_hasImage : pz_T 6 20 false .boolean := ⟨RX6, TX6, 34, tyX6, rfl, tyX6_ok, nmX6, rfl, tyX6_ok 20 (by decide), rfl⟩
theorem pTX6_maps : pz_T 6 8 false .int := ⟨RX6, TX6, 34, tyX6, rfl, tyX6_ok, nmX6, rfl, tyX6_ok 8 (by decide), rfl⟩
theorem pTX6_n : pz_T 6 1 false .int := ⟨RX6, TX6, 34, tyX6, rfl, tyX6_ok, nmX6, rfl, tyX6_ok 1 (by decide), rfl⟩
theorem pTX6_n1 : pz_T 6 22 false .int := ⟨RX6, TX6, 34, tyX6, rfl, tyX6_ok, nmX6, rfl, tyX6_ok 22 (by decide), rfl⟩
theorem pTX6_periods : pz_T 6 5 false .int := ⟨RX6, TX6, 34, tyX6, rfl, tyX6_ok, nmX6, rfl, tyX6_ok 5 (by decide), rfl⟩
theorem pTX6_periods1 : pz_T 6 24 false .int := ⟨RX6, TX6, 34, tyX6, rfl, tyX6_ok, nmX6, rfl, tyX6_ok 24 (by decide), rfl⟩
theorem pTX6_size : pz_T 6 2 false .int := ⟨RX6, TX6, 34, tyX6, rfl, tyX6_ok, nmX6, rfl, tyX6_ok 2 (by decide), rfl⟩
theorem pCX5_67 : pz_CS RX5 67 yX1_exists cX1_exists 2 (some .boolean) 2 := pz_CSof (pz_w2 13 rfl rfl) (pz_w2 14 rfl rfl) (pz_w1 2 rfl rfl) (pz_w2 15 rfl rfl) ⟨by decide, by decide⟩ rfl
theorem pCX5_71 : pz_C RX5 71 yX1_become cX1_become 5 none 2 := pz_Cof (pz_w2 18 rfl rfl) (pz_w1 27 rfl rfl) (pz_w1 28 rfl rfl) (pz_w1 2 rfl rfl) (pz_w1 29 rfl rfl) ⟨by decide, by decide⟩ rfl
theorem pCX5_75 : pz_C RX5 75 yX5_forgetMaps cX5_forgetMaps 1 none 0 := pz_Cof (pz_w2 19 rfl rfl) (pz_w2 21 rfl rfl) (pz_w0 9 rfl rfl) (pz_w1 1 rfl rfl) (pz_w2 22 rfl rfl) ⟨by decide, by decide⟩ rfl
theorem pCX5_81 : pz_C RX5 81 yX1_isElement cX1_isElement 2 (some .boolean) 1 := pz_Cof (pz_w2 27 rfl rfl) (pz_w2 28 rfl rfl) (pz_w2 29 rfl rfl) (pz_w1 2 rfl rfl) (pz_w2 30 rfl rfl) ⟨by decide, by decide⟩ rfl
theorem pCX5_91 : pz_C RX5 91 yX1_conjugatesOf cX1_conjugatesOf 4 (some .int) 1 := pz_Cof (pz_w2 31 rfl rfl) (pz_w2 32 rfl rfl) (pz_w2 33 rfl rfl) (pz_w1 2 rfl rfl) (pz_w2 34 rfl rfl) ⟨by decide, by decide⟩ rfl
theorem pCX5_95 : pz_CS RX5 95 yJ6_bitCount_0f7a4 cJ6_bitCount_0f7a4 1 (some .int) 1 := pz_CSof (pz_w2 39 rfl rfl) (pz_w2 40 rfl rfl) (pz_w1 9 rfl rfl) (pz_w2 41 rfl rfl) ⟨by decide, by decide⟩ rfl
theorem pCX5_100 : pz_C RX5 100 yX1_product cX1_product 3 (some .int) 2 := pz_Cof (pz_w2 49 rfl rfl) (pz_w1 55 rfl rfl) (pz_w1 56 rfl rfl) (pz_w1 2 rfl rfl) (pz_w1 57 rfl rfl) ⟨by decide, by decide⟩ rfl
theorem pCX5_104 : pz_C RX5 104 yX1_powerOf cX1_powerOf 5 (some .int) 2 := pz_Cof (pz_w2 54 rfl rfl) (pz_w2 55 rfl rfl) (pz_w2 56 rfl rfl) (pz_w1 2 rfl rfl) (pz_w2 57 rfl rfl) ⟨by decide, by decide⟩ rfl
theorem pCX5_107 : pz_C RX5 107 yX1_conjugated cX1_conjugated 3 (some .int) 2 := pz_Cof (pz_w2 62 rfl rfl) (pz_w2 36 rfl rfl) (pz_w2 37 rfl rfl) (pz_w1 2 rfl rfl) (pz_w2 38 rfl rfl) ⟨by decide, by decide⟩ rfl
theorem pCX5_110 : pz_C RX5 110 yX1_isSet cX1_isSet 2 (some .boolean) 1 := pz_Cof (pz_w2 67 rfl rfl) (pz_w2 68 rfl rfl) (pz_w2 69 rfl rfl) (pz_w1 2 rfl rfl) (pz_w2 70 rfl rfl) ⟨by decide, by decide⟩ rfl
theorem pCX5_113 : pz_C RX5 113 yX1_spanOf cX1_spanOf 2 (some .int) 1 := pz_Cof (pz_w2 75 rfl rfl) (pz_w2 76 rfl rfl) (pz_w2 77 rfl rfl) (pz_w1 2 rfl rfl) (pz_w2 78 rfl rfl) ⟨by decide, by decide⟩ rfl
theorem pCX5_116 : pz_C RX5 116 yX1_whole cX1_whole 1 (some .int) 0 := pz_Cof (pz_w2 83 rfl rfl) (pz_w2 72 rfl rfl) (pz_w2 73 rfl rfl) (pz_w1 2 rfl rfl) (pz_w2 74 rfl rfl) ⟨by decide, by decide⟩ rfl
theorem pCX5_120 : pz_C RX5 120 yX1_isSubgroup cX1_isSubgroup 2 (some .boolean) 1 := pz_Cof (pz_w2 84 rfl rfl) (pz_w2 85 rfl rfl) (pz_w2 86 rfl rfl) (pz_w1 2 rfl rfl) (pz_w2 87 rfl rfl) ⟨by decide, by decide⟩ rfl
theorem pCX5_123 : pz_C RX5 123 yX1_isNormal cX1_isNormal 3 (some .boolean) 1 := pz_Cof (pz_w2 94 rfl rfl) (pz_w2 95 rfl rfl) (pz_w2 96 rfl rfl) (pz_w1 2 rfl rfl) (pz_w2 97 rfl rfl) ⟨by decide, by decide⟩ rfl
theorem pCX5_126 : pz_C RX5 126 yX1_centreSet cX1_centreSet 3 (some .int) 0 := pz_Cof (pz_w2 103 rfl rfl) (pz_w2 104 rfl rfl) (pz_w2 105 rfl rfl) (pz_w1 2 rfl rfl) (pz_w2 106 rfl rfl) ⟨by decide, by decide⟩ rfl
theorem pCX5_129 : pz_C RX5 129 yX1_countOfOrder cX1_countOfOrder 4 (some .int) 1 := pz_Cof (pz_w2 107 rfl rfl) (pz_w2 108 rfl rfl) (pz_w2 109 rfl rfl) (pz_w1 2 rfl rfl) (pz_w2 110 rfl rfl) ⟨by decide, by decide⟩ rfl
theorem pCX5_138 : pz_C RX5 138 yX4_digits cX4_digits 1 (some .int) 0 := pz_Cof (pz_w2 119 rfl rfl) (pz_w2 120 rfl rfl) (pz_w2 121 rfl rfl) (pz_w1 3 rfl rfl) (pz_w2 122 rfl rfl) ⟨by decide, by decide⟩ rfl
theorem pCX5_141 : pz_C RX5 141 yX4_add cX4_add 2 none 1 := pz_Cof (pz_w2 123 rfl rfl) (pz_w2 124 rfl rfl) (pz_w2 125 rfl rfl) (pz_w1 3 rfl rfl) (pz_w2 126 rfl rfl) ⟨by decide, by decide⟩ rfl
theorem pCX5_145 : pz_C RX5 145 yX4_hasPeriod cX4_hasPeriod 2 (some .boolean) 1 := pz_Cof (pz_w2 135 rfl rfl) (pz_w2 136 rfl rfl) (pz_w2 137 rfl rfl) (pz_w1 3 rfl rfl) (pz_w2 138 rfl rfl) ⟨by decide, by decide⟩ rfl
theorem pCX5_151 : pz_C RX5 151 yX2_prepare cX2_prepare 1 none 0 := pz_Cof (pz_w2 143 rfl rfl) (pz_w2 144 rfl rfl) (pz_w2 145 rfl rfl) (pz_w1 5 rfl rfl) (pz_w2 146 rfl rfl) ⟨by decide, by decide⟩ rfl
theorem pCX5_155 : pz_C RX5 155 yX2_has cX2_has 2 (some .boolean) 1 := pz_Cof (pz_w2 194 rfl rfl) (pz_w2 195 rfl rfl) (pz_w2 196 rfl rfl) (pz_w1 5 rfl rfl) (pz_w2 197 rfl rfl) ⟨by decide, by decide⟩ rfl
theorem pCX5_161 : pz_C RX5 161 yX3_read cX3_read 5 (some .boolean) 1 := pz_Cof (pz_w2 202 rfl rfl) (pz_w2 203 rfl rfl) (pz_w2 204 rfl rfl) (pz_w1 4 rfl rfl) (pz_w2 205 rfl rfl) ⟨by decide, by decide⟩ rfl
theorem pCX5_164 : pz_C RX5 164 yX3_kind cX3_kind 1 (some .int) 0 := pz_Cof (pz_w2 207 rfl rfl) (pz_w2 208 rfl rfl) (pz_w2 209 rfl rfl) (pz_w1 4 rfl rfl) (pz_w2 210 rfl rfl) ⟨by decide, by decide⟩ rfl
theorem pCX5_167 : pz_C RX5 167 yX4_genusOver cX4_genusOver 5 (some .int) 1 := pz_Cof (pz_w2 215 rfl rfl) (pz_w2 216 rfl rfl) (pz_w2 217 rfl rfl) (pz_w1 3 rfl rfl) (pz_w2 218 rfl rfl) ⟨by decide, by decide⟩ rfl
theorem pCX5_170 : pz_C RX5 170 yX5_readsMap cX5_readsMap 2 (some .boolean) 1 := pz_Cof (pz_w2 223 rfl rfl) (pz_w2 225 rfl rfl) (pz_w0 14 rfl rfl) (pz_w1 1 rfl rfl) (pz_w2 226 rfl rfl) ⟨by decide, by decide⟩ rfl
theorem pCX5_173 : pz_C RX5 173 yX3_elementOfPeriod cX3_elementOfPeriod 2 (some .int) 1 := pz_Cof (pz_w2 227 rfl rfl) (pz_w2 168 rfl rfl) (pz_w2 169 rfl rfl) (pz_w1 4 rfl rfl) (pz_w2 170 rfl rfl) ⟨by decide, by decide⟩ rfl
theorem pCX5_176 : pz_C RX5 176 yX1_fixedPlaces cX1_fixedPlaces 7 (some .int) 2 := pz_Cof (pz_w2 228 rfl rfl) (pz_w2 229 rfl rfl) (pz_w2 230 rfl rfl) (pz_w1 2 rfl rfl) (pz_w2 231 rfl rfl) ⟨by decide, by decide⟩ rfl
theorem pCX5_179 : pz_C RX5 179 yX1_indexOf cX1_indexOf 3 (some .int) 1 := pz_Cof (pz_w2 236 rfl rfl) (pz_w2 237 rfl rfl) (pz_w2 238 rfl rfl) (pz_w1 2 rfl rfl) (pz_w2 239 rfl rfl) ⟨by decide, by decide⟩ rfl
theorem pCX5_182 : pz_C RX5 182 yX1_setsBetween cX1_setsBetween 6 (some .int) 2 := pz_Cof (pz_w3 1 rfl rfl) (pz_w3 2 rfl rfl) (pz_w3 3 rfl rfl) (pz_w1 2 rfl rfl) (pz_w3 4 rfl rfl) ⟨by decide, by decide⟩ rfl
theorem pCX5_185 : pz_C RX5 185 yX1_orderBehind cX1_orderBehind 5 (some .int) 2 := pz_Cof (pz_w3 9 rfl rfl) (pz_w3 10 rfl rfl) (pz_w3 11 rfl rfl) (pz_w1 2 rfl rfl) (pz_w3 12 rfl rfl) ⟨by decide, by decide⟩ rfl
theorem pCX5_188 : pz_C RX5 188 yX3_moveBy cX3_moveBy 2 (some .boolean) 1 := pz_Cof (pz_w3 17 rfl rfl) (pz_w3 18 rfl rfl) (pz_w3 19 rfl rfl) (pz_w1 4 rfl rfl) (pz_w3 20 rfl rfl) ⟨by decide, by decide⟩ rfl
theorem pCX5_191 : pz_C RX5 191 yX3_code cX3_code 3 (some .int) 0 := pz_Cof (pz_w3 34 rfl rfl) (pz_w2 183 rfl rfl) (pz_w2 184 rfl rfl) (pz_w1 4 rfl rfl) (pz_w2 185 rfl rfl) ⟨by decide, by decide⟩ rfl
theorem pCX5_194 : pz_C RX5 194 yX0_prepare cX0_prepare 2 none 0 := pz_Cof (pz_w3 39 rfl rfl) (pz_w3 40 rfl rfl) (pz_w3 41 rfl rfl) (pz_w1 7 rfl rfl) (pz_w3 42 rfl rfl) ⟨by decide, by decide⟩ rfl
theorem pCX5_196 : pz_C RX5 196 yX0_greatest cX0_greatest 3 (some .int) 0 := pz_Cof (pz_w3 80 rfl rfl) (pz_w3 81 rfl rfl) (pz_w3 82 rfl rfl) (pz_w1 7 rfl rfl) (pz_w3 83 rfl rfl) ⟨by decide, by decide⟩ rfl
theorem pCX5_199 : pz_C RX5 199 yX0_sizeOf cX0_sizeOf 2 (some .int) 1 := pz_Cof (pz_w3 88 rfl rfl) (pz_w3 85 rfl rfl) (pz_w3 86 rfl rfl) (pz_w1 7 rfl rfl) (pz_w3 87 rfl rfl) ⟨by decide, by decide⟩ rfl
theorem pCX5_202 : pz_C RX5 202 yX2_indexOf cX2_indexOf 6 (some .int) 1 := pz_Cof (pz_w3 93 rfl rfl) (pz_w3 68 rfl rfl) (pz_w3 69 rfl rfl) (pz_w1 5 rfl rfl) (pz_w3 70 rfl rfl) ⟨by decide, by decide⟩ rfl
theorem pCX5_206 : pz_C RX5 206 yX0_codeOf cX0_codeOf 5 (some .int) 2 := pz_Cof (pz_w3 98 rfl rfl) (pz_w3 99 rfl rfl) (pz_w3 100 rfl rfl) (pz_w1 7 rfl rfl) (pz_w3 101 rfl rfl) ⟨by decide, by decide⟩ rfl
theorem pCX5_209 : pz_C RX5 209 yX0_distance cX0_distance 3 (some .int) 2 := pz_Cof (pz_w3 106 rfl rfl) (pz_w3 107 rfl rfl) (pz_w3 108 rfl rfl) (pz_w1 7 rfl rfl) (pz_w3 109 rfl rfl) ⟨by decide, by decide⟩ rfl
theorem pCX5_212 : pz_C RX5 212 yX4_start cX4_start 4 none 2 := pz_Cof (pz_w3 114 rfl rfl) (pz_w3 115 rfl rfl) (pz_w3 116 rfl rfl) (pz_w1 3 rfl rfl) (pz_w3 117 rfl rfl) ⟨by decide, by decide⟩ rfl
theorem pCX5_215 : pz_C RX5 215 yX2_find cX2_find 3 none 0 := pz_Cof (pz_w3 118 rfl rfl) (pz_w2 148 rfl rfl) (pz_w2 149 rfl rfl) (pz_w1 5 rfl rfl) (pz_w2 150 rfl rfl) ⟨by decide, by decide⟩ rfl
theorem pCX5_218 : pz_C RX5 218 yX4_periodDigits cX4_periodDigits 3 (some .int) 0 := pz_Cof (pz_w3 119 rfl rfl) (pz_w3 120 rfl rfl) (pz_w3 121 rfl rfl) (pz_w1 3 rfl rfl) (pz_w3 122 rfl rfl) ⟨by decide, by decide⟩ rfl
theorem pCX5_221 : pz_C RX5 221 yX4_advance cX4_advance 4 (some .boolean) 0 := pz_Cof (pz_w3 123 rfl rfl) (pz_w3 124 rfl rfl) (pz_w3 125 rfl rfl) (pz_w1 3 rfl rfl) (pz_w3 126 rfl rfl) ⟨by decide, by decide⟩ rfl
theorem pCX5_225 : pz_CS RX5 225 yX5_isShelf cX5_isShelf 1 (some .boolean) 1 := pz_CSof (pz_w3 131 rfl rfl) (pz_w3 132 rfl rfl) (pz_w1 1 rfl rfl) (pz_w3 133 rfl rfl) ⟨by decide, by decide⟩ rfl
theorem pCX5_228 : pz_C RX5 228 yX5_packed cX5_packed 2 (some .int) 0 := pz_Cof (pz_w3 134 rfl rfl) (pz_w3 136 rfl rfl) (pz_w0 22 rfl rfl) (pz_w1 1 rfl rfl) (pz_w3 137 rfl rfl) ⟨by decide, by decide⟩ rfl
theorem pCX5_231 : pz_C RX5 231 yX5_shelvesInUse cX5_shelvesInUse 3 (some .int) 0 := pz_Cof (pz_w3 138 rfl rfl) (pz_w3 140 rfl rfl) (pz_w0 23 rfl rfl) (pz_w1 1 rfl rfl) (pz_w3 141 rfl rfl) ⟨by decide, by decide⟩ rfl
theorem pCX5_234 : pz_C RX5 234 yX5_unpack cX5_unpack 3 none 1 := pz_Cof (pz_w3 146 rfl rfl) (pz_w3 148 rfl rfl) (pz_w0 24 rfl rfl) (pz_w1 1 rfl rfl) (pz_w3 149 rfl rfl) ⟨by decide, by decide⟩ rfl
theorem pCX5_237 : pz_C RX5 237 yX5_firstLike cX5_firstLike 3 (some .int) 1 := pz_Cof (pz_w3 163 rfl rfl) (pz_w3 165 rfl rfl) (pz_w0 25 rfl rfl) (pz_w1 1 rfl rfl) (pz_w3 166 rfl rfl) ⟨by decide, by decide⟩ rfl
theorem pCX5_257 : pz_C RX5 257 yX4_take cX4_take 5 none 2 := pz_Cof (pz_w3 150 rfl rfl) (pz_w3 151 rfl rfl) (pz_w3 152 rfl rfl) (pz_w1 3 rfl rfl) (pz_w3 153 rfl rfl) ⟨by decide, by decide⟩ rfl
theorem pCX0_42 : pz_C RX0 42 yX2_prepare cX2_prepare 1 none 0 := pz_Cof (pz_w3 43 rfl rfl) (pz_w2 144 rfl rfl) (pz_w2 145 rfl rfl) (pz_w1 5 rfl rfl) (pz_w2 146 rfl rfl) ⟨by decide, by decide⟩ rfl
theorem pCX0_45 : pz_C RX0 45 yX3_moveCount cX3_moveCount 1 (some .int) 0 := pz_Cof (pz_w3 44 rfl rfl) (pz_w3 45 rfl rfl) (pz_w3 46 rfl rfl) (pz_w1 4 rfl rfl) (pz_w3 47 rfl rfl) ⟨by decide, by decide⟩ rfl
theorem pCX0_64 : pz_C RX0 64 yX0_findSteps cX0_findSteps 4 none 1 := pz_Cof (pz_w3 56 rfl rfl) (pz_w3 58 rfl rfl) (pz_w0 19 rfl rfl) (pz_w1 7 rfl rfl) (pz_w3 59 rfl rfl) ⟨by decide, by decide⟩ rfl
theorem pCX0_68 : pz_C RX0 68 yX0_sort cX0_sort 4 none 0 := pz_Cof (pz_w3 71 rfl rfl) (pz_w3 73 rfl rfl) (pz_w0 20 rfl rfl) (pz_w1 7 rfl rfl) (pz_w3 74 rfl rfl) ⟨by decide, by decide⟩ rfl
theorem pCX0_74 : pz_C RX0 74 yX3_read cX3_read 5 (some .boolean) 1 := pz_Cof (pz_w3 60 rfl rfl) (pz_w2 203 rfl rfl) (pz_w2 204 rfl rfl) (pz_w1 4 rfl rfl) (pz_w2 205 rfl rfl) ⟨by decide, by decide⟩ rfl
theorem pCX0_78 : pz_C RX0 78 yX3_moveAt cX3_moveAt 3 (some .int) 1 := pz_Cof (pz_w3 61 rfl rfl) (pz_w3 62 rfl rfl) (pz_w3 63 rfl rfl) (pz_w1 4 rfl rfl) (pz_w3 64 rfl rfl) ⟨by decide, by decide⟩ rfl
theorem pCX0_82 : pz_C RX0 82 yX3_moveBy cX3_moveBy 2 (some .boolean) 1 := pz_Cof (pz_w3 65 rfl rfl) (pz_w3 18 rfl rfl) (pz_w3 19 rfl rfl) (pz_w1 4 rfl rfl) (pz_w3 20 rfl rfl) ⟨by decide, by decide⟩ rfl
theorem pCX0_85 : pz_C RX0 85 yX3_code cX3_code 3 (some .int) 0 := pz_Cof (pz_w3 66 rfl rfl) (pz_w2 183 rfl rfl) (pz_w2 184 rfl rfl) (pz_w1 4 rfl rfl) (pz_w2 185 rfl rfl) ⟨by decide, by decide⟩ rfl
theorem pCX0_88 : pz_C RX0 88 yX2_indexOf cX2_indexOf 6 (some .int) 1 := pz_Cof (pz_w3 67 rfl rfl) (pz_w3 68 rfl rfl) (pz_w3 69 rfl rfl) (pz_w1 5 rfl rfl) (pz_w3 70 rfl rfl) ⟨by decide, by decide⟩ rfl
theorem pCX0_92 : pz_CS RX0 92 yJ7_fill_53178 cJ7_fill_53178 4 none 2 := pz_CSof (pz_w3 75 rfl rfl) (pz_w2 156 rfl rfl) (pz_w1 10 rfl rfl) (pz_w2 157 rfl rfl) ⟨by decide, by decide⟩ rfl
theorem pCX0_98 : pz_C RX0 98 yX0_spreadFrom cX0_spreadFrom 7 (some .int) 1 := pz_Cof (pz_w3 76 rfl rfl) (pz_w3 78 rfl rfl) (pz_w0 21 rfl rfl) (pz_w1 7 rfl rfl) (pz_w3 79 rfl rfl) ⟨by decide, by decide⟩ rfl
theorem pCX0_101 : pz_C RX0 101 yX0_sizeOf cX0_sizeOf 2 (some .int) 1 := pz_Cof (pz_w3 84 rfl rfl) (pz_w3 85 rfl rfl) (pz_w3 86 rfl rfl) (pz_w1 7 rfl rfl) (pz_w3 87 rfl rfl) ⟨by decide, by decide⟩ rfl
theorem pCX1_41 : pz_C RX1 41 yX1_sizeByFamily cX1_sizeByFamily 1 (some .int) 0 := pz_Cof (pz_w1 30 rfl rfl) (pz_w1 32 rfl rfl) (pz_w0 0 rfl rfl) (pz_w1 2 rfl rfl) (pz_w1 33 rfl rfl) ⟨by decide, by decide⟩ rfl
theorem pCX1_48 : pz_C RX1 48 yX1_multiplied cX1_multiplied 3 (some .int) 2 := pz_Cof (pz_w1 34 rfl rfl) (pz_w1 36 rfl rfl) (pz_w0 1 rfl rfl) (pz_w1 2 rfl rfl) (pz_w1 37 rfl rfl) ⟨by decide, by decide⟩ rfl
theorem pCX1_52 : pz_C RX1 52 yX1_findInverseAndOrder cX1_findInverseAndOrder 4 none 1 := pz_Cof (pz_w1 50 rfl rfl) (pz_w1 52 rfl rfl) (pz_w0 5 rfl rfl) (pz_w1 2 rfl rfl) (pz_w1 53 rfl rfl) ⟨by decide, by decide⟩ rfl
theorem pCX1_56 : pz_C RX1 56 yX1_findConjugates cX1_findConjugates 3 none 0 := pz_Cof (pz_w1 58 rfl rfl) (pz_w1 60 rfl rfl) (pz_w0 6 rfl rfl) (pz_w1 2 rfl rfl) (pz_w1 61 rfl rfl) ⟨by decide, by decide⟩ rfl
theorem pCX1_59 : pz_C RX1 59 yX1_findSpans cX1_findSpans 5 none 0 := pz_Cof (pz_w1 62 rfl rfl) (pz_w1 64 rfl rfl) (pz_w0 7 rfl rfl) (pz_w1 2 rfl rfl) (pz_w1 65 rfl rfl) ⟨by decide, by decide⟩ rfl
theorem pCX1_62 : pz_C RX1 62 yX1_intoRing cX1_intoRing 2 (some .int) 1 := pz_Cof (pz_w1 38 rfl rfl) (pz_w1 40 rfl rfl) (pz_w0 2 rfl rfl) (pz_w1 2 rfl rfl) (pz_w1 41 rfl rfl) ⟨by decide, by decide⟩ rfl
theorem pCX1_66 : pz_C RX1 66 yX1_mirrored cX1_mirrored 8 (some .int) 2 := pz_Cof (pz_w1 42 rfl rfl) (pz_w1 44 rfl rfl) (pz_w0 3 rfl rfl) (pz_w1 2 rfl rfl) (pz_w1 45 rfl rfl) ⟨by decide, by decide⟩ rfl
theorem pCX1_69 : pz_C RX1 69 yX1_crossed cX1_crossed 8 (some .int) 2 := pz_Cof (pz_w1 46 rfl rfl) (pz_w1 48 rfl rfl) (pz_w0 4 rfl rfl) (pz_w1 2 rfl rfl) (pz_w1 49 rfl rfl) ⟨by decide, by decide⟩ rfl
theorem pCX1_72 : pz_C RX1 72 yX1_product cX1_product 3 (some .int) 2 := pz_Cof (pz_w1 54 rfl rfl) (pz_w1 55 rfl rfl) (pz_w1 56 rfl rfl) (pz_w1 2 rfl rfl) (pz_w1 57 rfl rfl) ⟨by decide, by decide⟩ rfl
theorem pCX1_75 : pz_C RX1 75 yX1_grownToSpan cX1_grownToSpan 5 (some .int) 1 := pz_Cof (pz_w1 66 rfl rfl) (pz_w1 68 rfl rfl) (pz_w0 8 rfl rfl) (pz_w1 2 rfl rfl) (pz_w1 69 rfl rfl) ⟨by decide, by decide⟩ rfl
theorem pCX1_78 : pz_C RX1 78 yX1_productOfSets cX1_productOfSets 5 (some .int) 2 := pz_Cof (pz_w1 70 rfl rfl) (pz_w1 71 rfl rfl) (pz_w1 72 rfl rfl) (pz_w1 2 rfl rfl) (pz_w1 73 rfl rfl) ⟨by decide, by decide⟩ rfl
theorem pCX1_81 : pz_C RX1 81 yX1_whole cX1_whole 1 (some .int) 0 := pz_Cof (pz_w2 71 rfl rfl) (pz_w2 72 rfl rfl) (pz_w2 73 rfl rfl) (pz_w1 2 rfl rfl) (pz_w2 74 rfl rfl) ⟨by decide, by decide⟩ rfl
theorem pCX1_84 : pz_C RX1 84 yX1_conjugated cX1_conjugated 3 (some .int) 2 := pz_Cof (pz_w2 35 rfl rfl) (pz_w2 36 rfl rfl) (pz_w2 37 rfl rfl) (pz_w1 2 rfl rfl) (pz_w2 38 rfl rfl) ⟨by decide, by decide⟩ rfl
theorem pCX1_87 : pz_C RX1 87 yX1_conjugatesOf cX1_conjugatesOf 4 (some .int) 1 := pz_Cof (pz_w2 98 rfl rfl) (pz_w2 32 rfl rfl) (pz_w2 33 rfl rfl) (pz_w1 2 rfl rfl) (pz_w2 34 rfl rfl) ⟨by decide, by decide⟩ rfl
theorem pCX1_90 : pz_C RX1 90 yX1_productWithSet cX1_productWithSet 5 (some .int) 2 := pz_Cof (pz_w1 74 rfl rfl) (pz_w1 75 rfl rfl) (pz_w1 76 rfl rfl) (pz_w1 2 rfl rfl) (pz_w1 77 rfl rfl) ⟨by decide, by decide⟩ rfl
theorem pCX1_93 : pz_C RX1 93 yX1_isSet cX1_isSet 2 (some .boolean) 1 := pz_Cof (pz_w2 88 rfl rfl) (pz_w2 68 rfl rfl) (pz_w2 69 rfl rfl) (pz_w1 2 rfl rfl) (pz_w2 70 rfl rfl) ⟨by decide, by decide⟩ rfl
theorem pCX1_97 : pz_C RX1 97 yX1_spanOf cX1_spanOf 2 (some .int) 1 := pz_Cof (pz_w2 89 rfl rfl) (pz_w2 76 rfl rfl) (pz_w2 77 rfl rfl) (pz_w1 2 rfl rfl) (pz_w2 78 rfl rfl) ⟨by decide, by decide⟩ rfl
theorem pCX1_100 : pz_CS RX1 100 yJ6_bitCount_0f7a4 cJ6_bitCount_0f7a4 1 (some .int) 1 := pz_CSof (pz_w3 0 rfl rfl) (pz_w2 40 rfl rfl) (pz_w1 9 rfl rfl) (pz_w2 41 rfl rfl) ⟨by decide, by decide⟩ rfl
theorem pCX2_29 : pz_C RX2 29 yX2_find cX2_find 3 none 0 := pz_Cof (pz_w2 147 rfl rfl) (pz_w2 148 rfl rfl) (pz_w2 149 rfl rfl) (pz_w1 5 rfl rfl) (pz_w2 150 rfl rfl) ⟨by decide, by decide⟩ rfl
theorem pCX2_36 : pz_C RX2 36 yX3_startFree cX3_startFree 1 none 0 := pz_Cof (pz_w2 151 rfl rfl) (pz_w2 152 rfl rfl) (pz_w2 153 rfl rfl) (pz_w1 4 rfl rfl) (pz_w2 154 rfl rfl) ⟨by decide, by decide⟩ rfl
theorem pCX2_41 : pz_C RX2 41 yX3_completesMap cX3_completesMap 2 (some .boolean) 0 := pz_Cof (pz_w2 158 rfl rfl) (pz_w2 159 rfl rfl) (pz_w2 160 rfl rfl) (pz_w1 4 rfl rfl) (pz_w2 161 rfl rfl) ⟨by decide, by decide⟩ rfl
theorem pCX2_45 : pz_C RX2 45 yX3_code cX3_code 3 (some .int) 0 := pz_Cof (pz_w2 182 rfl rfl) (pz_w2 183 rfl rfl) (pz_w2 184 rfl rfl) (pz_w1 4 rfl rfl) (pz_w2 185 rfl rfl) ⟨by decide, by decide⟩ rfl
theorem pCX2_49 : pz_C RX2 49 yX3_advanceFree cX3_advanceFree 2 (some .boolean) 0 := pz_Cof (pz_w2 186 rfl rfl) (pz_w2 187 rfl rfl) (pz_w2 188 rfl rfl) (pz_w1 4 rfl rfl) (pz_w2 189 rfl rfl) ⟨by decide, by decide⟩ rfl
theorem pCX3_23 : pz_C RX3 23 yX4_digits cX4_digits 1 (some .int) 0 := pz_Cof (pz_w2 175 rfl rfl) (pz_w2 120 rfl rfl) (pz_w2 121 rfl rfl) (pz_w1 3 rfl rfl) (pz_w2 122 rfl rfl) ⟨by decide, by decide⟩ rfl
theorem pCX3_29 : pz_C RX3 29 yX1_isElement cX1_isElement 2 (some .boolean) 1 := pz_Cof (pz_w2 206 rfl rfl) (pz_w2 28 rfl rfl) (pz_w2 29 rfl rfl) (pz_w1 2 rfl rfl) (pz_w2 30 rfl rfl) ⟨by decide, by decide⟩ rfl
theorem pCX3_42 : pz_C RX3 42 yX3_hasOrders cX3_hasOrders 3 (some .boolean) 1 := pz_Cof (pz_w2 178 rfl rfl) (pz_w2 180 rfl rfl) (pz_w0 12 rfl rfl) (pz_w1 4 rfl rfl) (pz_w2 181 rfl rfl) ⟨by decide, by decide⟩ rfl
theorem pCX3_45 : pz_C RX3 45 yX3_productOfFirst cX3_productOfFirst 4 (some .int) 1 := pz_Cof (pz_w2 162 rfl rfl) (pz_w2 164 rfl rfl) (pz_w0 10 rfl rfl) (pz_w1 4 rfl rfl) (pz_w2 165 rfl rfl) ⟨by decide, by decide⟩ rfl
theorem pCX3_49 : pz_C RX3 49 yX3_isWhole cX3_isWhole 3 (some .boolean) 0 := pz_Cof (pz_w2 171 rfl rfl) (pz_w2 173 rfl rfl) (pz_w0 11 rfl rfl) (pz_w1 4 rfl rfl) (pz_w2 174 rfl rfl) ⟨by decide, by decide⟩ rfl
theorem pCX3_53 : pz_C RX3 53 yX1_spanOf cX1_spanOf 2 (some .int) 1 := pz_Cof (pz_w2 176 rfl rfl) (pz_w2 76 rfl rfl) (pz_w2 77 rfl rfl) (pz_w1 2 rfl rfl) (pz_w2 78 rfl rfl) ⟨by decide, by decide⟩ rfl
theorem pCX3_56 : pz_C RX3 56 yX1_whole cX1_whole 1 (some .int) 0 := pz_Cof (pz_w2 177 rfl rfl) (pz_w2 72 rfl rfl) (pz_w2 73 rfl rfl) (pz_w1 2 rfl rfl) (pz_w2 74 rfl rfl) ⟨by decide, by decide⟩ rfl
theorem pCX3_62 : pz_C RX3 62 yX3_elementOfPeriod cX3_elementOfPeriod 2 (some .int) 1 := pz_Cof (pz_w2 167 rfl rfl) (pz_w2 168 rfl rfl) (pz_w2 169 rfl rfl) (pz_w1 4 rfl rfl) (pz_w2 170 rfl rfl) ⟨by decide, by decide⟩ rfl
theorem pCX3_68 : pz_C RX3 68 yX1_product cX1_product 3 (some .int) 2 := pz_Cof (pz_w2 166 rfl rfl) (pz_w1 55 rfl rfl) (pz_w1 56 rfl rfl) (pz_w1 2 rfl rfl) (pz_w1 57 rfl rfl) ⟨by decide, by decide⟩ rfl
theorem pCX3_75 : pz_CS RX3 75 yJ7_fill_53178 cJ7_fill_53178 4 none 2 := pz_CSof (pz_w2 155 rfl rfl) (pz_w2 156 rfl rfl) (pz_w1 10 rfl rfl) (pz_w2 157 rfl rfl) ⟨by decide, by decide⟩ rfl
theorem pCX3_81 : pz_C RX3 81 yX3_freeDigits cX3_freeDigits 1 (some .int) 0 := pz_Cof (pz_w2 190 rfl rfl) (pz_w2 192 rfl rfl) (pz_w0 13 rfl rfl) (pz_w1 4 rfl rfl) (pz_w2 193 rfl rfl) ⟨by decide, by decide⟩ rfl
theorem pCX3_92 : pz_C RX3 92 yX3_movesOfNeighbours cX3_movesOfNeighbours 1 (some .int) 0 := pz_Cof (pz_w3 48 rfl rfl) (pz_w3 50 rfl rfl) (pz_w0 18 rfl rfl) (pz_w1 4 rfl rfl) (pz_w3 51 rfl rfl) ⟨by decide, by decide⟩ rfl
theorem pCX3_95 : pz_C RX3 95 yX3_moveNeighbours cX3_moveNeighbours 2 none 1 := pz_Cof (pz_w3 21 rfl rfl) (pz_w3 23 rfl rfl) (pz_w0 15 rfl rfl) (pz_w1 4 rfl rfl) (pz_w3 24 rfl rfl) ⟨by decide, by decide⟩ rfl
theorem pCX3_99 : pz_C RX3 99 yX3_moveByElement cX3_moveByElement 3 none 1 := pz_Cof (pz_w3 30 rfl rfl) (pz_w3 32 rfl rfl) (pz_w0 17 rfl rfl) (pz_w1 4 rfl rfl) (pz_w3 33 rfl rfl) ⟨by decide, by decide⟩ rfl
theorem pCX3_102 : pz_C RX3 102 yX3_swapNeighbours cX3_swapNeighbours 3 none 1 := pz_Cof (pz_w3 25 rfl rfl) (pz_w3 27 rfl rfl) (pz_w0 16 rfl rfl) (pz_w1 4 rfl rfl) (pz_w3 28 rfl rfl) ⟨by decide, by decide⟩ rfl
theorem pCX3_105 : pz_C RX3 105 yX1_conjugated cX1_conjugated 3 (some .int) 2 := pz_Cof (pz_w3 29 rfl rfl) (pz_w2 36 rfl rfl) (pz_w2 37 rfl rfl) (pz_w1 2 rfl rfl) (pz_w2 38 rfl rfl) ⟨by decide, by decide⟩ rfl
theorem pCX4_22 : pz_C RX4 22 yX4_add cX4_add 2 none 1 := pz_Cof (pz_w3 154 rfl rfl) (pz_w2 124 rfl rfl) (pz_w2 125 rfl rfl) (pz_w1 3 rfl rfl) (pz_w2 126 rfl rfl) ⟨by decide, by decide⟩ rfl
theorem pCX6_10 : pz_CS RX6 10 yX6_sizeBy cX6_sizeBy 2 (some .int) 2 := pz_CSof (pz_w3 196 rfl rfl) (pz_w3 197 rfl rfl) (pz_w1 8 rfl rfl) (pz_w3 198 rfl rfl) ⟨by decide, by decide⟩ rfl
theorem pCX6_17 : pz_C RX6 17 yX6_mirrored cX6_mirrored 4 (some .int) 2 := pz_Cof (pz_w3 199 rfl rfl) (pz_w3 201 rfl rfl) (pz_w0 27 rfl rfl) (pz_w1 8 rfl rfl) (pz_w3 202 rfl rfl) ⟨by decide, by decide⟩ rfl
theorem pCX6_20 : pz_CS RX6 20 yX6_crossed cX6_crossed 6 (some .int) 2 := pz_CSof (pz_w3 203 rfl rfl) (pz_w3 204 rfl rfl) (pz_w1 8 rfl rfl) (pz_w3 205 rfl rfl) ⟨by decide, by decide⟩ rfl
theorem pCX6_31 : pz_C RX6 31 yX6_product cX6_product 3 (some .int) 2 := pz_Cof (pz_w4 88 rfl rfl) (pz_w4 90 rfl rfl) (pz_w0 30 rfl rfl) (pz_w1 8 rfl rfl) (pz_w4 91 rfl rfl) ⟨by decide, by decide⟩ rfl
theorem pCX6_34 : pz_C RX6 34 yX6_inverse cX6_inverse 3 (some .int) 1 := pz_Cof (pz_w4 92 rfl rfl) (pz_w4 94 rfl rfl) (pz_w0 31 rfl rfl) (pz_w1 8 rfl rfl) (pz_w4 95 rfl rfl) ⟨by decide, by decide⟩ rfl
theorem pCX6_38 : pz_CS RX6 38 yX6_in cX6_in 3 (some .boolean) 3 := pz_CSof (pz_w4 73 rfl rfl) (pz_w4 74 rfl rfl) (pz_w1 8 rfl rfl) (pz_w4 75 rfl rfl) ⟨by decide, by decide⟩ rfl
theorem pCX6_42 : pz_C RX6 42 yX6_isSet cX6_isSet 2 (some .boolean) 1 := pz_Cof (pz_w4 119 rfl rfl) (pz_w4 121 rfl rfl) (pz_w0 33 rfl rfl) (pz_w1 8 rfl rfl) (pz_w4 122 rfl rfl) ⟨by decide, by decide⟩ rfl
theorem pCX6_46 : pz_C RX6 46 yX6_spanOf cX6_spanOf 6 (some .int) 1 := pz_Cof (pz_w4 123 rfl rfl) (pz_w4 125 rfl rfl) (pz_w0 34 rfl rfl) (pz_w1 8 rfl rfl) (pz_w4 126 rfl rfl) ⟨by decide, by decide⟩ rfl
theorem pCX6_49 : pz_C RX6 49 yX6_turned cX6_turned 3 (some .int) 2 := pz_Cof (pz_w4 96 rfl rfl) (pz_w4 98 rfl rfl) (pz_w0 32 rfl rfl) (pz_w1 8 rfl rfl) (pz_w4 99 rfl rfl) ⟨by decide, by decide⟩ rfl
theorem pCX6_112 : pz_C RX6 112 yX6_layTable cX6_layTable 4 none 0 := pz_Cof (pz_w3 192 rfl rfl) (pz_w3 194 rfl rfl) (pz_w0 26 rfl rfl) (pz_w1 8 rfl rfl) (pz_w3 195 rfl rfl) ⟨by decide, by decide⟩ rfl
theorem pCX6_115 : pz_C RX6 115 yX6_isElement cX6_isElement 2 (some .boolean) 1 := pz_Cof (pz_w4 80 rfl rfl) (pz_w4 82 rfl rfl) (pz_w0 28 rfl rfl) (pz_w1 8 rfl rfl) (pz_w4 83 rfl rfl) ⟨by decide, by decide⟩ rfl
theorem pCX6_118 : pz_C RX6 118 yX6_orderOf cX6_orderOf 4 (some .int) 1 := pz_Cof (pz_w4 84 rfl rfl) (pz_w4 86 rfl rfl) (pz_w0 29 rfl rfl) (pz_w1 8 rfl rfl) (pz_w4 87 rfl rfl) ⟨by decide, by decide⟩ rfl
theorem pCX6_121 : pz_CS RX6 121 yX6_ones cX6_ones 3 (some .int) 1 := pz_CSof (pz_w4 100 rfl rfl) (pz_w4 101 rfl rfl) (pz_w1 8 rfl rfl) (pz_w4 102 rfl rfl) ⟨by decide, by decide⟩ rfl
theorem pCX6_124 : pz_C RX6 124 yX6_isSubgroup cX6_isSubgroup 2 (some .boolean) 1 := pz_Cof (pz_w4 131 rfl rfl) (pz_w4 133 rfl rfl) (pz_w0 35 rfl rfl) (pz_w1 8 rfl rfl) (pz_w4 134 rfl rfl) ⟨by decide, by decide⟩ rfl
theorem pCX6_127 : pz_C RX6 127 yX6_isNormal cX6_isNormal 4 (some .boolean) 1 := pz_Cof (pz_w4 139 rfl rfl) (pz_w4 141 rfl rfl) (pz_w0 36 rfl rfl) (pz_w1 8 rfl rfl) (pz_w4 142 rfl rfl) ⟨by decide, by decide⟩ rfl
theorem pCX6_136 : pz_C RX6 136 yX6_length cX6_length 1 (some .int) 0 := pz_Cof (pz_w4 171 rfl rfl) (pz_w4 173 rfl rfl) (pz_w0 38 rfl rfl) (pz_w1 8 rfl rfl) (pz_w4 174 rfl rfl) ⟨by decide, by decide⟩ rfl
theorem pCX6_140 : pz_CS RX6 140 yX6_tens cX6_tens 3 (some .int) 1 := pz_CSof (pz_w4 175 rfl rfl) (pz_w4 176 rfl rfl) (pz_w1 8 rfl rfl) (pz_w4 177 rfl rfl) ⟨by decide, by decide⟩ rfl
theorem pCX6_143 : pz_C RX6 143 yX6_read cX6_read 4 none 1 := pz_Cof (pz_w4 182 rfl rfl) (pz_w4 184 rfl rfl) (pz_w0 40 rfl rfl) (pz_w1 8 rfl rfl) (pz_w4 185 rfl rfl) ⟨by decide, by decide⟩ rfl
theorem pCX6_147 : pz_C RX6 147 yX6_whatIs cX6_whatIs 5 (some .int) 0 := pz_Cof (pz_w4 186 rfl rfl) (pz_w4 188 rfl rfl) (pz_w0 41 rfl rfl) (pz_w1 8 rfl rfl) (pz_w4 189 rfl rfl) ⟨by decide, by decide⟩ rfl
theorem pCX6_153 : pz_C RX6 153 yX6_codeIs cX6_codeIs 2 (some .int) 1 := pz_Cof (pz_w4 178 rfl rfl) (pz_w4 180 rfl rfl) (pz_w0 39 rfl rfl) (pz_w1 8 rfl rfl) (pz_w4 181 rfl rfl) ⟨by decide, by decide⟩ rfl
theorem pCX6_156 : pz_C RX6 156 yX6_layClasses cX6_layClasses 3 none 0 := pz_Cof (pz_w4 190 rfl rfl) (pz_w4 192 rfl rfl) (pz_w0 42 rfl rfl) (pz_w1 8 rfl rfl) (pz_w4 193 rfl rfl) ⟨by decide, by decide⟩ rfl
theorem pCX6_159 : pz_C RX6 159 yX6_swap cX6_swap 4 none 1 := pz_Cof (pz_w4 206 rfl rfl) (pz_w4 208 rfl rfl) (pz_w0 46 rfl rfl) (pz_w1 8 rfl rfl) (pz_w4 209 rfl rfl) ⟨by decide, by decide⟩ rfl
theorem pCX6_162 : pz_C RX6 162 yX6_written cX6_written 3 (some .int) 0 := pz_Cof (pz_w4 210 rfl rfl) (pz_w4 212 rfl rfl) (pz_w0 47 rfl rfl) (pz_w1 8 rfl rfl) (pz_w4 213 rfl rfl) ⟨by decide, by decide⟩ rfl
theorem pCX6_165 : pz_C RX6 165 yX6_isMove cX6_isMove 2 (some .boolean) 1 := pz_Cof (pz_w4 198 rfl rfl) (pz_w4 200 rfl rfl) (pz_w0 44 rfl rfl) (pz_w1 8 rfl rfl) (pz_w4 201 rfl rfl) ⟨by decide, by decide⟩ rfl
theorem pCX6_168 : pz_C RX6 168 yX6_moved cX6_moved 4 (some .int) 2 := pz_Cof (pz_w4 202 rfl rfl) (pz_w4 204 rfl rfl) (pz_w0 45 rfl rfl) (pz_w1 8 rfl rfl) (pz_w4 205 rfl rfl) ⟨by decide, by decide⟩ rfl
theorem pCX6_171 : pz_C RX6 171 yX6_placeOf cX6_placeOf 2 (some .int) 1 := pz_Cof (pz_w4 214 rfl rfl) (pz_w4 216 rfl rfl) (pz_w0 48 rfl rfl) (pz_w1 8 rfl rfl) (pz_w4 217 rfl rfl) ⟨by decide, by decide⟩ rfl
theorem pCX6_177 : pz_C RX6 177 yX6_spread cX6_spread 6 none 1 := pz_Cof (pz_w4 194 rfl rfl) (pz_w4 196 rfl rfl) (pz_w0 43 rfl rfl) (pz_w1 8 rfl rfl) (pz_w4 197 rfl rfl) ⟨by decide, by decide⟩ rfl
theorem pCX6_180 : pz_C RX6 180 yX6_lay cX6_lay 3 none 0 := pz_Cof (pz_w4 167 rfl rfl) (pz_w4 169 rfl rfl) (pz_w0 37 rfl rfl) (pz_w1 8 rfl rfl) (pz_w4 170 rfl rfl) ⟨by decide, by decide⟩ rfl
theorem pCX6_183 : pz_C RX6 183 yX6_genusOf cX6_genusOf 3 (some .int) 0 := pz_Cof (pz_w4 226 rfl rfl) (pz_w4 228 rfl rfl) (pz_w0 49 rfl rfl) (pz_w1 8 rfl rfl) (pz_w4 229 rfl rfl) ⟨by decide, by decide⟩ rfl
theorem pCX6_186 : pz_C RX6 186 yX6_leftOf cX6_leftOf 5 (some .int) 2 := pz_Cof (pz_w4 234 rfl rfl) (pz_w4 236 rfl rfl) (pz_w0 50 rfl rfl) (pz_w1 8 rfl rfl) (pz_w4 237 rfl rfl) ⟨by decide, by decide⟩ rfl
theorem pCX6_189 : pz_C RX6 189 yX6_classSize cX6_classSize 4 (some .int) 1 := pz_Cof (pz_w5 14 rfl rfl) (pz_w5 16 rfl rfl) (pz_w0 51 rfl rfl) (pz_w1 8 rfl rfl) (pz_w5 17 rfl rfl) ⟨by decide, by decide⟩ rfl
theorem pCX6_192 : pz_C RX6 192 yX6_divides cX6_divides 2 (some .boolean) 0 := pz_Cof (pz_w5 42 rfl rfl) (pz_w5 44 rfl rfl) (pz_w0 54 rfl rfl) (pz_w1 8 rfl rfl) (pz_w5 45 rfl rfl) ⟨by decide, by decide⟩ rfl
theorem pCX6_196 : pz_C RX6 196 yX6_hasMaps cX6_hasMaps 2 (some .boolean) 0 := pz_Cof (pz_w5 46 rfl rfl) (pz_w5 48 rfl rfl) (pz_w0 55 rfl rfl) (pz_w1 8 rfl rfl) (pz_w5 49 rfl rfl) ⟨by decide, by decide⟩ rfl
theorem pCX6_205 : pz_C RX6 205 yX6_look cX6_look 5 none 2 := pz_Cof (pz_w5 38 rfl rfl) (pz_w5 40 rfl rfl) (pz_w0 53 rfl rfl) (pz_w1 8 rfl rfl) (pz_w5 41 rfl rfl) ⟨by decide, by decide⟩ rfl
theorem pCX6_209 : pz_C RX6 209 yX6_goesOn cX6_goesOn 4 (some .boolean) 0 := pz_Cof (pz_w5 50 rfl rfl) (pz_w5 52 rfl rfl) (pz_w0 56 rfl rfl) (pz_w1 8 rfl rfl) (pz_w5 53 rfl rfl) ⟨by decide, by decide⟩ rfl
theorem pCX6_212 : pz_C RX6 212 yX6_find cX6_find 5 none 3 := pz_Cof (pz_w5 34 rfl rfl) (pz_w5 36 rfl rfl) (pz_w0 52 rfl rfl) (pz_w1 8 rfl rfl) (pz_w5 37 rfl rfl) ⟨by decide, by decide⟩ rfl
theorem pCX6_216 : pz_C RX6 216 yX6_shelvesMany cX6_shelvesMany 3 (some .int) 0 := pz_Cof (pz_w5 58 rfl rfl) (pz_w5 60 rfl rfl) (pz_w0 57 rfl rfl) (pz_w1 8 rfl rfl) (pz_w5 61 rfl rfl) ⟨by decide, by decide⟩ rfl
theorem pCX6_219 : pz_C RX6 219 yX6_areLike cX6_areLike 5 (some .boolean) 2 := pz_Cof (pz_w5 78 rfl rfl) (pz_w5 80 rfl rfl) (pz_w0 59 rfl rfl) (pz_w1 8 rfl rfl) (pz_w5 81 rfl rfl) ⟨by decide, by decide⟩ rfl
theorem pCX6_223 : pz_C RX6 223 yX6_firstLike cX6_firstLike 3 (some .int) 1 := pz_Cof (pz_w5 74 rfl rfl) (pz_w5 76 rfl rfl) (pz_w0 58 rfl rfl) (pz_w1 8 rfl rfl) (pz_w5 77 rfl rfl) ⟨by decide, by decide⟩ rfl
