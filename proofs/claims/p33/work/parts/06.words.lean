theorem lc_0 : 0 < zN ∧ lay 0 = (0, 9) := by decide +kernel
theorem wm_X9_43 : Cond.methodLink "ShardTrails" 43 yX9_isWithin ∈ wsU := wsU_c2 110 rfl rfl
theorem zy_X9_isWithin : zyS yX9_isWithin cX9_isWithin 3 3 (some .boolean) := ⟨wsU_c2 112 rfl rfl, wsU_c2 111 rfl rfl, wsU_c1 1 rfl rfl, by decide +kernel⟩
theorem wf_X9_12 : Cond.fieldLink "ShardTrails" 12 "ShardTrails" "state" "LShardTrails$State;" ∈ wsU := wsU_c2 84 rfl rfl
theorem lc_1 : 1 < zN ∧ lay 1 = (0, 7) := by decide +kernel
theorem wf_X9_47 : Cond.fieldLink "ShardTrails" 47 "ShardTrails$State" "land" "LShardTrails$Land;" ∈ wsU := wsU_c1 196 rfl rfl
theorem lc_4 : 4 < zN ∧ lay 4 = (0, 2) := by decide +kernel
theorem wf_X9_51 : Cond.fieldLink "ShardTrails" 51 "ShardTrails$Land" "number" "I" ∈ wsU := wsU_c1 49 rfl rfl
theorem wf_X9_25 : Cond.fieldLink "ShardTrails" 25 "ShardTrails" "history" "LShardTrails$History;" ∈ wsU := wsU_c2 87 rfl rfl
theorem lc_88 : 88 < zN ∧ lay 88 = (0, 1) := by decide +kernel
theorem wm_X9_57 : Cond.methodLink "ShardTrails" 57 yX1_store ∈ wsU := wsU_c2 113 rfl rfl
theorem zy_X1_store : zyV yX1_store cX1_store 2 1 none := ⟨wsU_c2 116 rfl rfl, wsU_c2 114 rfl rfl, wsU_c2 115 rfl rfl, wsU_c1 9 rfl rfl, by decide +kernel⟩
theorem wm_X9_61 : Cond.methodLink "ShardTrails" 61 yX2_found ∈ wsU := wsU_c2 155 rfl rfl
theorem zy_X2_found : zyV yX2_found cX2_found 5 3 (some .int) := ⟨wsU_c2 158 rfl rfl, wsU_c2 156 rfl rfl, wsU_c2 157 rfl rfl, wsU_c1 3 rfl rfl, by decide +kernel⟩
theorem wf_X1_11 : Cond.fieldLink "ShardTrails$History" 11 "ShardTrails$History" "states" "[LShardTrails$State;" ∈ wsU := wsU_c2 5 rfl rfl
theorem lc_89 : 89 < zN ∧ lay 89 = (4, 4) := by decide +kernel
theorem wf_X1_18 : Cond.fieldLink "ShardTrails$History" 18 "ShardTrails$History" "oldest" "I" ∈ wsU := wsU_c2 4 rfl rfl
theorem wf_X1_22 : Cond.fieldLink "ShardTrails$History" 22 "ShardTrails$History" "number" "I" ∈ wsU := wsU_c2 2 rfl rfl
theorem pt_st0 : ∀ j, j < 4 → 90 + 29 * j < zN ∧ lay (90 + 29 * j) = (0, 7) := by decide +kernel
theorem pt_st {i : Int} (h : 0 ≤ i ∧ i < ((4 : Nat) : Int)) : 90 + 29 * i.toNat < zN ∧ lay (90 + 29 * i.toNat) = (0, 7) := pt_st0 _ (by omega)
theorem wm_X1_25 : Cond.methodLink "ShardTrails$History" 25 yX7_copyFrom ∈ wsU := wsU_c2 117 rfl rfl
theorem zy_X7_copyFrom : zyV yX7_copyFrom cX7_copyFrom 2 1 none := ⟨wsU_c2 120 rfl rfl, wsU_c2 118 rfl rfl, wsU_c2 119 rfl rfl, wsU_c1 2 rfl rfl, by decide +kernel⟩
theorem wf_X7_67 : Cond.fieldLink "ShardTrails$State" 67 "ShardTrails$State" "day" "I" ∈ wsU := wsU_c1 185 rfl rfl
theorem wf_X7_71 : Cond.fieldLink "ShardTrails$State" 71 "ShardTrails$State" "cutTracks" "I" ∈ wsU := wsU_c1 187 rfl rfl
theorem wf_X7_74 : Cond.fieldLink "ShardTrails$State" 74 "ShardTrails$State" "overgrownTracks" "I" ∈ wsU := wsU_c1 189 rfl rfl
theorem wf_X7_18 : Cond.fieldLink "ShardTrails$State" 18 "ShardTrails$State" "numbers" "[I" ∈ wsU := wsU_c1 191 rfl rfl
theorem pt_7_3 : ∀ k, k < zN → lay k = (0, 7) → k + 1 < zN ∧ lay (k + 1) = (1, 6) := by decide +kernel
theorem wn_X7_77 : ("ShardTrails$State", 77, yX9_copyRow, "ShardTrails") ∈ zNest := List.mem_of_getElem? (i := 7) (by decide +kernel)
theorem zy_X9_copyRow : zyS yX9_copyRow cX9_copyRow 2 2 none := ⟨wsU_c2 123 rfl rfl, wsU_c2 122 rfl rfl, wsU_c1 1 rfl rfl, by decide +kernel⟩
theorem wf_X7_26 : Cond.fieldLink "ShardTrails$State" 26 "ShardTrails$State" "latitudes" "[I" ∈ wsU := wsU_c1 193 rfl rfl
theorem pt_7_4 : ∀ k, k < zN → lay k = (0, 7) → k + 2 < zN ∧ lay (k + 2) = (1, 4) := by decide +kernel
theorem wf_X7_32 : Cond.fieldLink "ShardTrails$State" 32 "ShardTrails$State" "land" "LShardTrails$Land;" ∈ wsU := wsU_c1 195 rfl rfl
theorem pt_7_5 : ∀ k, k < zN → lay k = (0, 7) → k + 3 < zN ∧ lay (k + 3) = (0, 2) := by decide +kernel
theorem wm_X7_81 : Cond.methodLink "ShardTrails$State" 81 yX2_copyFrom ∈ wsU := wsU_c2 130 rfl rfl
theorem zy_X2_copyFrom : zyV yX2_copyFrom cX2_copyFrom 3 1 none := ⟨wsU_c2 133 rfl rfl, wsU_c2 131 rfl rfl, wsU_c2 132 rfl rfl, wsU_c1 3 rfl rfl, by decide +kernel⟩
theorem wf_X7_39 : Cond.fieldLink "ShardTrails$State" 39 "ShardTrails$State" "tracks" "LShardTrails$Tracks;" ∈ wsU := wsU_c1 198 rfl rfl
theorem pt_7_6 : ∀ k, k < zN → lay k = (0, 7) → k + 10 < zN ∧ lay (k + 10) = (0, 8) := by decide +kernel
theorem wm_X7_85 : Cond.methodLink "ShardTrails$State" 85 yX8_copyFrom ∈ wsU := wsU_c2 135 rfl rfl
theorem zy_X8_copyFrom : zyV yX8_copyFrom cX8_copyFrom 2 1 none := ⟨wsU_c2 138 rfl rfl, wsU_c2 136 rfl rfl, wsU_c2 137 rfl rfl, wsU_c1 5 rfl rfl, by decide +kernel⟩
theorem wf_X7_46 : Cond.fieldLink "ShardTrails$State" 46 "ShardTrails$State" "herd" "LShardTrails$Herd;" ∈ wsU := wsU_c1 201 rfl rfl
theorem pt_7_7 : ∀ k, k < zN → lay k = (0, 7) → k + 13 < zN ∧ lay (k + 13) = (0, 0) := by decide +kernel
theorem wm_X7_88 : Cond.methodLink "ShardTrails$State" 88 yX0_copyFrom ∈ wsU := wsU_c2 140 rfl rfl
theorem zy_X0_copyFrom : zyV yX0_copyFrom cX0_copyFrom 2 1 none := ⟨wsU_c2 143 rfl rfl, wsU_c2 141 rfl rfl, wsU_c2 142 rfl rfl, wsU_c1 6 rfl rfl, by decide +kernel⟩
theorem wf_X7_53 : Cond.fieldLink "ShardTrails$State" 53 "ShardTrails$State" "pack" "LShardTrails$Pack;" ∈ wsU := wsU_c1 204 rfl rfl
theorem pt_7_8 : ∀ k, k < zN → lay k = (0, 7) → k + 18 < zN ∧ lay (k + 18) = (0, 3) := by decide +kernel
theorem wm_X7_91 : Cond.methodLink "ShardTrails$State" 91 yX3_copyFrom ∈ wsU := wsU_c2 145 rfl rfl
theorem zy_X3_copyFrom : zyV yX3_copyFrom cX3_copyFrom 2 1 none := ⟨wsU_c2 148 rfl rfl, wsU_c2 146 rfl rfl, wsU_c2 147 rfl rfl, wsU_c1 7 rfl rfl, by decide +kernel⟩
theorem wf_X7_60 : Cond.fieldLink "ShardTrails$State" 60 "ShardTrails$State" "readers" "LShardTrails$Readers;" ∈ wsU := wsU_c1 206 rfl rfl
theorem pt_7_9 : ∀ k, k < zN → lay k = (0, 7) → k + 21 < zN ∧ lay (k + 21) = (0, 4) := by decide +kernel
theorem wm_X7_94 : Cond.methodLink "ShardTrails$State" 94 yX4_copyFrom ∈ wsU := wsU_c2 150 rfl rfl
theorem zy_X4_copyFrom : zyV yX4_copyFrom cX4_copyFrom 2 1 none := ⟨wsU_c2 153 rfl rfl, wsU_c2 151 rfl rfl, wsU_c2 152 rfl rfl, wsU_c1 8 rfl rfl, by decide +kernel⟩
theorem wm_X9_318 : Cond.methodLink "ShardTrails" 318 Lib.Math.min.name ∈ wsU := wsU_c2 124 rfl rfl
theorem zm_min : Cond.static Lib.Math.min.name ∈ wsU ∧ Cond.initialized "java/lang/Math" ∈ wsU ∧ Cond.code Lib.Math.min.name Lib.Math.min.code 2 (some .int) ∈ wsU := ⟨wsU_c2 125 rfl rfl, wsU_c1 12 rfl rfl, wsU_c2 126 rfl rfl⟩
theorem wm_X9_323 : Cond.methodLink "ShardTrails" 323 arraycopyName ∈ wsU := wsU_c2 127 rfl rfl
theorem zcp_n : Cond.native arraycopyName ∈ wsU := wsU_c2 129 rfl rfl
theorem zcp_s : Cond.static arraycopyName ∈ wsU := wsU_c2 128 rfl rfl
theorem zcp_i : Cond.initialized "java/lang/System" ∈ wsU := wsU_c1 13 rfl rfl
theorem wf_X0_9 : Cond.fieldLink "ShardTrails$Herd" 9 "ShardTrails$Herd" "at" "[I" ∈ wsU := wsU_c1 110 rfl rfl
theorem pt_0_0 : ∀ k, k < zN → lay k = (0, 0) → k + 1 < zN ∧ lay (k + 1) = (1, 16) := by decide +kernel
theorem wn_X0_24 : ("ShardTrails$Herd", 24, yX9_copyRow, "ShardTrails") ∈ zNest := List.mem_of_getElem? (i := 10) (by decide +kernel)
theorem wf_X0_15 : Cond.fieldLink "ShardTrails$Herd" 15 "ShardTrails$Herd" "heat" "[I" ∈ wsU := wsU_c1 114 rfl rfl
theorem pt_0_1 : ∀ k, k < zN → lay k = (0, 0) → k + 2 < zN ∧ lay (k + 2) = (1, 16) := by decide +kernel
theorem wf_X0_18 : Cond.fieldLink "ShardTrails$Herd" 18 "ShardTrails$Herd" "moves" "[I" ∈ wsU := wsU_c1 116 rfl rfl
theorem pt_0_2 : ∀ k, k < zN → lay k = (0, 0) → k + 3 < zN ∧ lay (k + 3) = (1, 16) := by decide +kernel
theorem wf_X0_21 : Cond.fieldLink "ShardTrails$Herd" 21 "ShardTrails$Herd" "values" "[I" ∈ wsU := wsU_c1 119 rfl rfl
theorem pt_0_3 : ∀ k, k < zN → lay k = (0, 0) → k + 4 < zN ∧ lay (k + 4) = (1, 256) := by decide +kernel
theorem wf_X2_37 : Cond.fieldLink "ShardTrails$Land" 37 "ShardTrails$Land" "number" "I" ∈ wsU := wsU_c1 48 rfl rfl
theorem wf_X2_9 : Cond.fieldLink "ShardTrails$Land" 9 "ShardTrails$Land" "latitude" "[I" ∈ wsU := wsU_c1 52 rfl rfl
theorem pt_2_1 : ∀ k, k < zN → lay k = (0, 2) → k + 1 < zN ∧ lay (k + 1) = (1, 8) := by decide +kernel
theorem wn_X2_41 : ("ShardTrails$Land", 41, yX9_copyRow, "ShardTrails") ∈ zNest := List.mem_of_getElem? (i := 8) (by decide +kernel)
theorem wf_X2_15 : Cond.fieldLink "ShardTrails$Land" 15 "ShardTrails$Land" "room" "[I" ∈ wsU := wsU_c1 55 rfl rfl
theorem pt_2_2 : ∀ k, k < zN → lay k = (0, 2) → k + 2 < zN ∧ lay (k + 2) = (1, 8) := by decide +kernel
theorem wf_X2_18 : Cond.fieldLink "ShardTrails$Land" 18 "ShardTrails$Land" "herdSize" "[I" ∈ wsU := wsU_c1 57 rfl rfl
theorem pt_2_3 : ∀ k, k < zN → lay k = (0, 2) → k + 3 < zN ∧ lay (k + 3) = (1, 8) := by decide +kernel
theorem wf_X2_21 : Cond.fieldLink "ShardTrails$Land" 21 "ShardTrails$Land" "sentTo" "[I" ∈ wsU := wsU_c1 60 rfl rfl
theorem pt_2_4 : ∀ k, k < zN → lay k = (0, 2) → k + 4 < zN ∧ lay (k + 4) = (1, 8) := by decide +kernel
theorem wf_X2_28 : Cond.fieldLink "ShardTrails$Land" 28 "ShardTrails$Land" "posted" "[I" ∈ wsU := wsU_c1 67 rfl rfl
theorem pt_2_6 : ∀ k, k < zN → lay k = (0, 2) → k + 6 < zN ∧ lay (k + 6) = (1, 128) := by decide +kernel
theorem wf_X2_24 : Cond.fieldLink "ShardTrails$Land" 24 "ShardTrails$Land" "inn" "[Z" ∈ wsU := wsU_c1 63 rfl rfl
theorem pt_2_5 : ∀ k, k < zN → lay k = (0, 2) → k + 5 < zN ∧ lay (k + 5) = (2, 8) := by decide +kernel
theorem wf_X3_18 : Cond.fieldLink "ShardTrails$Pack" 18 "ShardTrails$Pack" "number" "I" ∈ wsU := wsU_c1 136 rfl rfl
theorem wf_X3_9 : Cond.fieldLink "ShardTrails$Pack" 9 "ShardTrails$Pack" "at" "[I" ∈ wsU := wsU_c1 139 rfl rfl
theorem pt_3_1 : ∀ k, k < zN → lay k = (0, 3) → k + 1 < zN ∧ lay (k + 1) = (1, 3) := by decide +kernel
theorem wn_X3_22 : ("ShardTrails$Pack", 22, yX9_copyRow, "ShardTrails") ∈ zNest := List.mem_of_getElem? (i := 11) (by decide +kernel)
theorem wf_X3_15 : Cond.fieldLink "ShardTrails$Pack" 15 "ShardTrails$Pack" "stride" "[I" ∈ wsU := wsU_c1 141 rfl rfl
theorem pt_3_2 : ∀ k, k < zN → lay k = (0, 3) → k + 2 < zN ∧ lay (k + 2) = (1, 3) := by decide +kernel
theorem wf_X4_30 : Cond.fieldLink "ShardTrails$Readers" 30 "ShardTrails$Readers" "number" "I" ∈ wsU := wsU_c1 155 rfl rfl
theorem wf_X4_9 : Cond.fieldLink "ShardTrails$Readers" 9 "ShardTrails$Readers" "home" "[I" ∈ wsU := wsU_c1 157 rfl rfl
theorem pt_4_1 : ∀ k, k < zN → lay k = (0, 4) → k + 1 < zN ∧ lay (k + 1) = (1, 6) := by decide +kernel
theorem wn_X4_34 : ("ShardTrails$Readers", 34, yX9_copyRow, "ShardTrails") ∈ zNest := List.mem_of_getElem? (i := 12) (by decide +kernel)
theorem wf_X4_15 : Cond.fieldLink "ShardTrails$Readers" 15 "ShardTrails$Readers" "requests" "[I" ∈ wsU := wsU_c1 159 rfl rfl
theorem pt_4_2 : ∀ k, k < zN → lay k = (0, 4) → k + 2 < zN ∧ lay (k + 2) = (1, 6) := by decide +kernel
theorem wf_X4_18 : Cond.fieldLink "ShardTrails$Readers" 18 "ShardTrails$Readers" "hops" "[I" ∈ wsU := wsU_c1 161 rfl rfl
theorem pt_4_3 : ∀ k, k < zN → lay k = (0, 4) → k + 3 < zN ∧ lay (k + 3) = (1, 6) := by decide +kernel
theorem wf_X4_21 : Cond.fieldLink "ShardTrails$Readers" 21 "ShardTrails$Readers" "cries" "[I" ∈ wsU := wsU_c1 163 rfl rfl
theorem pt_4_4 : ∀ k, k < zN → lay k = (0, 4) → k + 4 < zN ∧ lay (k + 4) = (1, 6) := by decide +kernel
theorem wf_X4_24 : Cond.fieldLink "ShardTrails$Readers" 24 "ShardTrails$Readers" "mostHops" "[I" ∈ wsU := wsU_c1 165 rfl rfl
theorem pt_4_5 : ∀ k, k < zN → lay k = (0, 4) → k + 5 < zN ∧ lay (k + 5) = (1, 6) := by decide +kernel
theorem wf_X4_27 : Cond.fieldLink "ShardTrails$Readers" 27 "ShardTrails$Readers" "memory" "[I" ∈ wsU := wsU_c1 167 rfl rfl
theorem pt_4_6 : ∀ k, k < zN → lay k = (0, 4) → k + 6 < zN ∧ lay (k + 6) = (1, 96) := by decide +kernel
theorem wf_X8_9 : Cond.fieldLink "ShardTrails$Tracks" 9 "ShardTrails$Tracks" "leadsTo" "[I" ∈ wsU := wsU_c1 94 rfl rfl
theorem pt_8_0 : ∀ k, k < zN → lay k = (0, 8) → k + 1 < zN ∧ lay (k + 1) = (1, 128) := by decide +kernel
theorem wn_X8_24 : ("ShardTrails$Tracks", 24, yX9_copyRow, "ShardTrails") ∈ zNest := List.mem_of_getElem? (i := 9) (by decide +kernel)
theorem wf_X8_15 : Cond.fieldLink "ShardTrails$Tracks" 15 "ShardTrails$Tracks" "leftOn" "[I" ∈ wsU := wsU_c1 97 rfl rfl
theorem pt_8_1 : ∀ k, k < zN → lay k = (0, 8) → k + 2 < zN ∧ lay (k + 2) = (1, 128) := by decide +kernel
theorem wm_X9_65 : Cond.methodLink "ShardTrails" 65 yX9_isPasture ∈ wsU := wsU_c2 163 rfl rfl
theorem zy_X9_isPasture : zyV yX9_isPasture cX9_isPasture 2 1 (some .boolean) := ⟨wsU_c2 166 rfl rfl, wsU_c2 165 rfl rfl, wsU_c0 0 rfl rfl, wsU_c1 1 rfl rfl, by decide +kernel⟩
theorem wf_X9_99 : Cond.fieldLink "ShardTrails" 99 "ShardTrails$State" "readers" "LShardTrails$Readers;" ∈ wsU := wsU_c1 208 rfl rfl
theorem lc_22 : 22 < zN ∧ lay 22 = (0, 4) := by decide +kernel
theorem wf_X9_103 : Cond.fieldLink "ShardTrails" 103 "ShardTrails$Readers" "number" "I" ∈ wsU := wsU_c1 156 rfl rfl
theorem wm_X9_106 : Cond.methodLink "ShardTrails" 106 yX4_join ∈ wsU := wsU_c2 167 rfl rfl
theorem zy_X4_join : zyV yX4_join cX4_join 4 1 (some .int) := ⟨wsU_c2 170 rfl rfl, wsU_c2 168 rfl rfl, wsU_c2 169 rfl rfl, wsU_c1 8 rfl rfl, by decide +kernel⟩
theorem wn_X4_38 : ("ShardTrails$Readers", 38, yX9_cell, "ShardTrails") ∈ zNest := List.mem_of_getElem? (i := 13) (by decide +kernel)
theorem zy_X9_cell : zyS yX9_cell cX9_cell 2 2 (some .int) := ⟨wsU_c2 173 rfl rfl, wsU_c2 172 rfl rfl, wsU_c1 1 rfl rfl, by decide +kernel⟩
theorem wf_X9_88 : Cond.fieldLink "ShardTrails" 88 "ShardTrails$State" "pack" "LShardTrails$Pack;" ∈ wsU := wsU_c1 205 rfl rfl
theorem lc_19 : 19 < zN ∧ lay 19 = (0, 3) := by decide +kernel
theorem wf_X9_92 : Cond.fieldLink "ShardTrails" 92 "ShardTrails$Pack" "number" "I" ∈ wsU := wsU_c1 137 rfl rfl
theorem wm_X9_95 : Cond.methodLink "ShardTrails" 95 yX3_join ∈ wsU := wsU_c3 230 rfl rfl
theorem zy_X3_join : zyV yX3_join cX3_join 4 2 (some .int) := ⟨wsU_c3 233 rfl rfl, wsU_c3 231 rfl rfl, wsU_c3 232 rfl rfl, wsU_c1 7 rfl rfl, by decide +kernel⟩
theorem wf_X9_121 : Cond.fieldLink "ShardTrails" 121 "ShardTrails$State" "day" "I" ∈ wsU := wsU_c1 186 rfl rfl
theorem wm_X9_298 : Cond.methodLink "ShardTrails" 298 yX7_season ∈ wsU := wsU_c3 163 rfl rfl
theorem zy_X7_season : zyV yX7_season cX7_season 2 0 (some .int) := ⟨wsU_c2 222 rfl rfl, wsU_c2 220 rfl rfl, wsU_c2 221 rfl rfl, wsU_c1 2 rfl rfl, by decide +kernel⟩
theorem wm_X9_207 : Cond.methodLink "ShardTrails" 207 yX7_seasonLatitude ∈ wsU := wsU_c3 108 rfl rfl
theorem zy_X7_seasonLatitude : zyV yX7_seasonLatitude cX7_seasonLatitude 1 0 (some .int) := ⟨wsU_c2 218 rfl rfl, wsU_c2 216 rfl rfl, wsU_c2 217 rfl rfl, wsU_c1 2 rfl rfl, by decide +kernel⟩
theorem wm_X9_84 : Cond.methodLink "ShardTrails" 84 yX2_inns ∈ wsU := wsU_c3 164 rfl rfl
theorem zy_X2_inns : zyV yX2_inns cX2_inns 3 0 (some .int) := ⟨wsU_c3 167 rfl rfl, wsU_c3 165 rfl rfl, wsU_c3 166 rfl rfl, wsU_c1 3 rfl rfl, by decide +kernel⟩
theorem wf_X9_198 : Cond.fieldLink "ShardTrails" 198 "ShardTrails$State" "tracks" "LShardTrails$Tracks;" ∈ wsU := wsU_c1 200 rfl rfl
theorem lc_11 : 11 < zN ∧ lay 11 = (0, 8) := by decide +kernel
theorem wm_X9_301 : Cond.methodLink "ShardTrails" 301 yX8_countAll ∈ wsU := wsU_c3 168 rfl rfl
theorem zy_X8_countAll : zyV yX8_countAll cX8_countAll 3 0 (some .int) := ⟨wsU_c3 171 rfl rfl, wsU_c3 169 rfl rfl, wsU_c3 170 rfl rfl, wsU_c1 5 rfl rfl, by decide +kernel⟩
theorem wf_X9_130 : Cond.fieldLink "ShardTrails" 130 "ShardTrails$State" "herd" "LShardTrails$Herd;" ∈ wsU := wsU_c1 203 rfl rfl
theorem lc_14 : 14 < zN ∧ lay 14 = (0, 0) := by decide +kernel
theorem wf_X9_239 : Cond.fieldLink "ShardTrails" 239 "ShardTrails$Herd" "moves" "[I" ∈ wsU := wsU_c1 118 rfl rfl
theorem lc_17 : 17 < zN ∧ lay 17 = (1, 16) := by decide +kernel
theorem wm_X9_304 : Cond.methodLink "ShardTrails" 304 yX9_sum ∈ wsU := wsU_c3 173 rfl rfl
theorem zy_X9_sum : zyS yX9_sum cX9_sum 4 2 (some .int) := ⟨wsU_c3 175 rfl rfl, wsU_c3 174 rfl rfl, wsU_c1 1 rfl rfl, by decide +kernel⟩
theorem wf_X9_308 : Cond.fieldLink "ShardTrails" 308 "ShardTrails$State" "cutTracks" "I" ∈ wsU := wsU_c1 188 rfl rfl
theorem wf_X9_311 : Cond.fieldLink "ShardTrails" 311 "ShardTrails$State" "overgrownTracks" "I" ∈ wsU := wsU_c1 190 rfl rfl
theorem wf_X9_258 : Cond.fieldLink "ShardTrails" 258 "ShardTrails$Readers" "requests" "[I" ∈ wsU := wsU_c1 160 rfl rfl
theorem lc_24 : 24 < zN ∧ lay 24 = (1, 6) := by decide +kernel
theorem wf_X9_264 : Cond.fieldLink "ShardTrails" 264 "ShardTrails$Readers" "cries" "[I" ∈ wsU := wsU_c1 164 rfl rfl
theorem lc_26 : 26 < zN ∧ lay 26 = (1, 6) := by decide +kernel
theorem wf_X9_184 : Cond.fieldLink "ShardTrails" 184 "ShardTrails$History" "number" "I" ∈ wsU := wsU_c2 3 rfl rfl
theorem wf_X9_39 : Cond.fieldLink "ShardTrails" 39 "ShardTrails" "text" "LShardTrails$RequestText;" ∈ wsU := wsU_c2 89 rfl rfl
theorem lc_210 : 210 < zN ∧ lay 210 = (0, 5) := by decide +kernel
theorem wf_X9_165 : Cond.fieldLink "ShardTrails" 165 "ShardTrails$RequestText" "length" "I" ∈ wsU := wsU_c2 63 rfl rfl
theorem wm_X7_97 : Cond.methodLink "ShardTrails$State" 97 yX7_season ∈ wsU := wsU_c2 219 rfl rfl
theorem wm_X8_36 : Cond.methodLink "ShardTrails$Tracks" 36 yX8_countIn ∈ wsU := wsU_c3 172 rfl rfl
theorem zy_X8_countIn : zyV yX8_countIn cX8_countIn 4 1 (some .int) := ⟨wsU_c3 107 rfl rfl, wsU_c3 105 rfl rfl, wsU_c3 106 rfl rfl, wsU_c1 5 rfl rfl, by decide +kernel⟩
theorem wm_X8_32 : Cond.methodLink "ShardTrails$Tracks" 32 yX8_isAt ∈ wsU := wsU_c2 202 rfl rfl
theorem zy_X8_isAt : zyV yX8_isAt cX8_isAt 3 2 (some .boolean) := ⟨wsU_c2 205 rfl rfl, wsU_c2 203 rfl rfl, wsU_c2 204 rfl rfl, wsU_c1 5 rfl rfl, by decide +kernel⟩
theorem wn_X8_28 : ("ShardTrails$Tracks", 28, yX9_cell, "ShardTrails") ∈ zNest := List.mem_of_getElem? (i := 14) (by decide +kernel)
theorem wm_X9_149 : Cond.methodLink "ShardTrails" 149 yX7_tracksInReach ∈ wsU := wsU_c4 19 rfl rfl
theorem zy_X7_tracksInReach : zyV yX7_tracksInReach cX7_tracksInReach 3 1 (some .int) := ⟨wsU_c4 22 rfl rfl, wsU_c4 20 rfl rfl, wsU_c4 21 rfl rfl, wsU_c1 2 rfl rfl, by decide +kernel⟩
theorem wm_X9_152 : Cond.methodLink "ShardTrails" 152 yX7_letWolfCut ∈ wsU := wsU_c4 24 rfl rfl
theorem zy_X7_letWolfCut : zyV yX7_letWolfCut cX7_letWolfCut 4 1 (some .int) := ⟨wsU_c2 197 rfl rfl, wsU_c2 195 rfl rfl, wsU_c2 196 rfl rfl, wsU_c1 2 rfl rfl, by decide +kernel⟩
theorem wf_X7_128 : Cond.fieldLink "ShardTrails$State" 128 "ShardTrails$Pack" "at" "[I" ∈ wsU := wsU_c1 140 rfl rfl
theorem wf_X7_131 : Cond.fieldLink "ShardTrails$State" 131 "ShardTrails$Land" "inn" "[Z" ∈ wsU := wsU_c1 66 rfl rfl
theorem wm_X7_135 : Cond.methodLink "ShardTrails$State" 135 yX8_removeLeftUntil ∈ wsU := wsU_c2 198 rfl rfl
theorem zy_X8_removeLeftUntil : zyV yX8_removeLeftUntil cX8_removeLeftUntil 5 2 (some .int) := ⟨wsU_c2 201 rfl rfl, wsU_c2 199 rfl rfl, wsU_c2 200 rfl rfl, wsU_c1 5 rfl rfl, by decide +kernel⟩
theorem wm_X7_139 : Cond.methodLink "ShardTrails$State" 139 yX8_countIn ∈ wsU := wsU_c4 23 rfl rfl
theorem wf_X9_19 : Cond.fieldLink "ShardTrails" 19 "ShardTrails" "snapshot" "LShardTrails$State;" ∈ wsU := wsU_c2 86 rfl rfl
theorem lc_59 : 59 < zN ∧ lay 59 = (0, 7) := by decide +kernel
theorem wm_X9_188 : Cond.methodLink "ShardTrails" 188 yX7_copyFrom ∈ wsU := wsU_c3 95 rfl rfl
theorem wf_X9_191 : Cond.fieldLink "ShardTrails" 191 "ShardTrails" "hasSnapshot" "Z" ∈ wsU := wsU_c2 90 rfl rfl
theorem wm_X9_127 : Cond.methodLink "ShardTrails" 127 yX9_isShard ∈ wsU := wsU_c3 122 rfl rfl
theorem zy_X9_isShard : zyS yX9_isShard cX9_isShard 1 1 (some .boolean) := ⟨wsU_c3 124 rfl rfl, wsU_c3 123 rfl rfl, wsU_c1 1 rfl rfl, by decide +kernel⟩
theorem wf_X9_134 : Cond.fieldLink "ShardTrails" 134 "ShardTrails$Herd" "at" "[I" ∈ wsU := wsU_c1 112 rfl rfl
theorem lc_15 : 15 < zN ∧ lay 15 = (1, 16) := by decide +kernel
theorem wm_X9_139 : Cond.methodLink "ShardTrails" 139 yX2_hasRoom ∈ wsU := wsU_c4 29 rfl rfl
theorem zy_X2_hasRoom : zyV yX2_hasRoom cX2_hasRoom 2 1 (some .boolean) := ⟨wsU_c2 238 rfl rfl, wsU_c2 236 rfl rfl, wsU_c2 237 rfl rfl, wsU_c1 3 rfl rfl, by decide +kernel⟩
theorem wm_X9_142 : Cond.methodLink "ShardTrails" 142 yX7_drive ∈ wsU := wsU_c4 30 rfl rfl
theorem zy_X7_drive : zyV yX7_drive cX7_drive 4 2 none := ⟨wsU_c3 10 rfl rfl, wsU_c3 8 rfl rfl, wsU_c3 9 rfl rfl, wsU_c1 2 rfl rfl, by decide +kernel⟩
theorem wf_X7_149 : Cond.fieldLink "ShardTrails$State" 149 "ShardTrails$Herd" "at" "[I" ∈ wsU := wsU_c1 113 rfl rfl
theorem wm_X7_159 : Cond.methodLink "ShardTrails$State" 159 yX8_leave ∈ wsU := wsU_c3 11 rfl rfl
theorem zy_X8_leave : zyV yX8_leave cX8_leave 5 4 none := ⟨wsU_c3 14 rfl rfl, wsU_c3 12 rfl rfl, wsU_c3 13 rfl rfl, wsU_c1 5 rfl rfl, by decide +kernel⟩
theorem wf_X7_163 : Cond.fieldLink "ShardTrails$State" 163 "ShardTrails$Herd" "moves" "[I" ∈ wsU := wsU_c1 117 rfl rfl
theorem wf_X7_166 : Cond.fieldLink "ShardTrails$State" 166 "ShardTrails$Land" "herdSize" "[I" ∈ wsU := wsU_c1 59 rfl rfl
theorem wf_X9_16 : Cond.fieldLink "ShardTrails" 16 "ShardTrails" "trial" "LShardTrails$State;" ∈ wsU := wsU_c2 85 rfl rfl
theorem lc_30 : 30 < zN ∧ lay 30 = (0, 7) := by decide +kernel
theorem lc_43 : 43 < zN ∧ lay 43 = (0, 0) := by decide +kernel
theorem lc_46 : 46 < zN ∧ lay 46 = (1, 16) := by decide +kernel
theorem wm_X9_295 : Cond.methodLink "ShardTrails" 295 yX7_passDayOfHerd ∈ wsU := wsU_c3 155 rfl rfl
theorem zy_X7_passDayOfHerd : zyV yX7_passDayOfHerd cX7_passDayOfHerd 1 0 none := ⟨wsU_c3 158 rfl rfl, wsU_c3 156 rfl rfl, wsU_c3 157 rfl rfl, wsU_c1 2 rfl rfl, by decide +kernel⟩
theorem wm_X7_101 : Cond.methodLink "ShardTrails$State" 101 yX0_cool ∈ wsU := wsU_c2 182 rfl rfl
theorem zy_X0_cool : zyV yX0_cool cX0_cool 2 0 none := ⟨wsU_c2 185 rfl rfl, wsU_c2 183 rfl rfl, wsU_c2 184 rfl rfl, wsU_c1 6 rfl rfl, by decide +kernel⟩
theorem wm_X7_110 : Cond.methodLink "ShardTrails$State" 110 yX7_driveHerd ∈ wsU := wsU_c2 211 rfl rfl
theorem zy_X7_driveHerd : zyV yX7_driveHerd cX7_driveHerd 7 0 (some .int) := ⟨wsU_c2 214 rfl rfl, wsU_c2 212 rfl rfl, wsU_c2 213 rfl rfl, wsU_c1 2 rfl rfl, by decide +kernel⟩
theorem wm_X7_142 : Cond.methodLink "ShardTrails$State" 142 yX7_seasonLatitude ∈ wsU := wsU_c2 215 rfl rfl
theorem wf_X7_64 : Cond.fieldLink "ShardTrails$State" 64 "ShardTrails$State" "order" "[I" ∈ wsU := wsU_c1 209 rfl rfl
theorem pt_7_10 : ∀ k, k < zN → lay k = (0, 7) → k + 28 < zN ∧ lay (k + 28) = (1, 16) := by decide +kernel
theorem wm_X7_145 : Cond.methodLink "ShardTrails$State" 145 yX0_sortByHeat ∈ wsU := wsU_c2 223 rfl rfl
theorem zy_X0_sortByHeat : zyV yX0_sortByHeat cX0_sortByHeat 4 1 none := ⟨wsU_c2 226 rfl rfl, wsU_c2 224 rfl rfl, wsU_c2 225 rfl rfl, wsU_c1 6 rfl rfl, by decide +kernel⟩
theorem wm_X7_150 : Cond.methodLink "ShardTrails$State" 150 yX2_bestOther ∈ wsU := wsU_c2 231 rfl rfl
theorem zy_X2_bestOther : zyV yX2_bestOther cX2_bestOther 6 2 (some .int) := ⟨wsU_c2 234 rfl rfl, wsU_c2 232 rfl rfl, wsU_c2 233 rfl rfl, wsU_c1 3 rfl rfl, by decide +kernel⟩
theorem wm_X7_153 : Cond.methodLink "ShardTrails$State" 153 yX2_distance ∈ wsU := wsU_c3 6 rfl rfl
theorem zy_X2_distance : zyV yX2_distance cX2_distance 3 2 (some .int) := ⟨wsU_c3 2 rfl rfl, wsU_c3 0 rfl rfl, wsU_c3 1 rfl rfl, wsU_c1 3 rfl rfl, by decide +kernel⟩
theorem wm_X7_156 : Cond.methodLink "ShardTrails$State" 156 yX7_drive ∈ wsU := wsU_c3 7 rfl rfl
theorem wm_X0_34 : Cond.methodLink "ShardTrails$Herd" 34 yX0_isAskedBefore ∈ wsU := wsU_c2 227 rfl rfl
theorem zy_X0_isAskedBefore : zyV yX0_isAskedBefore cX0_isAskedBefore 3 2 (some .boolean) := ⟨wsU_c2 230 rfl rfl, wsU_c2 228 rfl rfl, wsU_c2 229 rfl rfl, wsU_c1 6 rfl rfl, by decide +kernel⟩
theorem wm_X2_61 : Cond.methodLink "ShardTrails$Land" 61 yX2_hasRoom ∈ wsU := wsU_c2 235 rfl rfl
theorem wm_X2_65 : Cond.methodLink "ShardTrails$Land" 65 yX2_distance ∈ wsU := wsU_c2 239 rfl rfl
theorem wm_X2_45 : Cond.methodLink "ShardTrails$Land" 45 Lib.Math.abs.name ∈ wsU := wsU_c3 3 rfl rfl
theorem zm_abs : Cond.static Lib.Math.abs.name ∈ wsU ∧ Cond.initialized "java/lang/Math" ∈ wsU ∧ Cond.code Lib.Math.abs.name Lib.Math.abs.code 1 (some .int) ∈ wsU := ⟨wsU_c3 4 rfl rfl, wsU_c1 12 rfl rfl, wsU_c3 5 rfl rfl⟩
theorem wm_X9_124 : Cond.methodLink "ShardTrails" 124 yX7_passDay ∈ wsU := wsU_c2 178 rfl rfl
theorem zy_X7_passDay : zyV yX7_passDay cX7_passDay 2 0 (some .int) := ⟨wsU_c2 181 rfl rfl, wsU_c2 179 rfl rfl, wsU_c2 180 rfl rfl, wsU_c1 2 rfl rfl, by decide +kernel⟩
theorem wm_X7_104 : Cond.methodLink "ShardTrails$State" 104 yX7_letWolvesGo ∈ wsU := wsU_c2 186 rfl rfl
theorem zy_X7_letWolvesGo : zyV yX7_letWolvesGo cX7_letWolvesGo 2 0 none := ⟨wsU_c2 189 rfl rfl, wsU_c2 187 rfl rfl, wsU_c2 188 rfl rfl, wsU_c1 2 rfl rfl, by decide +kernel⟩
theorem wm_X7_107 : Cond.methodLink "ShardTrails$State" 107 yX7_letTracksGrowOver ∈ wsU := wsU_c2 207 rfl rfl
theorem zy_X7_letTracksGrowOver : zyV yX7_letTracksGrowOver cX7_letTracksGrowOver 2 0 none := ⟨wsU_c2 210 rfl rfl, wsU_c2 208 rfl rfl, wsU_c2 209 rfl rfl, wsU_c1 2 rfl rfl, by decide +kernel⟩
theorem wm_X7_113 : Cond.methodLink "ShardTrails$State" 113 yX7_letInnsPostOnTheirDay ∈ wsU := wsU_c3 15 rfl rfl
theorem zy_X7_letInnsPostOnTheirDay : zyV yX7_letInnsPostOnTheirDay cX7_letInnsPostOnTheirDay 2 0 none := ⟨wsU_c3 18 rfl rfl, wsU_c3 16 rfl rfl, wsU_c3 17 rfl rfl, wsU_c1 2 rfl rfl, by decide +kernel⟩
theorem wm_X7_169 : Cond.methodLink "ShardTrails$State" 169 yX7_letInnsPost ∈ wsU := wsU_c3 19 rfl rfl
theorem zy_X7_letInnsPost : zyV yX7_letInnsPost cX7_letInnsPost 1 0 none := ⟨wsU_c3 22 rfl rfl, wsU_c3 20 rfl rfl, wsU_c3 21 rfl rfl, wsU_c1 2 rfl rfl, by decide +kernel⟩
theorem wm_X7_172 : Cond.methodLink "ShardTrails$State" 172 yX2_tellAll ∈ wsU := wsU_c3 23 rfl rfl
theorem zy_X2_tellAll : zyV yX2_tellAll cX2_tellAll 3 1 none := ⟨wsU_c3 26 rfl rfl, wsU_c3 24 rfl rfl, wsU_c3 25 rfl rfl, wsU_c1 3 rfl rfl, by decide +kernel⟩
theorem wn_X2_51 : ("ShardTrails$Land", 51, yX9_cell, "ShardTrails") ∈ zNest := List.mem_of_getElem? (i := 15) (by decide +kernel)
theorem wm_X2_55 : Cond.methodLink "ShardTrails$Land" 55 arraycopyName ∈ wsU := wsU_c3 28 rfl rfl
theorem wf_X7_119 : Cond.fieldLink "ShardTrails$State" 119 "ShardTrails$Land" "number" "I" ∈ wsU := wsU_c1 51 rfl rfl
theorem wf_X7_116 : Cond.fieldLink "ShardTrails$State" 116 "ShardTrails$Pack" "number" "I" ∈ wsU := wsU_c1 138 rfl rfl
theorem wm_X7_120 : Cond.methodLink "ShardTrails$State" 120 yX3_advance ∈ wsU := wsU_c2 190 rfl rfl
theorem zy_X3_advance : zyV yX3_advance cX3_advance 3 2 none := ⟨wsU_c2 193 rfl rfl, wsU_c2 191 rfl rfl, wsU_c2 192 rfl rfl, wsU_c1 7 rfl rfl, by decide +kernel⟩
theorem wm_X7_124 : Cond.methodLink "ShardTrails$State" 124 yX7_letWolfCut ∈ wsU := wsU_c2 194 rfl rfl
theorem wf_X9_195 : Cond.fieldLink "ShardTrails" 195 "ShardTrails$Land" "latitude" "[I" ∈ wsU := wsU_c1 54 rfl rfl
theorem lc_5 : 5 < zN ∧ lay 5 = (1, 8) := by decide +kernel
theorem wf_X9_73 : Cond.fieldLink "ShardTrails" 73 "ShardTrails$Land" "room" "[I" ∈ wsU := wsU_c1 56 rfl rfl
theorem lc_6 : 6 < zN ∧ lay 6 = (1, 8) := by decide +kernel
theorem wf_X9_76 : Cond.fieldLink "ShardTrails" 76 "ShardTrails$Land" "inn" "[Z" ∈ wsU := wsU_c1 64 rfl rfl
theorem lc_9 : 9 < zN ∧ lay 9 = (2, 8) := by decide +kernel
theorem wf_X9_69 : Cond.fieldLink "ShardTrails" 69 "ShardTrails$Land" "herdSize" "[I" ∈ wsU := wsU_c1 58 rfl rfl
theorem lc_7 : 7 < zN ∧ lay 7 = (1, 8) := by decide +kernel
theorem wm_X9_202 : Cond.methodLink "ShardTrails" 202 yX8_countIn ∈ wsU := wsU_c3 104 rfl rfl
theorem wm_X9_210 : Cond.methodLink "ShardTrails" 210 yX2_distance ∈ wsU := wsU_c3 109 rfl rfl
theorem wm_X9_213 : Cond.methodLink "ShardTrails" 213 yX0_heatIn ∈ wsU := wsU_c3 110 rfl rfl
theorem zy_X0_heatIn : zyV yX0_heatIn cX0_heatIn 4 1 (some .int) := ⟨wsU_c3 113 rfl rfl, wsU_c3 111 rfl rfl, wsU_c3 112 rfl rfl, wsU_c1 6 rfl rfl, by decide +kernel⟩
theorem wm_X9_216 : Cond.methodLink "ShardTrails" 216 yX3_countIn ∈ wsU := wsU_c3 114 rfl rfl
theorem zy_X3_countIn : zyV yX3_countIn cX3_countIn 4 1 (some .int) := ⟨wsU_c3 117 rfl rfl, wsU_c3 115 rfl rfl, wsU_c3 116 rfl rfl, wsU_c1 7 rfl rfl, by decide +kernel⟩
theorem wf_X9_217 : Cond.fieldLink "ShardTrails" 217 "ShardTrails$Land" "sentTo" "[I" ∈ wsU := wsU_c1 62 rfl rfl
theorem lc_8 : 8 < zN ∧ lay 8 = (1, 8) := by decide +kernel
theorem wm_X9_146 : Cond.methodLink "ShardTrails" 146 yX7_letInnsPost ∈ wsU := wsU_c4 14 rfl rfl
theorem wm_X9_155 : Cond.methodLink "ShardTrails" 155 yX9_isReader ∈ wsU := wsU_c3 33 rfl rfl
theorem zy_X9_isReader : zyV yX9_isReader cX9_isReader 2 1 (some .boolean) := ⟨wsU_c3 36 rfl rfl, wsU_c3 35 rfl rfl, wsU_c0 1 rfl rfl, wsU_c1 1 rfl rfl, by decide +kernel⟩
theorem wm_X9_158 : Cond.methodLink "ShardTrails" 158 yX9_isKey ∈ wsU := wsU_c3 37 rfl rfl
theorem zy_X9_isKey : zyS yX9_isKey cX9_isKey 1 1 (some .boolean) := ⟨wsU_c3 39 rfl rfl, wsU_c3 38 rfl rfl, wsU_c1 1 rfl rfl, by decide +kernel⟩
theorem wf_X9_32 : Cond.fieldLink "ShardTrails" 32 "ShardTrails" "route" "LShardTrails$Route;" ∈ wsU := wsU_c2 88 rfl rfl
theorem lc_206 : 206 < zN ∧ lay 206 = (0, 6) := by decide +kernel
theorem wm_X9_273 : Cond.methodLink "ShardTrails" 273 yX6_find ∈ wsU := wsU_c3 44 rfl rfl
theorem zy_X6_find : zyV yX6_find cX6_find 7 3 none := ⟨wsU_c3 47 rfl rfl, wsU_c3 45 rfl rfl, wsU_c3 46 rfl rfl, wsU_c1 10 rfl rfl, by decide +kernel⟩
theorem wf_X9_277 : Cond.fieldLink "ShardTrails" 277 "ShardTrails$Route" "hops" "I" ∈ wsU := wsU_c2 21 rfl rfl
theorem wf_X9_279 : Cond.fieldLink "ShardTrails" 279 "ShardTrails$Route" "followed" "I" ∈ wsU := wsU_c2 23 rfl rfl
theorem wf_X9_282 : Cond.fieldLink "ShardTrails" 282 "ShardTrails$Route" "askedInns" "I" ∈ wsU := wsU_c2 25 rfl rfl
theorem wf_X9_285 : Cond.fieldLink "ShardTrails" 285 "ShardTrails$Route" "sentInns" "I" ∈ wsU := wsU_c2 27 rfl rfl
theorem wf_X9_288 : Cond.fieldLink "ShardTrails" 288 "ShardTrails$Route" "cried" "Z" ∈ wsU := wsU_c2 30 rfl rfl
theorem wf_X6_22 : Cond.fieldLink "ShardTrails$Route" 22 "ShardTrails$State" "readers" "LShardTrails$Readers;" ∈ wsU := wsU_c1 207 rfl rfl
theorem wf_X6_28 : Cond.fieldLink "ShardTrails$Route" 28 "ShardTrails$Readers" "memory" "[I" ∈ wsU := wsU_c1 168 rfl rfl
theorem wn_X6_33 : ("ShardTrails$Route", 33, yX9_cell, "ShardTrails") ∈ zNest := List.mem_of_getElem? (i := 16) (by decide +kernel)
theorem wf_X6_37 : Cond.fieldLink "ShardTrails$Route" 37 "ShardTrails$State" "herd" "LShardTrails$Herd;" ∈ wsU := wsU_c1 202 rfl rfl
theorem wf_X6_41 : Cond.fieldLink "ShardTrails$Route" 41 "ShardTrails$Herd" "at" "[I" ∈ wsU := wsU_c1 111 rfl rfl
theorem wm_X6_46 : Cond.methodLink "ShardTrails$Route" 46 yX6_begin ∈ wsU := wsU_c3 49 rfl rfl
theorem zy_X6_begin : zyV yX6_begin cX6_begin 3 1 none := ⟨wsU_c3 52 rfl rfl, wsU_c3 51 rfl rfl, wsU_c0 3 rfl rfl, wsU_c1 10 rfl rfl, by decide +kernel⟩
theorem wm_X6_50 : Cond.methodLink "ShardTrails$Route" 50 yX6_next ∈ wsU := wsU_c3 57 rfl rfl
theorem zy_X6_next : zyV yX6_next cX6_next 6 3 (some .int) := ⟨wsU_c3 60 rfl rfl, wsU_c3 59 rfl rfl, wsU_c0 5 rfl rfl, wsU_c1 10 rfl rfl, by decide +kernel⟩
theorem wm_X6_54 : Cond.methodLink "ShardTrails$Route" 54 yX6_put ∈ wsU := wsU_c3 53 rfl rfl
theorem zy_X6_put : zyV yX6_put cX6_put 2 1 none := ⟨wsU_c3 56 rfl rfl, wsU_c3 55 rfl rfl, wsU_c0 4 rfl rfl, wsU_c1 10 rfl rfl, by decide +kernel⟩
theorem wf_X6_57 : Cond.fieldLink "ShardTrails$Route" 57 "ShardTrails$Route" "hops" "I" ∈ wsU := wsU_c2 19 rfl rfl
theorem wf_X6_61 : Cond.fieldLink "ShardTrails$Route" 61 "ShardTrails$Route" "followed" "I" ∈ wsU := wsU_c2 22 rfl rfl
theorem wf_X6_64 : Cond.fieldLink "ShardTrails$Route" 64 "ShardTrails$Route" "askedInns" "I" ∈ wsU := wsU_c2 24 rfl rfl
theorem wf_X6_67 : Cond.fieldLink "ShardTrails$Route" 67 "ShardTrails$Route" "sentInns" "I" ∈ wsU := wsU_c2 26 rfl rfl
theorem wf_X6_70 : Cond.fieldLink "ShardTrails$Route" 70 "ShardTrails$Route" "cried" "Z" ∈ wsU := wsU_c2 28 rfl rfl
theorem wf_X6_74 : Cond.fieldLink "ShardTrails$Route" 74 "ShardTrails$Route" "length" "I" ∈ wsU := wsU_c2 31 rfl rfl
theorem wf_X6_15 : Cond.fieldLink "ShardTrails$Route" 15 "ShardTrails$Route" "asked" "[Z" ∈ wsU := wsU_c2 35 rfl rfl
theorem lc_208 : 208 < zN ∧ lay 208 = (2, 8) := by decide +kernel
theorem wf_X6_19 : Cond.fieldLink "ShardTrails$Route" 19 "ShardTrails$Route" "sent" "[Z" ∈ wsU := wsU_c2 36 rfl rfl
theorem lc_209 : 209 < zN ∧ lay 209 = (2, 8) := by decide +kernel
theorem wf_X6_9 : Cond.fieldLink "ShardTrails$Route" 9 "ShardTrails$Route" "places" "[I" ∈ wsU := wsU_c2 33 rfl rfl
theorem lc_207 : 207 < zN ∧ lay 207 = (1, 137) := by decide +kernel
theorem wf_X6_77 : Cond.fieldLink "ShardTrails$Route" 77 "ShardTrails$State" "tracks" "LShardTrails$Tracks;" ∈ wsU := wsU_c1 199 rfl rfl
theorem wm_X6_81 : Cond.methodLink "ShardTrails$Route" 81 yX8_isAt ∈ wsU := wsU_c3 61 rfl rfl
theorem wf_X6_90 : Cond.fieldLink "ShardTrails$Route" 90 "ShardTrails$State" "land" "LShardTrails$Land;" ∈ wsU := wsU_c1 197 rfl rfl
theorem wf_X6_94 : Cond.fieldLink "ShardTrails$Route" 94 "ShardTrails$Land" "posted" "[I" ∈ wsU := wsU_c1 68 rfl rfl
theorem wf_X6_87 : Cond.fieldLink "ShardTrails$Route" 87 "ShardTrails$Tracks" "leadsTo" "[I" ∈ wsU := wsU_c1 95 rfl rfl
theorem wm_X6_99 : Cond.methodLink "ShardTrails$Route" 99 yX6_nearestNewInn ∈ wsU := wsU_c3 62 rfl rfl
theorem zy_X6_nearestNewInn : zyV yX6_nearestNewInn cX6_nearestNewInn 7 2 (some .int) := ⟨wsU_c3 65 rfl rfl, wsU_c3 64 rfl rfl, wsU_c0 6 rfl rfl, wsU_c1 10 rfl rfl, by decide +kernel⟩
theorem wf_X6_103 : Cond.fieldLink "ShardTrails$Route" 103 "ShardTrails$Land" "number" "I" ∈ wsU := wsU_c1 50 rfl rfl
theorem wf_X6_106 : Cond.fieldLink "ShardTrails$Route" 106 "ShardTrails$Land" "inn" "[Z" ∈ wsU := wsU_c1 65 rfl rfl
theorem wf_X6_109 : Cond.fieldLink "ShardTrails$Route" 109 "ShardTrails$Land" "latitude" "[I" ∈ wsU := wsU_c1 53 rfl rfl
theorem wm_X6_112 : Cond.methodLink "ShardTrails$Route" 112 yX2_distance ∈ wsU := wsU_c3 66 rfl rfl
theorem wf_X9_255 : Cond.fieldLink "ShardTrails" 255 "ShardTrails$Readers" "home" "[I" ∈ wsU := wsU_c1 158 rfl rfl
theorem lc_23 : 23 < zN ∧ lay 23 = (1, 6) := by decide +kernel
theorem wf_X9_261 : Cond.fieldLink "ShardTrails" 261 "ShardTrails$Readers" "hops" "[I" ∈ wsU := wsU_c1 162 rfl rfl
theorem lc_25 : 25 < zN ∧ lay 25 = (1, 6) := by decide +kernel
theorem wf_X9_267 : Cond.fieldLink "ShardTrails" 267 "ShardTrails$Readers" "mostHops" "[I" ∈ wsU := wsU_c1 166 rfl rfl
theorem lc_27 : 27 < zN ∧ lay 27 = (1, 6) := by decide +kernel
theorem wf_X9_270 : Cond.fieldLink "ShardTrails" 270 "ShardTrails$Readers" "memory" "[I" ∈ wsU := wsU_c1 169 rfl rfl
theorem lc_28 : 28 < zN ∧ lay 28 = (1, 96) := by decide +kernel
theorem wm_X9_223 : Cond.methodLink "ShardTrails" 223 yX9_cell ∈ wsU := wsU_c3 146 rfl rfl
theorem wm_X9_161 : Cond.methodLink "ShardTrails" 161 yX9_serve ∈ wsU := wsU_c3 40 rfl rfl
theorem zy_X9_serve : zyV yX9_serve cX9_serve 5 3 (some .int) := ⟨wsU_c3 43 rfl rfl, wsU_c3 42 rfl rfl, wsU_c0 2 rfl rfl, wsU_c1 1 rfl rfl, by decide +kernel⟩
theorem wm_X9_314 : Cond.methodLink "ShardTrails" 314 yX7_noteRequest ∈ wsU := wsU_c3 67 rfl rfl
theorem zy_X7_noteRequest : zyV yX7_noteRequest cX7_noteRequest 5 3 none := ⟨wsU_c3 70 rfl rfl, wsU_c3 68 rfl rfl, wsU_c3 69 rfl rfl, wsU_c1 2 rfl rfl, by decide +kernel⟩
theorem wf_X9_254 : Cond.fieldLink "ShardTrails" 254 "ShardTrails$Herd" "values" "[I" ∈ wsU := wsU_c1 120 rfl rfl
theorem lc_18 : 18 < zN ∧ lay 18 = (1, 256) := by decide +kernel
theorem wm_X7_175 : Cond.methodLink "ShardTrails$State" 175 yX4_note ∈ wsU := wsU_c3 71 rfl rfl
theorem zy_X4_note : zyV yX4_note cX4_note 5 4 none := ⟨wsU_c3 74 rfl rfl, wsU_c3 72 rfl rfl, wsU_c3 73 rfl rfl, wsU_c1 8 rfl rfl, by decide +kernel⟩
theorem wm_X7_179 : Cond.methodLink "ShardTrails$State" 179 yX0_warm ∈ wsU := wsU_c3 78 rfl rfl
theorem zy_X0_warm : zyV yX0_warm cX0_warm 3 2 none := ⟨wsU_c3 81 rfl rfl, wsU_c3 79 rfl rfl, wsU_c3 80 rfl rfl, wsU_c1 6 rfl rfl, by decide +kernel⟩
theorem wf_X7_182 : Cond.fieldLink "ShardTrails$State" 182 "ShardTrails$Route" "sent" "[Z" ∈ wsU := wsU_c2 37 rfl rfl
theorem wf_X7_187 : Cond.fieldLink "ShardTrails$State" 187 "ShardTrails$Land" "sentTo" "[I" ∈ wsU := wsU_c1 61 rfl rfl
theorem wm_X0_28 : Cond.methodLink "ShardTrails$Herd" 28 Lib.Math.min.name ∈ wsU := wsU_c3 82 rfl rfl
theorem wf_X4_42 : Cond.fieldLink "ShardTrails$Readers" 42 "ShardTrails$Route" "hops" "I" ∈ wsU := wsU_c2 20 rfl rfl
theorem wf_X4_46 : Cond.fieldLink "ShardTrails$Readers" 46 "ShardTrails$Route" "cried" "Z" ∈ wsU := wsU_c2 29 rfl rfl
theorem wm_X4_50 : Cond.methodLink "ShardTrails$Readers" 50 Lib.Math.max.name ∈ wsU := wsU_c3 75 rfl rfl
theorem zm_max : Cond.static Lib.Math.max.name ∈ wsU ∧ Cond.initialized "java/lang/Math" ∈ wsU ∧ Cond.code Lib.Math.max.name Lib.Math.max.code 2 (some .int) ∈ wsU := ⟨wsU_c3 76 rfl rfl, wsU_c1 12 rfl rfl, wsU_c3 77 rfl rfl⟩
theorem wf_X9_112 : Cond.fieldLink "ShardTrails" 112 "ShardTrails" "LEAST_NUMBERS" "[I" ∈ wsU := wsU_c4 6 rfl rfl
theorem wf_X9_115 : Cond.fieldLink "ShardTrails" 115 "ShardTrails" "MOST_NUMBERS" "[I" ∈ wsU := wsU_c4 8 rfl rfl
theorem wf_X9_118 : Cond.fieldLink "ShardTrails" 118 "ShardTrails$State" "numbers" "[I" ∈ wsU := wsU_c1 192 rfl rfl
theorem lc_2 : 2 < zN ∧ lay 2 = (1, 6) := by decide +kernel
theorem wm_X9_80 : Cond.methodLink "ShardTrails" 80 yX2_forgetPosted ∈ wsU := wsU_c3 222 rfl rfl
theorem zy_X2_forgetPosted : zyV yX2_forgetPosted cX2_forgetPosted 3 1 none := ⟨wsU_c3 225 rfl rfl, wsU_c3 223 rfl rfl, wsU_c3 224 rfl rfl, wsU_c1 3 rfl rfl, by decide +kernel⟩
theorem wf_X9_109 : Cond.fieldLink "ShardTrails" 109 "ShardTrails$State" "latitudes" "[I" ∈ wsU := wsU_c1 194 rfl rfl
theorem lc_3 : 3 < zN ∧ lay 3 = (1, 4) := by decide +kernel
theorem wf_X9_236 : Cond.fieldLink "ShardTrails" 236 "ShardTrails$Herd" "heat" "[I" ∈ wsU := wsU_c1 115 rfl rfl
theorem lc_16 : 16 < zN ∧ lay 16 = (1, 16) := by decide +kernel
theorem wm_X9_242 : Cond.methodLink "ShardTrails" 242 yX8_countOf ∈ wsU := wsU_c3 125 rfl rfl
theorem zy_X8_countOf : zyV yX8_countOf cX8_countOf 4 1 (some .int) := ⟨wsU_c3 128 rfl rfl, wsU_c3 126 rfl rfl, wsU_c3 127 rfl rfl, wsU_c1 5 rfl rfl, by decide +kernel⟩
theorem wm_X9_245 : Cond.methodLink "ShardTrails" 245 yX0_placeByHeat ∈ wsU := wsU_c3 129 rfl rfl
theorem zy_X0_placeByHeat : zyV yX0_placeByHeat cX0_placeByHeat 4 1 (some .int) := ⟨wsU_c3 132 rfl rfl, wsU_c3 130 rfl rfl, wsU_c3 131 rfl rfl, wsU_c1 6 rfl rfl, by decide +kernel⟩
theorem wm_X9_248 : Cond.methodLink "ShardTrails" 248 yX2_bestOther ∈ wsU := wsU_c3 133 rfl rfl
theorem wm_X9_251 : Cond.methodLink "ShardTrails" 251 yX0_sumOfValues ∈ wsU := wsU_c3 134 rfl rfl
theorem zy_X0_sumOfValues : zyV yX0_sumOfValues cX0_sumOfValues 4 1 (some .int) := ⟨wsU_c3 137 rfl rfl, wsU_c3 135 rfl rfl, wsU_c3 136 rfl rfl, wsU_c1 6 rfl rfl, by decide +kernel⟩
theorem wf_X9_220 : Cond.fieldLink "ShardTrails" 220 "ShardTrails$Tracks" "leadsTo" "[I" ∈ wsU := wsU_c1 96 rfl rfl
theorem lc_12 : 12 < zN ∧ lay 12 = (1, 128) := by decide +kernel
theorem wm_X9_226 : Cond.methodLink "ShardTrails" 226 yX8_isAt ∈ wsU := wsU_c3 192 rfl rfl
theorem wf_X9_230 : Cond.fieldLink "ShardTrails" 230 "ShardTrails$Tracks" "leftOn" "[I" ∈ wsU := wsU_c1 98 rfl rfl
theorem lc_13 : 13 < zN ∧ lay 13 = (1, 128) := by decide +kernel
theorem wf_X9_233 : Cond.fieldLink "ShardTrails" 233 "ShardTrails$Land" "posted" "[I" ∈ wsU := wsU_c1 69 rfl rfl
theorem lc_10 : 10 < zN ∧ lay 10 = (1, 128) := by decide +kernel
theorem wm_X9_185 : Cond.methodLink "ShardTrails" 185 yX1_takeBack ∈ wsU := wsU_c3 87 rfl rfl
theorem zy_X1_takeBack : zyV yX1_takeBack cX1_takeBack 2 1 none := ⟨wsU_c3 90 rfl rfl, wsU_c3 88 rfl rfl, wsU_c3 89 rfl rfl, wsU_c1 9 rfl rfl, by decide +kernel⟩
theorem wf_X9_291 : Cond.fieldLink "ShardTrails" 291 "ShardTrails$Route" "length" "I" ∈ wsU := wsU_c2 32 rfl rfl
theorem wf_X9_292 : Cond.fieldLink "ShardTrails" 292 "ShardTrails$Route" "places" "[I" ∈ wsU := wsU_c2 34 rfl rfl
theorem wm_L_12 : Cond.methodLink "ShardTrailsLaw" 12 yX9_count ∈ wsU := wsU_c3 159 rfl rfl
theorem zy_X9_count : zyV yX9_count cX9_count 2 1 (some .int) := ⟨wsU_c3 162 rfl rfl, wsU_c3 160 rfl rfl, wsU_c3 161 rfl rfl, wsU_c1 1 rfl rfl, by decide +kernel⟩
theorem wm_L_45 : Cond.methodLink "ShardTrailsLaw" 45 yL_low ∈ wsU := wsU_c3 179 rfl rfl
theorem zy_L_low : zyS yL_low cL_low 2 2 (some .int) := ⟨wsU_c3 181 rfl rfl, wsU_c3 180 rfl rfl, wsU_c1 0 rfl rfl, by decide +kernel⟩
theorem wm_L_69 : Cond.methodLink "ShardTrailsLaw" 69 yX9_setRoom ∈ wsU := wsU_c3 214 rfl rfl
theorem zy_X9_setRoom : zyV yX9_setRoom cX9_setRoom 4 2 (some .int) := ⟨wsU_c3 217 rfl rfl, wsU_c3 215 rfl rfl, wsU_c3 216 rfl rfl, wsU_c1 1 rfl rfl, by decide +kernel⟩
theorem wm_L_76 : Cond.methodLink "ShardTrailsLaw" 76 yX9_addWolf ∈ wsU := wsU_c3 226 rfl rfl
theorem zy_X9_addWolf : zyV yX9_addWolf cX9_addWolf 3 2 (some .int) := ⟨wsU_c3 229 rfl rfl, wsU_c3 227 rfl rfl, wsU_c3 228 rfl rfl, wsU_c1 1 rfl rfl, by decide +kernel⟩
theorem wm_L_79 : Cond.methodLink "ShardTrailsLaw" 79 yX9_driveWolf ∈ wsU := wsU_c3 234 rfl rfl
theorem zy_X9_driveWolf : zyV yX9_driveWolf cX9_driveWolf 1 0 (some .int) := ⟨wsU_c3 237 rfl rfl, wsU_c3 235 rfl rfl, wsU_c3 236 rfl rfl, wsU_c1 1 rfl rfl, by decide +kernel⟩
theorem wm_L_82 : Cond.methodLink "ShardTrailsLaw" 82 yX9_addReader ∈ wsU := wsU_c2 159 rfl rfl
theorem zy_X9_addReader : zyV yX9_addReader cX9_addReader 2 1 (some .int) := ⟨wsU_c2 162 rfl rfl, wsU_c2 160 rfl rfl, wsU_c2 161 rfl rfl, wsU_c1 1 rfl rfl, by decide +kernel⟩
theorem wm_L_85 : Cond.methodLink "ShardTrailsLaw" 85 yX9_setSeason ∈ wsU := wsU_c3 238 rfl rfl
theorem zy_X9_setSeason : zyV yX9_setSeason cX9_setSeason 4 2 (some .int) := ⟨wsU_c4 1 rfl rfl, wsU_c3 239 rfl rfl, wsU_c4 0 rfl rfl, wsU_c1 1 rfl rfl, by decide +kernel⟩
theorem wm_L_88 : Cond.methodLink "ShardTrailsLaw" 88 yX9_set ∈ wsU := wsU_c4 2 rfl rfl
theorem zy_X9_set : zyV yX9_set cX9_set 4 2 (some .int) := ⟨wsU_c4 5 rfl rfl, wsU_c4 3 rfl rfl, wsU_c4 4 rfl rfl, wsU_c1 1 rfl rfl, by decide +kernel⟩
theorem wm_L_91 : Cond.methodLink "ShardTrailsLaw" 91 yX9_post ∈ wsU := wsU_c4 10 rfl rfl
theorem zy_X9_post : zyV yX9_post cX9_post 2 0 (some .int) := ⟨wsU_c4 13 rfl rfl, wsU_c4 11 rfl rfl, wsU_c4 12 rfl rfl, wsU_c1 1 rfl rfl, by decide +kernel⟩
theorem wm_L_94 : Cond.methodLink "ShardTrailsLaw" 94 yX9_cut ∈ wsU := wsU_c4 15 rfl rfl
theorem zy_X9_cut : zyV yX9_cut cX9_cut 2 1 (some .int) := ⟨wsU_c4 18 rfl rfl, wsU_c4 16 rfl rfl, wsU_c4 17 rfl rfl, wsU_c1 1 rfl rfl, by decide +kernel⟩
theorem wm_L_100 : Cond.methodLink "ShardTrailsLaw" 100 yX9_write ∈ wsU := wsU_c4 31 rfl rfl
theorem zy_X9_write : zyV yX9_write cX9_write 4 3 (some .int) := ⟨wsU_c4 34 rfl rfl, wsU_c4 32 rfl rfl, wsU_c4 33 rfl rfl, wsU_c1 1 rfl rfl, by decide +kernel⟩
theorem wm_L_52 : Cond.methodLink "ShardTrailsLaw" 52 yX9_request ∈ wsU := wsU_c3 29 rfl rfl
theorem zy_X9_request : zyV yX9_request cX9_request 3 2 (some .int) := ⟨wsU_c3 32 rfl rfl, wsU_c3 30 rfl rfl, wsU_c3 31 rfl rfl, wsU_c1 1 rfl rfl, by decide +kernel⟩
theorem wm_L_65 : Cond.methodLink "ShardTrailsLaw" 65 yX9_addPasture ∈ wsU := wsU_c2 106 rfl rfl
theorem zy_X9_addPasture : zyV yX9_addPasture cX9_addPasture 4 3 (some .int) := ⟨wsU_c2 109 rfl rfl, wsU_c2 107 rfl rfl, wsU_c2 108 rfl rfl, wsU_c1 1 rfl rfl, by decide +kernel⟩
theorem wm_L_72 : Cond.methodLink "ShardTrailsLaw" 72 yX9_setInn ∈ wsU := wsU_c3 218 rfl rfl
theorem zy_X9_setInn : zyV yX9_setInn cX9_setInn 3 2 (some .int) := ⟨wsU_c3 221 rfl rfl, wsU_c3 219 rfl rfl, wsU_c3 220 rfl rfl, wsU_c1 1 rfl rfl, by decide +kernel⟩
theorem wm_L_62 : Cond.methodLink "ShardTrailsLaw" 62 yX9_pass ∈ wsU := wsU_c2 174 rfl rfl
theorem zy_X9_pass : zyV yX9_pass cX9_pass 4 1 (some .int) := ⟨wsU_c2 177 rfl rfl, wsU_c2 175 rfl rfl, wsU_c2 176 rfl rfl, wsU_c1 1 rfl rfl, by decide +kernel⟩
theorem wm_L_97 : Cond.methodLink "ShardTrailsLaw" 97 yX9_move ∈ wsU := wsU_c4 25 rfl rfl
theorem zy_X9_move : zyV yX9_move cX9_move 4 2 (some .int) := ⟨wsU_c4 28 rfl rfl, wsU_c4 26 rfl rfl, wsU_c4 27 rfl rfl, wsU_c1 1 rfl rfl, by decide +kernel⟩
theorem wk_L_7 : Cond.constant "ShardTrailsLaw" 7 (2147483647 : Int32) ∈ wsU := wsU_c3 182 rfl rfl
theorem wk_L_8 : Cond.constantLong "ShardTrailsLaw" 8 (19 : Int64) ∈ wsU := wsU_c3 186 rfl rfl
theorem wk_L_10 : Cond.constantLong "ShardTrailsLaw" 10 (31 : Int64) ∈ wsU := wsU_c3 187 rfl rfl
theorem wm_L_26 : Cond.methodLink "ShardTrailsLaw" 26 yX9_shard ∈ wsU := wsU_c3 118 rfl rfl
theorem zy_X9_shard : zyV yX9_shard cX9_shard 3 2 (some .int) := ⟨wsU_c3 121 rfl rfl, wsU_c3 119 rfl rfl, wsU_c3 120 rfl rfl, wsU_c1 1 rfl rfl, by decide +kernel⟩
theorem wm_L_18 : Cond.methodLink "ShardTrailsLaw" 18 yX9_pasture ∈ wsU := wsU_c3 100 rfl rfl
theorem zy_X9_pasture : zyV yX9_pasture cX9_pasture 3 2 (some .int) := ⟨wsU_c3 103 rfl rfl, wsU_c3 101 rfl rfl, wsU_c3 102 rfl rfl, wsU_c1 1 rfl rfl, by decide +kernel⟩
theorem wm_L_22 : Cond.methodLink "ShardTrailsLaw" 22 yX9_track ∈ wsU := wsU_c3 188 rfl rfl
theorem zy_X9_track : zyV yX9_track cX9_track 4 3 (some .int) := ⟨wsU_c3 191 rfl rfl, wsU_c3 189 rfl rfl, wsU_c3 190 rfl rfl, wsU_c1 1 rfl rfl, by decide +kernel⟩
theorem wk_L_29 : Cond.constantLong "ShardTrailsLaw" 29 (7 : Int64) ∈ wsU := wsU_c3 193 rfl rfl
theorem wm_L_31 : Cond.methodLink "ShardTrailsLaw" 31 yX9_remembered ∈ wsU := wsU_c3 142 rfl rfl
theorem zy_X9_remembered : zyV yX9_remembered cX9_remembered 3 2 (some .int) := ⟨wsU_c3 145 rfl rfl, wsU_c3 143 rfl rfl, wsU_c3 144 rfl rfl, wsU_c1 1 rfl rfl, by decide +kernel⟩
theorem wm_L_34 : Cond.methodLink "ShardTrailsLaw" 34 yX9_reader ∈ wsU := wsU_c3 194 rfl rfl
theorem zy_X9_reader : zyV yX9_reader cX9_reader 3 2 (some .int) := ⟨wsU_c3 197 rfl rfl, wsU_c3 195 rfl rfl, wsU_c3 196 rfl rfl, wsU_c1 1 rfl rfl, by decide +kernel⟩
theorem wm_L_48 : Cond.methodLink "ShardTrailsLaw" 48 yL_all ∈ wsU := wsU_c3 183 rfl rfl
theorem zy_L_all : zyS yL_all cL_all 5 1 (some .long) := ⟨wsU_c3 185 rfl rfl, wsU_c3 184 rfl rfl, wsU_c1 0 rfl rfl, by decide +kernel⟩
theorem wm_L_59 : Cond.methodLink "ShardTrailsLaw" 59 yX9_movesIn ∈ wsU := wsU_c3 151 rfl rfl
theorem zy_X9_movesIn : zyV yX9_movesIn cX9_movesIn 4 1 (some .int) := ⟨wsU_c3 154 rfl rfl, wsU_c3 152 rfl rfl, wsU_c3 153 rfl rfl, wsU_c1 1 rfl rfl, by decide +kernel⟩
theorem wm_L_55 : Cond.methodLink "ShardTrailsLaw" 55 yX9_undo ∈ wsU := wsU_c3 83 rfl rfl
theorem zy_X9_undo : zyV yX9_undo cX9_undo 1 0 (some .int) := ⟨wsU_c3 86 rfl rfl, wsU_c3 84 rfl rfl, wsU_c3 85 rfl rfl, wsU_c1 1 rfl rfl, by decide +kernel⟩
theorem wm_L_39 : Cond.methodLink "ShardTrailsLaw" 39 yX9_reach ∈ wsU := wsU_c3 204 rfl rfl
theorem zy_X9_reach : zyV yX9_reach cX9_reach 4 3 (some .int) := ⟨wsU_c3 207 rfl rfl, wsU_c3 205 rfl rfl, wsU_c3 206 rfl rfl, wsU_c1 1 rfl rfl, by decide +kernel⟩
theorem wm_L_42 : Cond.methodLink "ShardTrailsLaw" 42 yX9_way ∈ wsU := wsU_c3 147 rfl rfl
theorem zy_X9_way : zyV yX9_way cX9_way 4 3 (some .int) := ⟨wsU_c3 150 rfl rfl, wsU_c3 148 rfl rfl, wsU_c3 149 rfl rfl, wsU_c1 1 rfl rfl, by decide +kernel⟩
