theorem wm_L_18 : Cond.methodLink "ShardTrailsLaw" 18 yX9_setRoom ∈ wsU := wsU_c2 167 rfl rfl
theorem zy_X9_setRoom : zyV yX9_setRoom cX9_setRoom 4 2 (some .int) := ⟨wsU_c2 170 rfl rfl, wsU_c2 168 rfl rfl, wsU_c2 169 rfl rfl, wsU_c1 1 rfl rfl, by decide +kernel⟩
theorem wm_L_22 : Cond.methodLink "ShardTrailsLaw" 22 yX10_setRoom ∈ wsU := wsU_c4 137 rfl rfl
theorem zy_X10_setRoom : zyV yX10_setRoom cX10_setRoom 4 2 (some .int) := ⟨wsU_c4 140 rfl rfl, wsU_c4 138 rfl rfl, wsU_c4 139 rfl rfl, wsU_c1 12 rfl rfl, by decide +kernel⟩
theorem wm_L_28 : Cond.methodLink "ShardTrailsLaw" 28 yX9_addWolf ∈ wsU := wsU_c2 190 rfl rfl
theorem zy_X9_addWolf : zyV yX9_addWolf cX9_addWolf 3 2 (some .int) := ⟨wsU_c2 193 rfl rfl, wsU_c2 191 rfl rfl, wsU_c2 192 rfl rfl, wsU_c1 1 rfl rfl, by decide +kernel⟩
theorem wm_L_31 : Cond.methodLink "ShardTrailsLaw" 31 yX10_addWolf ∈ wsU := wsU_c4 165 rfl rfl
theorem zy_X10_addWolf : zyV yX10_addWolf cX10_addWolf 3 2 (some .int) := ⟨wsU_c4 168 rfl rfl, wsU_c4 166 rfl rfl, wsU_c4 167 rfl rfl, wsU_c1 12 rfl rfl, by decide +kernel⟩
theorem wm_L_32 : Cond.methodLink "ShardTrailsLaw" 32 yX9_driveWolf ∈ wsU := wsU_c2 198 rfl rfl
theorem zy_X9_driveWolf : zyV yX9_driveWolf cX9_driveWolf 1 0 (some .int) := ⟨wsU_c2 201 rfl rfl, wsU_c2 199 rfl rfl, wsU_c2 200 rfl rfl, wsU_c1 1 rfl rfl, by decide +kernel⟩
theorem wm_L_36 : Cond.methodLink "ShardTrailsLaw" 36 yX10_driveWolf ∈ wsU := wsU_c4 169 rfl rfl
theorem zy_X10_driveWolf : zyV yX10_driveWolf cX10_driveWolf 1 0 (some .int) := ⟨wsU_c4 172 rfl rfl, wsU_c4 170 rfl rfl, wsU_c4 171 rfl rfl, wsU_c1 12 rfl rfl, by decide +kernel⟩
theorem wm_L_37 : Cond.methodLink "ShardTrailsLaw" 37 yX9_addReader ∈ wsU := wsU_c2 202 rfl rfl
theorem zy_X9_addReader : zyV yX9_addReader cX9_addReader 2 1 (some .int) := ⟨wsU_c2 205 rfl rfl, wsU_c2 203 rfl rfl, wsU_c2 204 rfl rfl, wsU_c1 1 rfl rfl, by decide +kernel⟩
theorem wm_L_41 : Cond.methodLink "ShardTrailsLaw" 41 yX10_addReader ∈ wsU := wsU_c4 173 rfl rfl
theorem zy_X10_addReader : zyV yX10_addReader cX10_addReader 4 1 (some .int) := ⟨wsU_c4 176 rfl rfl, wsU_c4 174 rfl rfl, wsU_c4 175 rfl rfl, wsU_c1 12 rfl rfl, by decide +kernel⟩
theorem wm_L_42 : Cond.methodLink "ShardTrailsLaw" 42 yX9_setSeason ∈ wsU := wsU_c2 211 rfl rfl
theorem zy_X9_setSeason : zyV yX9_setSeason cX9_setSeason 4 2 (some .int) := ⟨wsU_c2 214 rfl rfl, wsU_c2 212 rfl rfl, wsU_c2 213 rfl rfl, wsU_c1 1 rfl rfl, by decide +kernel⟩
theorem wm_L_45 : Cond.methodLink "ShardTrailsLaw" 45 yX10_setSeason ∈ wsU := wsU_c4 177 rfl rfl
theorem zy_X10_setSeason : zyV yX10_setSeason cX10_setSeason 3 2 (some .int) := ⟨wsU_c4 180 rfl rfl, wsU_c4 178 rfl rfl, wsU_c4 179 rfl rfl, wsU_c1 12 rfl rfl, by decide +kernel⟩
theorem wm_L_46 : Cond.methodLink "ShardTrailsLaw" 46 yX9_set ∈ wsU := wsU_c2 215 rfl rfl
theorem zy_X9_set : zyV yX9_set cX9_set 4 2 (some .int) := ⟨wsU_c2 218 rfl rfl, wsU_c2 216 rfl rfl, wsU_c2 217 rfl rfl, wsU_c1 1 rfl rfl, by decide +kernel⟩
theorem wm_L_49 : Cond.methodLink "ShardTrailsLaw" 49 yX10_set ∈ wsU := wsU_c4 185 rfl rfl
theorem zy_X10_set : zyV yX10_set cX10_set 3 2 (some .int) := ⟨wsU_c4 188 rfl rfl, wsU_c4 186 rfl rfl, wsU_c4 187 rfl rfl, wsU_c1 12 rfl rfl, by decide +kernel⟩
theorem wm_L_50 : Cond.methodLink "ShardTrailsLaw" 50 yX9_pass ∈ wsU := wsU_c2 223 rfl rfl
theorem zy_X9_pass : zyV yX9_pass cX9_pass 4 1 (some .int) := ⟨wsU_c2 226 rfl rfl, wsU_c2 224 rfl rfl, wsU_c2 225 rfl rfl, wsU_c1 1 rfl rfl, by decide +kernel⟩
theorem wm_L_53 : Cond.methodLink "ShardTrailsLaw" 53 yX10_pass ∈ wsU := wsU_c4 230 rfl rfl
theorem zy_X10_pass : zyV yX10_pass cX10_pass 4 1 (some .int) := ⟨wsU_c4 233 rfl rfl, wsU_c4 231 rfl rfl, wsU_c4 232 rfl rfl, wsU_c1 12 rfl rfl, by decide +kernel⟩
theorem wm_L_54 : Cond.methodLink "ShardTrailsLaw" 54 yX9_move ∈ wsU := wsU_c3 77 rfl rfl
theorem zy_X9_move : zyV yX9_move cX9_move 4 2 (some .int) := ⟨wsU_c3 80 rfl rfl, wsU_c3 78 rfl rfl, wsU_c3 79 rfl rfl, wsU_c1 1 rfl rfl, by decide +kernel⟩
theorem wm_L_57 : Cond.methodLink "ShardTrailsLaw" 57 yX10_move ∈ wsU := wsU_c4 192 rfl rfl
theorem zy_X10_move : zyV yX10_move cX10_move 4 2 (some .int) := ⟨wsU_c4 195 rfl rfl, wsU_c4 193 rfl rfl, wsU_c4 194 rfl rfl, wsU_c1 12 rfl rfl, by decide +kernel⟩
theorem wm_L_58 : Cond.methodLink "ShardTrailsLaw" 58 yX9_post ∈ wsU := wsU_c3 86 rfl rfl
theorem zy_X9_post : zyV yX9_post cX9_post 2 0 (some .int) := ⟨wsU_c3 89 rfl rfl, wsU_c3 87 rfl rfl, wsU_c3 88 rfl rfl, wsU_c1 1 rfl rfl, by decide +kernel⟩
theorem wm_L_61 : Cond.methodLink "ShardTrailsLaw" 61 yX10_post ∈ wsU := wsU_c4 222 rfl rfl
theorem zy_X10_post : zyV yX10_post cX10_post 2 0 (some .int) := ⟨wsU_c4 225 rfl rfl, wsU_c4 223 rfl rfl, wsU_c4 224 rfl rfl, wsU_c1 12 rfl rfl, by decide +kernel⟩
theorem wm_L_62 : Cond.methodLink "ShardTrailsLaw" 62 yX9_cut ∈ wsU := wsU_c3 91 rfl rfl
theorem zy_X9_cut : zyV yX9_cut cX9_cut 2 1 (some .int) := ⟨wsU_c3 94 rfl rfl, wsU_c3 92 rfl rfl, wsU_c3 93 rfl rfl, wsU_c1 1 rfl rfl, by decide +kernel⟩
theorem wm_L_65 : Cond.methodLink "ShardTrailsLaw" 65 yX10_cut ∈ wsU := wsU_c4 206 rfl rfl
theorem zy_X10_cut : zyV yX10_cut cX10_cut 3 1 (some .int) := ⟨wsU_c4 209 rfl rfl, wsU_c4 207 rfl rfl, wsU_c4 208 rfl rfl, wsU_c1 12 rfl rfl, by decide +kernel⟩
theorem wm_L_66 : Cond.methodLink "ShardTrailsLaw" 66 yX9_request ∈ wsU := wsU_c3 104 rfl rfl
theorem zy_X9_request : zyV yX9_request cX9_request 3 2 (some .int) := ⟨wsU_c3 107 rfl rfl, wsU_c3 105 rfl rfl, wsU_c3 106 rfl rfl, wsU_c1 1 rfl rfl, by decide +kernel⟩
theorem wm_L_69 : Cond.methodLink "ShardTrailsLaw" 69 yX10_request ∈ wsU := wsU_c5 34 rfl rfl
theorem zy_X10_request : zyV yX10_request cX10_request 3 2 (some .int) := ⟨wsU_c5 37 rfl rfl, wsU_c5 35 rfl rfl, wsU_c5 36 rfl rfl, wsU_c1 12 rfl rfl, by decide +kernel⟩
theorem wm_L_70 : Cond.methodLink "ShardTrailsLaw" 70 yX9_write ∈ wsU := wsU_c3 158 rfl rfl
theorem zy_X9_write : zyV yX9_write cX9_write 4 3 (some .int) := ⟨wsU_c3 161 rfl rfl, wsU_c3 159 rfl rfl, wsU_c3 160 rfl rfl, wsU_c1 1 rfl rfl, by decide +kernel⟩
theorem wm_L_74 : Cond.methodLink "ShardTrailsLaw" 74 yX10_write ∈ wsU := wsU_c5 68 rfl rfl
theorem zy_X10_write : zyV yX10_write cX10_write 4 3 (some .int) := ⟨wsU_c5 71 rfl rfl, wsU_c5 69 rfl rfl, wsU_c5 70 rfl rfl, wsU_c1 12 rfl rfl, by decide +kernel⟩
theorem wm_L_75 : Cond.methodLink "ShardTrailsLaw" 75 yX9_type ∈ wsU := wsU_c3 162 rfl rfl
theorem zy_X9_type : zyV yX9_type cX9_type 2 1 (some .int) := ⟨wsU_c3 165 rfl rfl, wsU_c3 163 rfl rfl, wsU_c3 164 rfl rfl, wsU_c1 1 rfl rfl, by decide +kernel⟩
theorem wm_L_79 : Cond.methodLink "ShardTrailsLaw" 79 yX10_type ∈ wsU := wsU_c5 72 rfl rfl
theorem zy_X10_type : zyV yX10_type cX10_type 2 1 (some .int) := ⟨wsU_c5 75 rfl rfl, wsU_c5 73 rfl rfl, wsU_c5 74 rfl rfl, wsU_c1 12 rfl rfl, by decide +kernel⟩
theorem wm_L_80 : Cond.methodLink "ShardTrailsLaw" 80 yX9_clearText ∈ wsU := wsU_c3 170 rfl rfl
theorem zy_X9_clearText : zyV yX9_clearText cX9_clearText 2 0 (some .int) := ⟨wsU_c3 173 rfl rfl, wsU_c3 171 rfl rfl, wsU_c3 172 rfl rfl, wsU_c1 1 rfl rfl, by decide +kernel⟩
theorem wm_L_83 : Cond.methodLink "ShardTrailsLaw" 83 yX10_clearText ∈ wsU := wsU_c5 76 rfl rfl
theorem zy_X10_clearText : zyV yX10_clearText cX10_clearText 2 0 (some .int) := ⟨wsU_c5 79 rfl rfl, wsU_c5 77 rfl rfl, wsU_c5 78 rfl rfl, wsU_c1 12 rfl rfl, by decide +kernel⟩
theorem wm_L_84 : Cond.methodLink "ShardTrailsLaw" 84 yX9_readRequests ∈ wsU := wsU_c3 174 rfl rfl
theorem zy_X9_readRequests : zyV yX9_readRequests cX9_readRequests 4 0 (some .int) := ⟨wsU_c3 177 rfl rfl, wsU_c3 175 rfl rfl, wsU_c3 176 rfl rfl, wsU_c1 1 rfl rfl, by decide +kernel⟩
theorem wm_L_87 : Cond.methodLink "ShardTrailsLaw" 87 yX10_readRequests ∈ wsU := wsU_c5 80 rfl rfl
theorem zy_X10_readRequests : zyV yX10_readRequests cX10_readRequests 6 0 (some .int) := ⟨wsU_c5 83 rfl rfl, wsU_c5 81 rfl rfl, wsU_c5 82 rfl rfl, wsU_c1 12 rfl rfl, by decide +kernel⟩
theorem wm_L_88 : Cond.methodLink "ShardTrailsLaw" 88 yX9_undo ∈ wsU := wsU_c3 202 rfl rfl
theorem zy_X9_undo : zyV yX9_undo cX9_undo 1 0 (some .int) := ⟨wsU_c3 205 rfl rfl, wsU_c3 203 rfl rfl, wsU_c3 204 rfl rfl, wsU_c1 1 rfl rfl, by decide +kernel⟩
theorem wm_L_91 : Cond.methodLink "ShardTrailsLaw" 91 yX10_undo ∈ wsU := wsU_c4 110 rfl rfl
theorem zy_X10_undo : zyV yX10_undo cX10_undo 1 0 (some .int) := ⟨wsU_c4 113 rfl rfl, wsU_c4 111 rfl rfl, wsU_c4 112 rfl rfl, wsU_c1 12 rfl rfl, by decide +kernel⟩
theorem wm_L_92 : Cond.methodLink "ShardTrailsLaw" 92 yX9_keep ∈ wsU := wsU_c3 210 rfl rfl
theorem zy_X9_keep : zyV yX9_keep cX9_keep 1 0 (some .int) := ⟨wsU_c3 213 rfl rfl, wsU_c3 211 rfl rfl, wsU_c3 212 rfl rfl, wsU_c1 1 rfl rfl, by decide +kernel⟩
theorem wm_L_95 : Cond.methodLink "ShardTrailsLaw" 95 yX10_keep ∈ wsU := wsU_c4 118 rfl rfl
theorem zy_X10_keep : zyV yX10_keep cX10_keep 1 0 (some .int) := ⟨wsU_c4 121 rfl rfl, wsU_c4 119 rfl rfl, wsU_c4 120 rfl rfl, wsU_c1 12 rfl rfl, by decide +kernel⟩
theorem wm_L_96 : Cond.methodLink "ShardTrailsLaw" 96 yX9_restore ∈ wsU := wsU_c3 215 rfl rfl
theorem zy_X9_restore : zyV yX9_restore cX9_restore 1 0 (some .int) := ⟨wsU_c3 218 rfl rfl, wsU_c3 216 rfl rfl, wsU_c3 217 rfl rfl, wsU_c1 1 rfl rfl, by decide +kernel⟩
theorem wm_L_99 : Cond.methodLink "ShardTrailsLaw" 99 yX10_restore ∈ wsU := wsU_c4 122 rfl rfl
theorem zy_X10_restore : zyV yX10_restore cX10_restore 1 0 (some .int) := ⟨wsU_c4 125 rfl rfl, wsU_c4 123 rfl rfl, wsU_c4 124 rfl rfl, wsU_c1 12 rfl rfl, by decide +kernel⟩
theorem wm_L_100 : Cond.methodLink "ShardTrailsLaw" 100 yX9_pasture ∈ wsU := wsU_c3 219 rfl rfl
theorem zy_X9_pasture : zyV yX9_pasture cX9_pasture 3 2 (some .int) := ⟨wsU_c3 222 rfl rfl, wsU_c3 220 rfl rfl, wsU_c3 221 rfl rfl, wsU_c1 1 rfl rfl, by decide +kernel⟩
theorem wm_L_103 : Cond.methodLink "ShardTrailsLaw" 103 yX10_pasture ∈ wsU := wsU_c5 108 rfl rfl
theorem zy_X10_pasture : zyV yX10_pasture cX10_pasture 3 2 (some .int) := ⟨wsU_c5 111 rfl rfl, wsU_c5 109 rfl rfl, wsU_c5 110 rfl rfl, wsU_c1 12 rfl rfl, by decide +kernel⟩
theorem wm_L_104 : Cond.methodLink "ShardTrailsLaw" 104 yX9_track ∈ wsU := wsU_c3 234 rfl rfl
theorem zy_X9_track : zyV yX9_track cX9_track 4 3 (some .int) := ⟨wsU_c3 237 rfl rfl, wsU_c3 235 rfl rfl, wsU_c3 236 rfl rfl, wsU_c1 1 rfl rfl, by decide +kernel⟩
theorem wm_L_107 : Cond.methodLink "ShardTrailsLaw" 107 yX10_track ∈ wsU := wsU_c5 120 rfl rfl
theorem zy_X10_track : zyV yX10_track cX10_track 5 3 (some .int) := ⟨wsU_c5 123 rfl rfl, wsU_c5 121 rfl rfl, wsU_c5 122 rfl rfl, wsU_c1 12 rfl rfl, by decide +kernel⟩
theorem wm_L_108 : Cond.methodLink "ShardTrailsLaw" 108 yX9_shard ∈ wsU := wsU_c4 0 rfl rfl
theorem zy_X9_shard : zyV yX9_shard cX9_shard 3 2 (some .int) := ⟨wsU_c4 3 rfl rfl, wsU_c4 1 rfl rfl, wsU_c4 2 rfl rfl, wsU_c1 1 rfl rfl, by decide +kernel⟩
theorem wm_L_111 : Cond.methodLink "ShardTrailsLaw" 111 yX10_shard ∈ wsU := wsU_c5 124 rfl rfl
theorem zy_X10_shard : zyV yX10_shard cX10_shard 3 2 (some .int) := ⟨wsU_c5 127 rfl rfl, wsU_c5 125 rfl rfl, wsU_c5 126 rfl rfl, wsU_c1 12 rfl rfl, by decide +kernel⟩
theorem wm_L_112 : Cond.methodLink "ShardTrailsLaw" 112 yX9_value ∈ wsU := wsU_c4 17 rfl rfl
theorem zy_X9_value : zyV yX9_value cX9_value 2 1 (some .int) := ⟨wsU_c4 20 rfl rfl, wsU_c4 18 rfl rfl, wsU_c4 19 rfl rfl, wsU_c1 1 rfl rfl, by decide +kernel⟩
theorem wm_L_115 : Cond.methodLink "ShardTrailsLaw" 115 yX10_value ∈ wsU := wsU_c5 136 rfl rfl
theorem zy_X10_value : zyV yX10_value cX10_value 2 1 (some .int) := ⟨wsU_c5 139 rfl rfl, wsU_c5 137 rfl rfl, wsU_c5 138 rfl rfl, wsU_c1 12 rfl rfl, by decide +kernel⟩
theorem wm_L_116 : Cond.methodLink "ShardTrailsLaw" 116 yX9_reader ∈ wsU := wsU_c4 21 rfl rfl
theorem zy_X9_reader : zyV yX9_reader cX9_reader 3 2 (some .int) := ⟨wsU_c4 24 rfl rfl, wsU_c4 22 rfl rfl, wsU_c4 23 rfl rfl, wsU_c1 1 rfl rfl, by decide +kernel⟩
theorem wm_L_119 : Cond.methodLink "ShardTrailsLaw" 119 yX10_reader ∈ wsU := wsU_c5 140 rfl rfl
theorem zy_X10_reader : zyV yX10_reader cX10_reader 3 2 (some .int) := ⟨wsU_c5 143 rfl rfl, wsU_c5 141 rfl rfl, wsU_c5 142 rfl rfl, wsU_c1 12 rfl rfl, by decide +kernel⟩
theorem wm_L_120 : Cond.methodLink "ShardTrailsLaw" 120 yX9_remembered ∈ wsU := wsU_c4 25 rfl rfl
theorem zy_X9_remembered : zyV yX9_remembered cX9_remembered 3 2 (some .int) := ⟨wsU_c4 28 rfl rfl, wsU_c4 26 rfl rfl, wsU_c4 27 rfl rfl, wsU_c1 1 rfl rfl, by decide +kernel⟩
theorem wm_L_123 : Cond.methodLink "ShardTrailsLaw" 123 yX10_remembered ∈ wsU := wsU_c5 144 rfl rfl
theorem zy_X10_remembered : zyV yX10_remembered cX10_remembered 3 2 (some .int) := ⟨wsU_c5 147 rfl rfl, wsU_c5 145 rfl rfl, wsU_c5 146 rfl rfl, wsU_c1 12 rfl rfl, by decide +kernel⟩
theorem wm_L_124 : Cond.methodLink "ShardTrailsLaw" 124 yX9_reach ∈ wsU := wsU_c4 29 rfl rfl
theorem zy_X9_reach : zyV yX9_reach cX9_reach 4 3 (some .int) := ⟨wsU_c4 32 rfl rfl, wsU_c4 30 rfl rfl, wsU_c4 31 rfl rfl, wsU_c1 1 rfl rfl, by decide +kernel⟩
theorem wm_L_127 : Cond.methodLink "ShardTrailsLaw" 127 yX10_reach ∈ wsU := wsU_c5 148 rfl rfl
theorem zy_X10_reach : zyV yX10_reach cX10_reach 4 3 (some .int) := ⟨wsU_c5 151 rfl rfl, wsU_c5 149 rfl rfl, wsU_c5 150 rfl rfl, wsU_c1 12 rfl rfl, by decide +kernel⟩
theorem wm_L_128 : Cond.methodLink "ShardTrailsLaw" 128 yX9_way ∈ wsU := wsU_c4 33 rfl rfl
theorem zy_X9_way : zyV yX9_way cX9_way 4 3 (some .int) := ⟨wsU_c4 36 rfl rfl, wsU_c4 34 rfl rfl, wsU_c4 35 rfl rfl, wsU_c1 1 rfl rfl, by decide +kernel⟩
theorem wm_L_131 : Cond.methodLink "ShardTrailsLaw" 131 yX10_way ∈ wsU := wsU_c5 155 rfl rfl
theorem zy_X10_way : zyV yX10_way cX10_way 4 3 (some .int) := ⟨wsU_c5 158 rfl rfl, wsU_c5 156 rfl rfl, wsU_c5 157 rfl rfl, wsU_c1 12 rfl rfl, by decide +kernel⟩
theorem wm_L_132 : Cond.methodLink "ShardTrailsLaw" 132 yX9_movesIn ∈ wsU := wsU_c4 37 rfl rfl
theorem zy_X9_movesIn : zyV yX9_movesIn cX9_movesIn 4 1 (some .int) := ⟨wsU_c4 40 rfl rfl, wsU_c4 38 rfl rfl, wsU_c4 39 rfl rfl, wsU_c1 1 rfl rfl, by decide +kernel⟩
theorem wm_L_135 : Cond.methodLink "ShardTrailsLaw" 135 yX10_movesIn ∈ wsU := wsU_c5 30 rfl rfl
theorem zy_X10_movesIn : zyV yX10_movesIn cX10_movesIn 5 1 (some .int) := ⟨wsU_c5 33 rfl rfl, wsU_c5 31 rfl rfl, wsU_c5 32 rfl rfl, wsU_c1 12 rfl rfl, by decide +kernel⟩
theorem wm_L_136 : Cond.methodLink "ShardTrailsLaw" 136 yX9_count ∈ wsU := wsU_c4 45 rfl rfl
theorem zy_X9_count : zyV yX9_count cX9_count 2 1 (some .int) := ⟨wsU_c4 48 rfl rfl, wsU_c4 46 rfl rfl, wsU_c4 47 rfl rfl, wsU_c1 1 rfl rfl, by decide +kernel⟩
theorem wm_L_139 : Cond.methodLink "ShardTrailsLaw" 139 yX10_count ∈ wsU := wsU_c5 159 rfl rfl
theorem zy_X10_count : zyV yX10_count cX10_count 2 1 (some .int) := ⟨wsU_c5 162 rfl rfl, wsU_c5 160 rfl rfl, wsU_c5 161 rfl rfl, wsU_c1 12 rfl rfl, by decide +kernel⟩
theorem wm_L_13 : Cond.methodLink "ShardTrailsLaw" 13 yX9_addPasture ∈ wsU := wsU_c2 114 rfl rfl
theorem zy_X9_addPasture : zyV yX9_addPasture cX9_addPasture 4 3 (some .int) := ⟨wsU_c2 117 rfl rfl, wsU_c2 115 rfl rfl, wsU_c2 116 rfl rfl, wsU_c1 1 rfl rfl, by decide +kernel⟩
theorem wm_L_23 : Cond.methodLink "ShardTrailsLaw" 23 yX9_setInn ∈ wsU := wsU_c2 175 rfl rfl
theorem zy_X9_setInn : zyV yX9_setInn cX9_setInn 3 2 (some .int) := ⟨wsU_c2 178 rfl rfl, wsU_c2 176 rfl rfl, wsU_c2 177 rfl rfl, wsU_c1 1 rfl rfl, by decide +kernel⟩
theorem wm_L_17 : Cond.methodLink "ShardTrailsLaw" 17 yX10_addPasture ∈ wsU := wsU_c4 130 rfl rfl
theorem zy_X10_addPasture : zyV yX10_addPasture cX10_addPasture 5 3 (some .int) := ⟨wsU_c4 133 rfl rfl, wsU_c4 131 rfl rfl, wsU_c4 132 rfl rfl, wsU_c1 12 rfl rfl, by decide +kernel⟩
theorem wm_L_27 : Cond.methodLink "ShardTrailsLaw" 27 yX10_setInn ∈ wsU := wsU_c4 153 rfl rfl
theorem zy_X10_setInn : zyV yX10_setInn cX10_setInn 4 2 (some .int) := ⟨wsU_c4 156 rfl rfl, wsU_c4 154 rfl rfl, wsU_c4 155 rfl rfl, wsU_c1 12 rfl rfl, by decide +kernel⟩
theorem wc_L_7 : Cond.classLink "ShardTrailsLaw" 7 "ShardTrails" ∈ wsU := wsU_c1 15 rfl rfl
theorem wm_L_9 : Cond.methodLink "ShardTrailsLaw" 9 yX9_init ∈ wsU := wsU_c1 17 rfl rfl
theorem wi_9 : Cond.instantiable "ShardTrails" 7 ∈ wsU := wsU_c1 16 rfl rfl
theorem wz_9 : Cond.initialized "ShardTrails" ∈ wsU := wsU_c1 1 rfl rfl
theorem dv_9 : ∀ j, j < 7 → defaultValue (tyX9 j) = if off 9 j = 0 then Value.int 0 else Value.null := by decide +kernel
theorem zyi_X9_init : zyI yX9_init cX9_init 1 := ⟨wsU_c1 19 rfl rfl, wsU_c1 18 rfl rfl, wsU_c1 1 rfl rfl, rfl, by decide +kernel⟩
theorem wc_L_10 : Cond.classLink "ShardTrailsLaw" 10 "ShardTrailsModel" ∈ wsU := wsU_c4 58 rfl rfl
theorem wm_L_12 : Cond.methodLink "ShardTrailsLaw" 12 yX10_init ∈ wsU := wsU_c4 60 rfl rfl
theorem wi_10 : Cond.instantiable "ShardTrailsModel" 15 ∈ wsU := wsU_c4 59 rfl rfl
theorem wz_10 : Cond.initialized "ShardTrailsModel" ∈ wsU := wsU_c1 12 rfl rfl
theorem dv_10 : ∀ j, j < 15 → defaultValue (tyX10 j) = if off 10 j = 0 then Value.int 0 else Value.null := by decide +kernel
theorem zyi_X10_init : zyI yX10_init cX10_init 1 := ⟨wsU_c4 62 rfl rfl, wsU_c4 61 rfl rfl, wsU_c1 12 rfl rfl, rfl, by decide +kernel⟩
theorem dL_law_16 : decode cL_law 16 = .ok (.iconst 0, 1) := by decide +kernel
theorem dL_law_17 : decode cL_law 17 = .ok (.istore_n 3, 1) := by decide +kernel
theorem dL_law_18 : decode cL_law 18 = .ok (.iload_n 3, 1) := by decide +kernel
theorem dL_law_19 : decode cL_law 19 = .ok (.aload_n 0, 1) := by decide +kernel
theorem dL_law_20 : decode cL_law 20 = .ok (.arraylength, 1) := by decide +kernel
theorem dL_law_21 : decode cL_law 21 = .ok (.iconst 4, 1) := by decide +kernel
theorem dL_law_22 : decode cL_law 22 = .ok (.isub, 1) := by decide +kernel
theorem dL_law_23 : decode cL_law 23 = .ok (.if_icmp .gt 1015, 3) := by decide +kernel
theorem dL_law_26 : decode cL_law 26 = .ok (.aload_n 0, 1) := by decide +kernel
theorem dL_law_27 : decode cL_law 27 = .ok (.iload_n 3, 1) := by decide +kernel
theorem dL_law_28 : decode cL_law 28 = .ok (.iaload, 1) := by decide +kernel
theorem dL_law_29 : decode cL_law 29 = .ok (.bipush 31, 2) := by decide +kernel
theorem dL_law_31 : decode cL_law 31 = .ok (.iand, 1) := by decide +kernel
theorem dL_law_32 : decode cL_law 32 = .ok (.tableswitch 1000 0 29 #[136, 195, 228, 277, 310, 323, 346, 379, 412, 435, 468, 481, 504, 537, 580, 605, 618, 631, 644, 657, 670, 703, 746, 779, 802, 835, 868, 911, 954, 977], 136) := by decide +kernel
theorem dL_law_168 : decode cL_law 168 = .ok (.aload_n 1, 1) := by decide +kernel
theorem dL_law_169 : decode cL_law 169 = .ok (.aload_n 0, 1) := by decide +kernel
theorem dL_law_170 : decode cL_law 170 = .ok (.iload_n 3, 1) := by decide +kernel
theorem dL_law_171 : decode cL_law 171 = .ok (.iconst 1, 1) := by decide +kernel
theorem dL_law_172 : decode cL_law 172 = .ok (.iadd, 1) := by decide +kernel
theorem dL_law_173 : decode cL_law 173 = .ok (.iaload, 1) := by decide +kernel
theorem dL_law_174 : decode cL_law 174 = .ok (.aload_n 0, 1) := by decide +kernel
theorem dL_law_175 : decode cL_law 175 = .ok (.iload_n 3, 1) := by decide +kernel
theorem dL_law_176 : decode cL_law 176 = .ok (.iconst 2, 1) := by decide +kernel
theorem dL_law_177 : decode cL_law 177 = .ok (.iadd, 1) := by decide +kernel
theorem dL_law_178 : decode cL_law 178 = .ok (.iaload, 1) := by decide +kernel
theorem dL_law_179 : decode cL_law 179 = .ok (.aload_n 0, 1) := by decide +kernel
theorem dL_law_180 : decode cL_law 180 = .ok (.iload_n 3, 1) := by decide +kernel
theorem dL_law_181 : decode cL_law 181 = .ok (.iconst 3, 1) := by decide +kernel
theorem dL_law_182 : decode cL_law 182 = .ok (.iadd, 1) := by decide +kernel
theorem dL_law_183 : decode cL_law 183 = .ok (.iaload, 1) := by decide +kernel
theorem dL_law_184 : decode cL_law 184 = .ok (.ifCond .eq 7, 3) := by decide +kernel
theorem dL_law_187 : decode cL_law 187 = .ok (.iconst 1, 1) := by decide +kernel
theorem dL_law_188 : decode cL_law 188 = .ok (.goto 4, 3) := by decide +kernel
theorem dL_law_191 : decode cL_law 191 = .ok (.iconst 0, 1) := by decide +kernel
theorem dL_law_192 : decode cL_law 192 = .ok (.invokevirtual 13, 3) := by decide +kernel
theorem dL_law_195 : decode cL_law 195 = .ok (.aload_n 2, 1) := by decide +kernel
theorem dL_law_196 : decode cL_law 196 = .ok (.aload_n 0, 1) := by decide +kernel
theorem dL_law_197 : decode cL_law 197 = .ok (.iload_n 3, 1) := by decide +kernel
theorem dL_law_198 : decode cL_law 198 = .ok (.iconst 1, 1) := by decide +kernel
theorem dL_law_199 : decode cL_law 199 = .ok (.iadd, 1) := by decide +kernel
theorem dL_law_200 : decode cL_law 200 = .ok (.iaload, 1) := by decide +kernel
theorem dL_law_201 : decode cL_law 201 = .ok (.aload_n 0, 1) := by decide +kernel
theorem dL_law_202 : decode cL_law 202 = .ok (.iload_n 3, 1) := by decide +kernel
theorem dL_law_203 : decode cL_law 203 = .ok (.iconst 2, 1) := by decide +kernel
theorem dL_law_204 : decode cL_law 204 = .ok (.iadd, 1) := by decide +kernel
theorem dL_law_205 : decode cL_law 205 = .ok (.iaload, 1) := by decide +kernel
theorem dL_law_206 : decode cL_law 206 = .ok (.aload_n 0, 1) := by decide +kernel
theorem dL_law_207 : decode cL_law 207 = .ok (.iload_n 3, 1) := by decide +kernel
theorem dL_law_208 : decode cL_law 208 = .ok (.iconst 3, 1) := by decide +kernel
theorem dL_law_209 : decode cL_law 209 = .ok (.iadd, 1) := by decide +kernel
theorem dL_law_210 : decode cL_law 210 = .ok (.iaload, 1) := by decide +kernel
theorem dL_law_211 : decode cL_law 211 = .ok (.ifCond .eq 7, 3) := by decide +kernel
theorem dL_law_214 : decode cL_law 214 = .ok (.iconst 1, 1) := by decide +kernel
theorem dL_law_215 : decode cL_law 215 = .ok (.goto 4, 3) := by decide +kernel
theorem dL_law_218 : decode cL_law 218 = .ok (.iconst 0, 1) := by decide +kernel
theorem dL_law_219 : decode cL_law 219 = .ok (.invokevirtual 17, 3) := by decide +kernel
theorem dL_law_222 : decode cL_law 222 = .ok (.if_icmp .eq 810, 3) := by decide +kernel
theorem dL_law_225 : decode cL_law 225 = .ok (.iconst 0, 1) := by decide +kernel
theorem dL_law_226 : decode cL_law 226 = .ok (.ireturn, 1) := by decide +kernel
theorem dL_law_227 : decode cL_law 227 = .ok (.aload_n 1, 1) := by decide +kernel
theorem dL_law_228 : decode cL_law 228 = .ok (.aload_n 0, 1) := by decide +kernel
theorem dL_law_229 : decode cL_law 229 = .ok (.iload_n 3, 1) := by decide +kernel
theorem dL_law_230 : decode cL_law 230 = .ok (.iconst 1, 1) := by decide +kernel
theorem dL_law_231 : decode cL_law 231 = .ok (.iadd, 1) := by decide +kernel
theorem dL_law_232 : decode cL_law 232 = .ok (.iaload, 1) := by decide +kernel
theorem dL_law_233 : decode cL_law 233 = .ok (.aload_n 0, 1) := by decide +kernel
theorem dL_law_234 : decode cL_law 234 = .ok (.iload_n 3, 1) := by decide +kernel
theorem dL_law_235 : decode cL_law 235 = .ok (.iconst 2, 1) := by decide +kernel
theorem dL_law_236 : decode cL_law 236 = .ok (.iadd, 1) := by decide +kernel
theorem dL_law_237 : decode cL_law 237 = .ok (.iaload, 1) := by decide +kernel
theorem dL_law_238 : decode cL_law 238 = .ok (.invokevirtual 18, 3) := by decide +kernel
theorem dL_law_241 : decode cL_law 241 = .ok (.aload_n 2, 1) := by decide +kernel
theorem dL_law_242 : decode cL_law 242 = .ok (.aload_n 0, 1) := by decide +kernel
theorem dL_law_243 : decode cL_law 243 = .ok (.iload_n 3, 1) := by decide +kernel
theorem dL_law_244 : decode cL_law 244 = .ok (.iconst 1, 1) := by decide +kernel
theorem dL_law_245 : decode cL_law 245 = .ok (.iadd, 1) := by decide +kernel
theorem dL_law_246 : decode cL_law 246 = .ok (.iaload, 1) := by decide +kernel
theorem dL_law_247 : decode cL_law 247 = .ok (.aload_n 0, 1) := by decide +kernel
theorem dL_law_248 : decode cL_law 248 = .ok (.iload_n 3, 1) := by decide +kernel
theorem dL_law_249 : decode cL_law 249 = .ok (.iconst 2, 1) := by decide +kernel
theorem dL_law_250 : decode cL_law 250 = .ok (.iadd, 1) := by decide +kernel
theorem dL_law_251 : decode cL_law 251 = .ok (.iaload, 1) := by decide +kernel
theorem dL_law_252 : decode cL_law 252 = .ok (.invokevirtual 22, 3) := by decide +kernel
theorem dL_law_255 : decode cL_law 255 = .ok (.if_icmp .eq 777, 3) := by decide +kernel
theorem dL_law_258 : decode cL_law 258 = .ok (.iconst 0, 1) := by decide +kernel
theorem dL_law_259 : decode cL_law 259 = .ok (.ireturn, 1) := by decide +kernel
theorem dL_law_260 : decode cL_law 260 = .ok (.aload_n 1, 1) := by decide +kernel
theorem dL_law_261 : decode cL_law 261 = .ok (.aload_n 0, 1) := by decide +kernel
theorem dL_law_262 : decode cL_law 262 = .ok (.iload_n 3, 1) := by decide +kernel
theorem dL_law_263 : decode cL_law 263 = .ok (.iconst 1, 1) := by decide +kernel
theorem dL_law_264 : decode cL_law 264 = .ok (.iadd, 1) := by decide +kernel
theorem dL_law_265 : decode cL_law 265 = .ok (.iaload, 1) := by decide +kernel
theorem dL_law_266 : decode cL_law 266 = .ok (.aload_n 0, 1) := by decide +kernel
theorem dL_law_267 : decode cL_law 267 = .ok (.iload_n 3, 1) := by decide +kernel
theorem dL_law_268 : decode cL_law 268 = .ok (.iconst 2, 1) := by decide +kernel
theorem dL_law_269 : decode cL_law 269 = .ok (.iadd, 1) := by decide +kernel
theorem dL_law_270 : decode cL_law 270 = .ok (.iaload, 1) := by decide +kernel
theorem dL_law_271 : decode cL_law 271 = .ok (.ifCond .eq 7, 3) := by decide +kernel
theorem dL_law_274 : decode cL_law 274 = .ok (.iconst 1, 1) := by decide +kernel
theorem dL_law_275 : decode cL_law 275 = .ok (.goto 4, 3) := by decide +kernel
theorem dL_law_278 : decode cL_law 278 = .ok (.iconst 0, 1) := by decide +kernel
theorem dL_law_279 : decode cL_law 279 = .ok (.invokevirtual 23, 3) := by decide +kernel
theorem dL_law_282 : decode cL_law 282 = .ok (.aload_n 2, 1) := by decide +kernel
theorem dL_law_283 : decode cL_law 283 = .ok (.aload_n 0, 1) := by decide +kernel
theorem dL_law_284 : decode cL_law 284 = .ok (.iload_n 3, 1) := by decide +kernel
theorem dL_law_285 : decode cL_law 285 = .ok (.iconst 1, 1) := by decide +kernel
theorem dL_law_286 : decode cL_law 286 = .ok (.iadd, 1) := by decide +kernel
theorem dL_law_287 : decode cL_law 287 = .ok (.iaload, 1) := by decide +kernel
theorem dL_law_288 : decode cL_law 288 = .ok (.aload_n 0, 1) := by decide +kernel
theorem dL_law_289 : decode cL_law 289 = .ok (.iload_n 3, 1) := by decide +kernel
theorem dL_law_290 : decode cL_law 290 = .ok (.iconst 2, 1) := by decide +kernel
theorem dL_law_291 : decode cL_law 291 = .ok (.iadd, 1) := by decide +kernel
theorem dL_law_292 : decode cL_law 292 = .ok (.iaload, 1) := by decide +kernel
theorem dL_law_293 : decode cL_law 293 = .ok (.ifCond .eq 7, 3) := by decide +kernel
theorem dL_law_296 : decode cL_law 296 = .ok (.iconst 1, 1) := by decide +kernel
theorem dL_law_297 : decode cL_law 297 = .ok (.goto 4, 3) := by decide +kernel
theorem dL_law_300 : decode cL_law 300 = .ok (.iconst 0, 1) := by decide +kernel
theorem dL_law_301 : decode cL_law 301 = .ok (.invokevirtual 27, 3) := by decide +kernel
theorem dL_law_304 : decode cL_law 304 = .ok (.if_icmp .eq 728, 3) := by decide +kernel
theorem dL_law_307 : decode cL_law 307 = .ok (.iconst 0, 1) := by decide +kernel
theorem dL_law_308 : decode cL_law 308 = .ok (.ireturn, 1) := by decide +kernel
theorem dL_law_309 : decode cL_law 309 = .ok (.aload_n 1, 1) := by decide +kernel
theorem dL_law_310 : decode cL_law 310 = .ok (.aload_n 0, 1) := by decide +kernel
theorem dL_law_311 : decode cL_law 311 = .ok (.iload_n 3, 1) := by decide +kernel
theorem dL_law_312 : decode cL_law 312 = .ok (.iconst 1, 1) := by decide +kernel
theorem dL_law_313 : decode cL_law 313 = .ok (.iadd, 1) := by decide +kernel
theorem dL_law_314 : decode cL_law 314 = .ok (.iaload, 1) := by decide +kernel
theorem dL_law_315 : decode cL_law 315 = .ok (.aload_n 0, 1) := by decide +kernel
theorem dL_law_316 : decode cL_law 316 = .ok (.iload_n 3, 1) := by decide +kernel
theorem dL_law_317 : decode cL_law 317 = .ok (.iconst 2, 1) := by decide +kernel
theorem dL_law_318 : decode cL_law 318 = .ok (.iadd, 1) := by decide +kernel
theorem dL_law_319 : decode cL_law 319 = .ok (.iaload, 1) := by decide +kernel
theorem dL_law_320 : decode cL_law 320 = .ok (.invokevirtual 28, 3) := by decide +kernel
theorem dL_law_323 : decode cL_law 323 = .ok (.aload_n 2, 1) := by decide +kernel
theorem dL_law_324 : decode cL_law 324 = .ok (.aload_n 0, 1) := by decide +kernel
theorem dL_law_325 : decode cL_law 325 = .ok (.iload_n 3, 1) := by decide +kernel
theorem dL_law_326 : decode cL_law 326 = .ok (.iconst 1, 1) := by decide +kernel
theorem dL_law_327 : decode cL_law 327 = .ok (.iadd, 1) := by decide +kernel
theorem dL_law_328 : decode cL_law 328 = .ok (.iaload, 1) := by decide +kernel
theorem dL_law_329 : decode cL_law 329 = .ok (.aload_n 0, 1) := by decide +kernel
theorem dL_law_330 : decode cL_law 330 = .ok (.iload_n 3, 1) := by decide +kernel
theorem dL_law_331 : decode cL_law 331 = .ok (.iconst 2, 1) := by decide +kernel
theorem dL_law_332 : decode cL_law 332 = .ok (.iadd, 1) := by decide +kernel
theorem dL_law_333 : decode cL_law 333 = .ok (.iaload, 1) := by decide +kernel
theorem dL_law_334 : decode cL_law 334 = .ok (.invokevirtual 31, 3) := by decide +kernel
theorem dL_law_337 : decode cL_law 337 = .ok (.if_icmp .eq 695, 3) := by decide +kernel
theorem dL_law_340 : decode cL_law 340 = .ok (.iconst 0, 1) := by decide +kernel
theorem dL_law_341 : decode cL_law 341 = .ok (.ireturn, 1) := by decide +kernel
theorem dL_law_342 : decode cL_law 342 = .ok (.aload_n 1, 1) := by decide +kernel
theorem dL_law_343 : decode cL_law 343 = .ok (.invokevirtual 32, 3) := by decide +kernel
theorem dL_law_346 : decode cL_law 346 = .ok (.aload_n 2, 1) := by decide +kernel
theorem dL_law_347 : decode cL_law 347 = .ok (.invokevirtual 36, 3) := by decide +kernel
theorem dL_law_350 : decode cL_law 350 = .ok (.if_icmp .eq 682, 3) := by decide +kernel
theorem dL_law_353 : decode cL_law 353 = .ok (.iconst 0, 1) := by decide +kernel
theorem dL_law_354 : decode cL_law 354 = .ok (.ireturn, 1) := by decide +kernel
theorem dL_law_355 : decode cL_law 355 = .ok (.aload_n 1, 1) := by decide +kernel
theorem dL_law_356 : decode cL_law 356 = .ok (.aload_n 0, 1) := by decide +kernel
theorem dL_law_357 : decode cL_law 357 = .ok (.iload_n 3, 1) := by decide +kernel
theorem dL_law_358 : decode cL_law 358 = .ok (.iconst 1, 1) := by decide +kernel
theorem dL_law_359 : decode cL_law 359 = .ok (.iadd, 1) := by decide +kernel
theorem dL_law_360 : decode cL_law 360 = .ok (.iaload, 1) := by decide +kernel
theorem dL_law_361 : decode cL_law 361 = .ok (.invokevirtual 37, 3) := by decide +kernel
theorem dL_law_364 : decode cL_law 364 = .ok (.aload_n 2, 1) := by decide +kernel
theorem dL_law_365 : decode cL_law 365 = .ok (.aload_n 0, 1) := by decide +kernel
theorem dL_law_366 : decode cL_law 366 = .ok (.iload_n 3, 1) := by decide +kernel
theorem dL_law_367 : decode cL_law 367 = .ok (.iconst 1, 1) := by decide +kernel
theorem dL_law_368 : decode cL_law 368 = .ok (.iadd, 1) := by decide +kernel
theorem dL_law_369 : decode cL_law 369 = .ok (.iaload, 1) := by decide +kernel
theorem dL_law_370 : decode cL_law 370 = .ok (.invokevirtual 41, 3) := by decide +kernel
theorem dL_law_373 : decode cL_law 373 = .ok (.if_icmp .eq 659, 3) := by decide +kernel
theorem dL_law_376 : decode cL_law 376 = .ok (.iconst 0, 1) := by decide +kernel
theorem dL_law_377 : decode cL_law 377 = .ok (.ireturn, 1) := by decide +kernel
theorem dL_law_378 : decode cL_law 378 = .ok (.aload_n 1, 1) := by decide +kernel
theorem dL_law_379 : decode cL_law 379 = .ok (.aload_n 0, 1) := by decide +kernel
theorem dL_law_380 : decode cL_law 380 = .ok (.iload_n 3, 1) := by decide +kernel
theorem dL_law_381 : decode cL_law 381 = .ok (.iconst 1, 1) := by decide +kernel
theorem dL_law_382 : decode cL_law 382 = .ok (.iadd, 1) := by decide +kernel
theorem dL_law_383 : decode cL_law 383 = .ok (.iaload, 1) := by decide +kernel
theorem dL_law_384 : decode cL_law 384 = .ok (.aload_n 0, 1) := by decide +kernel
theorem dL_law_385 : decode cL_law 385 = .ok (.iload_n 3, 1) := by decide +kernel
theorem dL_law_386 : decode cL_law 386 = .ok (.iconst 2, 1) := by decide +kernel
theorem dL_law_387 : decode cL_law 387 = .ok (.iadd, 1) := by decide +kernel
theorem dL_law_388 : decode cL_law 388 = .ok (.iaload, 1) := by decide +kernel
theorem dL_law_389 : decode cL_law 389 = .ok (.invokevirtual 42, 3) := by decide +kernel
theorem dL_law_392 : decode cL_law 392 = .ok (.aload_n 2, 1) := by decide +kernel
theorem dL_law_393 : decode cL_law 393 = .ok (.aload_n 0, 1) := by decide +kernel
theorem dL_law_394 : decode cL_law 394 = .ok (.iload_n 3, 1) := by decide +kernel
theorem dL_law_395 : decode cL_law 395 = .ok (.iconst 1, 1) := by decide +kernel
theorem dL_law_396 : decode cL_law 396 = .ok (.iadd, 1) := by decide +kernel
theorem dL_law_397 : decode cL_law 397 = .ok (.iaload, 1) := by decide +kernel
theorem dL_law_398 : decode cL_law 398 = .ok (.aload_n 0, 1) := by decide +kernel
theorem dL_law_399 : decode cL_law 399 = .ok (.iload_n 3, 1) := by decide +kernel
theorem dL_law_400 : decode cL_law 400 = .ok (.iconst 2, 1) := by decide +kernel
theorem dL_law_401 : decode cL_law 401 = .ok (.iadd, 1) := by decide +kernel
theorem dL_law_402 : decode cL_law 402 = .ok (.iaload, 1) := by decide +kernel
theorem dL_law_403 : decode cL_law 403 = .ok (.invokevirtual 45, 3) := by decide +kernel
theorem dL_law_406 : decode cL_law 406 = .ok (.if_icmp .eq 626, 3) := by decide +kernel
theorem dL_law_409 : decode cL_law 409 = .ok (.iconst 0, 1) := by decide +kernel
theorem dL_law_410 : decode cL_law 410 = .ok (.ireturn, 1) := by decide +kernel
theorem dL_law_411 : decode cL_law 411 = .ok (.aload_n 1, 1) := by decide +kernel
theorem dL_law_412 : decode cL_law 412 = .ok (.aload_n 0, 1) := by decide +kernel
theorem dL_law_413 : decode cL_law 413 = .ok (.iload_n 3, 1) := by decide +kernel
theorem dL_law_414 : decode cL_law 414 = .ok (.iconst 1, 1) := by decide +kernel
theorem dL_law_415 : decode cL_law 415 = .ok (.iadd, 1) := by decide +kernel
theorem dL_law_416 : decode cL_law 416 = .ok (.iaload, 1) := by decide +kernel
theorem dL_law_417 : decode cL_law 417 = .ok (.aload_n 0, 1) := by decide +kernel
theorem dL_law_418 : decode cL_law 418 = .ok (.iload_n 3, 1) := by decide +kernel
theorem dL_law_419 : decode cL_law 419 = .ok (.iconst 2, 1) := by decide +kernel
theorem dL_law_420 : decode cL_law 420 = .ok (.iadd, 1) := by decide +kernel
theorem dL_law_421 : decode cL_law 421 = .ok (.iaload, 1) := by decide +kernel
theorem dL_law_422 : decode cL_law 422 = .ok (.invokevirtual 46, 3) := by decide +kernel
theorem dL_law_425 : decode cL_law 425 = .ok (.aload_n 2, 1) := by decide +kernel
theorem dL_law_426 : decode cL_law 426 = .ok (.aload_n 0, 1) := by decide +kernel
theorem dL_law_427 : decode cL_law 427 = .ok (.iload_n 3, 1) := by decide +kernel
theorem dL_law_428 : decode cL_law 428 = .ok (.iconst 1, 1) := by decide +kernel
theorem dL_law_429 : decode cL_law 429 = .ok (.iadd, 1) := by decide +kernel
theorem dL_law_430 : decode cL_law 430 = .ok (.iaload, 1) := by decide +kernel
theorem dL_law_431 : decode cL_law 431 = .ok (.aload_n 0, 1) := by decide +kernel
theorem dL_law_432 : decode cL_law 432 = .ok (.iload_n 3, 1) := by decide +kernel
theorem dL_law_433 : decode cL_law 433 = .ok (.iconst 2, 1) := by decide +kernel
theorem dL_law_434 : decode cL_law 434 = .ok (.iadd, 1) := by decide +kernel
theorem dL_law_435 : decode cL_law 435 = .ok (.iaload, 1) := by decide +kernel
theorem dL_law_436 : decode cL_law 436 = .ok (.invokevirtual 49, 3) := by decide +kernel
theorem dL_law_439 : decode cL_law 439 = .ok (.if_icmp .eq 593, 3) := by decide +kernel
theorem dL_law_442 : decode cL_law 442 = .ok (.iconst 0, 1) := by decide +kernel
theorem dL_law_443 : decode cL_law 443 = .ok (.ireturn, 1) := by decide +kernel
theorem dL_law_444 : decode cL_law 444 = .ok (.aload_n 1, 1) := by decide +kernel
theorem dL_law_445 : decode cL_law 445 = .ok (.aload_n 0, 1) := by decide +kernel
theorem dL_law_446 : decode cL_law 446 = .ok (.iload_n 3, 1) := by decide +kernel
theorem dL_law_447 : decode cL_law 447 = .ok (.iconst 1, 1) := by decide +kernel
theorem dL_law_448 : decode cL_law 448 = .ok (.iadd, 1) := by decide +kernel
theorem dL_law_449 : decode cL_law 449 = .ok (.iaload, 1) := by decide +kernel
theorem dL_law_450 : decode cL_law 450 = .ok (.invokevirtual 50, 3) := by decide +kernel
theorem dL_law_453 : decode cL_law 453 = .ok (.aload_n 2, 1) := by decide +kernel
theorem dL_law_454 : decode cL_law 454 = .ok (.aload_n 0, 1) := by decide +kernel
theorem dL_law_455 : decode cL_law 455 = .ok (.iload_n 3, 1) := by decide +kernel
theorem dL_law_456 : decode cL_law 456 = .ok (.iconst 1, 1) := by decide +kernel
theorem dL_law_457 : decode cL_law 457 = .ok (.iadd, 1) := by decide +kernel
theorem dL_law_458 : decode cL_law 458 = .ok (.iaload, 1) := by decide +kernel
theorem dL_law_459 : decode cL_law 459 = .ok (.invokevirtual 53, 3) := by decide +kernel
theorem dL_law_462 : decode cL_law 462 = .ok (.if_icmp .eq 570, 3) := by decide +kernel
theorem dL_law_465 : decode cL_law 465 = .ok (.iconst 0, 1) := by decide +kernel
theorem dL_law_466 : decode cL_law 466 = .ok (.ireturn, 1) := by decide +kernel
theorem dL_law_467 : decode cL_law 467 = .ok (.aload_n 1, 1) := by decide +kernel
theorem dL_law_468 : decode cL_law 468 = .ok (.aload_n 0, 1) := by decide +kernel
theorem dL_law_469 : decode cL_law 469 = .ok (.iload_n 3, 1) := by decide +kernel
theorem dL_law_470 : decode cL_law 470 = .ok (.iconst 1, 1) := by decide +kernel
theorem dL_law_471 : decode cL_law 471 = .ok (.iadd, 1) := by decide +kernel
theorem dL_law_472 : decode cL_law 472 = .ok (.iaload, 1) := by decide +kernel
theorem dL_law_473 : decode cL_law 473 = .ok (.aload_n 0, 1) := by decide +kernel
theorem dL_law_474 : decode cL_law 474 = .ok (.iload_n 3, 1) := by decide +kernel
theorem dL_law_475 : decode cL_law 475 = .ok (.iconst 2, 1) := by decide +kernel
theorem dL_law_476 : decode cL_law 476 = .ok (.iadd, 1) := by decide +kernel
theorem dL_law_477 : decode cL_law 477 = .ok (.iaload, 1) := by decide +kernel
theorem dL_law_478 : decode cL_law 478 = .ok (.invokevirtual 54, 3) := by decide +kernel
theorem dL_law_481 : decode cL_law 481 = .ok (.aload_n 2, 1) := by decide +kernel
theorem dL_law_482 : decode cL_law 482 = .ok (.aload_n 0, 1) := by decide +kernel
theorem dL_law_483 : decode cL_law 483 = .ok (.iload_n 3, 1) := by decide +kernel
theorem dL_law_484 : decode cL_law 484 = .ok (.iconst 1, 1) := by decide +kernel
theorem dL_law_485 : decode cL_law 485 = .ok (.iadd, 1) := by decide +kernel
theorem dL_law_486 : decode cL_law 486 = .ok (.iaload, 1) := by decide +kernel
theorem dL_law_487 : decode cL_law 487 = .ok (.aload_n 0, 1) := by decide +kernel
theorem dL_law_488 : decode cL_law 488 = .ok (.iload_n 3, 1) := by decide +kernel
theorem dL_law_489 : decode cL_law 489 = .ok (.iconst 2, 1) := by decide +kernel
theorem dL_law_490 : decode cL_law 490 = .ok (.iadd, 1) := by decide +kernel
theorem dL_law_491 : decode cL_law 491 = .ok (.iaload, 1) := by decide +kernel
theorem dL_law_492 : decode cL_law 492 = .ok (.invokevirtual 57, 3) := by decide +kernel
theorem dL_law_495 : decode cL_law 495 = .ok (.if_icmp .eq 537, 3) := by decide +kernel
theorem dL_law_498 : decode cL_law 498 = .ok (.iconst 0, 1) := by decide +kernel
theorem dL_law_499 : decode cL_law 499 = .ok (.ireturn, 1) := by decide +kernel
theorem dL_law_500 : decode cL_law 500 = .ok (.aload_n 1, 1) := by decide +kernel
theorem dL_law_501 : decode cL_law 501 = .ok (.invokevirtual 58, 3) := by decide +kernel
theorem dL_law_504 : decode cL_law 504 = .ok (.aload_n 2, 1) := by decide +kernel
theorem dL_law_505 : decode cL_law 505 = .ok (.invokevirtual 61, 3) := by decide +kernel
theorem dL_law_508 : decode cL_law 508 = .ok (.if_icmp .eq 524, 3) := by decide +kernel
theorem dL_law_511 : decode cL_law 511 = .ok (.iconst 0, 1) := by decide +kernel
theorem dL_law_512 : decode cL_law 512 = .ok (.ireturn, 1) := by decide +kernel
theorem dL_law_513 : decode cL_law 513 = .ok (.aload_n 1, 1) := by decide +kernel
theorem dL_law_514 : decode cL_law 514 = .ok (.aload_n 0, 1) := by decide +kernel
theorem dL_law_515 : decode cL_law 515 = .ok (.iload_n 3, 1) := by decide +kernel
theorem dL_law_516 : decode cL_law 516 = .ok (.iconst 1, 1) := by decide +kernel
theorem dL_law_517 : decode cL_law 517 = .ok (.iadd, 1) := by decide +kernel
theorem dL_law_518 : decode cL_law 518 = .ok (.iaload, 1) := by decide +kernel
theorem dL_law_519 : decode cL_law 519 = .ok (.invokevirtual 62, 3) := by decide +kernel
theorem dL_law_522 : decode cL_law 522 = .ok (.aload_n 2, 1) := by decide +kernel
theorem dL_law_523 : decode cL_law 523 = .ok (.aload_n 0, 1) := by decide +kernel
theorem dL_law_524 : decode cL_law 524 = .ok (.iload_n 3, 1) := by decide +kernel
theorem dL_law_525 : decode cL_law 525 = .ok (.iconst 1, 1) := by decide +kernel
theorem dL_law_526 : decode cL_law 526 = .ok (.iadd, 1) := by decide +kernel
theorem dL_law_527 : decode cL_law 527 = .ok (.iaload, 1) := by decide +kernel
theorem dL_law_528 : decode cL_law 528 = .ok (.invokevirtual 65, 3) := by decide +kernel
theorem dL_law_531 : decode cL_law 531 = .ok (.if_icmp .eq 501, 3) := by decide +kernel
theorem dL_law_534 : decode cL_law 534 = .ok (.iconst 0, 1) := by decide +kernel
theorem dL_law_535 : decode cL_law 535 = .ok (.ireturn, 1) := by decide +kernel
theorem dL_law_536 : decode cL_law 536 = .ok (.aload_n 1, 1) := by decide +kernel
theorem dL_law_537 : decode cL_law 537 = .ok (.aload_n 0, 1) := by decide +kernel
theorem dL_law_538 : decode cL_law 538 = .ok (.iload_n 3, 1) := by decide +kernel
theorem dL_law_539 : decode cL_law 539 = .ok (.iconst 1, 1) := by decide +kernel
theorem dL_law_540 : decode cL_law 540 = .ok (.iadd, 1) := by decide +kernel
theorem dL_law_541 : decode cL_law 541 = .ok (.iaload, 1) := by decide +kernel
theorem dL_law_542 : decode cL_law 542 = .ok (.aload_n 0, 1) := by decide +kernel
theorem dL_law_543 : decode cL_law 543 = .ok (.iload_n 3, 1) := by decide +kernel
theorem dL_law_544 : decode cL_law 544 = .ok (.iconst 2, 1) := by decide +kernel
theorem dL_law_545 : decode cL_law 545 = .ok (.iadd, 1) := by decide +kernel
theorem dL_law_546 : decode cL_law 546 = .ok (.iaload, 1) := by decide +kernel
theorem dL_law_547 : decode cL_law 547 = .ok (.invokevirtual 66, 3) := by decide +kernel
theorem dL_law_550 : decode cL_law 550 = .ok (.aload_n 2, 1) := by decide +kernel
theorem dL_law_551 : decode cL_law 551 = .ok (.aload_n 0, 1) := by decide +kernel
theorem dL_law_552 : decode cL_law 552 = .ok (.iload_n 3, 1) := by decide +kernel
theorem dL_law_553 : decode cL_law 553 = .ok (.iconst 1, 1) := by decide +kernel
theorem dL_law_554 : decode cL_law 554 = .ok (.iadd, 1) := by decide +kernel
theorem dL_law_555 : decode cL_law 555 = .ok (.iaload, 1) := by decide +kernel
theorem dL_law_556 : decode cL_law 556 = .ok (.aload_n 0, 1) := by decide +kernel
theorem dL_law_557 : decode cL_law 557 = .ok (.iload_n 3, 1) := by decide +kernel
theorem dL_law_558 : decode cL_law 558 = .ok (.iconst 2, 1) := by decide +kernel
theorem dL_law_559 : decode cL_law 559 = .ok (.iadd, 1) := by decide +kernel
theorem dL_law_560 : decode cL_law 560 = .ok (.iaload, 1) := by decide +kernel
theorem dL_law_561 : decode cL_law 561 = .ok (.invokevirtual 69, 3) := by decide +kernel
theorem dL_law_564 : decode cL_law 564 = .ok (.if_icmp .eq 468, 3) := by decide +kernel
theorem dL_law_567 : decode cL_law 567 = .ok (.iconst 0, 1) := by decide +kernel
theorem dL_law_568 : decode cL_law 568 = .ok (.ireturn, 1) := by decide +kernel
theorem dL_law_569 : decode cL_law 569 = .ok (.aload_n 1, 1) := by decide +kernel
theorem dL_law_570 : decode cL_law 570 = .ok (.aload_n 0, 1) := by decide +kernel
theorem dL_law_571 : decode cL_law 571 = .ok (.iload_n 3, 1) := by decide +kernel
theorem dL_law_572 : decode cL_law 572 = .ok (.iconst 1, 1) := by decide +kernel
theorem dL_law_573 : decode cL_law 573 = .ok (.iadd, 1) := by decide +kernel
theorem dL_law_574 : decode cL_law 574 = .ok (.iaload, 1) := by decide +kernel
theorem dL_law_575 : decode cL_law 575 = .ok (.aload_n 0, 1) := by decide +kernel
theorem dL_law_576 : decode cL_law 576 = .ok (.iload_n 3, 1) := by decide +kernel
theorem dL_law_577 : decode cL_law 577 = .ok (.iconst 2, 1) := by decide +kernel
theorem dL_law_578 : decode cL_law 578 = .ok (.iadd, 1) := by decide +kernel
theorem dL_law_579 : decode cL_law 579 = .ok (.iaload, 1) := by decide +kernel
theorem dL_law_580 : decode cL_law 580 = .ok (.aload_n 0, 1) := by decide +kernel
theorem dL_law_581 : decode cL_law 581 = .ok (.iload_n 3, 1) := by decide +kernel
theorem dL_law_582 : decode cL_law 582 = .ok (.iconst 3, 1) := by decide +kernel
theorem dL_law_583 : decode cL_law 583 = .ok (.iadd, 1) := by decide +kernel
theorem dL_law_584 : decode cL_law 584 = .ok (.iaload, 1) := by decide +kernel
theorem dL_law_585 : decode cL_law 585 = .ok (.invokevirtual 70, 3) := by decide +kernel
theorem dL_law_588 : decode cL_law 588 = .ok (.aload_n 2, 1) := by decide +kernel
theorem dL_law_589 : decode cL_law 589 = .ok (.aload_n 0, 1) := by decide +kernel
theorem dL_law_590 : decode cL_law 590 = .ok (.iload_n 3, 1) := by decide +kernel
theorem dL_law_591 : decode cL_law 591 = .ok (.iconst 1, 1) := by decide +kernel
theorem dL_law_592 : decode cL_law 592 = .ok (.iadd, 1) := by decide +kernel
theorem dL_law_593 : decode cL_law 593 = .ok (.iaload, 1) := by decide +kernel
theorem dL_law_594 : decode cL_law 594 = .ok (.aload_n 0, 1) := by decide +kernel
theorem dL_law_595 : decode cL_law 595 = .ok (.iload_n 3, 1) := by decide +kernel
theorem dL_law_596 : decode cL_law 596 = .ok (.iconst 2, 1) := by decide +kernel
theorem dL_law_597 : decode cL_law 597 = .ok (.iadd, 1) := by decide +kernel
theorem dL_law_598 : decode cL_law 598 = .ok (.iaload, 1) := by decide +kernel
theorem dL_law_599 : decode cL_law 599 = .ok (.aload_n 0, 1) := by decide +kernel
theorem dL_law_600 : decode cL_law 600 = .ok (.iload_n 3, 1) := by decide +kernel
theorem dL_law_601 : decode cL_law 601 = .ok (.iconst 3, 1) := by decide +kernel
theorem dL_law_602 : decode cL_law 602 = .ok (.iadd, 1) := by decide +kernel
theorem dL_law_603 : decode cL_law 603 = .ok (.iaload, 1) := by decide +kernel
theorem dL_law_604 : decode cL_law 604 = .ok (.invokevirtual 74, 3) := by decide +kernel
theorem dL_law_607 : decode cL_law 607 = .ok (.if_icmp .eq 425, 3) := by decide +kernel
theorem dL_law_610 : decode cL_law 610 = .ok (.iconst 0, 1) := by decide +kernel
theorem dL_law_611 : decode cL_law 611 = .ok (.ireturn, 1) := by decide +kernel
theorem dL_law_612 : decode cL_law 612 = .ok (.aload_n 1, 1) := by decide +kernel
theorem dL_law_613 : decode cL_law 613 = .ok (.aload_n 0, 1) := by decide +kernel
theorem dL_law_614 : decode cL_law 614 = .ok (.iload_n 3, 1) := by decide +kernel
theorem dL_law_615 : decode cL_law 615 = .ok (.iconst 1, 1) := by decide +kernel
theorem dL_law_616 : decode cL_law 616 = .ok (.iadd, 1) := by decide +kernel
theorem dL_law_617 : decode cL_law 617 = .ok (.iaload, 1) := by decide +kernel
theorem dL_law_618 : decode cL_law 618 = .ok (.i2c, 1) := by decide +kernel
theorem dL_law_619 : decode cL_law 619 = .ok (.invokevirtual 75, 3) := by decide +kernel
theorem dL_law_622 : decode cL_law 622 = .ok (.aload_n 2, 1) := by decide +kernel
theorem dL_law_623 : decode cL_law 623 = .ok (.aload_n 0, 1) := by decide +kernel
theorem dL_law_624 : decode cL_law 624 = .ok (.iload_n 3, 1) := by decide +kernel
theorem dL_law_625 : decode cL_law 625 = .ok (.iconst 1, 1) := by decide +kernel
theorem dL_law_626 : decode cL_law 626 = .ok (.iadd, 1) := by decide +kernel
theorem dL_law_627 : decode cL_law 627 = .ok (.iaload, 1) := by decide +kernel
theorem dL_law_628 : decode cL_law 628 = .ok (.i2c, 1) := by decide +kernel
theorem dL_law_629 : decode cL_law 629 = .ok (.invokevirtual 79, 3) := by decide +kernel
theorem dL_law_632 : decode cL_law 632 = .ok (.if_icmp .eq 400, 3) := by decide +kernel
theorem dL_law_635 : decode cL_law 635 = .ok (.iconst 0, 1) := by decide +kernel
theorem dL_law_636 : decode cL_law 636 = .ok (.ireturn, 1) := by decide +kernel
theorem dL_law_637 : decode cL_law 637 = .ok (.aload_n 1, 1) := by decide +kernel
theorem dL_law_638 : decode cL_law 638 = .ok (.invokevirtual 80, 3) := by decide +kernel
theorem dL_law_641 : decode cL_law 641 = .ok (.aload_n 2, 1) := by decide +kernel
theorem dL_law_642 : decode cL_law 642 = .ok (.invokevirtual 83, 3) := by decide +kernel
theorem dL_law_645 : decode cL_law 645 = .ok (.if_icmp .eq 387, 3) := by decide +kernel
theorem dL_law_648 : decode cL_law 648 = .ok (.iconst 0, 1) := by decide +kernel
theorem dL_law_649 : decode cL_law 649 = .ok (.ireturn, 1) := by decide +kernel
theorem dL_law_650 : decode cL_law 650 = .ok (.aload_n 1, 1) := by decide +kernel
theorem dL_law_651 : decode cL_law 651 = .ok (.invokevirtual 84, 3) := by decide +kernel
theorem dL_law_654 : decode cL_law 654 = .ok (.aload_n 2, 1) := by decide +kernel
theorem dL_law_655 : decode cL_law 655 = .ok (.invokevirtual 87, 3) := by decide +kernel
theorem dL_law_658 : decode cL_law 658 = .ok (.if_icmp .eq 374, 3) := by decide +kernel
theorem dL_law_661 : decode cL_law 661 = .ok (.iconst 0, 1) := by decide +kernel
theorem dL_law_662 : decode cL_law 662 = .ok (.ireturn, 1) := by decide +kernel
theorem dL_law_663 : decode cL_law 663 = .ok (.aload_n 1, 1) := by decide +kernel
theorem dL_law_664 : decode cL_law 664 = .ok (.invokevirtual 88, 3) := by decide +kernel
theorem dL_law_667 : decode cL_law 667 = .ok (.aload_n 2, 1) := by decide +kernel
theorem dL_law_668 : decode cL_law 668 = .ok (.invokevirtual 91, 3) := by decide +kernel
theorem dL_law_671 : decode cL_law 671 = .ok (.if_icmp .eq 361, 3) := by decide +kernel
theorem dL_law_674 : decode cL_law 674 = .ok (.iconst 0, 1) := by decide +kernel
theorem dL_law_675 : decode cL_law 675 = .ok (.ireturn, 1) := by decide +kernel
theorem dL_law_676 : decode cL_law 676 = .ok (.aload_n 1, 1) := by decide +kernel
theorem dL_law_677 : decode cL_law 677 = .ok (.invokevirtual 92, 3) := by decide +kernel
theorem dL_law_680 : decode cL_law 680 = .ok (.aload_n 2, 1) := by decide +kernel
theorem dL_law_681 : decode cL_law 681 = .ok (.invokevirtual 95, 3) := by decide +kernel
theorem dL_law_684 : decode cL_law 684 = .ok (.if_icmp .eq 348, 3) := by decide +kernel
theorem dL_law_687 : decode cL_law 687 = .ok (.iconst 0, 1) := by decide +kernel
theorem dL_law_688 : decode cL_law 688 = .ok (.ireturn, 1) := by decide +kernel
theorem dL_law_689 : decode cL_law 689 = .ok (.aload_n 1, 1) := by decide +kernel
theorem dL_law_690 : decode cL_law 690 = .ok (.invokevirtual 96, 3) := by decide +kernel
theorem dL_law_693 : decode cL_law 693 = .ok (.aload_n 2, 1) := by decide +kernel
theorem dL_law_694 : decode cL_law 694 = .ok (.invokevirtual 99, 3) := by decide +kernel
theorem dL_law_697 : decode cL_law 697 = .ok (.if_icmp .eq 335, 3) := by decide +kernel
theorem dL_law_700 : decode cL_law 700 = .ok (.iconst 0, 1) := by decide +kernel
theorem dL_law_701 : decode cL_law 701 = .ok (.ireturn, 1) := by decide +kernel
theorem dL_law_702 : decode cL_law 702 = .ok (.aload_n 1, 1) := by decide +kernel
theorem dL_law_703 : decode cL_law 703 = .ok (.aload_n 0, 1) := by decide +kernel
theorem dL_law_704 : decode cL_law 704 = .ok (.iload_n 3, 1) := by decide +kernel
theorem dL_law_705 : decode cL_law 705 = .ok (.iconst 1, 1) := by decide +kernel
theorem dL_law_706 : decode cL_law 706 = .ok (.iadd, 1) := by decide +kernel
theorem dL_law_707 : decode cL_law 707 = .ok (.iaload, 1) := by decide +kernel
theorem dL_law_708 : decode cL_law 708 = .ok (.aload_n 0, 1) := by decide +kernel
theorem dL_law_709 : decode cL_law 709 = .ok (.iload_n 3, 1) := by decide +kernel
theorem dL_law_710 : decode cL_law 710 = .ok (.iconst 2, 1) := by decide +kernel
theorem dL_law_711 : decode cL_law 711 = .ok (.iadd, 1) := by decide +kernel
theorem dL_law_712 : decode cL_law 712 = .ok (.iaload, 1) := by decide +kernel
theorem dL_law_713 : decode cL_law 713 = .ok (.invokevirtual 100, 3) := by decide +kernel
theorem dL_law_716 : decode cL_law 716 = .ok (.aload_n 2, 1) := by decide +kernel
theorem dL_law_717 : decode cL_law 717 = .ok (.aload_n 0, 1) := by decide +kernel
theorem dL_law_718 : decode cL_law 718 = .ok (.iload_n 3, 1) := by decide +kernel
theorem dL_law_719 : decode cL_law 719 = .ok (.iconst 1, 1) := by decide +kernel
theorem dL_law_720 : decode cL_law 720 = .ok (.iadd, 1) := by decide +kernel
theorem dL_law_721 : decode cL_law 721 = .ok (.iaload, 1) := by decide +kernel
theorem dL_law_722 : decode cL_law 722 = .ok (.aload_n 0, 1) := by decide +kernel
theorem dL_law_723 : decode cL_law 723 = .ok (.iload_n 3, 1) := by decide +kernel
theorem dL_law_724 : decode cL_law 724 = .ok (.iconst 2, 1) := by decide +kernel
theorem dL_law_725 : decode cL_law 725 = .ok (.iadd, 1) := by decide +kernel
theorem dL_law_726 : decode cL_law 726 = .ok (.iaload, 1) := by decide +kernel
theorem dL_law_727 : decode cL_law 727 = .ok (.invokevirtual 103, 3) := by decide +kernel
theorem dL_law_730 : decode cL_law 730 = .ok (.if_icmp .eq 302, 3) := by decide +kernel
theorem dL_law_733 : decode cL_law 733 = .ok (.iconst 0, 1) := by decide +kernel
theorem dL_law_734 : decode cL_law 734 = .ok (.ireturn, 1) := by decide +kernel
theorem dL_law_735 : decode cL_law 735 = .ok (.aload_n 1, 1) := by decide +kernel
theorem dL_law_736 : decode cL_law 736 = .ok (.aload_n 0, 1) := by decide +kernel
theorem dL_law_737 : decode cL_law 737 = .ok (.iload_n 3, 1) := by decide +kernel
theorem dL_law_738 : decode cL_law 738 = .ok (.iconst 1, 1) := by decide +kernel
theorem dL_law_739 : decode cL_law 739 = .ok (.iadd, 1) := by decide +kernel
theorem dL_law_740 : decode cL_law 740 = .ok (.iaload, 1) := by decide +kernel
theorem dL_law_741 : decode cL_law 741 = .ok (.aload_n 0, 1) := by decide +kernel
theorem dL_law_742 : decode cL_law 742 = .ok (.iload_n 3, 1) := by decide +kernel
theorem dL_law_743 : decode cL_law 743 = .ok (.iconst 2, 1) := by decide +kernel
theorem dL_law_744 : decode cL_law 744 = .ok (.iadd, 1) := by decide +kernel
theorem dL_law_745 : decode cL_law 745 = .ok (.iaload, 1) := by decide +kernel
theorem dL_law_746 : decode cL_law 746 = .ok (.aload_n 0, 1) := by decide +kernel
theorem dL_law_747 : decode cL_law 747 = .ok (.iload_n 3, 1) := by decide +kernel
theorem dL_law_748 : decode cL_law 748 = .ok (.iconst 3, 1) := by decide +kernel
theorem dL_law_749 : decode cL_law 749 = .ok (.iadd, 1) := by decide +kernel
theorem dL_law_750 : decode cL_law 750 = .ok (.iaload, 1) := by decide +kernel
theorem dL_law_751 : decode cL_law 751 = .ok (.invokevirtual 104, 3) := by decide +kernel
theorem dL_law_754 : decode cL_law 754 = .ok (.aload_n 2, 1) := by decide +kernel
theorem dL_law_755 : decode cL_law 755 = .ok (.aload_n 0, 1) := by decide +kernel
theorem dL_law_756 : decode cL_law 756 = .ok (.iload_n 3, 1) := by decide +kernel
theorem dL_law_757 : decode cL_law 757 = .ok (.iconst 1, 1) := by decide +kernel
theorem dL_law_758 : decode cL_law 758 = .ok (.iadd, 1) := by decide +kernel
theorem dL_law_759 : decode cL_law 759 = .ok (.iaload, 1) := by decide +kernel
theorem dL_law_760 : decode cL_law 760 = .ok (.aload_n 0, 1) := by decide +kernel
theorem dL_law_761 : decode cL_law 761 = .ok (.iload_n 3, 1) := by decide +kernel
theorem dL_law_762 : decode cL_law 762 = .ok (.iconst 2, 1) := by decide +kernel
theorem dL_law_763 : decode cL_law 763 = .ok (.iadd, 1) := by decide +kernel
theorem dL_law_764 : decode cL_law 764 = .ok (.iaload, 1) := by decide +kernel
theorem dL_law_765 : decode cL_law 765 = .ok (.aload_n 0, 1) := by decide +kernel
theorem dL_law_766 : decode cL_law 766 = .ok (.iload_n 3, 1) := by decide +kernel
theorem dL_law_767 : decode cL_law 767 = .ok (.iconst 3, 1) := by decide +kernel
theorem dL_law_768 : decode cL_law 768 = .ok (.iadd, 1) := by decide +kernel
theorem dL_law_769 : decode cL_law 769 = .ok (.iaload, 1) := by decide +kernel
theorem dL_law_770 : decode cL_law 770 = .ok (.invokevirtual 107, 3) := by decide +kernel
theorem dL_law_773 : decode cL_law 773 = .ok (.if_icmp .eq 259, 3) := by decide +kernel
theorem dL_law_776 : decode cL_law 776 = .ok (.iconst 0, 1) := by decide +kernel
theorem dL_law_777 : decode cL_law 777 = .ok (.ireturn, 1) := by decide +kernel
theorem dL_law_778 : decode cL_law 778 = .ok (.aload_n 1, 1) := by decide +kernel
theorem dL_law_779 : decode cL_law 779 = .ok (.aload_n 0, 1) := by decide +kernel
theorem dL_law_780 : decode cL_law 780 = .ok (.iload_n 3, 1) := by decide +kernel
theorem dL_law_781 : decode cL_law 781 = .ok (.iconst 1, 1) := by decide +kernel
theorem dL_law_782 : decode cL_law 782 = .ok (.iadd, 1) := by decide +kernel
theorem dL_law_783 : decode cL_law 783 = .ok (.iaload, 1) := by decide +kernel
theorem dL_law_784 : decode cL_law 784 = .ok (.aload_n 0, 1) := by decide +kernel
theorem dL_law_785 : decode cL_law 785 = .ok (.iload_n 3, 1) := by decide +kernel
theorem dL_law_786 : decode cL_law 786 = .ok (.iconst 2, 1) := by decide +kernel
theorem dL_law_787 : decode cL_law 787 = .ok (.iadd, 1) := by decide +kernel
theorem dL_law_788 : decode cL_law 788 = .ok (.iaload, 1) := by decide +kernel
theorem dL_law_789 : decode cL_law 789 = .ok (.invokevirtual 108, 3) := by decide +kernel
theorem dL_law_792 : decode cL_law 792 = .ok (.aload_n 2, 1) := by decide +kernel
theorem dL_law_793 : decode cL_law 793 = .ok (.aload_n 0, 1) := by decide +kernel
theorem dL_law_794 : decode cL_law 794 = .ok (.iload_n 3, 1) := by decide +kernel
theorem dL_law_795 : decode cL_law 795 = .ok (.iconst 1, 1) := by decide +kernel
theorem dL_law_796 : decode cL_law 796 = .ok (.iadd, 1) := by decide +kernel
theorem dL_law_797 : decode cL_law 797 = .ok (.iaload, 1) := by decide +kernel
theorem dL_law_798 : decode cL_law 798 = .ok (.aload_n 0, 1) := by decide +kernel
theorem dL_law_799 : decode cL_law 799 = .ok (.iload_n 3, 1) := by decide +kernel
theorem dL_law_800 : decode cL_law 800 = .ok (.iconst 2, 1) := by decide +kernel
theorem dL_law_801 : decode cL_law 801 = .ok (.iadd, 1) := by decide +kernel
theorem dL_law_802 : decode cL_law 802 = .ok (.iaload, 1) := by decide +kernel
theorem dL_law_803 : decode cL_law 803 = .ok (.invokevirtual 111, 3) := by decide +kernel
theorem dL_law_806 : decode cL_law 806 = .ok (.if_icmp .eq 226, 3) := by decide +kernel
theorem dL_law_809 : decode cL_law 809 = .ok (.iconst 0, 1) := by decide +kernel
theorem dL_law_810 : decode cL_law 810 = .ok (.ireturn, 1) := by decide +kernel
theorem dL_law_811 : decode cL_law 811 = .ok (.aload_n 1, 1) := by decide +kernel
theorem dL_law_812 : decode cL_law 812 = .ok (.aload_n 0, 1) := by decide +kernel
theorem dL_law_813 : decode cL_law 813 = .ok (.iload_n 3, 1) := by decide +kernel
theorem dL_law_814 : decode cL_law 814 = .ok (.iconst 1, 1) := by decide +kernel
theorem dL_law_815 : decode cL_law 815 = .ok (.iadd, 1) := by decide +kernel
theorem dL_law_816 : decode cL_law 816 = .ok (.iaload, 1) := by decide +kernel
theorem dL_law_817 : decode cL_law 817 = .ok (.invokevirtual 112, 3) := by decide +kernel
theorem dL_law_820 : decode cL_law 820 = .ok (.aload_n 2, 1) := by decide +kernel
theorem dL_law_821 : decode cL_law 821 = .ok (.aload_n 0, 1) := by decide +kernel
theorem dL_law_822 : decode cL_law 822 = .ok (.iload_n 3, 1) := by decide +kernel
theorem dL_law_823 : decode cL_law 823 = .ok (.iconst 1, 1) := by decide +kernel
theorem dL_law_824 : decode cL_law 824 = .ok (.iadd, 1) := by decide +kernel
theorem dL_law_825 : decode cL_law 825 = .ok (.iaload, 1) := by decide +kernel
theorem dL_law_826 : decode cL_law 826 = .ok (.invokevirtual 115, 3) := by decide +kernel
theorem dL_law_829 : decode cL_law 829 = .ok (.if_icmp .eq 203, 3) := by decide +kernel
theorem dL_law_832 : decode cL_law 832 = .ok (.iconst 0, 1) := by decide +kernel
theorem dL_law_833 : decode cL_law 833 = .ok (.ireturn, 1) := by decide +kernel
theorem dL_law_834 : decode cL_law 834 = .ok (.aload_n 1, 1) := by decide +kernel
theorem dL_law_835 : decode cL_law 835 = .ok (.aload_n 0, 1) := by decide +kernel
theorem dL_law_836 : decode cL_law 836 = .ok (.iload_n 3, 1) := by decide +kernel
theorem dL_law_837 : decode cL_law 837 = .ok (.iconst 1, 1) := by decide +kernel
theorem dL_law_838 : decode cL_law 838 = .ok (.iadd, 1) := by decide +kernel
theorem dL_law_839 : decode cL_law 839 = .ok (.iaload, 1) := by decide +kernel
theorem dL_law_840 : decode cL_law 840 = .ok (.aload_n 0, 1) := by decide +kernel
theorem dL_law_841 : decode cL_law 841 = .ok (.iload_n 3, 1) := by decide +kernel
theorem dL_law_842 : decode cL_law 842 = .ok (.iconst 2, 1) := by decide +kernel
theorem dL_law_843 : decode cL_law 843 = .ok (.iadd, 1) := by decide +kernel
theorem dL_law_844 : decode cL_law 844 = .ok (.iaload, 1) := by decide +kernel
theorem dL_law_845 : decode cL_law 845 = .ok (.invokevirtual 116, 3) := by decide +kernel
theorem dL_law_848 : decode cL_law 848 = .ok (.aload_n 2, 1) := by decide +kernel
theorem dL_law_849 : decode cL_law 849 = .ok (.aload_n 0, 1) := by decide +kernel
theorem dL_law_850 : decode cL_law 850 = .ok (.iload_n 3, 1) := by decide +kernel
theorem dL_law_851 : decode cL_law 851 = .ok (.iconst 1, 1) := by decide +kernel
theorem dL_law_852 : decode cL_law 852 = .ok (.iadd, 1) := by decide +kernel
theorem dL_law_853 : decode cL_law 853 = .ok (.iaload, 1) := by decide +kernel
theorem dL_law_854 : decode cL_law 854 = .ok (.aload_n 0, 1) := by decide +kernel
theorem dL_law_855 : decode cL_law 855 = .ok (.iload_n 3, 1) := by decide +kernel
theorem dL_law_856 : decode cL_law 856 = .ok (.iconst 2, 1) := by decide +kernel
theorem dL_law_857 : decode cL_law 857 = .ok (.iadd, 1) := by decide +kernel
theorem dL_law_858 : decode cL_law 858 = .ok (.iaload, 1) := by decide +kernel
theorem dL_law_859 : decode cL_law 859 = .ok (.invokevirtual 119, 3) := by decide +kernel
theorem dL_law_862 : decode cL_law 862 = .ok (.if_icmp .eq 170, 3) := by decide +kernel
theorem dL_law_865 : decode cL_law 865 = .ok (.iconst 0, 1) := by decide +kernel
theorem dL_law_866 : decode cL_law 866 = .ok (.ireturn, 1) := by decide +kernel
theorem dL_law_867 : decode cL_law 867 = .ok (.aload_n 1, 1) := by decide +kernel
theorem dL_law_868 : decode cL_law 868 = .ok (.aload_n 0, 1) := by decide +kernel
theorem dL_law_869 : decode cL_law 869 = .ok (.iload_n 3, 1) := by decide +kernel
theorem dL_law_870 : decode cL_law 870 = .ok (.iconst 1, 1) := by decide +kernel
theorem dL_law_871 : decode cL_law 871 = .ok (.iadd, 1) := by decide +kernel
theorem dL_law_872 : decode cL_law 872 = .ok (.iaload, 1) := by decide +kernel
theorem dL_law_873 : decode cL_law 873 = .ok (.aload_n 0, 1) := by decide +kernel
theorem dL_law_874 : decode cL_law 874 = .ok (.iload_n 3, 1) := by decide +kernel
theorem dL_law_875 : decode cL_law 875 = .ok (.iconst 2, 1) := by decide +kernel
theorem dL_law_876 : decode cL_law 876 = .ok (.iadd, 1) := by decide +kernel
theorem dL_law_877 : decode cL_law 877 = .ok (.iaload, 1) := by decide +kernel
theorem dL_law_878 : decode cL_law 878 = .ok (.invokevirtual 120, 3) := by decide +kernel
theorem dL_law_881 : decode cL_law 881 = .ok (.aload_n 2, 1) := by decide +kernel
theorem dL_law_882 : decode cL_law 882 = .ok (.aload_n 0, 1) := by decide +kernel
theorem dL_law_883 : decode cL_law 883 = .ok (.iload_n 3, 1) := by decide +kernel
theorem dL_law_884 : decode cL_law 884 = .ok (.iconst 1, 1) := by decide +kernel
theorem dL_law_885 : decode cL_law 885 = .ok (.iadd, 1) := by decide +kernel
theorem dL_law_886 : decode cL_law 886 = .ok (.iaload, 1) := by decide +kernel
theorem dL_law_887 : decode cL_law 887 = .ok (.aload_n 0, 1) := by decide +kernel
theorem dL_law_888 : decode cL_law 888 = .ok (.iload_n 3, 1) := by decide +kernel
theorem dL_law_889 : decode cL_law 889 = .ok (.iconst 2, 1) := by decide +kernel
theorem dL_law_890 : decode cL_law 890 = .ok (.iadd, 1) := by decide +kernel
theorem dL_law_891 : decode cL_law 891 = .ok (.iaload, 1) := by decide +kernel
theorem dL_law_892 : decode cL_law 892 = .ok (.invokevirtual 123, 3) := by decide +kernel
theorem dL_law_895 : decode cL_law 895 = .ok (.if_icmp .eq 137, 3) := by decide +kernel
theorem dL_law_898 : decode cL_law 898 = .ok (.iconst 0, 1) := by decide +kernel
theorem dL_law_899 : decode cL_law 899 = .ok (.ireturn, 1) := by decide +kernel
theorem dL_law_900 : decode cL_law 900 = .ok (.aload_n 1, 1) := by decide +kernel
theorem dL_law_901 : decode cL_law 901 = .ok (.aload_n 0, 1) := by decide +kernel
theorem dL_law_902 : decode cL_law 902 = .ok (.iload_n 3, 1) := by decide +kernel
theorem dL_law_903 : decode cL_law 903 = .ok (.iconst 1, 1) := by decide +kernel
theorem dL_law_904 : decode cL_law 904 = .ok (.iadd, 1) := by decide +kernel
theorem dL_law_905 : decode cL_law 905 = .ok (.iaload, 1) := by decide +kernel
theorem dL_law_906 : decode cL_law 906 = .ok (.aload_n 0, 1) := by decide +kernel
theorem dL_law_907 : decode cL_law 907 = .ok (.iload_n 3, 1) := by decide +kernel
theorem dL_law_908 : decode cL_law 908 = .ok (.iconst 2, 1) := by decide +kernel
theorem dL_law_909 : decode cL_law 909 = .ok (.iadd, 1) := by decide +kernel
theorem dL_law_910 : decode cL_law 910 = .ok (.iaload, 1) := by decide +kernel
theorem dL_law_911 : decode cL_law 911 = .ok (.aload_n 0, 1) := by decide +kernel
theorem dL_law_912 : decode cL_law 912 = .ok (.iload_n 3, 1) := by decide +kernel
theorem dL_law_913 : decode cL_law 913 = .ok (.iconst 3, 1) := by decide +kernel
theorem dL_law_914 : decode cL_law 914 = .ok (.iadd, 1) := by decide +kernel
theorem dL_law_915 : decode cL_law 915 = .ok (.iaload, 1) := by decide +kernel
theorem dL_law_916 : decode cL_law 916 = .ok (.invokevirtual 124, 3) := by decide +kernel
theorem dL_law_919 : decode cL_law 919 = .ok (.aload_n 2, 1) := by decide +kernel
theorem dL_law_920 : decode cL_law 920 = .ok (.aload_n 0, 1) := by decide +kernel
theorem dL_law_921 : decode cL_law 921 = .ok (.iload_n 3, 1) := by decide +kernel
theorem dL_law_922 : decode cL_law 922 = .ok (.iconst 1, 1) := by decide +kernel
theorem dL_law_923 : decode cL_law 923 = .ok (.iadd, 1) := by decide +kernel
theorem dL_law_924 : decode cL_law 924 = .ok (.iaload, 1) := by decide +kernel
theorem dL_law_925 : decode cL_law 925 = .ok (.aload_n 0, 1) := by decide +kernel
theorem dL_law_926 : decode cL_law 926 = .ok (.iload_n 3, 1) := by decide +kernel
theorem dL_law_927 : decode cL_law 927 = .ok (.iconst 2, 1) := by decide +kernel
theorem dL_law_928 : decode cL_law 928 = .ok (.iadd, 1) := by decide +kernel
theorem dL_law_929 : decode cL_law 929 = .ok (.iaload, 1) := by decide +kernel
theorem dL_law_930 : decode cL_law 930 = .ok (.aload_n 0, 1) := by decide +kernel
theorem dL_law_931 : decode cL_law 931 = .ok (.iload_n 3, 1) := by decide +kernel
theorem dL_law_932 : decode cL_law 932 = .ok (.iconst 3, 1) := by decide +kernel
theorem dL_law_933 : decode cL_law 933 = .ok (.iadd, 1) := by decide +kernel
theorem dL_law_934 : decode cL_law 934 = .ok (.iaload, 1) := by decide +kernel
theorem dL_law_935 : decode cL_law 935 = .ok (.invokevirtual 127, 3) := by decide +kernel
theorem dL_law_938 : decode cL_law 938 = .ok (.if_icmp .eq 94, 3) := by decide +kernel
theorem dL_law_941 : decode cL_law 941 = .ok (.iconst 0, 1) := by decide +kernel
theorem dL_law_942 : decode cL_law 942 = .ok (.ireturn, 1) := by decide +kernel
theorem dL_law_943 : decode cL_law 943 = .ok (.aload_n 1, 1) := by decide +kernel
theorem dL_law_944 : decode cL_law 944 = .ok (.aload_n 0, 1) := by decide +kernel
theorem dL_law_945 : decode cL_law 945 = .ok (.iload_n 3, 1) := by decide +kernel
theorem dL_law_946 : decode cL_law 946 = .ok (.iconst 1, 1) := by decide +kernel
theorem dL_law_947 : decode cL_law 947 = .ok (.iadd, 1) := by decide +kernel
theorem dL_law_948 : decode cL_law 948 = .ok (.iaload, 1) := by decide +kernel
theorem dL_law_949 : decode cL_law 949 = .ok (.aload_n 0, 1) := by decide +kernel
theorem dL_law_950 : decode cL_law 950 = .ok (.iload_n 3, 1) := by decide +kernel
theorem dL_law_951 : decode cL_law 951 = .ok (.iconst 2, 1) := by decide +kernel
theorem dL_law_952 : decode cL_law 952 = .ok (.iadd, 1) := by decide +kernel
theorem dL_law_953 : decode cL_law 953 = .ok (.iaload, 1) := by decide +kernel
theorem dL_law_954 : decode cL_law 954 = .ok (.aload_n 0, 1) := by decide +kernel
theorem dL_law_955 : decode cL_law 955 = .ok (.iload_n 3, 1) := by decide +kernel
theorem dL_law_956 : decode cL_law 956 = .ok (.iconst 3, 1) := by decide +kernel
theorem dL_law_957 : decode cL_law 957 = .ok (.iadd, 1) := by decide +kernel
theorem dL_law_958 : decode cL_law 958 = .ok (.iaload, 1) := by decide +kernel
theorem dL_law_959 : decode cL_law 959 = .ok (.invokevirtual 128, 3) := by decide +kernel
theorem dL_law_962 : decode cL_law 962 = .ok (.aload_n 2, 1) := by decide +kernel
theorem dL_law_963 : decode cL_law 963 = .ok (.aload_n 0, 1) := by decide +kernel
theorem dL_law_964 : decode cL_law 964 = .ok (.iload_n 3, 1) := by decide +kernel
theorem dL_law_965 : decode cL_law 965 = .ok (.iconst 1, 1) := by decide +kernel
theorem dL_law_966 : decode cL_law 966 = .ok (.iadd, 1) := by decide +kernel
theorem dL_law_967 : decode cL_law 967 = .ok (.iaload, 1) := by decide +kernel
theorem dL_law_968 : decode cL_law 968 = .ok (.aload_n 0, 1) := by decide +kernel
theorem dL_law_969 : decode cL_law 969 = .ok (.iload_n 3, 1) := by decide +kernel
theorem dL_law_970 : decode cL_law 970 = .ok (.iconst 2, 1) := by decide +kernel
theorem dL_law_971 : decode cL_law 971 = .ok (.iadd, 1) := by decide +kernel
theorem dL_law_972 : decode cL_law 972 = .ok (.iaload, 1) := by decide +kernel
theorem dL_law_973 : decode cL_law 973 = .ok (.aload_n 0, 1) := by decide +kernel
theorem dL_law_974 : decode cL_law 974 = .ok (.iload_n 3, 1) := by decide +kernel
theorem dL_law_975 : decode cL_law 975 = .ok (.iconst 3, 1) := by decide +kernel
theorem dL_law_976 : decode cL_law 976 = .ok (.iadd, 1) := by decide +kernel
theorem dL_law_977 : decode cL_law 977 = .ok (.iaload, 1) := by decide +kernel
theorem dL_law_978 : decode cL_law 978 = .ok (.invokevirtual 131, 3) := by decide +kernel
theorem dL_law_981 : decode cL_law 981 = .ok (.if_icmp .eq 51, 3) := by decide +kernel
theorem dL_law_984 : decode cL_law 984 = .ok (.iconst 0, 1) := by decide +kernel
theorem dL_law_985 : decode cL_law 985 = .ok (.ireturn, 1) := by decide +kernel
theorem dL_law_986 : decode cL_law 986 = .ok (.aload_n 1, 1) := by decide +kernel
theorem dL_law_987 : decode cL_law 987 = .ok (.aload_n 0, 1) := by decide +kernel
theorem dL_law_988 : decode cL_law 988 = .ok (.iload_n 3, 1) := by decide +kernel
theorem dL_law_989 : decode cL_law 989 = .ok (.iconst 1, 1) := by decide +kernel
theorem dL_law_990 : decode cL_law 990 = .ok (.iadd, 1) := by decide +kernel
theorem dL_law_991 : decode cL_law 991 = .ok (.iaload, 1) := by decide +kernel
theorem dL_law_992 : decode cL_law 992 = .ok (.invokevirtual 132, 3) := by decide +kernel
theorem dL_law_995 : decode cL_law 995 = .ok (.aload_n 2, 1) := by decide +kernel
theorem dL_law_996 : decode cL_law 996 = .ok (.aload_n 0, 1) := by decide +kernel
theorem dL_law_997 : decode cL_law 997 = .ok (.iload_n 3, 1) := by decide +kernel
theorem dL_law_998 : decode cL_law 998 = .ok (.iconst 1, 1) := by decide +kernel
theorem dL_law_999 : decode cL_law 999 = .ok (.iadd, 1) := by decide +kernel
theorem dL_law_1000 : decode cL_law 1000 = .ok (.iaload, 1) := by decide +kernel
theorem dL_law_1001 : decode cL_law 1001 = .ok (.invokevirtual 135, 3) := by decide +kernel
theorem dL_law_1004 : decode cL_law 1004 = .ok (.if_icmp .eq 28, 3) := by decide +kernel
theorem dL_law_1007 : decode cL_law 1007 = .ok (.iconst 0, 1) := by decide +kernel
theorem dL_law_1008 : decode cL_law 1008 = .ok (.ireturn, 1) := by decide +kernel
theorem dL_law_1009 : decode cL_law 1009 = .ok (.aload_n 1, 1) := by decide +kernel
theorem dL_law_1010 : decode cL_law 1010 = .ok (.aload_n 0, 1) := by decide +kernel
theorem dL_law_1011 : decode cL_law 1011 = .ok (.iload_n 3, 1) := by decide +kernel
theorem dL_law_1012 : decode cL_law 1012 = .ok (.iconst 1, 1) := by decide +kernel
theorem dL_law_1013 : decode cL_law 1013 = .ok (.iadd, 1) := by decide +kernel
theorem dL_law_1014 : decode cL_law 1014 = .ok (.iaload, 1) := by decide +kernel
theorem dL_law_1015 : decode cL_law 1015 = .ok (.invokevirtual 136, 3) := by decide +kernel
theorem dL_law_1018 : decode cL_law 1018 = .ok (.aload_n 2, 1) := by decide +kernel
theorem dL_law_1019 : decode cL_law 1019 = .ok (.aload_n 0, 1) := by decide +kernel
theorem dL_law_1020 : decode cL_law 1020 = .ok (.iload_n 3, 1) := by decide +kernel
theorem dL_law_1021 : decode cL_law 1021 = .ok (.iconst 1, 1) := by decide +kernel
theorem dL_law_1022 : decode cL_law 1022 = .ok (.iadd, 1) := by decide +kernel
theorem dL_law_1023 : decode cL_law 1023 = .ok (.iaload, 1) := by decide +kernel
theorem dL_law_1024 : decode cL_law 1024 = .ok (.invokevirtual 139, 3) := by decide +kernel
theorem dL_law_1027 : decode cL_law 1027 = .ok (.if_icmp .eq 5, 3) := by decide +kernel
theorem dL_law_1030 : decode cL_law 1030 = .ok (.iconst 0, 1) := by decide +kernel
theorem dL_law_1031 : decode cL_law 1031 = .ok (.ireturn, 1) := by decide +kernel
theorem dL_law_1032 : decode cL_law 1032 = .ok (.iinc 3 4, 3) := by decide +kernel
theorem dL_law_1035 : decode cL_law 1035 = .ok (.goto (-1017), 3) := by decide +kernel
theorem dL_law_1038 : decode cL_law 1038 = .ok (.iconst 1, 1) := by decide +kernel
theorem dL_law_1039 : decode cL_law 1039 = .ok (.ireturn, 1) := by decide +kernel
set_option maxRecDepth 100000 in
set_option maxHeartbeats 4000000 in
theorem law_static {p : Program} {l : Launch} {e : Env} {s : State} {m : MethodId} {args : Array Value} {below : List Frame} {meth : Method} {c : Code} {D : va_G} {cas : Nat → ClassId} {ad : Nat → Nat} {A : Nat → Prop} {Q : State → Prop} {b L : Nat} {xs : Nat → Int} (hi : zInj ad) (X : zX p s m args c code "ShardTrailsLaw" 4 D cas ad A) (hX : va_X b L (fun j => zI (xs j)) s s.heap) (hbl : b < s.heap.size) (hbA : ¬ A b) (hL : L ≤ 2147483647) (hret : ∀ (pc : Nat) (lv : List (Nat × Value)) (M : Mem), decode code pc = .ok (.ireturn, 1) → WW p l e room_1 s m args below meth c D cas ad A 4 600000 7302250 Q pc lv [.int (zI 1)] M) {M M' : Mem} (hf : f_L_law xs L M = some (1, M')) : WW p l e room_1 s m args below meth c D cas ad A 4 600000 7302250 Q 16 [(0, .ref b), (1, .ref (ad 0)), (2, .ref (ad 215))] [] M := by
  have hB1032 : ∀ (g18 : Int → Mem → Option (Int × Mem)) (hg18 : ∀ (v3 : Int) (M : Mem), g18 v3 M = some (1, M') → WW p l e room_1 s m args below meth c D cas ad A 4 600000 7302250 Q 18 [(0, .ref b), (1, .ref (ad 0)), (2, .ref (ad 215)), (3, .int (zI v3))] [] M) (v3 : Int) (M : Mem), f_L_law_b1032 g18 xs L v3 M = some (1, M') → WW p l e room_1 s m args below meth c D cas ad A 4 600000 7302250 Q 1032 [(0, .ref b), (1, .ref (ad 0)), (2, .ref (ad 215)), (3, .int (zI v3))] [] M := by
    intro g18 hg18 v3 M hf
    unfold f_L_law_b1032 at hf
    refine R_iinc X (lv' := [(3, .int (zI (v3 + 4))), (0, .ref b), (1, .ref (ad 0)), (2, .ref (ad 215))]) 3 dL_law_1032 rfl (by decide) rfl ?_
    refine R_goto X 18 dL_law_1035 (by decide) ?_
    exact R_sub [1, 2, 3, 0] rfl (hg18 (v3 + 4) M hf)
  have hB219 : ∀ (g18 : Int → Mem → Option (Int × Mem)) (hg18 : ∀ (v3 : Int) (M : Mem), g18 v3 M = some (1, M') → WW p l e room_1 s m args below meth c D cas ad A 4 600000 7302250 Q 18 [(0, .ref b), (1, .ref (ad 0)), (2, .ref (ad 215)), (3, .int (zI v3))] [] M) (v3 t5 t4 t3 t1 : Int) (M : Mem), f_L_law_b219 g18 xs L v3 t5 t4 t3 t1 M = some (1, M') → WW p l e room_1 s m args below meth c D cas ad A 4 600000 7302250 Q 219 [(0, .ref b), (1, .ref (ad 0)), (2, .ref (ad 215)), (3, .int (zI v3))] [.int (zI t5), .int (zI t4), .int (zI t3), .ref (ad 215), .int (zI t1)] M := by
    intro g18 hg18 v3 t5 t4 t3 t1 M hf
    unfold f_L_law_b219 at hf
    obtain ⟨r324, M325, hc326, hf⟩ := zbnd_some hf
    refine R_callVi X (av := [.int (zI t3), .int (zI t4), .int (zI t5)]) (rest := [.int (zI t1)]) (c_X10_addPasture l D cas ad hi hc326) zy_X10_addPasture lc_215 rfl rfl wm_L_17 rfl rfl ⟨Nat.le_of_ble_eq_true rfl, Nat.le_of_ble_eq_true rfl⟩ ⟨Nat.le_refl _, Nat.le_refl _⟩ (Nat.le_of_ble_eq_true rfl) dL_law_219 ?_
    obtain ⟨hq327, hf⟩ := zgrd hf
    refine R_icmp_eqW X 1032 hq327 dL_law_222 (by decide) (fun c328 => ?_) (fun c328 => ?_)
    · have hf := zthen hf c328
      exact R_sub [0, 1, 2, 3] rfl (hB1032 g18 hg18 v3 M325 hf)
    · have hf := zelse hf c328
      refine R_iconst X dL_law_225 ?_
      exact absurd hf (by simp)
  have hB192 : ∀ (g18 : Int → Mem → Option (Int × Mem)) (hg18 : ∀ (v3 : Int) (M : Mem), g18 v3 M = some (1, M') → WW p l e room_1 s m args below meth c D cas ad A 4 600000 7302250 Q 18 [(0, .ref b), (1, .ref (ad 0)), (2, .ref (ad 215)), (3, .int (zI v3))] [] M) (v3 t4 t3 t2 : Int) (M : Mem), f_L_law_b192 g18 xs L v3 t4 t3 t2 M = some (1, M') → WW p l e room_1 s m args below meth c D cas ad A 4 600000 7302250 Q 192 [(0, .ref b), (1, .ref (ad 0)), (2, .ref (ad 215)), (3, .int (zI v3))] [.int (zI t4), .int (zI t3), .int (zI t2), .ref (ad 0)] M := by
    intro g18 hg18 v3 t4 t3 t2 M hf
    unfold f_L_law_b192 at hf
    obtain ⟨r309, M310, hc311, hf⟩ := zbnd_some hf
    refine R_callVi X (av := [.int (zI t2), .int (zI t3), .int (zI t4)]) (rest := []) (c_X9_addPasture l D cas ad hi hc311) zy_X9_addPasture lc_0 rfl rfl wm_L_13 rfl rfl ⟨Nat.le_of_ble_eq_true rfl, Nat.le_of_ble_eq_true rfl⟩ ⟨Nat.le_refl _, Nat.le_refl _⟩ (Nat.le_of_ble_eq_true rfl) dL_law_192 ?_
    refine R_aload_n X 2 dL_law_195 rfl rfl ?_
    refine R_aload_n X 0 dL_law_196 rfl rfl ?_
    refine R_iload_n X 3 dL_law_197 rfl rfl ?_
    refine R_iconst X dL_law_198 ?_
    refine R_iadd X dL_law_199 ?_
    obtain ⟨hq312, hf⟩ := zgrd hf
    refine R_sld X hX hbl hbA hq312 hL dL_law_200 ?_
    refine R_aload_n X 0 dL_law_201 rfl rfl ?_
    refine R_iload_n X 3 dL_law_202 rfl rfl ?_
    refine R_iconst X dL_law_203 ?_
    refine R_iadd X dL_law_204 ?_
    obtain ⟨hq313, hf⟩ := zgrd hf
    refine R_sld X hX hbl hbA hq313 hL dL_law_205 ?_
    refine R_aload_n X 0 dL_law_206 rfl rfl ?_
    refine R_iload_n X 3 dL_law_207 rfl rfl ?_
    refine R_iconst X dL_law_208 ?_
    refine R_iadd X dL_law_209 ?_
    obtain ⟨hq314, hf⟩ := zgrd hf
    refine R_sld X hX hbl hbA hq314 hL dL_law_210 ?_
    obtain ⟨hq315, hf⟩ := zgrd hf
    refine R_if_eq X 218 hq315 dL_law_211 (by decide) (fun c316 => ?_) (fun c316 => ?_)
    · have hf := zthen hf c316
      refine R_iconst X dL_law_218 ?_
      exact R_sub [0, 1, 2, 3] rfl (hB219 g18 hg18 v3 0 (xs (v3 + 2).toNat) (xs (v3 + 1).toNat) r309 M310 hf)
    · have hf := zelse hf c316
      refine R_iconst X dL_law_214 ?_
      refine R_goto X 219 dL_law_215 (by decide) ?_
      exact R_sub [0, 1, 2, 3] rfl (hB219 g18 hg18 v3 1 (xs (v3 + 2).toNat) (xs (v3 + 1).toNat) r309 M310 hf)
  have hB301 : ∀ (g18 : Int → Mem → Option (Int × Mem)) (hg18 : ∀ (v3 : Int) (M : Mem), g18 v3 M = some (1, M') → WW p l e room_1 s m args below meth c D cas ad A 4 600000 7302250 Q 18 [(0, .ref b), (1, .ref (ad 0)), (2, .ref (ad 215)), (3, .int (zI v3))] [] M) (v3 t4 t3 t1 : Int) (M : Mem), f_L_law_b301 g18 xs L v3 t4 t3 t1 M = some (1, M') → WW p l e room_1 s m args below meth c D cas ad A 4 600000 7302250 Q 301 [(0, .ref b), (1, .ref (ad 0)), (2, .ref (ad 215)), (3, .int (zI v3))] [.int (zI t4), .int (zI t3), .ref (ad 215), .int (zI t1)] M := by
    intro g18 hg18 v3 t4 t3 t1 M hf
    unfold f_L_law_b301 at hf
    obtain ⟨r329, M330, hc331, hf⟩ := zbnd_some hf
    refine R_callVi X (av := [.int (zI t3), .int (zI t4)]) (rest := [.int (zI t1)]) (c_X10_setInn l D cas ad hi hc331) zy_X10_setInn lc_215 rfl rfl wm_L_27 rfl rfl ⟨Nat.le_of_ble_eq_true rfl, Nat.le_of_ble_eq_true rfl⟩ ⟨Nat.le_refl _, Nat.le_refl _⟩ (Nat.le_of_ble_eq_true rfl) dL_law_301 ?_
    obtain ⟨hq332, hf⟩ := zgrd hf
    refine R_icmp_eqW X 1032 hq332 dL_law_304 (by decide) (fun c333 => ?_) (fun c333 => ?_)
    · have hf := zthen hf c333
      exact R_sub [0, 1, 2, 3] rfl (hB1032 g18 hg18 v3 M330 hf)
    · have hf := zelse hf c333
      refine R_iconst X dL_law_307 ?_
      exact absurd hf (by simp)
  have hB279 : ∀ (g18 : Int → Mem → Option (Int × Mem)) (hg18 : ∀ (v3 : Int) (M : Mem), g18 v3 M = some (1, M') → WW p l e room_1 s m args below meth c D cas ad A 4 600000 7302250 Q 18 [(0, .ref b), (1, .ref (ad 0)), (2, .ref (ad 215)), (3, .int (zI v3))] [] M) (v3 t3 t2 : Int) (M : Mem), f_L_law_b279 g18 xs L v3 t3 t2 M = some (1, M') → WW p l e room_1 s m args below meth c D cas ad A 4 600000 7302250 Q 279 [(0, .ref b), (1, .ref (ad 0)), (2, .ref (ad 215)), (3, .int (zI v3))] [.int (zI t3), .int (zI t2), .ref (ad 0)] M := by
    intro g18 hg18 v3 t3 t2 M hf
    unfold f_L_law_b279 at hf
    obtain ⟨r317, M318, hc319, hf⟩ := zbnd_some hf
    refine R_callVi X (av := [.int (zI t2), .int (zI t3)]) (rest := []) (c_X9_setInn l D cas ad hi hc319) zy_X9_setInn lc_0 rfl rfl wm_L_23 rfl rfl ⟨Nat.le_of_ble_eq_true rfl, Nat.le_of_ble_eq_true rfl⟩ ⟨Nat.le_refl _, Nat.le_refl _⟩ (Nat.le_of_ble_eq_true rfl) dL_law_279 ?_
    refine R_aload_n X 2 dL_law_282 rfl rfl ?_
    refine R_aload_n X 0 dL_law_283 rfl rfl ?_
    refine R_iload_n X 3 dL_law_284 rfl rfl ?_
    refine R_iconst X dL_law_285 ?_
    refine R_iadd X dL_law_286 ?_
    obtain ⟨hq320, hf⟩ := zgrd hf
    refine R_sld X hX hbl hbA hq320 hL dL_law_287 ?_
    refine R_aload_n X 0 dL_law_288 rfl rfl ?_
    refine R_iload_n X 3 dL_law_289 rfl rfl ?_
    refine R_iconst X dL_law_290 ?_
    refine R_iadd X dL_law_291 ?_
    obtain ⟨hq321, hf⟩ := zgrd hf
    refine R_sld X hX hbl hbA hq321 hL dL_law_292 ?_
    obtain ⟨hq322, hf⟩ := zgrd hf
    refine R_if_eq X 300 hq322 dL_law_293 (by decide) (fun c323 => ?_) (fun c323 => ?_)
    · have hf := zthen hf c323
      refine R_iconst X dL_law_300 ?_
      exact R_sub [0, 1, 2, 3] rfl (hB301 g18 hg18 v3 0 (xs (v3 + 1).toNat) r317 M318 hf)
    · have hf := zelse hf c323
      refine R_iconst X dL_law_296 ?_
      refine R_goto X 301 dL_law_297 (by decide) ?_
      exact R_sub [0, 1, 2, 3] rfl (hB301 g18 hg18 v3 1 (xs (v3 + 1).toNat) r317 M318 hf)
  have hB18 : ∀ (n : Nat) (v3 : Int) (M : Mem), f_L_law_b18 xs L n v3 M = some (1, M') → WW p l e room_1 s m args below meth c D cas ad A 4 600000 7302250 Q 18 [(0, .ref b), (1, .ref (ad 0)), (2, .ref (ad 215)), (3, .int (zI v3))] [] M := by
    intro n
    induction n with
    | zero => intro v3 M hf; exact absurd hf (by unfold f_L_law_b18; simp)
    | succ n ih =>
      intro v3 M hf
      unfold f_L_law_b18 at hf
      refine R_iload_n X 3 dL_law_18 rfl rfl ?_
      refine R_aload_n X 0 dL_law_19 rfl rfl ?_
      refine R_slen X hX hbl hbA dL_law_20 ?_
      refine R_iconst X dL_law_21 ?_
      refine R_isub X dL_law_22 ?_
      obtain ⟨hq1, hf⟩ := zgrd hf
      obtain ⟨hq2, hf⟩ := zgrd hf
      refine R_icmp_gt X 1038 ⟨hq1, hq2⟩ dL_law_23 (by decide) (fun c308 => ?_) (fun c308 => ?_)
      · have hf := zthen hf c308
        refine R_iconst X dL_law_1038 ?_
        exact hret _ _ _ dL_law_1039
      · have hf := zelse hf c308
        refine R_aload_n X 0 dL_law_26 rfl rfl ?_
        refine R_iload_n X 3 dL_law_27 rfl rfl ?_
        obtain ⟨hq3, hf⟩ := zgrd hf
        refine R_sld X hX hbl hbA hq3 hL dL_law_28 ?_
        refine R_bipush X dL_law_29 (by decide +kernel) ?_
        refine R_iand X dL_law_31 ?_
        obtain ⟨hq4, hf⟩ := zgrd hf
        by_cases c10 : (iand (xs v3.toNat) 31) = 0
        · have hf := zthen hf c10
          refine R_tableIn X (o := 136) 168 c10 dL_law_32 (by decide) (by decide) (by decide) (by decide +kernel) (by decide) ?_
          refine R_aload_n X 1 dL_law_168 rfl rfl ?_
          refine R_aload_n X 0 dL_law_169 rfl rfl ?_
          refine R_iload_n X 3 dL_law_170 rfl rfl ?_
          refine R_iconst X dL_law_171 ?_
          refine R_iadd X dL_law_172 ?_
          obtain ⟨hq5, hf⟩ := zgrd hf
          refine R_sld X hX hbl hbA hq5 hL dL_law_173 ?_
          refine R_aload_n X 0 dL_law_174 rfl rfl ?_
          refine R_iload_n X 3 dL_law_175 rfl rfl ?_
          refine R_iconst X dL_law_176 ?_
          refine R_iadd X dL_law_177 ?_
          obtain ⟨hq6, hf⟩ := zgrd hf
          refine R_sld X hX hbl hbA hq6 hL dL_law_178 ?_
          refine R_aload_n X 0 dL_law_179 rfl rfl ?_
          refine R_iload_n X 3 dL_law_180 rfl rfl ?_
          refine R_iconst X dL_law_181 ?_
          refine R_iadd X dL_law_182 ?_
          obtain ⟨hq7, hf⟩ := zgrd hf
          refine R_sld X hX hbl hbA hq7 hL dL_law_183 ?_
          obtain ⟨hq8, hf⟩ := zgrd hf
          refine R_if_eq X 191 hq8 dL_law_184 (by decide) (fun c9 => ?_) (fun c9 => ?_)
          · have hf := zthen hf c9
            refine R_iconst X dL_law_191 ?_
            exact R_sub [0, 1, 2, 3] rfl (hB192 (f_L_law_b18 xs L n) ih v3 0 (xs (v3 + 2).toNat) (xs (v3 + 1).toNat) M hf)
          · have hf := zelse hf c9
            refine R_iconst X dL_law_187 ?_
            refine R_goto X 192 dL_law_188 (by decide) ?_
            exact R_sub [0, 1, 2, 3] rfl (hB192 (f_L_law_b18 xs L n) ih v3 1 (xs (v3 + 2).toNat) (xs (v3 + 1).toNat) M hf)
        have hf := zelse hf c10
        by_cases c21 : (iand (xs v3.toNat) 31) = 1
        · have hf := zthen hf c21
          refine R_tableIn X (o := 195) 227 c21 dL_law_32 (by decide) (by decide) (by decide) (by decide +kernel) (by decide) ?_
          refine R_aload_n X 1 dL_law_227 rfl rfl ?_
          refine R_aload_n X 0 dL_law_228 rfl rfl ?_
          refine R_iload_n X 3 dL_law_229 rfl rfl ?_
          refine R_iconst X dL_law_230 ?_
          refine R_iadd X dL_law_231 ?_
          obtain ⟨hq11, hf⟩ := zgrd hf
          refine R_sld X hX hbl hbA hq11 hL dL_law_232 ?_
          refine R_aload_n X 0 dL_law_233 rfl rfl ?_
          refine R_iload_n X 3 dL_law_234 rfl rfl ?_
          refine R_iconst X dL_law_235 ?_
          refine R_iadd X dL_law_236 ?_
          obtain ⟨hq12, hf⟩ := zgrd hf
          refine R_sld X hX hbl hbA hq12 hL dL_law_237 ?_
          obtain ⟨r13, M14, hc15, hf⟩ := zbnd_some hf
          refine R_callVi X (av := [.int (zI (xs (v3 + 1).toNat)), .int (zI (xs (v3 + 2).toNat))]) (rest := []) (c_X9_setRoom l D cas ad hi hc15) zy_X9_setRoom lc_0 rfl rfl wm_L_18 rfl rfl ⟨Nat.le_of_ble_eq_true rfl, Nat.le_of_ble_eq_true rfl⟩ ⟨Nat.le_refl _, Nat.le_refl _⟩ (Nat.le_of_ble_eq_true rfl) dL_law_238 ?_
          refine R_aload_n X 2 dL_law_241 rfl rfl ?_
          refine R_aload_n X 0 dL_law_242 rfl rfl ?_
          refine R_iload_n X 3 dL_law_243 rfl rfl ?_
          refine R_iconst X dL_law_244 ?_
          refine R_iadd X dL_law_245 ?_
          refine R_sld X hX hbl hbA hq11 hL dL_law_246 ?_
          refine R_aload_n X 0 dL_law_247 rfl rfl ?_
          refine R_iload_n X 3 dL_law_248 rfl rfl ?_
          refine R_iconst X dL_law_249 ?_
          refine R_iadd X dL_law_250 ?_
          refine R_sld X hX hbl hbA hq12 hL dL_law_251 ?_
          obtain ⟨r16, M17, hc18, hf⟩ := zbnd_some hf
          refine R_callVi X (av := [.int (zI (xs (v3 + 1).toNat)), .int (zI (xs (v3 + 2).toNat))]) (rest := [.int (zI r13)]) (c_X10_setRoom l D cas ad hi hc18) zy_X10_setRoom lc_215 rfl rfl wm_L_22 rfl rfl ⟨Nat.le_of_ble_eq_true rfl, Nat.le_of_ble_eq_true rfl⟩ ⟨Nat.le_refl _, Nat.le_refl _⟩ (Nat.le_of_ble_eq_true rfl) dL_law_252 ?_
          obtain ⟨hq19, hf⟩ := zgrd hf
          refine R_icmp_eqW X 1032 hq19 dL_law_255 (by decide) (fun c20 => ?_) (fun c20 => ?_)
          · have hf := zthen hf c20
            exact R_sub [0, 1, 2, 3] rfl (hB1032 (f_L_law_b18 xs L n) ih v3 M17 hf)
          · have hf := zelse hf c20
            refine R_iconst X dL_law_258 ?_
            exact absurd hf (by simp)
        have hf := zelse hf c21
        by_cases c26 : (iand (xs v3.toNat) 31) = 2
        · have hf := zthen hf c26
          refine R_tableIn X (o := 228) 260 c26 dL_law_32 (by decide) (by decide) (by decide) (by decide +kernel) (by decide) ?_
          refine R_aload_n X 1 dL_law_260 rfl rfl ?_
          refine R_aload_n X 0 dL_law_261 rfl rfl ?_
          refine R_iload_n X 3 dL_law_262 rfl rfl ?_
          refine R_iconst X dL_law_263 ?_
          refine R_iadd X dL_law_264 ?_
          obtain ⟨hq22, hf⟩ := zgrd hf
          refine R_sld X hX hbl hbA hq22 hL dL_law_265 ?_
          refine R_aload_n X 0 dL_law_266 rfl rfl ?_
          refine R_iload_n X 3 dL_law_267 rfl rfl ?_
          refine R_iconst X dL_law_268 ?_
          refine R_iadd X dL_law_269 ?_
          obtain ⟨hq23, hf⟩ := zgrd hf
          refine R_sld X hX hbl hbA hq23 hL dL_law_270 ?_
          obtain ⟨hq24, hf⟩ := zgrd hf
          refine R_if_eq X 278 hq24 dL_law_271 (by decide) (fun c25 => ?_) (fun c25 => ?_)
          · have hf := zthen hf c25
            refine R_iconst X dL_law_278 ?_
            exact R_sub [0, 1, 2, 3] rfl (hB279 (f_L_law_b18 xs L n) ih v3 0 (xs (v3 + 1).toNat) M hf)
          · have hf := zelse hf c25
            refine R_iconst X dL_law_274 ?_
            refine R_goto X 279 dL_law_275 (by decide) ?_
            exact R_sub [0, 1, 2, 3] rfl (hB279 (f_L_law_b18 xs L n) ih v3 1 (xs (v3 + 1).toNat) M hf)
        have hf := zelse hf c26
        by_cases c37 : (iand (xs v3.toNat) 31) = 3
        · have hf := zthen hf c37
          refine R_tableIn X (o := 277) 309 c37 dL_law_32 (by decide) (by decide) (by decide) (by decide +kernel) (by decide) ?_
          refine R_aload_n X 1 dL_law_309 rfl rfl ?_
          refine R_aload_n X 0 dL_law_310 rfl rfl ?_
          refine R_iload_n X 3 dL_law_311 rfl rfl ?_
          refine R_iconst X dL_law_312 ?_
          refine R_iadd X dL_law_313 ?_
          obtain ⟨hq27, hf⟩ := zgrd hf
          refine R_sld X hX hbl hbA hq27 hL dL_law_314 ?_
          refine R_aload_n X 0 dL_law_315 rfl rfl ?_
          refine R_iload_n X 3 dL_law_316 rfl rfl ?_
          refine R_iconst X dL_law_317 ?_
          refine R_iadd X dL_law_318 ?_
          obtain ⟨hq28, hf⟩ := zgrd hf
          refine R_sld X hX hbl hbA hq28 hL dL_law_319 ?_
          obtain ⟨r29, M30, hc31, hf⟩ := zbnd_some hf
          refine R_callVi X (av := [.int (zI (xs (v3 + 1).toNat)), .int (zI (xs (v3 + 2).toNat))]) (rest := []) (c_X9_addWolf l D cas ad hi hc31) zy_X9_addWolf lc_0 rfl rfl wm_L_28 rfl rfl ⟨Nat.le_of_ble_eq_true rfl, Nat.le_of_ble_eq_true rfl⟩ ⟨Nat.le_refl _, Nat.le_refl _⟩ (Nat.le_of_ble_eq_true rfl) dL_law_320 ?_
          refine R_aload_n X 2 dL_law_323 rfl rfl ?_
          refine R_aload_n X 0 dL_law_324 rfl rfl ?_
          refine R_iload_n X 3 dL_law_325 rfl rfl ?_
          refine R_iconst X dL_law_326 ?_
          refine R_iadd X dL_law_327 ?_
          refine R_sld X hX hbl hbA hq27 hL dL_law_328 ?_
          refine R_aload_n X 0 dL_law_329 rfl rfl ?_
          refine R_iload_n X 3 dL_law_330 rfl rfl ?_
          refine R_iconst X dL_law_331 ?_
          refine R_iadd X dL_law_332 ?_
          refine R_sld X hX hbl hbA hq28 hL dL_law_333 ?_
          obtain ⟨r32, M33, hc34, hf⟩ := zbnd_some hf
          refine R_callVi X (av := [.int (zI (xs (v3 + 1).toNat)), .int (zI (xs (v3 + 2).toNat))]) (rest := [.int (zI r29)]) (c_X10_addWolf l D cas ad hi hc34) zy_X10_addWolf lc_215 rfl rfl wm_L_31 rfl rfl ⟨Nat.le_of_ble_eq_true rfl, Nat.le_of_ble_eq_true rfl⟩ ⟨Nat.le_refl _, Nat.le_refl _⟩ (Nat.le_of_ble_eq_true rfl) dL_law_334 ?_
          obtain ⟨hq35, hf⟩ := zgrd hf
          refine R_icmp_eqW X 1032 hq35 dL_law_337 (by decide) (fun c36 => ?_) (fun c36 => ?_)
          · have hf := zthen hf c36
            exact R_sub [0, 1, 2, 3] rfl (hB1032 (f_L_law_b18 xs L n) ih v3 M33 hf)
          · have hf := zelse hf c36
            refine R_iconst X dL_law_340 ?_
            exact absurd hf (by simp)
        have hf := zelse hf c37
        by_cases c46 : (iand (xs v3.toNat) 31) = 4
        · have hf := zthen hf c46
          refine R_tableIn X (o := 310) 342 c46 dL_law_32 (by decide) (by decide) (by decide) (by decide +kernel) (by decide) ?_
          refine R_aload_n X 1 dL_law_342 rfl rfl ?_
          obtain ⟨r38, M39, hc40, hf⟩ := zbnd_some hf
          refine R_callVi X (av := []) (rest := []) (c_X9_driveWolf l D cas ad hi hc40) zy_X9_driveWolf lc_0 rfl rfl wm_L_32 rfl rfl ⟨Nat.le_of_ble_eq_true rfl, Nat.le_of_ble_eq_true rfl⟩ ⟨Nat.le_refl _, Nat.le_refl _⟩ (Nat.le_of_ble_eq_true rfl) dL_law_343 ?_
          refine R_aload_n X 2 dL_law_346 rfl rfl ?_
          obtain ⟨r41, M42, hc43, hf⟩ := zbnd_some hf
          refine R_callVi X (av := []) (rest := [.int (zI r38)]) (c_X10_driveWolf l D cas ad hi hc43) zy_X10_driveWolf lc_215 rfl rfl wm_L_36 rfl rfl ⟨Nat.le_of_ble_eq_true rfl, Nat.le_of_ble_eq_true rfl⟩ ⟨Nat.le_refl _, Nat.le_refl _⟩ (Nat.le_of_ble_eq_true rfl) dL_law_347 ?_
          obtain ⟨hq44, hf⟩ := zgrd hf
          refine R_icmp_eqW X 1032 hq44 dL_law_350 (by decide) (fun c45 => ?_) (fun c45 => ?_)
          · have hf := zthen hf c45
            exact R_sub [0, 1, 2, 3] rfl (hB1032 (f_L_law_b18 xs L n) ih v3 M42 hf)
          · have hf := zelse hf c45
            refine R_iconst X dL_law_353 ?_
            exact absurd hf (by simp)
        have hf := zelse hf c46
        by_cases c56 : (iand (xs v3.toNat) 31) = 5
        · have hf := zthen hf c56
          refine R_tableIn X (o := 323) 355 c56 dL_law_32 (by decide) (by decide) (by decide) (by decide +kernel) (by decide) ?_
          refine R_aload_n X 1 dL_law_355 rfl rfl ?_
          refine R_aload_n X 0 dL_law_356 rfl rfl ?_
          refine R_iload_n X 3 dL_law_357 rfl rfl ?_
          refine R_iconst X dL_law_358 ?_
          refine R_iadd X dL_law_359 ?_
          obtain ⟨hq47, hf⟩ := zgrd hf
          refine R_sld X hX hbl hbA hq47 hL dL_law_360 ?_
          obtain ⟨r48, M49, hc50, hf⟩ := zbnd_some hf
          refine R_callVi X (av := [.int (zI (xs (v3 + 1).toNat))]) (rest := []) (c_X9_addReader l D cas ad hi hc50) zy_X9_addReader lc_0 rfl rfl wm_L_37 rfl rfl ⟨Nat.le_of_ble_eq_true rfl, Nat.le_of_ble_eq_true rfl⟩ ⟨Nat.le_refl _, Nat.le_refl _⟩ (Nat.le_of_ble_eq_true rfl) dL_law_361 ?_
          refine R_aload_n X 2 dL_law_364 rfl rfl ?_
          refine R_aload_n X 0 dL_law_365 rfl rfl ?_
          refine R_iload_n X 3 dL_law_366 rfl rfl ?_
          refine R_iconst X dL_law_367 ?_
          refine R_iadd X dL_law_368 ?_
          refine R_sld X hX hbl hbA hq47 hL dL_law_369 ?_
          obtain ⟨r51, M52, hc53, hf⟩ := zbnd_some hf
          refine R_callVi X (av := [.int (zI (xs (v3 + 1).toNat))]) (rest := [.int (zI r48)]) (c_X10_addReader l D cas ad hi hc53) zy_X10_addReader lc_215 rfl rfl wm_L_41 rfl rfl ⟨Nat.le_of_ble_eq_true rfl, Nat.le_of_ble_eq_true rfl⟩ ⟨Nat.le_refl _, Nat.le_refl _⟩ (Nat.le_of_ble_eq_true rfl) dL_law_370 ?_
          obtain ⟨hq54, hf⟩ := zgrd hf
          refine R_icmp_eqW X 1032 hq54 dL_law_373 (by decide) (fun c55 => ?_) (fun c55 => ?_)
          · have hf := zthen hf c55
            exact R_sub [0, 1, 2, 3] rfl (hB1032 (f_L_law_b18 xs L n) ih v3 M52 hf)
          · have hf := zelse hf c55
            refine R_iconst X dL_law_376 ?_
            exact absurd hf (by simp)
        have hf := zelse hf c56
        by_cases c67 : (iand (xs v3.toNat) 31) = 6
        · have hf := zthen hf c67
          refine R_tableIn X (o := 346) 378 c67 dL_law_32 (by decide) (by decide) (by decide) (by decide +kernel) (by decide) ?_
          refine R_aload_n X 1 dL_law_378 rfl rfl ?_
          refine R_aload_n X 0 dL_law_379 rfl rfl ?_
          refine R_iload_n X 3 dL_law_380 rfl rfl ?_
          refine R_iconst X dL_law_381 ?_
          refine R_iadd X dL_law_382 ?_
          obtain ⟨hq57, hf⟩ := zgrd hf
          refine R_sld X hX hbl hbA hq57 hL dL_law_383 ?_
          refine R_aload_n X 0 dL_law_384 rfl rfl ?_
          refine R_iload_n X 3 dL_law_385 rfl rfl ?_
          refine R_iconst X dL_law_386 ?_
          refine R_iadd X dL_law_387 ?_
          obtain ⟨hq58, hf⟩ := zgrd hf
          refine R_sld X hX hbl hbA hq58 hL dL_law_388 ?_
          obtain ⟨r59, M60, hc61, hf⟩ := zbnd_some hf
          refine R_callVi X (av := [.int (zI (xs (v3 + 1).toNat)), .int (zI (xs (v3 + 2).toNat))]) (rest := []) (c_X9_setSeason l D cas ad hi hc61) zy_X9_setSeason lc_0 rfl rfl wm_L_42 rfl rfl ⟨Nat.le_of_ble_eq_true rfl, Nat.le_of_ble_eq_true rfl⟩ ⟨Nat.le_refl _, Nat.le_refl _⟩ (Nat.le_of_ble_eq_true rfl) dL_law_389 ?_
          refine R_aload_n X 2 dL_law_392 rfl rfl ?_
          refine R_aload_n X 0 dL_law_393 rfl rfl ?_
          refine R_iload_n X 3 dL_law_394 rfl rfl ?_
          refine R_iconst X dL_law_395 ?_
          refine R_iadd X dL_law_396 ?_
          refine R_sld X hX hbl hbA hq57 hL dL_law_397 ?_
          refine R_aload_n X 0 dL_law_398 rfl rfl ?_
          refine R_iload_n X 3 dL_law_399 rfl rfl ?_
          refine R_iconst X dL_law_400 ?_
          refine R_iadd X dL_law_401 ?_
          refine R_sld X hX hbl hbA hq58 hL dL_law_402 ?_
          obtain ⟨r62, M63, hc64, hf⟩ := zbnd_some hf
          refine R_callVi X (av := [.int (zI (xs (v3 + 1).toNat)), .int (zI (xs (v3 + 2).toNat))]) (rest := [.int (zI r59)]) (c_X10_setSeason l D cas ad hi hc64) zy_X10_setSeason lc_215 rfl rfl wm_L_45 rfl rfl ⟨Nat.le_of_ble_eq_true rfl, Nat.le_of_ble_eq_true rfl⟩ ⟨Nat.le_refl _, Nat.le_refl _⟩ (Nat.le_of_ble_eq_true rfl) dL_law_403 ?_
          obtain ⟨hq65, hf⟩ := zgrd hf
          refine R_icmp_eqW X 1032 hq65 dL_law_406 (by decide) (fun c66 => ?_) (fun c66 => ?_)
          · have hf := zthen hf c66
            exact R_sub [0, 1, 2, 3] rfl (hB1032 (f_L_law_b18 xs L n) ih v3 M63 hf)
          · have hf := zelse hf c66
            refine R_iconst X dL_law_409 ?_
            exact absurd hf (by simp)
        have hf := zelse hf c67
        by_cases c78 : (iand (xs v3.toNat) 31) = 7
        · have hf := zthen hf c78
          refine R_tableIn X (o := 379) 411 c78 dL_law_32 (by decide) (by decide) (by decide) (by decide +kernel) (by decide) ?_
          refine R_aload_n X 1 dL_law_411 rfl rfl ?_
          refine R_aload_n X 0 dL_law_412 rfl rfl ?_
          refine R_iload_n X 3 dL_law_413 rfl rfl ?_
          refine R_iconst X dL_law_414 ?_
          refine R_iadd X dL_law_415 ?_
          obtain ⟨hq68, hf⟩ := zgrd hf
          refine R_sld X hX hbl hbA hq68 hL dL_law_416 ?_
          refine R_aload_n X 0 dL_law_417 rfl rfl ?_
          refine R_iload_n X 3 dL_law_418 rfl rfl ?_
          refine R_iconst X dL_law_419 ?_
          refine R_iadd X dL_law_420 ?_
          obtain ⟨hq69, hf⟩ := zgrd hf
          refine R_sld X hX hbl hbA hq69 hL dL_law_421 ?_
          obtain ⟨r70, M71, hc72, hf⟩ := zbnd_some hf
          refine R_callVi X (av := [.int (zI (xs (v3 + 1).toNat)), .int (zI (xs (v3 + 2).toNat))]) (rest := []) (c_X9_set l D cas ad hi hc72) zy_X9_set lc_0 rfl rfl wm_L_46 rfl rfl ⟨Nat.le_of_ble_eq_true rfl, Nat.le_of_ble_eq_true rfl⟩ ⟨Nat.le_refl _, Nat.le_refl _⟩ (Nat.le_of_ble_eq_true rfl) dL_law_422 ?_
          refine R_aload_n X 2 dL_law_425 rfl rfl ?_
          refine R_aload_n X 0 dL_law_426 rfl rfl ?_
          refine R_iload_n X 3 dL_law_427 rfl rfl ?_
          refine R_iconst X dL_law_428 ?_
          refine R_iadd X dL_law_429 ?_
          refine R_sld X hX hbl hbA hq68 hL dL_law_430 ?_
          refine R_aload_n X 0 dL_law_431 rfl rfl ?_
          refine R_iload_n X 3 dL_law_432 rfl rfl ?_
          refine R_iconst X dL_law_433 ?_
          refine R_iadd X dL_law_434 ?_
          refine R_sld X hX hbl hbA hq69 hL dL_law_435 ?_
          obtain ⟨r73, M74, hc75, hf⟩ := zbnd_some hf
          refine R_callVi X (av := [.int (zI (xs (v3 + 1).toNat)), .int (zI (xs (v3 + 2).toNat))]) (rest := [.int (zI r70)]) (c_X10_set l D cas ad hi hc75) zy_X10_set lc_215 rfl rfl wm_L_49 rfl rfl ⟨Nat.le_of_ble_eq_true rfl, Nat.le_of_ble_eq_true rfl⟩ ⟨Nat.le_refl _, Nat.le_refl _⟩ (Nat.le_of_ble_eq_true rfl) dL_law_436 ?_
          obtain ⟨hq76, hf⟩ := zgrd hf
          refine R_icmp_eqW X 1032 hq76 dL_law_439 (by decide) (fun c77 => ?_) (fun c77 => ?_)
          · have hf := zthen hf c77
            exact R_sub [0, 1, 2, 3] rfl (hB1032 (f_L_law_b18 xs L n) ih v3 M74 hf)
          · have hf := zelse hf c77
            refine R_iconst X dL_law_442 ?_
            exact absurd hf (by simp)
        have hf := zelse hf c78
        by_cases c88 : (iand (xs v3.toNat) 31) = 8
        · have hf := zthen hf c88
          refine R_tableIn X (o := 412) 444 c88 dL_law_32 (by decide) (by decide) (by decide) (by decide +kernel) (by decide) ?_
          refine R_aload_n X 1 dL_law_444 rfl rfl ?_
          refine R_aload_n X 0 dL_law_445 rfl rfl ?_
          refine R_iload_n X 3 dL_law_446 rfl rfl ?_
          refine R_iconst X dL_law_447 ?_
          refine R_iadd X dL_law_448 ?_
          obtain ⟨hq79, hf⟩ := zgrd hf
          refine R_sld X hX hbl hbA hq79 hL dL_law_449 ?_
          obtain ⟨r80, M81, hc82, hf⟩ := zbnd_some hf
          refine R_callVi X (av := [.int (zI (xs (v3 + 1).toNat))]) (rest := []) (c_X9_pass l D cas ad hi hc82) zy_X9_pass lc_0 rfl rfl wm_L_50 rfl rfl ⟨Nat.le_of_ble_eq_true rfl, Nat.le_of_ble_eq_true rfl⟩ ⟨Nat.le_refl _, Nat.le_refl _⟩ (Nat.le_of_ble_eq_true rfl) dL_law_450 ?_
          refine R_aload_n X 2 dL_law_453 rfl rfl ?_
          refine R_aload_n X 0 dL_law_454 rfl rfl ?_
          refine R_iload_n X 3 dL_law_455 rfl rfl ?_
          refine R_iconst X dL_law_456 ?_
          refine R_iadd X dL_law_457 ?_
          refine R_sld X hX hbl hbA hq79 hL dL_law_458 ?_
          obtain ⟨r83, M84, hc85, hf⟩ := zbnd_some hf
          refine R_callVi X (av := [.int (zI (xs (v3 + 1).toNat))]) (rest := [.int (zI r80)]) (c_X10_pass l D cas ad hi hc85) zy_X10_pass lc_215 rfl rfl wm_L_53 rfl rfl ⟨Nat.le_of_ble_eq_true rfl, Nat.le_of_ble_eq_true rfl⟩ ⟨Nat.le_refl _, Nat.le_refl _⟩ (Nat.le_of_ble_eq_true rfl) dL_law_459 ?_
          obtain ⟨hq86, hf⟩ := zgrd hf
          refine R_icmp_eqW X 1032 hq86 dL_law_462 (by decide) (fun c87 => ?_) (fun c87 => ?_)
          · have hf := zthen hf c87
            exact R_sub [0, 1, 2, 3] rfl (hB1032 (f_L_law_b18 xs L n) ih v3 M84 hf)
          · have hf := zelse hf c87
            refine R_iconst X dL_law_465 ?_
            exact absurd hf (by simp)
        have hf := zelse hf c88
        by_cases c99 : (iand (xs v3.toNat) 31) = 9
        · have hf := zthen hf c99
          refine R_tableIn X (o := 435) 467 c99 dL_law_32 (by decide) (by decide) (by decide) (by decide +kernel) (by decide) ?_
          refine R_aload_n X 1 dL_law_467 rfl rfl ?_
          refine R_aload_n X 0 dL_law_468 rfl rfl ?_
          refine R_iload_n X 3 dL_law_469 rfl rfl ?_
          refine R_iconst X dL_law_470 ?_
          refine R_iadd X dL_law_471 ?_
          obtain ⟨hq89, hf⟩ := zgrd hf
          refine R_sld X hX hbl hbA hq89 hL dL_law_472 ?_
          refine R_aload_n X 0 dL_law_473 rfl rfl ?_
          refine R_iload_n X 3 dL_law_474 rfl rfl ?_
          refine R_iconst X dL_law_475 ?_
          refine R_iadd X dL_law_476 ?_
          obtain ⟨hq90, hf⟩ := zgrd hf
          refine R_sld X hX hbl hbA hq90 hL dL_law_477 ?_
          obtain ⟨r91, M92, hc93, hf⟩ := zbnd_some hf
          refine R_callVi X (av := [.int (zI (xs (v3 + 1).toNat)), .int (zI (xs (v3 + 2).toNat))]) (rest := []) (c_X9_move l D cas ad hi hc93) zy_X9_move lc_0 rfl rfl wm_L_54 rfl rfl ⟨Nat.le_of_ble_eq_true rfl, Nat.le_of_ble_eq_true rfl⟩ ⟨Nat.le_refl _, Nat.le_refl _⟩ (Nat.le_of_ble_eq_true rfl) dL_law_478 ?_
          refine R_aload_n X 2 dL_law_481 rfl rfl ?_
          refine R_aload_n X 0 dL_law_482 rfl rfl ?_
          refine R_iload_n X 3 dL_law_483 rfl rfl ?_
          refine R_iconst X dL_law_484 ?_
          refine R_iadd X dL_law_485 ?_
          refine R_sld X hX hbl hbA hq89 hL dL_law_486 ?_
          refine R_aload_n X 0 dL_law_487 rfl rfl ?_
          refine R_iload_n X 3 dL_law_488 rfl rfl ?_
          refine R_iconst X dL_law_489 ?_
          refine R_iadd X dL_law_490 ?_
          refine R_sld X hX hbl hbA hq90 hL dL_law_491 ?_
          obtain ⟨r94, M95, hc96, hf⟩ := zbnd_some hf
          refine R_callVi X (av := [.int (zI (xs (v3 + 1).toNat)), .int (zI (xs (v3 + 2).toNat))]) (rest := [.int (zI r91)]) (c_X10_move l D cas ad hi hc96) zy_X10_move lc_215 rfl rfl wm_L_57 rfl rfl ⟨Nat.le_of_ble_eq_true rfl, Nat.le_of_ble_eq_true rfl⟩ ⟨Nat.le_refl _, Nat.le_refl _⟩ (Nat.le_of_ble_eq_true rfl) dL_law_492 ?_
          obtain ⟨hq97, hf⟩ := zgrd hf
          refine R_icmp_eqW X 1032 hq97 dL_law_495 (by decide) (fun c98 => ?_) (fun c98 => ?_)
          · have hf := zthen hf c98
            exact R_sub [0, 1, 2, 3] rfl (hB1032 (f_L_law_b18 xs L n) ih v3 M95 hf)
          · have hf := zelse hf c98
            refine R_iconst X dL_law_498 ?_
            exact absurd hf (by simp)
        have hf := zelse hf c99
        by_cases c108 : (iand (xs v3.toNat) 31) = 10
        · have hf := zthen hf c108
          refine R_tableIn X (o := 468) 500 c108 dL_law_32 (by decide) (by decide) (by decide) (by decide +kernel) (by decide) ?_
          refine R_aload_n X 1 dL_law_500 rfl rfl ?_
          obtain ⟨r100, M101, hc102, hf⟩ := zbnd_some hf
          refine R_callVi X (av := []) (rest := []) (c_X9_post l D cas ad hi hc102) zy_X9_post lc_0 rfl rfl wm_L_58 rfl rfl ⟨Nat.le_of_ble_eq_true rfl, Nat.le_of_ble_eq_true rfl⟩ ⟨Nat.le_refl _, Nat.le_refl _⟩ (Nat.le_of_ble_eq_true rfl) dL_law_501 ?_
          refine R_aload_n X 2 dL_law_504 rfl rfl ?_
          obtain ⟨r103, M104, hc105, hf⟩ := zbnd_some hf
          refine R_callVi X (av := []) (rest := [.int (zI r100)]) (c_X10_post l D cas ad hi hc105) zy_X10_post lc_215 rfl rfl wm_L_61 rfl rfl ⟨Nat.le_of_ble_eq_true rfl, Nat.le_of_ble_eq_true rfl⟩ ⟨Nat.le_refl _, Nat.le_refl _⟩ (Nat.le_of_ble_eq_true rfl) dL_law_505 ?_
          obtain ⟨hq106, hf⟩ := zgrd hf
          refine R_icmp_eqW X 1032 hq106 dL_law_508 (by decide) (fun c107 => ?_) (fun c107 => ?_)
          · have hf := zthen hf c107
            exact R_sub [0, 1, 2, 3] rfl (hB1032 (f_L_law_b18 xs L n) ih v3 M104 hf)
          · have hf := zelse hf c107
            refine R_iconst X dL_law_511 ?_
            exact absurd hf (by simp)
        have hf := zelse hf c108
        by_cases c118 : (iand (xs v3.toNat) 31) = 11
        · have hf := zthen hf c118
          refine R_tableIn X (o := 481) 513 c118 dL_law_32 (by decide) (by decide) (by decide) (by decide +kernel) (by decide) ?_
          refine R_aload_n X 1 dL_law_513 rfl rfl ?_
          refine R_aload_n X 0 dL_law_514 rfl rfl ?_
          refine R_iload_n X 3 dL_law_515 rfl rfl ?_
          refine R_iconst X dL_law_516 ?_
          refine R_iadd X dL_law_517 ?_
          obtain ⟨hq109, hf⟩ := zgrd hf
          refine R_sld X hX hbl hbA hq109 hL dL_law_518 ?_
          obtain ⟨r110, M111, hc112, hf⟩ := zbnd_some hf
          refine R_callVi X (av := [.int (zI (xs (v3 + 1).toNat))]) (rest := []) (c_X9_cut l D cas ad hi hc112) zy_X9_cut lc_0 rfl rfl wm_L_62 rfl rfl ⟨Nat.le_of_ble_eq_true rfl, Nat.le_of_ble_eq_true rfl⟩ ⟨Nat.le_refl _, Nat.le_refl _⟩ (Nat.le_of_ble_eq_true rfl) dL_law_519 ?_
          refine R_aload_n X 2 dL_law_522 rfl rfl ?_
          refine R_aload_n X 0 dL_law_523 rfl rfl ?_
          refine R_iload_n X 3 dL_law_524 rfl rfl ?_
          refine R_iconst X dL_law_525 ?_
          refine R_iadd X dL_law_526 ?_
          refine R_sld X hX hbl hbA hq109 hL dL_law_527 ?_
          obtain ⟨r113, M114, hc115, hf⟩ := zbnd_some hf
          refine R_callVi X (av := [.int (zI (xs (v3 + 1).toNat))]) (rest := [.int (zI r110)]) (c_X10_cut l D cas ad hi hc115) zy_X10_cut lc_215 rfl rfl wm_L_65 rfl rfl ⟨Nat.le_of_ble_eq_true rfl, Nat.le_of_ble_eq_true rfl⟩ ⟨Nat.le_refl _, Nat.le_refl _⟩ (Nat.le_of_ble_eq_true rfl) dL_law_528 ?_
          obtain ⟨hq116, hf⟩ := zgrd hf
          refine R_icmp_eqW X 1032 hq116 dL_law_531 (by decide) (fun c117 => ?_) (fun c117 => ?_)
          · have hf := zthen hf c117
            exact R_sub [0, 1, 2, 3] rfl (hB1032 (f_L_law_b18 xs L n) ih v3 M114 hf)
          · have hf := zelse hf c117
            refine R_iconst X dL_law_534 ?_
            exact absurd hf (by simp)
        have hf := zelse hf c118
        by_cases c129 : (iand (xs v3.toNat) 31) = 12
        · have hf := zthen hf c129
          refine R_tableIn X (o := 504) 536 c129 dL_law_32 (by decide) (by decide) (by decide) (by decide +kernel) (by decide) ?_
          refine R_aload_n X 1 dL_law_536 rfl rfl ?_
          refine R_aload_n X 0 dL_law_537 rfl rfl ?_
          refine R_iload_n X 3 dL_law_538 rfl rfl ?_
          refine R_iconst X dL_law_539 ?_
          refine R_iadd X dL_law_540 ?_
          obtain ⟨hq119, hf⟩ := zgrd hf
          refine R_sld X hX hbl hbA hq119 hL dL_law_541 ?_
          refine R_aload_n X 0 dL_law_542 rfl rfl ?_
          refine R_iload_n X 3 dL_law_543 rfl rfl ?_
          refine R_iconst X dL_law_544 ?_
          refine R_iadd X dL_law_545 ?_
          obtain ⟨hq120, hf⟩ := zgrd hf
          refine R_sld X hX hbl hbA hq120 hL dL_law_546 ?_
          obtain ⟨r121, M122, hc123, hf⟩ := zbnd_some hf
          refine R_callVi X (av := [.int (zI (xs (v3 + 1).toNat)), .int (zI (xs (v3 + 2).toNat))]) (rest := []) (c_X9_request l D cas ad hi hc123) zy_X9_request lc_0 rfl rfl wm_L_66 rfl rfl ⟨Nat.le_of_ble_eq_true rfl, Nat.le_of_ble_eq_true rfl⟩ ⟨Nat.le_refl _, Nat.le_refl _⟩ (Nat.le_of_ble_eq_true rfl) dL_law_547 ?_
          refine R_aload_n X 2 dL_law_550 rfl rfl ?_
          refine R_aload_n X 0 dL_law_551 rfl rfl ?_
          refine R_iload_n X 3 dL_law_552 rfl rfl ?_
          refine R_iconst X dL_law_553 ?_
          refine R_iadd X dL_law_554 ?_
          refine R_sld X hX hbl hbA hq119 hL dL_law_555 ?_
          refine R_aload_n X 0 dL_law_556 rfl rfl ?_
          refine R_iload_n X 3 dL_law_557 rfl rfl ?_
          refine R_iconst X dL_law_558 ?_
          refine R_iadd X dL_law_559 ?_
          refine R_sld X hX hbl hbA hq120 hL dL_law_560 ?_
          obtain ⟨r124, M125, hc126, hf⟩ := zbnd_some hf
          refine R_callVi X (av := [.int (zI (xs (v3 + 1).toNat)), .int (zI (xs (v3 + 2).toNat))]) (rest := [.int (zI r121)]) (c_X10_request l D cas ad hi hc126) zy_X10_request lc_215 rfl rfl wm_L_69 rfl rfl ⟨Nat.le_of_ble_eq_true rfl, Nat.le_of_ble_eq_true rfl⟩ ⟨Nat.le_refl _, Nat.le_refl _⟩ (Nat.le_of_ble_eq_true rfl) dL_law_561 ?_
          obtain ⟨hq127, hf⟩ := zgrd hf
          refine R_icmp_eqW X 1032 hq127 dL_law_564 (by decide) (fun c128 => ?_) (fun c128 => ?_)
          · have hf := zthen hf c128
            exact R_sub [0, 1, 2, 3] rfl (hB1032 (f_L_law_b18 xs L n) ih v3 M125 hf)
          · have hf := zelse hf c128
            refine R_iconst X dL_law_567 ?_
            exact absurd hf (by simp)
        have hf := zelse hf c129
        by_cases c141 : (iand (xs v3.toNat) 31) = 13
        · have hf := zthen hf c141
          refine R_tableIn X (o := 537) 569 c141 dL_law_32 (by decide) (by decide) (by decide) (by decide +kernel) (by decide) ?_
          refine R_aload_n X 1 dL_law_569 rfl rfl ?_
          refine R_aload_n X 0 dL_law_570 rfl rfl ?_
          refine R_iload_n X 3 dL_law_571 rfl rfl ?_
          refine R_iconst X dL_law_572 ?_
          refine R_iadd X dL_law_573 ?_
          obtain ⟨hq130, hf⟩ := zgrd hf
          refine R_sld X hX hbl hbA hq130 hL dL_law_574 ?_
          refine R_aload_n X 0 dL_law_575 rfl rfl ?_
          refine R_iload_n X 3 dL_law_576 rfl rfl ?_
          refine R_iconst X dL_law_577 ?_
          refine R_iadd X dL_law_578 ?_
          obtain ⟨hq131, hf⟩ := zgrd hf
          refine R_sld X hX hbl hbA hq131 hL dL_law_579 ?_
          refine R_aload_n X 0 dL_law_580 rfl rfl ?_
          refine R_iload_n X 3 dL_law_581 rfl rfl ?_
          refine R_iconst X dL_law_582 ?_
          refine R_iadd X dL_law_583 ?_
          obtain ⟨hq132, hf⟩ := zgrd hf
          refine R_sld X hX hbl hbA hq132 hL dL_law_584 ?_
          obtain ⟨r133, M134, hc135, hf⟩ := zbnd_some hf
          refine R_callVi X (av := [.int (zI (xs (v3 + 1).toNat)), .int (zI (xs (v3 + 2).toNat)), .int (zI (xs (v3 + 3).toNat))]) (rest := []) (c_X9_write l D cas ad hi hc135) zy_X9_write lc_0 rfl rfl wm_L_70 rfl rfl ⟨Nat.le_of_ble_eq_true rfl, Nat.le_of_ble_eq_true rfl⟩ ⟨Nat.le_refl _, Nat.le_refl _⟩ (Nat.le_of_ble_eq_true rfl) dL_law_585 ?_
          refine R_aload_n X 2 dL_law_588 rfl rfl ?_
          refine R_aload_n X 0 dL_law_589 rfl rfl ?_
          refine R_iload_n X 3 dL_law_590 rfl rfl ?_
          refine R_iconst X dL_law_591 ?_
          refine R_iadd X dL_law_592 ?_
          refine R_sld X hX hbl hbA hq130 hL dL_law_593 ?_
          refine R_aload_n X 0 dL_law_594 rfl rfl ?_
          refine R_iload_n X 3 dL_law_595 rfl rfl ?_
          refine R_iconst X dL_law_596 ?_
          refine R_iadd X dL_law_597 ?_
          refine R_sld X hX hbl hbA hq131 hL dL_law_598 ?_
          refine R_aload_n X 0 dL_law_599 rfl rfl ?_
          refine R_iload_n X 3 dL_law_600 rfl rfl ?_
          refine R_iconst X dL_law_601 ?_
          refine R_iadd X dL_law_602 ?_
          refine R_sld X hX hbl hbA hq132 hL dL_law_603 ?_
          obtain ⟨r136, M137, hc138, hf⟩ := zbnd_some hf
          refine R_callVi X (av := [.int (zI (xs (v3 + 1).toNat)), .int (zI (xs (v3 + 2).toNat)), .int (zI (xs (v3 + 3).toNat))]) (rest := [.int (zI r133)]) (c_X10_write l D cas ad hi hc138) zy_X10_write lc_215 rfl rfl wm_L_74 rfl rfl ⟨Nat.le_of_ble_eq_true rfl, Nat.le_of_ble_eq_true rfl⟩ ⟨Nat.le_refl _, Nat.le_refl _⟩ (Nat.le_of_ble_eq_true rfl) dL_law_604 ?_
          obtain ⟨hq139, hf⟩ := zgrd hf
          refine R_icmp_eqW X 1032 hq139 dL_law_607 (by decide) (fun c140 => ?_) (fun c140 => ?_)
          · have hf := zthen hf c140
            exact R_sub [0, 1, 2, 3] rfl (hB1032 (f_L_law_b18 xs L n) ih v3 M137 hf)
          · have hf := zelse hf c140
            refine R_iconst X dL_law_610 ?_
            exact absurd hf (by simp)
        have hf := zelse hf c141
        by_cases c152 : (iand (xs v3.toNat) 31) = 14
        · have hf := zthen hf c152
          refine R_tableIn X (o := 580) 612 c152 dL_law_32 (by decide) (by decide) (by decide) (by decide +kernel) (by decide) ?_
          refine R_aload_n X 1 dL_law_612 rfl rfl ?_
          refine R_aload_n X 0 dL_law_613 rfl rfl ?_
          refine R_iload_n X 3 dL_law_614 rfl rfl ?_
          refine R_iconst X dL_law_615 ?_
          refine R_iadd X dL_law_616 ?_
          obtain ⟨hq142, hf⟩ := zgrd hf
          refine R_sld X hX hbl hbA hq142 hL dL_law_617 ?_
          obtain ⟨hq143, hf⟩ := zgrd hf
          refine R_i2c X hq143 dL_law_618 ?_
          obtain ⟨r144, M145, hc146, hf⟩ := zbnd_some hf
          refine R_callVi X (av := [.int (zI ((xs (v3 + 1).toNat) % 65536))]) (rest := []) (c_X9_type l D cas ad hi hc146) zy_X9_type lc_0 rfl rfl wm_L_75 rfl rfl ⟨Nat.le_of_ble_eq_true rfl, Nat.le_of_ble_eq_true rfl⟩ ⟨Nat.le_refl _, Nat.le_refl _⟩ (Nat.le_of_ble_eq_true rfl) dL_law_619 ?_
          refine R_aload_n X 2 dL_law_622 rfl rfl ?_
          refine R_aload_n X 0 dL_law_623 rfl rfl ?_
          refine R_iload_n X 3 dL_law_624 rfl rfl ?_
          refine R_iconst X dL_law_625 ?_
          refine R_iadd X dL_law_626 ?_
          refine R_sld X hX hbl hbA hq142 hL dL_law_627 ?_
          refine R_i2c X hq143 dL_law_628 ?_
          obtain ⟨r147, M148, hc149, hf⟩ := zbnd_some hf
          refine R_callVi X (av := [.int (zI ((xs (v3 + 1).toNat) % 65536))]) (rest := [.int (zI r144)]) (c_X10_type l D cas ad hi hc149) zy_X10_type lc_215 rfl rfl wm_L_79 rfl rfl ⟨Nat.le_of_ble_eq_true rfl, Nat.le_of_ble_eq_true rfl⟩ ⟨Nat.le_refl _, Nat.le_refl _⟩ (Nat.le_of_ble_eq_true rfl) dL_law_629 ?_
          obtain ⟨hq150, hf⟩ := zgrd hf
          refine R_icmp_eqW X 1032 hq150 dL_law_632 (by decide) (fun c151 => ?_) (fun c151 => ?_)
          · have hf := zthen hf c151
            exact R_sub [0, 1, 2, 3] rfl (hB1032 (f_L_law_b18 xs L n) ih v3 M148 hf)
          · have hf := zelse hf c151
            refine R_iconst X dL_law_635 ?_
            exact absurd hf (by simp)
        have hf := zelse hf c152
        by_cases c161 : (iand (xs v3.toNat) 31) = 15
        · have hf := zthen hf c161
          refine R_tableIn X (o := 605) 637 c161 dL_law_32 (by decide) (by decide) (by decide) (by decide +kernel) (by decide) ?_
          refine R_aload_n X 1 dL_law_637 rfl rfl ?_
          obtain ⟨r153, M154, hc155, hf⟩ := zbnd_some hf
          refine R_callVi X (av := []) (rest := []) (c_X9_clearText l D cas ad hi hc155) zy_X9_clearText lc_0 rfl rfl wm_L_80 rfl rfl ⟨Nat.le_of_ble_eq_true rfl, Nat.le_of_ble_eq_true rfl⟩ ⟨Nat.le_refl _, Nat.le_refl _⟩ (Nat.le_of_ble_eq_true rfl) dL_law_638 ?_
          refine R_aload_n X 2 dL_law_641 rfl rfl ?_
          obtain ⟨r156, M157, hc158, hf⟩ := zbnd_some hf
          refine R_callVi X (av := []) (rest := [.int (zI r153)]) (c_X10_clearText l D cas ad hi hc158) zy_X10_clearText lc_215 rfl rfl wm_L_83 rfl rfl ⟨Nat.le_of_ble_eq_true rfl, Nat.le_of_ble_eq_true rfl⟩ ⟨Nat.le_refl _, Nat.le_refl _⟩ (Nat.le_of_ble_eq_true rfl) dL_law_642 ?_
          obtain ⟨hq159, hf⟩ := zgrd hf
          refine R_icmp_eqW X 1032 hq159 dL_law_645 (by decide) (fun c160 => ?_) (fun c160 => ?_)
          · have hf := zthen hf c160
            exact R_sub [0, 1, 2, 3] rfl (hB1032 (f_L_law_b18 xs L n) ih v3 M157 hf)
          · have hf := zelse hf c160
            refine R_iconst X dL_law_648 ?_
            exact absurd hf (by simp)
        have hf := zelse hf c161
        by_cases c170 : (iand (xs v3.toNat) 31) = 16
        · have hf := zthen hf c170
          refine R_tableIn X (o := 618) 650 c170 dL_law_32 (by decide) (by decide) (by decide) (by decide +kernel) (by decide) ?_
          refine R_aload_n X 1 dL_law_650 rfl rfl ?_
          obtain ⟨r162, M163, hc164, hf⟩ := zbnd_some hf
          refine R_callVi X (av := []) (rest := []) (c_X9_readRequests l D cas ad hi hc164) zy_X9_readRequests lc_0 rfl rfl wm_L_84 rfl rfl ⟨Nat.le_of_ble_eq_true rfl, Nat.le_of_ble_eq_true rfl⟩ ⟨Nat.le_refl _, Nat.le_refl _⟩ (Nat.le_of_ble_eq_true rfl) dL_law_651 ?_
          refine R_aload_n X 2 dL_law_654 rfl rfl ?_
          obtain ⟨r165, M166, hc167, hf⟩ := zbnd_some hf
          refine R_callVi X (av := []) (rest := [.int (zI r162)]) (c_X10_readRequests l D cas ad hi hc167) zy_X10_readRequests lc_215 rfl rfl wm_L_87 rfl rfl ⟨Nat.le_of_ble_eq_true rfl, Nat.le_of_ble_eq_true rfl⟩ ⟨Nat.le_refl _, Nat.le_refl _⟩ (Nat.le_of_ble_eq_true rfl) dL_law_655 ?_
          obtain ⟨hq168, hf⟩ := zgrd hf
          refine R_icmp_eqW X 1032 hq168 dL_law_658 (by decide) (fun c169 => ?_) (fun c169 => ?_)
          · have hf := zthen hf c169
            exact R_sub [0, 1, 2, 3] rfl (hB1032 (f_L_law_b18 xs L n) ih v3 M166 hf)
          · have hf := zelse hf c169
            refine R_iconst X dL_law_661 ?_
            exact absurd hf (by simp)
        have hf := zelse hf c170
        by_cases c179 : (iand (xs v3.toNat) 31) = 17
        · have hf := zthen hf c179
          refine R_tableIn X (o := 631) 663 c179 dL_law_32 (by decide) (by decide) (by decide) (by decide +kernel) (by decide) ?_
          refine R_aload_n X 1 dL_law_663 rfl rfl ?_
          obtain ⟨r171, M172, hc173, hf⟩ := zbnd_some hf
          refine R_callVi X (av := []) (rest := []) (c_X9_undo l D cas ad hi hc173) zy_X9_undo lc_0 rfl rfl wm_L_88 rfl rfl ⟨Nat.le_of_ble_eq_true rfl, Nat.le_of_ble_eq_true rfl⟩ ⟨Nat.le_refl _, Nat.le_refl _⟩ (Nat.le_of_ble_eq_true rfl) dL_law_664 ?_
          refine R_aload_n X 2 dL_law_667 rfl rfl ?_
          obtain ⟨r174, M175, hc176, hf⟩ := zbnd_some hf
          refine R_callVi X (av := []) (rest := [.int (zI r171)]) (c_X10_undo l D cas ad hi hc176) zy_X10_undo lc_215 rfl rfl wm_L_91 rfl rfl ⟨Nat.le_of_ble_eq_true rfl, Nat.le_of_ble_eq_true rfl⟩ ⟨Nat.le_refl _, Nat.le_refl _⟩ (Nat.le_of_ble_eq_true rfl) dL_law_668 ?_
          obtain ⟨hq177, hf⟩ := zgrd hf
          refine R_icmp_eqW X 1032 hq177 dL_law_671 (by decide) (fun c178 => ?_) (fun c178 => ?_)
          · have hf := zthen hf c178
            exact R_sub [0, 1, 2, 3] rfl (hB1032 (f_L_law_b18 xs L n) ih v3 M175 hf)
          · have hf := zelse hf c178
            refine R_iconst X dL_law_674 ?_
            exact absurd hf (by simp)
        have hf := zelse hf c179
        by_cases c188 : (iand (xs v3.toNat) 31) = 18
        · have hf := zthen hf c188
          refine R_tableIn X (o := 644) 676 c188 dL_law_32 (by decide) (by decide) (by decide) (by decide +kernel) (by decide) ?_
          refine R_aload_n X 1 dL_law_676 rfl rfl ?_
          obtain ⟨r180, M181, hc182, hf⟩ := zbnd_some hf
          refine R_callVi X (av := []) (rest := []) (c_X9_keep l D cas ad hi hc182) zy_X9_keep lc_0 rfl rfl wm_L_92 rfl rfl ⟨Nat.le_of_ble_eq_true rfl, Nat.le_of_ble_eq_true rfl⟩ ⟨Nat.le_refl _, Nat.le_refl _⟩ (Nat.le_of_ble_eq_true rfl) dL_law_677 ?_
          refine R_aload_n X 2 dL_law_680 rfl rfl ?_
          obtain ⟨r183, M184, hc185, hf⟩ := zbnd_some hf
          refine R_callVi X (av := []) (rest := [.int (zI r180)]) (c_X10_keep l D cas ad hi hc185) zy_X10_keep lc_215 rfl rfl wm_L_95 rfl rfl ⟨Nat.le_of_ble_eq_true rfl, Nat.le_of_ble_eq_true rfl⟩ ⟨Nat.le_refl _, Nat.le_refl _⟩ (Nat.le_of_ble_eq_true rfl) dL_law_681 ?_
          obtain ⟨hq186, hf⟩ := zgrd hf
          refine R_icmp_eqW X 1032 hq186 dL_law_684 (by decide) (fun c187 => ?_) (fun c187 => ?_)
          · have hf := zthen hf c187
            exact R_sub [0, 1, 2, 3] rfl (hB1032 (f_L_law_b18 xs L n) ih v3 M184 hf)
          · have hf := zelse hf c187
            refine R_iconst X dL_law_687 ?_
            exact absurd hf (by simp)
        have hf := zelse hf c188
        by_cases c197 : (iand (xs v3.toNat) 31) = 19
        · have hf := zthen hf c197
          refine R_tableIn X (o := 657) 689 c197 dL_law_32 (by decide) (by decide) (by decide) (by decide +kernel) (by decide) ?_
          refine R_aload_n X 1 dL_law_689 rfl rfl ?_
          obtain ⟨r189, M190, hc191, hf⟩ := zbnd_some hf
          refine R_callVi X (av := []) (rest := []) (c_X9_restore l D cas ad hi hc191) zy_X9_restore lc_0 rfl rfl wm_L_96 rfl rfl ⟨Nat.le_of_ble_eq_true rfl, Nat.le_of_ble_eq_true rfl⟩ ⟨Nat.le_refl _, Nat.le_refl _⟩ (Nat.le_of_ble_eq_true rfl) dL_law_690 ?_
          refine R_aload_n X 2 dL_law_693 rfl rfl ?_
          obtain ⟨r192, M193, hc194, hf⟩ := zbnd_some hf
          refine R_callVi X (av := []) (rest := [.int (zI r189)]) (c_X10_restore l D cas ad hi hc194) zy_X10_restore lc_215 rfl rfl wm_L_99 rfl rfl ⟨Nat.le_of_ble_eq_true rfl, Nat.le_of_ble_eq_true rfl⟩ ⟨Nat.le_refl _, Nat.le_refl _⟩ (Nat.le_of_ble_eq_true rfl) dL_law_694 ?_
          obtain ⟨hq195, hf⟩ := zgrd hf
          refine R_icmp_eqW X 1032 hq195 dL_law_697 (by decide) (fun c196 => ?_) (fun c196 => ?_)
          · have hf := zthen hf c196
            exact R_sub [0, 1, 2, 3] rfl (hB1032 (f_L_law_b18 xs L n) ih v3 M193 hf)
          · have hf := zelse hf c196
            refine R_iconst X dL_law_700 ?_
            exact absurd hf (by simp)
        have hf := zelse hf c197
        by_cases c208 : (iand (xs v3.toNat) 31) = 20
        · have hf := zthen hf c208
          refine R_tableIn X (o := 670) 702 c208 dL_law_32 (by decide) (by decide) (by decide) (by decide +kernel) (by decide) ?_
          refine R_aload_n X 1 dL_law_702 rfl rfl ?_
          refine R_aload_n X 0 dL_law_703 rfl rfl ?_
          refine R_iload_n X 3 dL_law_704 rfl rfl ?_
          refine R_iconst X dL_law_705 ?_
          refine R_iadd X dL_law_706 ?_
          obtain ⟨hq198, hf⟩ := zgrd hf
          refine R_sld X hX hbl hbA hq198 hL dL_law_707 ?_
          refine R_aload_n X 0 dL_law_708 rfl rfl ?_
          refine R_iload_n X 3 dL_law_709 rfl rfl ?_
          refine R_iconst X dL_law_710 ?_
          refine R_iadd X dL_law_711 ?_
          obtain ⟨hq199, hf⟩ := zgrd hf
          refine R_sld X hX hbl hbA hq199 hL dL_law_712 ?_
          obtain ⟨r200, M201, hc202, hf⟩ := zbnd_some hf
          refine R_callVi X (av := [.int (zI (xs (v3 + 1).toNat)), .int (zI (xs (v3 + 2).toNat))]) (rest := []) (c_X9_pasture l D cas ad hi hc202) zy_X9_pasture lc_0 rfl rfl wm_L_100 rfl rfl ⟨Nat.le_of_ble_eq_true rfl, Nat.le_of_ble_eq_true rfl⟩ ⟨Nat.le_refl _, Nat.le_refl _⟩ (Nat.le_of_ble_eq_true rfl) dL_law_713 ?_
          refine R_aload_n X 2 dL_law_716 rfl rfl ?_
          refine R_aload_n X 0 dL_law_717 rfl rfl ?_
          refine R_iload_n X 3 dL_law_718 rfl rfl ?_
          refine R_iconst X dL_law_719 ?_
          refine R_iadd X dL_law_720 ?_
          refine R_sld X hX hbl hbA hq198 hL dL_law_721 ?_
          refine R_aload_n X 0 dL_law_722 rfl rfl ?_
          refine R_iload_n X 3 dL_law_723 rfl rfl ?_
          refine R_iconst X dL_law_724 ?_
          refine R_iadd X dL_law_725 ?_
          refine R_sld X hX hbl hbA hq199 hL dL_law_726 ?_
          obtain ⟨r203, M204, hc205, hf⟩ := zbnd_some hf
          refine R_callVi X (av := [.int (zI (xs (v3 + 1).toNat)), .int (zI (xs (v3 + 2).toNat))]) (rest := [.int (zI r200)]) (c_X10_pasture l D cas ad hi hc205) zy_X10_pasture lc_215 rfl rfl wm_L_103 rfl rfl ⟨Nat.le_of_ble_eq_true rfl, Nat.le_of_ble_eq_true rfl⟩ ⟨Nat.le_refl _, Nat.le_refl _⟩ (Nat.le_of_ble_eq_true rfl) dL_law_727 ?_
          obtain ⟨hq206, hf⟩ := zgrd hf
          refine R_icmp_eqW X 1032 hq206 dL_law_730 (by decide) (fun c207 => ?_) (fun c207 => ?_)
          · have hf := zthen hf c207
            exact R_sub [0, 1, 2, 3] rfl (hB1032 (f_L_law_b18 xs L n) ih v3 M204 hf)
          · have hf := zelse hf c207
            refine R_iconst X dL_law_733 ?_
            exact absurd hf (by simp)
        have hf := zelse hf c208
        by_cases c220 : (iand (xs v3.toNat) 31) = 21
        · have hf := zthen hf c220
          refine R_tableIn X (o := 703) 735 c220 dL_law_32 (by decide) (by decide) (by decide) (by decide +kernel) (by decide) ?_
          refine R_aload_n X 1 dL_law_735 rfl rfl ?_
          refine R_aload_n X 0 dL_law_736 rfl rfl ?_
          refine R_iload_n X 3 dL_law_737 rfl rfl ?_
          refine R_iconst X dL_law_738 ?_
          refine R_iadd X dL_law_739 ?_
          obtain ⟨hq209, hf⟩ := zgrd hf
          refine R_sld X hX hbl hbA hq209 hL dL_law_740 ?_
          refine R_aload_n X 0 dL_law_741 rfl rfl ?_
          refine R_iload_n X 3 dL_law_742 rfl rfl ?_
          refine R_iconst X dL_law_743 ?_
          refine R_iadd X dL_law_744 ?_
          obtain ⟨hq210, hf⟩ := zgrd hf
          refine R_sld X hX hbl hbA hq210 hL dL_law_745 ?_
          refine R_aload_n X 0 dL_law_746 rfl rfl ?_
          refine R_iload_n X 3 dL_law_747 rfl rfl ?_
          refine R_iconst X dL_law_748 ?_
          refine R_iadd X dL_law_749 ?_
          obtain ⟨hq211, hf⟩ := zgrd hf
          refine R_sld X hX hbl hbA hq211 hL dL_law_750 ?_
          obtain ⟨r212, M213, hc214, hf⟩ := zbnd_some hf
          refine R_callVi X (av := [.int (zI (xs (v3 + 1).toNat)), .int (zI (xs (v3 + 2).toNat)), .int (zI (xs (v3 + 3).toNat))]) (rest := []) (c_X9_track l D cas ad hi hc214) zy_X9_track lc_0 rfl rfl wm_L_104 rfl rfl ⟨Nat.le_of_ble_eq_true rfl, Nat.le_of_ble_eq_true rfl⟩ ⟨Nat.le_refl _, Nat.le_refl _⟩ (Nat.le_of_ble_eq_true rfl) dL_law_751 ?_
          refine R_aload_n X 2 dL_law_754 rfl rfl ?_
          refine R_aload_n X 0 dL_law_755 rfl rfl ?_
          refine R_iload_n X 3 dL_law_756 rfl rfl ?_
          refine R_iconst X dL_law_757 ?_
          refine R_iadd X dL_law_758 ?_
          refine R_sld X hX hbl hbA hq209 hL dL_law_759 ?_
          refine R_aload_n X 0 dL_law_760 rfl rfl ?_
          refine R_iload_n X 3 dL_law_761 rfl rfl ?_
          refine R_iconst X dL_law_762 ?_
          refine R_iadd X dL_law_763 ?_
          refine R_sld X hX hbl hbA hq210 hL dL_law_764 ?_
          refine R_aload_n X 0 dL_law_765 rfl rfl ?_
          refine R_iload_n X 3 dL_law_766 rfl rfl ?_
          refine R_iconst X dL_law_767 ?_
          refine R_iadd X dL_law_768 ?_
          refine R_sld X hX hbl hbA hq211 hL dL_law_769 ?_
          obtain ⟨r215, M216, hc217, hf⟩ := zbnd_some hf
          refine R_callVi X (av := [.int (zI (xs (v3 + 1).toNat)), .int (zI (xs (v3 + 2).toNat)), .int (zI (xs (v3 + 3).toNat))]) (rest := [.int (zI r212)]) (c_X10_track l D cas ad hi hc217) zy_X10_track lc_215 rfl rfl wm_L_107 rfl rfl ⟨Nat.le_of_ble_eq_true rfl, Nat.le_of_ble_eq_true rfl⟩ ⟨Nat.le_refl _, Nat.le_refl _⟩ (Nat.le_of_ble_eq_true rfl) dL_law_770 ?_
          obtain ⟨hq218, hf⟩ := zgrd hf
          refine R_icmp_eqW X 1032 hq218 dL_law_773 (by decide) (fun c219 => ?_) (fun c219 => ?_)
          · have hf := zthen hf c219
            exact R_sub [0, 1, 2, 3] rfl (hB1032 (f_L_law_b18 xs L n) ih v3 M216 hf)
          · have hf := zelse hf c219
            refine R_iconst X dL_law_776 ?_
            exact absurd hf (by simp)
        have hf := zelse hf c220
        by_cases c231 : (iand (xs v3.toNat) 31) = 22
        · have hf := zthen hf c231
          refine R_tableIn X (o := 746) 778 c231 dL_law_32 (by decide) (by decide) (by decide) (by decide +kernel) (by decide) ?_
          refine R_aload_n X 1 dL_law_778 rfl rfl ?_
          refine R_aload_n X 0 dL_law_779 rfl rfl ?_
          refine R_iload_n X 3 dL_law_780 rfl rfl ?_
          refine R_iconst X dL_law_781 ?_
          refine R_iadd X dL_law_782 ?_
          obtain ⟨hq221, hf⟩ := zgrd hf
          refine R_sld X hX hbl hbA hq221 hL dL_law_783 ?_
          refine R_aload_n X 0 dL_law_784 rfl rfl ?_
          refine R_iload_n X 3 dL_law_785 rfl rfl ?_
          refine R_iconst X dL_law_786 ?_
          refine R_iadd X dL_law_787 ?_
          obtain ⟨hq222, hf⟩ := zgrd hf
          refine R_sld X hX hbl hbA hq222 hL dL_law_788 ?_
          obtain ⟨r223, M224, hc225, hf⟩ := zbnd_some hf
          refine R_callVi X (av := [.int (zI (xs (v3 + 1).toNat)), .int (zI (xs (v3 + 2).toNat))]) (rest := []) (c_X9_shard l D cas ad hi hc225) zy_X9_shard lc_0 rfl rfl wm_L_108 rfl rfl ⟨Nat.le_of_ble_eq_true rfl, Nat.le_of_ble_eq_true rfl⟩ ⟨Nat.le_refl _, Nat.le_refl _⟩ (Nat.le_of_ble_eq_true rfl) dL_law_789 ?_
          refine R_aload_n X 2 dL_law_792 rfl rfl ?_
          refine R_aload_n X 0 dL_law_793 rfl rfl ?_
          refine R_iload_n X 3 dL_law_794 rfl rfl ?_
          refine R_iconst X dL_law_795 ?_
          refine R_iadd X dL_law_796 ?_
          refine R_sld X hX hbl hbA hq221 hL dL_law_797 ?_
          refine R_aload_n X 0 dL_law_798 rfl rfl ?_
          refine R_iload_n X 3 dL_law_799 rfl rfl ?_
          refine R_iconst X dL_law_800 ?_
          refine R_iadd X dL_law_801 ?_
          refine R_sld X hX hbl hbA hq222 hL dL_law_802 ?_
          obtain ⟨r226, M227, hc228, hf⟩ := zbnd_some hf
          refine R_callVi X (av := [.int (zI (xs (v3 + 1).toNat)), .int (zI (xs (v3 + 2).toNat))]) (rest := [.int (zI r223)]) (c_X10_shard l D cas ad hi hc228) zy_X10_shard lc_215 rfl rfl wm_L_111 rfl rfl ⟨Nat.le_of_ble_eq_true rfl, Nat.le_of_ble_eq_true rfl⟩ ⟨Nat.le_refl _, Nat.le_refl _⟩ (Nat.le_of_ble_eq_true rfl) dL_law_803 ?_
          obtain ⟨hq229, hf⟩ := zgrd hf
          refine R_icmp_eqW X 1032 hq229 dL_law_806 (by decide) (fun c230 => ?_) (fun c230 => ?_)
          · have hf := zthen hf c230
            exact R_sub [0, 1, 2, 3] rfl (hB1032 (f_L_law_b18 xs L n) ih v3 M227 hf)
          · have hf := zelse hf c230
            refine R_iconst X dL_law_809 ?_
            exact absurd hf (by simp)
        have hf := zelse hf c231
        by_cases c241 : (iand (xs v3.toNat) 31) = 23
        · have hf := zthen hf c241
          refine R_tableIn X (o := 779) 811 c241 dL_law_32 (by decide) (by decide) (by decide) (by decide +kernel) (by decide) ?_
          refine R_aload_n X 1 dL_law_811 rfl rfl ?_
          refine R_aload_n X 0 dL_law_812 rfl rfl ?_
          refine R_iload_n X 3 dL_law_813 rfl rfl ?_
          refine R_iconst X dL_law_814 ?_
          refine R_iadd X dL_law_815 ?_
          obtain ⟨hq232, hf⟩ := zgrd hf
          refine R_sld X hX hbl hbA hq232 hL dL_law_816 ?_
          obtain ⟨r233, M234, hc235, hf⟩ := zbnd_some hf
          refine R_callVi X (av := [.int (zI (xs (v3 + 1).toNat))]) (rest := []) (c_X9_value l D cas ad hi hc235) zy_X9_value lc_0 rfl rfl wm_L_112 rfl rfl ⟨Nat.le_of_ble_eq_true rfl, Nat.le_of_ble_eq_true rfl⟩ ⟨Nat.le_refl _, Nat.le_refl _⟩ (Nat.le_of_ble_eq_true rfl) dL_law_817 ?_
          refine R_aload_n X 2 dL_law_820 rfl rfl ?_
          refine R_aload_n X 0 dL_law_821 rfl rfl ?_
          refine R_iload_n X 3 dL_law_822 rfl rfl ?_
          refine R_iconst X dL_law_823 ?_
          refine R_iadd X dL_law_824 ?_
          refine R_sld X hX hbl hbA hq232 hL dL_law_825 ?_
          obtain ⟨r236, M237, hc238, hf⟩ := zbnd_some hf
          refine R_callVi X (av := [.int (zI (xs (v3 + 1).toNat))]) (rest := [.int (zI r233)]) (c_X10_value l D cas ad hi hc238) zy_X10_value lc_215 rfl rfl wm_L_115 rfl rfl ⟨Nat.le_of_ble_eq_true rfl, Nat.le_of_ble_eq_true rfl⟩ ⟨Nat.le_refl _, Nat.le_refl _⟩ (Nat.le_of_ble_eq_true rfl) dL_law_826 ?_
          obtain ⟨hq239, hf⟩ := zgrd hf
          refine R_icmp_eqW X 1032 hq239 dL_law_829 (by decide) (fun c240 => ?_) (fun c240 => ?_)
          · have hf := zthen hf c240
            exact R_sub [0, 1, 2, 3] rfl (hB1032 (f_L_law_b18 xs L n) ih v3 M237 hf)
          · have hf := zelse hf c240
            refine R_iconst X dL_law_832 ?_
            exact absurd hf (by simp)
        have hf := zelse hf c241
        by_cases c252 : (iand (xs v3.toNat) 31) = 24
        · have hf := zthen hf c252
          refine R_tableIn X (o := 802) 834 c252 dL_law_32 (by decide) (by decide) (by decide) (by decide +kernel) (by decide) ?_
          refine R_aload_n X 1 dL_law_834 rfl rfl ?_
          refine R_aload_n X 0 dL_law_835 rfl rfl ?_
          refine R_iload_n X 3 dL_law_836 rfl rfl ?_
          refine R_iconst X dL_law_837 ?_
          refine R_iadd X dL_law_838 ?_
          obtain ⟨hq242, hf⟩ := zgrd hf
          refine R_sld X hX hbl hbA hq242 hL dL_law_839 ?_
          refine R_aload_n X 0 dL_law_840 rfl rfl ?_
          refine R_iload_n X 3 dL_law_841 rfl rfl ?_
          refine R_iconst X dL_law_842 ?_
          refine R_iadd X dL_law_843 ?_
          obtain ⟨hq243, hf⟩ := zgrd hf
          refine R_sld X hX hbl hbA hq243 hL dL_law_844 ?_
          obtain ⟨r244, M245, hc246, hf⟩ := zbnd_some hf
          refine R_callVi X (av := [.int (zI (xs (v3 + 1).toNat)), .int (zI (xs (v3 + 2).toNat))]) (rest := []) (c_X9_reader l D cas ad hi hc246) zy_X9_reader lc_0 rfl rfl wm_L_116 rfl rfl ⟨Nat.le_of_ble_eq_true rfl, Nat.le_of_ble_eq_true rfl⟩ ⟨Nat.le_refl _, Nat.le_refl _⟩ (Nat.le_of_ble_eq_true rfl) dL_law_845 ?_
          refine R_aload_n X 2 dL_law_848 rfl rfl ?_
          refine R_aload_n X 0 dL_law_849 rfl rfl ?_
          refine R_iload_n X 3 dL_law_850 rfl rfl ?_
          refine R_iconst X dL_law_851 ?_
          refine R_iadd X dL_law_852 ?_
          refine R_sld X hX hbl hbA hq242 hL dL_law_853 ?_
          refine R_aload_n X 0 dL_law_854 rfl rfl ?_
          refine R_iload_n X 3 dL_law_855 rfl rfl ?_
          refine R_iconst X dL_law_856 ?_
          refine R_iadd X dL_law_857 ?_
          refine R_sld X hX hbl hbA hq243 hL dL_law_858 ?_
          obtain ⟨r247, M248, hc249, hf⟩ := zbnd_some hf
          refine R_callVi X (av := [.int (zI (xs (v3 + 1).toNat)), .int (zI (xs (v3 + 2).toNat))]) (rest := [.int (zI r244)]) (c_X10_reader l D cas ad hi hc249) zy_X10_reader lc_215 rfl rfl wm_L_119 rfl rfl ⟨Nat.le_of_ble_eq_true rfl, Nat.le_of_ble_eq_true rfl⟩ ⟨Nat.le_refl _, Nat.le_refl _⟩ (Nat.le_of_ble_eq_true rfl) dL_law_859 ?_
          obtain ⟨hq250, hf⟩ := zgrd hf
          refine R_icmp_eqW X 1032 hq250 dL_law_862 (by decide) (fun c251 => ?_) (fun c251 => ?_)
          · have hf := zthen hf c251
            exact R_sub [0, 1, 2, 3] rfl (hB1032 (f_L_law_b18 xs L n) ih v3 M248 hf)
          · have hf := zelse hf c251
            refine R_iconst X dL_law_865 ?_
            exact absurd hf (by simp)
        have hf := zelse hf c252
        by_cases c263 : (iand (xs v3.toNat) 31) = 25
        · have hf := zthen hf c263
          refine R_tableIn X (o := 835) 867 c263 dL_law_32 (by decide) (by decide) (by decide) (by decide +kernel) (by decide) ?_
          refine R_aload_n X 1 dL_law_867 rfl rfl ?_
          refine R_aload_n X 0 dL_law_868 rfl rfl ?_
          refine R_iload_n X 3 dL_law_869 rfl rfl ?_
          refine R_iconst X dL_law_870 ?_
          refine R_iadd X dL_law_871 ?_
          obtain ⟨hq253, hf⟩ := zgrd hf
          refine R_sld X hX hbl hbA hq253 hL dL_law_872 ?_
          refine R_aload_n X 0 dL_law_873 rfl rfl ?_
          refine R_iload_n X 3 dL_law_874 rfl rfl ?_
          refine R_iconst X dL_law_875 ?_
          refine R_iadd X dL_law_876 ?_
          obtain ⟨hq254, hf⟩ := zgrd hf
          refine R_sld X hX hbl hbA hq254 hL dL_law_877 ?_
          obtain ⟨r255, M256, hc257, hf⟩ := zbnd_some hf
          refine R_callVi X (av := [.int (zI (xs (v3 + 1).toNat)), .int (zI (xs (v3 + 2).toNat))]) (rest := []) (c_X9_remembered l D cas ad hi hc257) zy_X9_remembered lc_0 rfl rfl wm_L_120 rfl rfl ⟨Nat.le_of_ble_eq_true rfl, Nat.le_of_ble_eq_true rfl⟩ ⟨Nat.le_refl _, Nat.le_refl _⟩ (Nat.le_of_ble_eq_true rfl) dL_law_878 ?_
          refine R_aload_n X 2 dL_law_881 rfl rfl ?_
          refine R_aload_n X 0 dL_law_882 rfl rfl ?_
          refine R_iload_n X 3 dL_law_883 rfl rfl ?_
          refine R_iconst X dL_law_884 ?_
          refine R_iadd X dL_law_885 ?_
          refine R_sld X hX hbl hbA hq253 hL dL_law_886 ?_
          refine R_aload_n X 0 dL_law_887 rfl rfl ?_
          refine R_iload_n X 3 dL_law_888 rfl rfl ?_
          refine R_iconst X dL_law_889 ?_
          refine R_iadd X dL_law_890 ?_
          refine R_sld X hX hbl hbA hq254 hL dL_law_891 ?_
          obtain ⟨r258, M259, hc260, hf⟩ := zbnd_some hf
          refine R_callVi X (av := [.int (zI (xs (v3 + 1).toNat)), .int (zI (xs (v3 + 2).toNat))]) (rest := [.int (zI r255)]) (c_X10_remembered l D cas ad hi hc260) zy_X10_remembered lc_215 rfl rfl wm_L_123 rfl rfl ⟨Nat.le_of_ble_eq_true rfl, Nat.le_of_ble_eq_true rfl⟩ ⟨Nat.le_refl _, Nat.le_refl _⟩ (Nat.le_of_ble_eq_true rfl) dL_law_892 ?_
          obtain ⟨hq261, hf⟩ := zgrd hf
          refine R_icmp_eqW X 1032 hq261 dL_law_895 (by decide) (fun c262 => ?_) (fun c262 => ?_)
          · have hf := zthen hf c262
            exact R_sub [0, 1, 2, 3] rfl (hB1032 (f_L_law_b18 xs L n) ih v3 M259 hf)
          · have hf := zelse hf c262
            refine R_iconst X dL_law_898 ?_
            exact absurd hf (by simp)
        have hf := zelse hf c263
        by_cases c275 : (iand (xs v3.toNat) 31) = 26
        · have hf := zthen hf c275
          refine R_tableIn X (o := 868) 900 c275 dL_law_32 (by decide) (by decide) (by decide) (by decide +kernel) (by decide) ?_
          refine R_aload_n X 1 dL_law_900 rfl rfl ?_
          refine R_aload_n X 0 dL_law_901 rfl rfl ?_
          refine R_iload_n X 3 dL_law_902 rfl rfl ?_
          refine R_iconst X dL_law_903 ?_
          refine R_iadd X dL_law_904 ?_
          obtain ⟨hq264, hf⟩ := zgrd hf
          refine R_sld X hX hbl hbA hq264 hL dL_law_905 ?_
          refine R_aload_n X 0 dL_law_906 rfl rfl ?_
          refine R_iload_n X 3 dL_law_907 rfl rfl ?_
          refine R_iconst X dL_law_908 ?_
          refine R_iadd X dL_law_909 ?_
          obtain ⟨hq265, hf⟩ := zgrd hf
          refine R_sld X hX hbl hbA hq265 hL dL_law_910 ?_
          refine R_aload_n X 0 dL_law_911 rfl rfl ?_
          refine R_iload_n X 3 dL_law_912 rfl rfl ?_
          refine R_iconst X dL_law_913 ?_
          refine R_iadd X dL_law_914 ?_
          obtain ⟨hq266, hf⟩ := zgrd hf
          refine R_sld X hX hbl hbA hq266 hL dL_law_915 ?_
          obtain ⟨r267, M268, hc269, hf⟩ := zbnd_some hf
          refine R_callVi X (av := [.int (zI (xs (v3 + 1).toNat)), .int (zI (xs (v3 + 2).toNat)), .int (zI (xs (v3 + 3).toNat))]) (rest := []) (c_X9_reach l D cas ad hi hc269) zy_X9_reach lc_0 rfl rfl wm_L_124 rfl rfl ⟨Nat.le_of_ble_eq_true rfl, Nat.le_of_ble_eq_true rfl⟩ ⟨Nat.le_refl _, Nat.le_refl _⟩ (Nat.le_of_ble_eq_true rfl) dL_law_916 ?_
          refine R_aload_n X 2 dL_law_919 rfl rfl ?_
          refine R_aload_n X 0 dL_law_920 rfl rfl ?_
          refine R_iload_n X 3 dL_law_921 rfl rfl ?_
          refine R_iconst X dL_law_922 ?_
          refine R_iadd X dL_law_923 ?_
          refine R_sld X hX hbl hbA hq264 hL dL_law_924 ?_
          refine R_aload_n X 0 dL_law_925 rfl rfl ?_
          refine R_iload_n X 3 dL_law_926 rfl rfl ?_
          refine R_iconst X dL_law_927 ?_
          refine R_iadd X dL_law_928 ?_
          refine R_sld X hX hbl hbA hq265 hL dL_law_929 ?_
          refine R_aload_n X 0 dL_law_930 rfl rfl ?_
          refine R_iload_n X 3 dL_law_931 rfl rfl ?_
          refine R_iconst X dL_law_932 ?_
          refine R_iadd X dL_law_933 ?_
          refine R_sld X hX hbl hbA hq266 hL dL_law_934 ?_
          obtain ⟨r270, M271, hc272, hf⟩ := zbnd_some hf
          refine R_callVi X (av := [.int (zI (xs (v3 + 1).toNat)), .int (zI (xs (v3 + 2).toNat)), .int (zI (xs (v3 + 3).toNat))]) (rest := [.int (zI r267)]) (c_X10_reach l D cas ad hi hc272) zy_X10_reach lc_215 rfl rfl wm_L_127 rfl rfl ⟨Nat.le_of_ble_eq_true rfl, Nat.le_of_ble_eq_true rfl⟩ ⟨Nat.le_refl _, Nat.le_refl _⟩ (Nat.le_of_ble_eq_true rfl) dL_law_935 ?_
          obtain ⟨hq273, hf⟩ := zgrd hf
          refine R_icmp_eqW X 1032 hq273 dL_law_938 (by decide) (fun c274 => ?_) (fun c274 => ?_)
          · have hf := zthen hf c274
            exact R_sub [0, 1, 2, 3] rfl (hB1032 (f_L_law_b18 xs L n) ih v3 M271 hf)
          · have hf := zelse hf c274
            refine R_iconst X dL_law_941 ?_
            exact absurd hf (by simp)
        have hf := zelse hf c275
        by_cases c287 : (iand (xs v3.toNat) 31) = 27
        · have hf := zthen hf c287
          refine R_tableIn X (o := 911) 943 c287 dL_law_32 (by decide) (by decide) (by decide) (by decide +kernel) (by decide) ?_
          refine R_aload_n X 1 dL_law_943 rfl rfl ?_
          refine R_aload_n X 0 dL_law_944 rfl rfl ?_
          refine R_iload_n X 3 dL_law_945 rfl rfl ?_
          refine R_iconst X dL_law_946 ?_
          refine R_iadd X dL_law_947 ?_
          obtain ⟨hq276, hf⟩ := zgrd hf
          refine R_sld X hX hbl hbA hq276 hL dL_law_948 ?_
          refine R_aload_n X 0 dL_law_949 rfl rfl ?_
          refine R_iload_n X 3 dL_law_950 rfl rfl ?_
          refine R_iconst X dL_law_951 ?_
          refine R_iadd X dL_law_952 ?_
          obtain ⟨hq277, hf⟩ := zgrd hf
          refine R_sld X hX hbl hbA hq277 hL dL_law_953 ?_
          refine R_aload_n X 0 dL_law_954 rfl rfl ?_
          refine R_iload_n X 3 dL_law_955 rfl rfl ?_
          refine R_iconst X dL_law_956 ?_
          refine R_iadd X dL_law_957 ?_
          obtain ⟨hq278, hf⟩ := zgrd hf
          refine R_sld X hX hbl hbA hq278 hL dL_law_958 ?_
          obtain ⟨r279, M280, hc281, hf⟩ := zbnd_some hf
          refine R_callVi X (av := [.int (zI (xs (v3 + 1).toNat)), .int (zI (xs (v3 + 2).toNat)), .int (zI (xs (v3 + 3).toNat))]) (rest := []) (c_X9_way l D cas ad hi hc281) zy_X9_way lc_0 rfl rfl wm_L_128 rfl rfl ⟨Nat.le_of_ble_eq_true rfl, Nat.le_of_ble_eq_true rfl⟩ ⟨Nat.le_refl _, Nat.le_refl _⟩ (Nat.le_of_ble_eq_true rfl) dL_law_959 ?_
          refine R_aload_n X 2 dL_law_962 rfl rfl ?_
          refine R_aload_n X 0 dL_law_963 rfl rfl ?_
          refine R_iload_n X 3 dL_law_964 rfl rfl ?_
          refine R_iconst X dL_law_965 ?_
          refine R_iadd X dL_law_966 ?_
          refine R_sld X hX hbl hbA hq276 hL dL_law_967 ?_
          refine R_aload_n X 0 dL_law_968 rfl rfl ?_
          refine R_iload_n X 3 dL_law_969 rfl rfl ?_
          refine R_iconst X dL_law_970 ?_
          refine R_iadd X dL_law_971 ?_
          refine R_sld X hX hbl hbA hq277 hL dL_law_972 ?_
          refine R_aload_n X 0 dL_law_973 rfl rfl ?_
          refine R_iload_n X 3 dL_law_974 rfl rfl ?_
          refine R_iconst X dL_law_975 ?_
          refine R_iadd X dL_law_976 ?_
          refine R_sld X hX hbl hbA hq278 hL dL_law_977 ?_
          obtain ⟨r282, M283, hc284, hf⟩ := zbnd_some hf
          refine R_callVi X (av := [.int (zI (xs (v3 + 1).toNat)), .int (zI (xs (v3 + 2).toNat)), .int (zI (xs (v3 + 3).toNat))]) (rest := [.int (zI r279)]) (c_X10_way l D cas ad hi hc284) zy_X10_way lc_215 rfl rfl wm_L_131 rfl rfl ⟨Nat.le_of_ble_eq_true rfl, Nat.le_of_ble_eq_true rfl⟩ ⟨Nat.le_refl _, Nat.le_refl _⟩ (Nat.le_of_ble_eq_true rfl) dL_law_978 ?_
          obtain ⟨hq285, hf⟩ := zgrd hf
          refine R_icmp_eqW X 1032 hq285 dL_law_981 (by decide) (fun c286 => ?_) (fun c286 => ?_)
          · have hf := zthen hf c286
            exact R_sub [0, 1, 2, 3] rfl (hB1032 (f_L_law_b18 xs L n) ih v3 M283 hf)
          · have hf := zelse hf c286
            refine R_iconst X dL_law_984 ?_
            exact absurd hf (by simp)
        have hf := zelse hf c287
        by_cases c297 : (iand (xs v3.toNat) 31) = 28
        · have hf := zthen hf c297
          refine R_tableIn X (o := 954) 986 c297 dL_law_32 (by decide) (by decide) (by decide) (by decide +kernel) (by decide) ?_
          refine R_aload_n X 1 dL_law_986 rfl rfl ?_
          refine R_aload_n X 0 dL_law_987 rfl rfl ?_
          refine R_iload_n X 3 dL_law_988 rfl rfl ?_
          refine R_iconst X dL_law_989 ?_
          refine R_iadd X dL_law_990 ?_
          obtain ⟨hq288, hf⟩ := zgrd hf
          refine R_sld X hX hbl hbA hq288 hL dL_law_991 ?_
          obtain ⟨r289, M290, hc291, hf⟩ := zbnd_some hf
          refine R_callVi X (av := [.int (zI (xs (v3 + 1).toNat))]) (rest := []) (c_X9_movesIn l D cas ad hi hc291) zy_X9_movesIn lc_0 rfl rfl wm_L_132 rfl rfl ⟨Nat.le_of_ble_eq_true rfl, Nat.le_of_ble_eq_true rfl⟩ ⟨Nat.le_refl _, Nat.le_refl _⟩ (Nat.le_of_ble_eq_true rfl) dL_law_992 ?_
          refine R_aload_n X 2 dL_law_995 rfl rfl ?_
          refine R_aload_n X 0 dL_law_996 rfl rfl ?_
          refine R_iload_n X 3 dL_law_997 rfl rfl ?_
          refine R_iconst X dL_law_998 ?_
          refine R_iadd X dL_law_999 ?_
          refine R_sld X hX hbl hbA hq288 hL dL_law_1000 ?_
          obtain ⟨r292, M293, hc294, hf⟩ := zbnd_some hf
          refine R_callVi X (av := [.int (zI (xs (v3 + 1).toNat))]) (rest := [.int (zI r289)]) (c_X10_movesIn l D cas ad hi hc294) zy_X10_movesIn lc_215 rfl rfl wm_L_135 rfl rfl ⟨Nat.le_of_ble_eq_true rfl, Nat.le_of_ble_eq_true rfl⟩ ⟨Nat.le_refl _, Nat.le_refl _⟩ (Nat.le_of_ble_eq_true rfl) dL_law_1001 ?_
          obtain ⟨hq295, hf⟩ := zgrd hf
          refine R_icmp_eqW X 1032 hq295 dL_law_1004 (by decide) (fun c296 => ?_) (fun c296 => ?_)
          · have hf := zthen hf c296
            exact R_sub [0, 1, 2, 3] rfl (hB1032 (f_L_law_b18 xs L n) ih v3 M293 hf)
          · have hf := zelse hf c296
            refine R_iconst X dL_law_1007 ?_
            exact absurd hf (by simp)
        have hf := zelse hf c297
        by_cases c307 : (iand (xs v3.toNat) 31) = 29
        · have hf := zthen hf c307
          refine R_tableIn X (o := 977) 1009 c307 dL_law_32 (by decide) (by decide) (by decide) (by decide +kernel) (by decide) ?_
          refine R_aload_n X 1 dL_law_1009 rfl rfl ?_
          refine R_aload_n X 0 dL_law_1010 rfl rfl ?_
          refine R_iload_n X 3 dL_law_1011 rfl rfl ?_
          refine R_iconst X dL_law_1012 ?_
          refine R_iadd X dL_law_1013 ?_
          obtain ⟨hq298, hf⟩ := zgrd hf
          refine R_sld X hX hbl hbA hq298 hL dL_law_1014 ?_
          obtain ⟨r299, M300, hc301, hf⟩ := zbnd_some hf
          refine R_callVi X (av := [.int (zI (xs (v3 + 1).toNat))]) (rest := []) (c_X9_count l D cas ad hi hc301) zy_X9_count lc_0 rfl rfl wm_L_136 rfl rfl ⟨Nat.le_of_ble_eq_true rfl, Nat.le_of_ble_eq_true rfl⟩ ⟨Nat.le_refl _, Nat.le_refl _⟩ (Nat.le_of_ble_eq_true rfl) dL_law_1015 ?_
          refine R_aload_n X 2 dL_law_1018 rfl rfl ?_
          refine R_aload_n X 0 dL_law_1019 rfl rfl ?_
          refine R_iload_n X 3 dL_law_1020 rfl rfl ?_
          refine R_iconst X dL_law_1021 ?_
          refine R_iadd X dL_law_1022 ?_
          refine R_sld X hX hbl hbA hq298 hL dL_law_1023 ?_
          obtain ⟨r302, M303, hc304, hf⟩ := zbnd_some hf
          refine R_callVi X (av := [.int (zI (xs (v3 + 1).toNat))]) (rest := [.int (zI r299)]) (c_X10_count l D cas ad hi hc304) zy_X10_count lc_215 rfl rfl wm_L_139 rfl rfl ⟨Nat.le_of_ble_eq_true rfl, Nat.le_of_ble_eq_true rfl⟩ ⟨Nat.le_refl _, Nat.le_refl _⟩ (Nat.le_of_ble_eq_true rfl) dL_law_1024 ?_
          obtain ⟨hq305, hf⟩ := zgrd hf
          refine R_icmp_eqW X 1032 hq305 dL_law_1027 (by decide) (fun c306 => ?_) (fun c306 => ?_)
          · have hf := zthen hf c306
            exact R_sub [0, 1, 2, 3] rfl (hB1032 (f_L_law_b18 xs L n) ih v3 M303 hf)
          · have hf := zelse hf c306
            refine R_iconst X dL_law_1030 ?_
            exact absurd hf (by simp)
        have hf := zelse hf c307
        refine R_tableOut X 1032 hq4 dL_law_32 (by omega) (by decide) ?_
        exact R_sub [0, 1, 2, 3] rfl (hB1032 (f_L_law_b18 xs L n) ih v3 M hf)
  unfold f_L_law at hf
  refine R_iconst X dL_law_16 ?_
  refine R_istore_n X (lv' := [(3, .int (zI 0)), (0, .ref b), (1, .ref (ad 0)), (2, .ref (ad 215))]) dL_law_17 rfl (by decide) rfl ?_
  exact R_sub [1, 2, 3, 0] rfl (hB18 100000 0 M hf)
