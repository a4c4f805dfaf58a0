theorem wm_L_104 : Cond.methodLink "ShardTrailsLaw" 104 yL_cell ∈ wsU := wsU_c3 176 rfl rfl
theorem wm_L_123 : Cond.methodLink "ShardTrailsLaw" 123 yX9_keep ∈ wsU := wsU_c3 91 rfl rfl
theorem zy_X9_keep : zyV yX9_keep cX9_keep 1 0 (some .int) := ⟨wsU_c3 94 rfl rfl, wsU_c3 92 rfl rfl, wsU_c3 93 rfl rfl, wsU_c1 1 rfl rfl, by decide +kernel⟩
theorem wm_L_126 : Cond.methodLink "ShardTrailsLaw" 126 yX9_restore ∈ wsU := wsU_c3 96 rfl rfl
theorem zy_X9_restore : zyV yX9_restore cX9_restore 1 0 (some .int) := ⟨wsU_c3 99 rfl rfl, wsU_c3 97 rfl rfl, wsU_c3 98 rfl rfl, wsU_c1 1 rfl rfl, by decide +kernel⟩
theorem wm_L_129 : Cond.methodLink "ShardTrailsLaw" 129 yX9_value ∈ wsU := wsU_c3 138 rfl rfl
theorem zy_X9_value : zyV yX9_value cX9_value 2 1 (some .int) := ⟨wsU_c3 141 rfl rfl, wsU_c3 139 rfl rfl, wsU_c3 140 rfl rfl, wsU_c1 1 rfl rfl, by decide +kernel⟩
theorem wm_L_108 : Cond.methodLink "ShardTrailsLaw" 108 yL_acts ∈ wsU := wsU_c3 211 rfl rfl
theorem zy_L_acts : zyS yL_acts cL_acts 5 2 (some .int) := ⟨wsU_c3 213 rfl rfl, wsU_c3 212 rfl rfl, wsU_c1 0 rfl rfl, by decide +kernel⟩
theorem wm_L_112 : Cond.methodLink "ShardTrailsLaw" 112 yL_isSound ∈ wsU := wsU_c3 198 rfl rfl
theorem zy_L_isSound : zyS yL_isSound cL_isSound 9 1 (some .boolean) := ⟨wsU_c3 200 rfl rfl, wsU_c3 199 rfl rfl, wsU_c1 0 rfl rfl, by decide +kernel⟩
theorem wm_L_116 : Cond.methodLink "ShardTrailsLaw" 116 yL_isReached ∈ wsU := wsU_c3 201 rfl rfl
theorem zy_L_isReached : zyS yL_isReached cL_isReached 16 2 (some .boolean) := ⟨wsU_c3 203 rfl rfl, wsU_c3 202 rfl rfl, wsU_c1 0 rfl rfl, by decide +kernel⟩
theorem wm_L_120 : Cond.methodLink "ShardTrailsLaw" 120 yL_isForetold ∈ wsU := wsU_c3 208 rfl rfl
theorem zy_L_isForetold : zyS yL_isForetold cL_isForetold 9 2 (some .boolean) := ⟨wsU_c3 210 rfl rfl, wsU_c3 209 rfl rfl, wsU_c1 0 rfl rfl, by decide +kernel⟩
theorem zy_L_cell : zyS yL_cell cL_cell 2 2 (some .int) := ⟨wsU_c3 178 rfl rfl, wsU_c3 177 rfl rfl, wsU_c1 0 rfl rfl, by decide +kernel⟩
theorem wc_L_13 : Cond.classLink "ShardTrailsLaw" 13 "ShardTrails" ∈ wsU := wsU_c1 14 rfl rfl
theorem wm_L_103 : Cond.methodLink "ShardTrailsLaw" 103 yX9_init ∈ wsU := wsU_c1 16 rfl rfl
theorem wi_9 : Cond.instantiable "ShardTrails" 7 ∈ wsU := wsU_c1 15 rfl rfl
theorem wz_9 : Cond.initialized "ShardTrails" ∈ wsU := wsU_c1 1 rfl rfl
theorem dv_9 : ∀ j, j < 7 → defaultValue (tyX9 j) = if off 9 j = 0 then Value.int 0 else Value.null := by decide +kernel
theorem zyi_X9_init : zyI yX9_init cX9_init 1 := ⟨wsU_c1 18 rfl rfl, wsU_c1 17 rfl rfl, wsU_c1 1 rfl rfl, rfl, by decide +kernel⟩
theorem dL_cell_0 : decode cL_cell 0 = .ok (.iload_n 1, 1) := by decide +kernel
theorem dL_cell_1 : decode cL_cell 1 = .ok (.aload_n 0, 1) := by decide +kernel
theorem dL_cell_2 : decode cL_cell 2 = .ok (.arraylength, 1) := by decide +kernel
theorem dL_cell_3 : decode cL_cell 3 = .ok (.if_icmp .ge 9, 3) := by decide +kernel
theorem dL_cell_6 : decode cL_cell 6 = .ok (.aload_n 0, 1) := by decide +kernel
theorem dL_cell_7 : decode cL_cell 7 = .ok (.iload_n 1, 1) := by decide +kernel
theorem dL_cell_8 : decode cL_cell 8 = .ok (.iaload, 1) := by decide +kernel
theorem dL_cell_9 : decode cL_cell 9 = .ok (.goto 15, 3) := by decide +kernel
theorem dL_cell_12 : decode cL_cell 12 = .ok (.sipush 7919, 3) := by decide +kernel
theorem dL_cell_15 : decode cL_cell 15 = .ok (.iload_n 1, 1) := by decide +kernel
theorem dL_cell_16 : decode cL_cell 16 = .ok (.iconst 3, 1) := by decide +kernel
theorem dL_cell_17 : decode cL_cell 17 = .ok (.iadd, 1) := by decide +kernel
theorem dL_cell_18 : decode cL_cell 18 = .ok (.imul, 1) := by decide +kernel
theorem dL_cell_19 : decode cL_cell 19 = .ok (.iload_n 1, 1) := by decide +kernel
theorem dL_cell_20 : decode cL_cell 20 = .ok (.bipush 19, 2) := by decide +kernel
theorem dL_cell_22 : decode cL_cell 22 = .ok (.iadd, 1) := by decide +kernel
theorem dL_cell_23 : decode cL_cell 23 = .ok (.imul, 1) := by decide +kernel
theorem dL_cell_24 : decode cL_cell 24 = .ok (.ireturn, 1) := by decide +kernel
theorem dL_law_8 : decode cL_law 8 = .ok (.aload_n 0, 1) := by decide +kernel
theorem dL_law_9 : decode cL_law 9 = .ok (.iconst 0, 1) := by decide +kernel
theorem dL_law_10 : decode cL_law 10 = .ok (.invokestatic 104, 3) := by decide +kernel
theorem dL_law_13 : decode cL_law 13 = .ok (.istore_n 2, 1) := by decide +kernel
theorem dL_law_14 : decode cL_law 14 = .ok (.iconst 2, 1) := by decide +kernel
theorem dL_law_15 : decode cL_law 15 = .ok (.iload_n 2, 1) := by decide +kernel
theorem dL_law_16 : decode cL_law 16 = .ok (.iconst 3, 1) := by decide +kernel
theorem dL_law_17 : decode cL_law 17 = .ok (.invokestatic 45, 3) := by decide +kernel
theorem dL_law_20 : decode cL_law 20 = .ok (.iadd, 1) := by decide +kernel
theorem dL_law_21 : decode cL_law 21 = .ok (.istore_n 3, 1) := by decide +kernel
theorem dL_law_22 : decode cL_law 22 = .ok (.iconst 1, 1) := by decide +kernel
theorem dL_law_23 : decode cL_law 23 = .ok (.istore 4, 2) := by decide +kernel
theorem dL_law_25 : decode cL_law 25 = .ok (.iload 4, 2) := by decide +kernel
theorem dL_law_27 : decode cL_law 27 = .ok (.iload_n 3, 1) := by decide +kernel
theorem dL_law_28 : decode cL_law 28 = .ok (.if_icmp .ge 59, 3) := by decide +kernel
theorem dL_law_31 : decode cL_law 31 = .ok (.aload_n 1, 1) := by decide +kernel
theorem dL_law_32 : decode cL_law 32 = .ok (.iload_n 2, 1) := by decide +kernel
theorem dL_law_33 : decode cL_law 33 = .ok (.iconst 2, 1) := by decide +kernel
theorem dL_law_34 : decode cL_law 34 = .ok (.iconst 5, 1) := by decide +kernel
theorem dL_law_35 : decode cL_law 35 = .ok (.iload 4, 2) := by decide +kernel
theorem dL_law_37 : decode cL_law 37 = .ok (.imul, 1) := by decide +kernel
theorem dL_law_38 : decode cL_law 38 = .ok (.iadd, 1) := by decide +kernel
theorem dL_law_39 : decode cL_law 39 = .ok (.ishr, 1) := by decide +kernel
theorem dL_law_40 : decode cL_law 40 = .ok (.bipush 91, 2) := by decide +kernel
theorem dL_law_42 : decode cL_law 42 = .ok (.invokestatic 45, 3) := by decide +kernel
theorem dL_law_45 : decode cL_law 45 = .ok (.iconst 1, 1) := by decide +kernel
theorem dL_law_46 : decode cL_law 46 = .ok (.iload_n 2, 1) := by decide +kernel
theorem dL_law_47 : decode cL_law 47 = .ok (.iconst 4, 1) := by decide +kernel
theorem dL_law_48 : decode cL_law 48 = .ok (.iconst 4, 1) := by decide +kernel
theorem dL_law_49 : decode cL_law 49 = .ok (.iload 4, 2) := by decide +kernel
theorem dL_law_51 : decode cL_law 51 = .ok (.imul, 1) := by decide +kernel
theorem dL_law_52 : decode cL_law 52 = .ok (.iadd, 1) := by decide +kernel
theorem dL_law_53 : decode cL_law 53 = .ok (.ishr, 1) := by decide +kernel
theorem dL_law_54 : decode cL_law 54 = .ok (.bipush 16, 2) := by decide +kernel
theorem dL_law_56 : decode cL_law 56 = .ok (.invokestatic 45, 3) := by decide +kernel
theorem dL_law_59 : decode cL_law 59 = .ok (.iadd, 1) := by decide +kernel
theorem dL_law_60 : decode cL_law 60 = .ok (.iload_n 2, 1) := by decide +kernel
theorem dL_law_61 : decode cL_law 61 = .ok (.iconst 3, 1) := by decide +kernel
theorem dL_law_62 : decode cL_law 62 = .ok (.iload 4, 2) := by decide +kernel
theorem dL_law_64 : decode cL_law 64 = .ok (.iadd, 1) := by decide +kernel
theorem dL_law_65 : decode cL_law 65 = .ok (.ishr, 1) := by decide +kernel
theorem dL_law_66 : decode cL_law 66 = .ok (.iconst 1, 1) := by decide +kernel
theorem dL_law_67 : decode cL_law 67 = .ok (.iand, 1) := by decide +kernel
theorem dL_law_68 : decode cL_law 68 = .ok (.iconst 1, 1) := by decide +kernel
theorem dL_law_69 : decode cL_law 69 = .ok (.if_icmp .ne 7, 3) := by decide +kernel
theorem dL_law_72 : decode cL_law 72 = .ok (.iconst 1, 1) := by decide +kernel
theorem dL_law_73 : decode cL_law 73 = .ok (.goto 4, 3) := by decide +kernel
theorem dL_law_76 : decode cL_law 76 = .ok (.iconst 0, 1) := by decide +kernel
theorem dL_law_77 : decode cL_law 77 = .ok (.invokevirtual 65, 3) := by decide +kernel
theorem dL_law_80 : decode cL_law 80 = .ok (.pop, 1) := by decide +kernel
theorem dL_law_81 : decode cL_law 81 = .ok (.iinc 4 1, 3) := by decide +kernel
theorem dL_law_84 : decode cL_law 84 = .ok (.goto (-59), 3) := by decide +kernel
theorem dL_law_87 : decode cL_law 87 = .ok (.aload_n 1, 1) := by decide +kernel
theorem dL_law_88 : decode cL_law 88 = .ok (.iconst 0, 1) := by decide +kernel
theorem dL_law_89 : decode cL_law 89 = .ok (.invokevirtual 82, 3) := by decide +kernel
theorem dL_law_92 : decode cL_law 92 = .ok (.pop, 1) := by decide +kernel
theorem dL_law_93 : decode cL_law 93 = .ok (.aload_n 1, 1) := by decide +kernel
theorem dL_law_94 : decode cL_law 94 = .ok (.iload_n 3, 1) := by decide +kernel
theorem dL_law_95 : decode cL_law 95 = .ok (.iconst 1, 1) := by decide +kernel
theorem dL_law_96 : decode cL_law 96 = .ok (.isub, 1) := by decide +kernel
theorem dL_law_97 : decode cL_law 97 = .ok (.invokevirtual 82, 3) := by decide +kernel
theorem dL_law_100 : decode cL_law 100 = .ok (.pop, 1) := by decide +kernel
theorem dL_law_101 : decode cL_law 101 = .ok (.iconst 0, 1) := by decide +kernel
theorem dL_law_102 : decode cL_law 102 = .ok (.istore 4, 2) := by decide +kernel
theorem dL_law_104 : decode cL_law 104 = .ok (.iload 4, 2) := by decide +kernel
theorem dL_law_106 : decode cL_law 106 = .ok (.bipush 24, 2) := by decide +kernel
theorem dL_law_108 : decode cL_law 108 = .ok (.if_icmp .ge 133, 3) := by decide +kernel
theorem dL_law_111 : decode cL_law 111 = .ok (.aload_n 0, 1) := by decide +kernel
theorem dL_law_112 : decode cL_law 112 = .ok (.iconst 1, 1) := by decide +kernel
theorem dL_law_113 : decode cL_law 113 = .ok (.iload 4, 2) := by decide +kernel
theorem dL_law_115 : decode cL_law 115 = .ok (.iadd, 1) := by decide +kernel
theorem dL_law_116 : decode cL_law 116 = .ok (.invokestatic 104, 3) := by decide +kernel
theorem dL_law_119 : decode cL_law 119 = .ok (.istore 5, 2) := by decide +kernel
theorem dL_law_121 : decode cL_law 121 = .ok (.aload_n 1, 1) := by decide +kernel
theorem dL_law_122 : decode cL_law 122 = .ok (.invokestatic 48, 3) := by decide +kernel
theorem dL_law_125 : decode cL_law 125 = .ok (.lstore 6, 2) := by decide +kernel
theorem dL_law_127 : decode cL_law 127 = .ok (.aload_n 1, 1) := by decide +kernel
theorem dL_law_128 : decode cL_law 128 = .ok (.iload 5, 2) := by decide +kernel
theorem dL_law_130 : decode cL_law 130 = .ok (.invokestatic 108, 3) := by decide +kernel
theorem dL_law_133 : decode cL_law 133 = .ok (.istore 8, 2) := by decide +kernel
theorem dL_law_135 : decode cL_law 135 = .ok (.iload 8, 2) := by decide +kernel
theorem dL_law_137 : decode cL_law 137 = .ok (.ifCond .ge 15, 3) := by decide +kernel
theorem dL_law_140 : decode cL_law 140 = .ok (.aload_n 1, 1) := by decide +kernel
theorem dL_law_141 : decode cL_law 141 = .ok (.invokestatic 48, 3) := by decide +kernel
theorem dL_law_144 : decode cL_law 144 = .ok (.lload 6, 2) := by decide +kernel
theorem dL_law_146 : decode cL_law 146 = .ok (.lcmp, 1) := by decide +kernel
theorem dL_law_147 : decode cL_law 147 = .ok (.ifCond .eq 5, 3) := by decide +kernel
theorem dL_law_150 : decode cL_law 150 = .ok (.iconst 0, 1) := by decide +kernel
theorem dL_law_151 : decode cL_law 151 = .ok (.ireturn, 1) := by decide +kernel
theorem dL_law_152 : decode cL_law 152 = .ok (.iload 8, 2) := by decide +kernel
theorem dL_law_154 : decode cL_law 154 = .ok (.ifCond .lt 32, 3) := by decide +kernel
theorem dL_law_157 : decode cL_law 157 = .ok (.iload 5, 2) := by decide +kernel
theorem dL_law_159 : decode cL_law 159 = .ok (.bipush 28, 2) := by decide +kernel
theorem dL_law_161 : decode cL_law 161 = .ok (.ishr, 1) := by decide +kernel
theorem dL_law_162 : decode cL_law 162 = .ok (.iconst 3, 1) := by decide +kernel
theorem dL_law_163 : decode cL_law 163 = .ok (.iand, 1) := by decide +kernel
theorem dL_law_164 : decode cL_law 164 = .ok (.ifCond .ne 22, 3) := by decide +kernel
theorem dL_law_167 : decode cL_law 167 = .ok (.aload_n 1, 1) := by decide +kernel
theorem dL_law_168 : decode cL_law 168 = .ok (.invokevirtual 55, 3) := by decide +kernel
theorem dL_law_171 : decode cL_law 171 = .ok (.ifCond .lt 13, 3) := by decide +kernel
theorem dL_law_174 : decode cL_law 174 = .ok (.aload_n 1, 1) := by decide +kernel
theorem dL_law_175 : decode cL_law 175 = .ok (.invokestatic 48, 3) := by decide +kernel
theorem dL_law_178 : decode cL_law 178 = .ok (.lload 6, 2) := by decide +kernel
theorem dL_law_180 : decode cL_law 180 = .ok (.lcmp, 1) := by decide +kernel
theorem dL_law_181 : decode cL_law 181 = .ok (.ifCond .eq 5, 3) := by decide +kernel
theorem dL_law_184 : decode cL_law 184 = .ok (.iconst 0, 1) := by decide +kernel
theorem dL_law_185 : decode cL_law 185 = .ok (.ireturn, 1) := by decide +kernel
theorem dL_law_186 : decode cL_law 186 = .ok (.iload 4, 2) := by decide +kernel
theorem dL_law_188 : decode cL_law 188 = .ok (.iconst 4, 1) := by decide +kernel
theorem dL_law_189 : decode cL_law 189 = .ok (.irem, 1) := by decide +kernel
theorem dL_law_190 : decode cL_law 190 = .ok (.iconst 2, 1) := by decide +kernel
theorem dL_law_191 : decode cL_law 191 = .ok (.if_icmp .ne 22, 3) := by decide +kernel
theorem dL_law_194 : decode cL_law 194 = .ok (.aload_n 1, 1) := by decide +kernel
theorem dL_law_195 : decode cL_law 195 = .ok (.invokestatic 112, 3) := by decide +kernel
theorem dL_law_198 : decode cL_law 198 = .ok (.ifCond .eq 35, 3) := by decide +kernel
theorem dL_law_201 : decode cL_law 201 = .ok (.aload_n 1, 1) := by decide +kernel
theorem dL_law_202 : decode cL_law 202 = .ok (.iload 5, 2) := by decide +kernel
theorem dL_law_204 : decode cL_law 204 = .ok (.bipush 7, 2) := by decide +kernel
theorem dL_law_206 : decode cL_law 206 = .ok (.ishr, 1) := by decide +kernel
theorem dL_law_207 : decode cL_law 207 = .ok (.invokestatic 116, 3) := by decide +kernel
theorem dL_law_210 : decode cL_law 210 = .ok (.ifCond .eq 23, 3) := by decide +kernel
theorem dL_law_213 : decode cL_law 213 = .ok (.iload 4, 2) := by decide +kernel
theorem dL_law_215 : decode cL_law 215 = .ok (.bipush 12, 2) := by decide +kernel
theorem dL_law_217 : decode cL_law 217 = .ok (.irem, 1) := by decide +kernel
theorem dL_law_218 : decode cL_law 218 = .ok (.iconst 5, 1) := by decide +kernel
theorem dL_law_219 : decode cL_law 219 = .ok (.if_icmp .ne 16, 3) := by decide +kernel
theorem dL_law_222 : decode cL_law 222 = .ok (.aload_n 1, 1) := by decide +kernel
theorem dL_law_223 : decode cL_law 223 = .ok (.iload 5, 2) := by decide +kernel
theorem dL_law_225 : decode cL_law 225 = .ok (.iconst 5, 1) := by decide +kernel
theorem dL_law_226 : decode cL_law 226 = .ok (.ishr, 1) := by decide +kernel
theorem dL_law_227 : decode cL_law 227 = .ok (.invokestatic 120, 3) := by decide +kernel
theorem dL_law_230 : decode cL_law 230 = .ok (.ifCond .ne 5, 3) := by decide +kernel
theorem dL_law_233 : decode cL_law 233 = .ok (.iconst 0, 1) := by decide +kernel
theorem dL_law_234 : decode cL_law 234 = .ok (.ireturn, 1) := by decide +kernel
theorem dL_law_235 : decode cL_law 235 = .ok (.iinc 4 1, 3) := by decide +kernel
theorem dL_law_238 : decode cL_law 238 = .ok (.goto (-134), 3) := by decide +kernel
theorem dL_law_241 : decode cL_law 241 = .ok (.aload_n 1, 1) := by decide +kernel
theorem dL_law_242 : decode cL_law 242 = .ok (.invokestatic 48, 3) := by decide +kernel
theorem dL_law_245 : decode cL_law 245 = .ok (.lstore 4, 2) := by decide +kernel
theorem dL_law_247 : decode cL_law 247 = .ok (.aload_n 1, 1) := by decide +kernel
theorem dL_law_248 : decode cL_law 248 = .ok (.invokevirtual 123, 3) := by decide +kernel
theorem dL_law_251 : decode cL_law 251 = .ok (.aload_n 1, 1) := by decide +kernel
theorem dL_law_252 : decode cL_law 252 = .ok (.iconst 0, 1) := by decide +kernel
theorem dL_law_253 : decode cL_law 253 = .ok (.invokevirtual 12, 3) := by decide +kernel
theorem dL_law_256 : decode cL_law 256 = .ok (.if_icmp .eq 5, 3) := by decide +kernel
theorem dL_law_259 : decode cL_law 259 = .ok (.iconst 0, 1) := by decide +kernel
theorem dL_law_260 : decode cL_law 260 = .ok (.ireturn, 1) := by decide +kernel
theorem dL_law_261 : decode cL_law 261 = .ok (.aload_n 1, 1) := by decide +kernel
theorem dL_law_262 : decode cL_law 262 = .ok (.iconst 3, 1) := by decide +kernel
theorem dL_law_263 : decode cL_law 263 = .ok (.invokevirtual 62, 3) := by decide +kernel
theorem dL_law_266 : decode cL_law 266 = .ok (.pop, 1) := by decide +kernel
theorem dL_law_267 : decode cL_law 267 = .ok (.aload_n 1, 1) := by decide +kernel
theorem dL_law_268 : decode cL_law 268 = .ok (.iconst 0, 1) := by decide +kernel
theorem dL_law_269 : decode cL_law 269 = .ok (.iconst 5, 1) := by decide +kernel
theorem dL_law_270 : decode cL_law 270 = .ok (.invokevirtual 52, 3) := by decide +kernel
theorem dL_law_273 : decode cL_law 273 = .ok (.pop, 1) := by decide +kernel
theorem dL_law_274 : decode cL_law 274 = .ok (.aload_n 1, 1) := by decide +kernel
theorem dL_law_275 : decode cL_law 275 = .ok (.invokevirtual 126, 3) := by decide +kernel
theorem dL_law_278 : decode cL_law 278 = .ok (.aload_n 1, 1) := by decide +kernel
theorem dL_law_279 : decode cL_law 279 = .ok (.iconst 0, 1) := by decide +kernel
theorem dL_law_280 : decode cL_law 280 = .ok (.invokevirtual 12, 3) := by decide +kernel
theorem dL_law_283 : decode cL_law 283 = .ok (.if_icmp .ne 142, 3) := by decide +kernel
theorem dL_law_286 : decode cL_law 286 = .ok (.aload_n 1, 1) := by decide +kernel
theorem dL_law_287 : decode cL_law 287 = .ok (.invokestatic 48, 3) := by decide +kernel
theorem dL_law_290 : decode cL_law 290 = .ok (.lload 4, 2) := by decide +kernel
theorem dL_law_292 : decode cL_law 292 = .ok (.lcmp, 1) := by decide +kernel
theorem dL_law_293 : decode cL_law 293 = .ok (.ifCond .ne 132, 3) := by decide +kernel
theorem dL_law_296 : decode cL_law 296 = .ok (.aload_n 1, 1) := by decide +kernel
theorem dL_law_297 : decode cL_law 297 = .ok (.invokevirtual 55, 3) := by decide +kernel
theorem dL_law_300 : decode cL_law 300 = .ok (.ifCond .lt 125, 3) := by decide +kernel
theorem dL_law_303 : decode cL_law 303 = .ok (.aload_n 1, 1) := by decide +kernel
theorem dL_law_304 : decode cL_law 304 = .ok (.invokevirtual 126, 3) := by decide +kernel
theorem dL_law_307 : decode cL_law 307 = .ok (.ifCond .lt 118, 3) := by decide +kernel
theorem dL_law_310 : decode cL_law 310 = .ok (.aload_n 1, 1) := by decide +kernel
theorem dL_law_311 : decode cL_law 311 = .ok (.invokestatic 48, 3) := by decide +kernel
theorem dL_law_314 : decode cL_law 314 = .ok (.lload 4, 2) := by decide +kernel
theorem dL_law_316 : decode cL_law 316 = .ok (.lcmp, 1) := by decide +kernel
theorem dL_law_317 : decode cL_law 317 = .ok (.ifCond .ne 108, 3) := by decide +kernel
theorem dL_law_320 : decode cL_law 320 = .ok (.aload_n 1, 1) := by decide +kernel
theorem dL_law_321 : decode cL_law 321 = .ok (.sipush 256, 3) := by decide +kernel
theorem dL_law_324 : decode cL_law 324 = .ok (.invokevirtual 129, 3) := by decide +kernel
theorem dL_law_327 : decode cL_law 327 = .ok (.iconst (-1), 1) := by decide +kernel
theorem dL_law_328 : decode cL_law 328 = .ok (.if_icmp .ne 97, 3) := by decide +kernel
theorem dL_law_331 : decode cL_law 331 = .ok (.aload_n 1, 1) := by decide +kernel
theorem dL_law_332 : decode cL_law 332 = .ok (.bipush 16, 2) := by decide +kernel
theorem dL_law_334 : decode cL_law 334 = .ok (.iconst 0, 1) := by decide +kernel
theorem dL_law_335 : decode cL_law 335 = .ok (.invokevirtual 26, 3) := by decide +kernel
theorem dL_law_338 : decode cL_law 338 = .ok (.iconst (-1), 1) := by decide +kernel
theorem dL_law_339 : decode cL_law 339 = .ok (.if_icmp .ne 86, 3) := by decide +kernel
theorem dL_law_342 : decode cL_law 342 = .ok (.aload_n 1, 1) := by decide +kernel
theorem dL_law_343 : decode cL_law 343 = .ok (.iconst 0, 1) := by decide +kernel
theorem dL_law_344 : decode cL_law 344 = .ok (.bipush 7, 2) := by decide +kernel
theorem dL_law_346 : decode cL_law 346 = .ok (.invokevirtual 26, 3) := by decide +kernel
theorem dL_law_349 : decode cL_law 349 = .ok (.bipush (-2), 2) := by decide +kernel
theorem dL_law_351 : decode cL_law 351 = .ok (.if_icmp .ne 74, 3) := by decide +kernel
theorem dL_law_354 : decode cL_law 354 = .ok (.aload_n 1, 1) := by decide +kernel
theorem dL_law_355 : decode cL_law 355 = .ok (.bipush 8, 2) := by decide +kernel
theorem dL_law_357 : decode cL_law 357 = .ok (.iconst 0, 1) := by decide +kernel
theorem dL_law_358 : decode cL_law 358 = .ok (.invokevirtual 18, 3) := by decide +kernel
theorem dL_law_361 : decode cL_law 361 = .ok (.iconst (-1), 1) := by decide +kernel
theorem dL_law_362 : decode cL_law 362 = .ok (.if_icmp .ne 63, 3) := by decide +kernel
theorem dL_law_365 : decode cL_law 365 = .ok (.aload_n 1, 1) := by decide +kernel
theorem dL_law_366 : decode cL_law 366 = .ok (.iconst 0, 1) := by decide +kernel
theorem dL_law_367 : decode cL_law 367 = .ok (.bipush 9, 2) := by decide +kernel
theorem dL_law_369 : decode cL_law 369 = .ok (.invokevirtual 18, 3) := by decide +kernel
theorem dL_law_372 : decode cL_law 372 = .ok (.bipush (-2), 2) := by decide +kernel
theorem dL_law_374 : decode cL_law 374 = .ok (.if_icmp .ne 51, 3) := by decide +kernel
theorem dL_law_377 : decode cL_law 377 = .ok (.aload_n 1, 1) := by decide +kernel
theorem dL_law_378 : decode cL_law 378 = .ok (.bipush 15, 2) := by decide +kernel
theorem dL_law_380 : decode cL_law 380 = .ok (.invokevirtual 12, 3) := by decide +kernel
theorem dL_law_383 : decode cL_law 383 = .ok (.bipush (-2), 2) := by decide +kernel
theorem dL_law_385 : decode cL_law 385 = .ok (.if_icmp .ne 40, 3) := by decide +kernel
theorem dL_law_388 : decode cL_law 388 = .ok (.aload_n 1, 1) := by decide +kernel
theorem dL_law_389 : decode cL_law 389 = .ok (.iconst 0, 1) := by decide +kernel
theorem dL_law_390 : decode cL_law 390 = .ok (.bipush 16, 2) := by decide +kernel
theorem dL_law_392 : decode cL_law 392 = .ok (.invokevirtual 31, 3) := by decide +kernel
theorem dL_law_395 : decode cL_law 395 = .ok (.iconst (-1), 1) := by decide +kernel
theorem dL_law_396 : decode cL_law 396 = .ok (.if_icmp .ne 29, 3) := by decide +kernel
theorem dL_law_399 : decode cL_law 399 = .ok (.aload_n 1, 1) := by decide +kernel
theorem dL_law_400 : decode cL_law 400 = .ok (.iconst 0, 1) := by decide +kernel
theorem dL_law_401 : decode cL_law 401 = .ok (.iconst 0, 1) := by decide +kernel
theorem dL_law_402 : decode cL_law 402 = .ok (.iconst (-1), 1) := by decide +kernel
theorem dL_law_403 : decode cL_law 403 = .ok (.invokevirtual 42, 3) := by decide +kernel
theorem dL_law_406 : decode cL_law 406 = .ok (.bipush (-2), 2) := by decide +kernel
theorem dL_law_408 : decode cL_law 408 = .ok (.if_icmp .ne 17, 3) := by decide +kernel
theorem dL_law_411 : decode cL_law 411 = .ok (.aload_n 1, 1) := by decide +kernel
theorem dL_law_412 : decode cL_law 412 = .ok (.bipush 16, 2) := by decide +kernel
theorem dL_law_414 : decode cL_law 414 = .ok (.invokevirtual 59, 3) := by decide +kernel
theorem dL_law_417 : decode cL_law 417 = .ok (.iconst (-1), 1) := by decide +kernel
theorem dL_law_418 : decode cL_law 418 = .ok (.if_icmp .ne 7, 3) := by decide +kernel
theorem dL_law_421 : decode cL_law 421 = .ok (.iconst 1, 1) := by decide +kernel
theorem dL_law_422 : decode cL_law 422 = .ok (.goto 4, 3) := by decide +kernel
theorem dL_law_425 : decode cL_law 425 = .ok (.iconst 0, 1) := by decide +kernel
theorem dL_law_426 : decode cL_law 426 = .ok (.ireturn, 1) := by decide +kernel
theorem c_L_cell (l : Launch) (D : va_G) (cas : Nat → ClassId) (ad : Nat → Nat) (hi : zInj ad) {b L : Nat} {xs : Nat → Int} (hL : L ≤ 2147483647) (hb : ¬ zA ad b) {k : Int} (hk : 0 ≤ k ∧ k < 1000) (M : Mem) : Met l yL_cell (zws yL_cell cL_cell 2 (some .int)) (zrm 0 0) (va_Pc [.ref b, .int (zI k)] (fun U => zPX D cas ad b L xs M U)) (zQi D cas ad (zcell xs L k) M) 0 0 (zA ad) := by
  refine Met.ofW (cc := cL_cell) (maxL := 2) (ret := some .int) (by decide) rfl ?_
  intro p e s m args below meth c s₁ B hml hv
  obtain ⟨rfl, ⟨hP, hK, hN, hST⟩, hX⟩ := hv
  have hts := atoms_spec (ws := zws yL_cell cL_cell 2 (some .int)) B.pre
  have X : zX p s m [Value.ref b, .int (zI k)].toArray c cL_cell "ShardTrailsLaw" 2 D cas ad (zA ad) := ⟨B.exec, B.bytes, hml, findClass_of_methodNamed B.named, fun w h => hts w (List.mem_cons_of_mem _ h), hK, hN, zD hi (fun _ h => h), fun _ h => h, hST⟩
  have hl := lv_entry ([Value.ref b, .int (zI k)]) (n := 2) (Nat.le_of_ble_eq_true rfl)
  have hr := B.returns
  have hk0 := B.notSynchronized
  have hbl : b < s.heap.size := (Array.getElem?_eq_some_iff.mp hX.choose_spec.1).1
  rw [lg_entry_eq]
  refine (?_ : WW p l e (zrm 0 0) s m [Value.ref b, .int (zI k)].toArray below meth c D cas ad (zA ad) 2 0 0 (MQ below (zQi D cas ad (zcell xs L k) M) [Value.ref b, .int (zI k)].toArray s 0 0 (zA ad)) 0 [(0, .ref b), (1, .int (zI k))] [] M) s.heap [] _ hP va_S.rf hl
  refine R_iload_n X 1 dL_cell_0 rfl rfl ?_
  refine R_aload_n X 0 dL_cell_1 rfl rfl ?_
  refine R_slen X hX hbl hb dL_cell_2 ?_
  refine R_icmp_ge X 12 ⟨⟨by omega, by omega⟩, ⟨by omega, by omega⟩⟩ dL_cell_3 (by decide) (fun c1 => ?_) (fun c1 => ?_)
  · have hz : zcell xs L k = 7919 * (k + 3) * (k + 19) := if_pos c1
    refine R_sipush X dL_cell_12 (by decide +kernel) ?_
    refine R_iload_n X 1 dL_cell_15 rfl rfl ?_
    refine R_iconst X dL_cell_16 ?_
    refine R_iadd X dL_cell_17 ?_
    refine R_imul X dL_cell_18 ?_
    refine R_iload_n X 1 dL_cell_19 rfl rfl ?_
    refine R_bipush X dL_cell_20 (by decide +kernel) ?_
    refine R_iadd X dL_cell_22 ?_
    refine R_imul X dL_cell_23 ?_
    exact R_iret X hr hk0 dL_cell_24 (by rw [hz])
  · have hz : zcell xs L k = xs k.toNat := if_neg c1
    refine R_aload_n X 0 dL_cell_6 rfl rfl ?_
    refine R_iload_n X 1 dL_cell_7 rfl rfl ?_
    refine R_sld X hX hbl hb ⟨hk.1, by omega⟩ hL dL_cell_8 ?_
    refine R_goto X 24 dL_cell_9 (by decide) ?_
    exact R_iret X hr hk0 dL_cell_24 (by rw [hz])
theorem R_callC {p : Program} {l : Launch} {e : Env} {R : Room} {s : State} {m : MethodId} {args : Array Value} {below : List Frame} {meth : Method} {c : Code} {D : va_G} {cas : Nat → ClassId} {ad : Nat → Nat} {A : Nat → Prop} {nL k0 n0 : Nat} {Q : State → Prop} {cc : ByteArray} {own : String} {pc : Nat} {lv : List (Nat × Value)} {rest : List Value} {M : Mem} (X : zX p s m args c cc own nL D cas ad A) {ix b L : Nat} {xs : Nat → Int} {k : Int} (hi : zInj ad) (hX : va_X b L (fun j => zI (xs j)) s s.heap) (hbl : b < s.heap.size) (hbA : ¬ A b) (hL : L ≤ 2147483647) (hk : 0 ≤ k ∧ k < 1000) (hlink : Cond.methodLink own ix yL_cell ∈ wsU) (hR : 0 + 1 ≤ R.frames ∧ 8 + (2 + 11) + 0 ≤ R.locals) (hcs : k0 ≤ R.cells ∧ n0 ≤ R.slots) (hw : (rest.map fun v => v.category).sum ≤ 8) (hd : decode cc pc = .ok (.invokestatic ix, 3)) (kk : WW p l e R s m args below meth c D cas ad A nL k0 n0 Q (pc + 3) lv (.int (zI (zcell xs L k)) :: rest) M) : WW p l e R s m args below meth c D cas ad A nL k0 n0 Q pc lv (.int (zI k) :: .ref b :: rest) M := by
  intro H locs ls hP hS hl
  refine va_calli (va_runS (As := [.ref b, .int (zI k)]) (rest := rest) ⟨X.1, X.2.1, X.2.2.1, X.2.2.2.1, X.2.2.2.2.1⟩ (c_L_cell l D cas ad hi hL (fun h => hbA (X.2.2.2.2.2.2.2.2.1 b h)) hk M) (zcwS X zy_L_cell hlink hR) ⟨zblindX, fun U hU hW => ⟨rfl, zend X hP hS hU hW, by rw [hU]; exact va_X.moved hW.alike (va_X.kept hX (hS.2.1 b hbl hbA))⟩⟩ rfl rfl hl.1 rfl (lv_room hw) hd hcs) hS (fun q _ h => X.2.2.2.2.2.2.2.2.1 q h) X.2.2.2.2.2.2.2.2.1 (fun r1 u t H1 locs1 ht _ hp hB _ _ hS1 => ?_)
  rw [hp]
  exact zafter X kk ht hB hS1 hl
set_option maxRecDepth 100000 in
set_option maxHeartbeats 4000000 in
theorem law_static {p : Program} {l : Launch} {e : Env} {s : State} {m : MethodId} {args : Array Value} {below : List Frame} {meth : Method} {c : Code} {D : va_G} {cas : Nat → ClassId} {ad : Nat → Nat} {A : Nat → Prop} {Q : State → Prop} {b L : Nat} {xs : Nat → Int} (hi : zInj ad) (X : zX p s m args c code "ShardTrailsLaw" 9 D cas ad A) (hX : va_X b L (fun j => zI (xs j)) s s.heap) (hbl : b < s.heap.size) (hbA : ¬ A b) (hL : L ≤ 2147483647) (hret : ∀ (pc : Nat) (lv : List (Nat × Value)) (M : Mem), decode code pc = .ok (.ireturn, 1) → WW p l e room_1 s m args below meth c D cas ad A 9 600000 7302250 Q pc lv [.int (zI 1)] M) {M M' : Mem} (hf : f_L_law xs L M = some (1, M')) : WW p l e room_1 s m args below meth c D cas ad A 9 600000 7302250 Q 8 [(1, .ref (ad 0)), (0, .ref b)] [] M := by
  have hB77 : ∀ (g25 : Int → Int → Int → Mem → Option (Int × Mem)) (hg25 : ∀ (v2 v3 v4 : Int) (M : Mem), g25 v2 v3 v4 M = some (1, M') → WW p l e room_1 s m args below meth c D cas ad A 9 600000 7302250 Q 25 [(0, .ref b), (1, .ref (ad 0)), (2, .int (zI v2)), (3, .int (zI v3)), (4, .int (zI v4))] [] M) (v2 v3 v4 t4 t3 t2 : Int) (M : Mem), f_L_law_b77 g25 xs L v2 v3 v4 t4 t3 t2 M = some (1, M') → WW p l e room_1 s m args below meth c D cas ad A 9 600000 7302250 Q 77 [(0, .ref b), (1, .ref (ad 0)), (2, .int (zI v2)), (3, .int (zI v3)), (4, .int (zI v4))] [.int (zI t4), .int (zI t3), .int (zI t2), .ref (ad 0)] M := by
    intro g25 hg25 v2 v3 v4 t4 t3 t2 M hf
    unfold f_L_law_b77 at hf
    obtain ⟨r130, M131, hc132, hf⟩ := zbnd_some hf
    refine R_callVi X (av := [.int (zI t2), .int (zI t3), .int (zI t4)]) (rest := []) (c_X9_addPasture l D cas ad hi hc132) zy_X9_addPasture lc_0 rfl rfl wm_L_65 rfl rfl ⟨Nat.le_of_ble_eq_true rfl, Nat.le_of_ble_eq_true rfl⟩ ⟨Nat.le_refl _, Nat.le_refl _⟩ (Nat.le_of_ble_eq_true rfl) dL_law_77 ?_
    refine R_pop X dL_law_80 rfl ?_
    refine R_iinc X (lv' := [(4, .int (zI (v4 + 1))), (0, .ref b), (1, .ref (ad 0)), (2, .int (zI v2)), (3, .int (zI v3))]) 4 dL_law_81 rfl (by decide) rfl ?_
    refine R_goto X 25 dL_law_84 (by decide) ?_
    exact R_sub [1, 2, 3, 4, 0] rfl (hg25 v2 v3 (v4 + 1) M131 hf)
  have hB184 : ∀ (M : Mem), f_L_law_b184 xs L M = some (1, M') → WW p l e room_1 s m args below meth c D cas ad A 9 600000 7302250 Q 184 [] [] M := by
    intro M hf
    unfold f_L_law_b184 at hf
    refine R_iconst X dL_law_184 ?_
    exact absurd hf (by simp)
  have hB233 : ∀ (M : Mem), f_L_law_b233 xs L M = some (1, M') → WW p l e room_1 s m args below meth c D cas ad A 9 600000 7302250 Q 233 [] [] M := by
    intro M hf
    unfold f_L_law_b233 at hf
    refine R_iconst X dL_law_233 ?_
    exact absurd hf (by simp)
  have hB235 : ∀ (g104 : Int → Mem → Option (Int × Mem)) (hg104 : ∀ (v4 : Int) (M : Mem), g104 v4 M = some (1, M') → WW p l e room_1 s m args below meth c D cas ad A 9 600000 7302250 Q 104 [(0, .ref b), (1, .ref (ad 0)), (4, .int (zI v4))] [] M) (v4 : Int) (M : Mem), f_L_law_b235 g104 xs L v4 M = some (1, M') → WW p l e room_1 s m args below meth c D cas ad A 9 600000 7302250 Q 235 [(0, .ref b), (1, .ref (ad 0)), (4, .int (zI v4))] [] M := by
    intro g104 hg104 v4 M hf
    unfold f_L_law_b235 at hf
    refine R_iinc X (lv' := [(4, .int (zI (v4 + 1))), (0, .ref b), (1, .ref (ad 0))]) 2 dL_law_235 rfl (by decide) rfl ?_
    refine R_goto X 104 dL_law_238 (by decide) ?_
    exact R_sub [1, 2, 0] rfl (hg104 (v4 + 1) M hf)
  have hB213 : ∀ (g104 : Int → Mem → Option (Int × Mem)) (hg104 : ∀ (v4 : Int) (M : Mem), g104 v4 M = some (1, M') → WW p l e room_1 s m args below meth c D cas ad A 9 600000 7302250 Q 104 [(0, .ref b), (1, .ref (ad 0)), (4, .int (zI v4))] [] M) (v4 v5 : Int) (M : Mem), f_L_law_b213 g104 xs L v4 v5 M = some (1, M') → WW p l e room_1 s m args below meth c D cas ad A 9 600000 7302250 Q 213 [(0, .ref b), (1, .ref (ad 0)), (4, .int (zI v4)), (5, .int (zI v5))] [] M := by
    intro g104 hg104 v4 v5 M hf
    unfold f_L_law_b213 at hf
    refine R_iload X 2 dL_law_213 rfl ?_
    refine R_bipush X dL_law_215 (by decide +kernel) ?_
    obtain ⟨hq160, hf⟩ := zgrd hf
    refine R_irem X ⟨⟨hq160, (by decide)⟩, (by decide)⟩ dL_law_217 ?_
    refine R_iconst X dL_law_218 ?_
    obtain ⟨hq161, hf⟩ := zgrd hf
    refine R_icmp_ne X 235 ⟨hq161, (by decide)⟩ dL_law_219 (by decide) (fun c167 => ?_) (fun c167 => ?_)
    · have hf := zelse hf c167
      exact R_sub [0, 1, 2] rfl (hB235 g104 hg104 v4 M hf)
    · have hf := zthen hf c167
      refine R_aload_n X 1 dL_law_222 rfl rfl ?_
      refine R_iload X 3 dL_law_223 rfl ?_
      refine R_iconst X dL_law_225 ?_
      refine R_ishr X dL_law_226 ?_
      obtain ⟨r162, M163, hc164, hf⟩ := zbnd_some hf
      refine R_callSi X (av := [.ref (ad 0), .int (zI (ishr v5 5))]) (rest := []) (c_L_isForetold l D cas ad hi hc164) zy_L_isForetold wm_L_120 rfl rfl ⟨Nat.le_of_ble_eq_true rfl, Nat.le_of_ble_eq_true rfl⟩ ⟨Nat.le_refl _, Nat.le_refl _⟩ (Nat.le_of_ble_eq_true rfl) dL_law_227 ?_
      obtain ⟨hq165, hf⟩ := zgrd hf
      refine R_if_ne X 235 hq165 dL_law_230 (by decide) (fun c166 => ?_) (fun c166 => ?_)
      · have hf := zelse hf c166
        exact R_sub [0, 1, 2] rfl (hB235 g104 hg104 v4 M163 hf)
      · have hf := zthen hf c166
        exact R_sub [] rfl (hB233 M163 hf)
  have hB186 : ∀ (g104 : Int → Mem → Option (Int × Mem)) (hg104 : ∀ (v4 : Int) (M : Mem), g104 v4 M = some (1, M') → WW p l e room_1 s m args below meth c D cas ad A 9 600000 7302250 Q 104 [(0, .ref b), (1, .ref (ad 0)), (4, .int (zI v4))] [] M) (v4 v5 : Int) (M : Mem), f_L_law_b186 g104 xs L v4 v5 M = some (1, M') → WW p l e room_1 s m args below meth c D cas ad A 9 600000 7302250 Q 186 [(0, .ref b), (1, .ref (ad 0)), (4, .int (zI v4)), (5, .int (zI v5))] [] M := by
    intro g104 hg104 v4 v5 M hf
    unfold f_L_law_b186 at hf
    refine R_iload X 2 dL_law_186 rfl ?_
    refine R_iconst X dL_law_188 ?_
    obtain ⟨hq147, hf⟩ := zgrd hf
    refine R_irem X ⟨⟨hq147, (by decide)⟩, (by decide)⟩ dL_law_189 ?_
    refine R_iconst X dL_law_190 ?_
    obtain ⟨hq148, hf⟩ := zgrd hf
    refine R_icmp_ne X 213 ⟨hq148, (by decide)⟩ dL_law_191 (by decide) (fun c159 => ?_) (fun c159 => ?_)
    · have hf := zelse hf c159
      exact R_sub [0, 1, 2, 3] rfl (hB213 g104 hg104 v4 v5 M hf)
    · have hf := zthen hf c159
      refine R_aload_n X 1 dL_law_194 rfl rfl ?_
      obtain ⟨r149, M150, hc151, hf⟩ := zbnd_some hf
      refine R_callSi X (av := [.ref (ad 0)]) (rest := []) (c_L_isSound l D cas ad hi hc151) zy_L_isSound wm_L_112 rfl rfl ⟨Nat.le_of_ble_eq_true rfl, Nat.le_of_ble_eq_true rfl⟩ ⟨Nat.le_refl _, Nat.le_refl _⟩ (Nat.le_of_ble_eq_true rfl) dL_law_195 ?_
      obtain ⟨hq152, hf⟩ := zgrd hf
      refine R_if_eq X 233 hq152 dL_law_198 (by decide) (fun c158 => ?_) (fun c158 => ?_)
      · have hf := zthen hf c158
        exact R_sub [] rfl (hB233 M150 hf)
      · have hf := zelse hf c158
        refine R_aload_n X 1 dL_law_201 rfl rfl ?_
        refine R_iload X 3 dL_law_202 rfl ?_
        refine R_bipush X dL_law_204 (by decide +kernel) ?_
        refine R_ishr X dL_law_206 ?_
        obtain ⟨r153, M154, hc155, hf⟩ := zbnd_some hf
        refine R_callSi X (av := [.ref (ad 0), .int (zI (ishr v5 7))]) (rest := []) (c_L_isReached l D cas ad hi hc155) zy_L_isReached wm_L_116 rfl rfl ⟨Nat.le_of_ble_eq_true rfl, Nat.le_of_ble_eq_true rfl⟩ ⟨Nat.le_refl _, Nat.le_refl _⟩ (Nat.le_of_ble_eq_true rfl) dL_law_207 ?_
        obtain ⟨hq156, hf⟩ := zgrd hf
        refine R_if_eq X 233 hq156 dL_law_210 (by decide) (fun c157 => ?_) (fun c157 => ?_)
        · have hf := zthen hf c157
          exact R_sub [] rfl (hB233 M154 hf)
        · have hf := zelse hf c157
          exact R_sub [0, 1, 2, 3] rfl (hB213 g104 hg104 v4 v5 M154 hf)
  have hB152 : ∀ (g104 : Int → Mem → Option (Int × Mem)) (hg104 : ∀ (v4 : Int) (M : Mem), g104 v4 M = some (1, M') → WW p l e room_1 s m args below meth c D cas ad A 9 600000 7302250 Q 104 [(0, .ref b), (1, .ref (ad 0)), (4, .int (zI v4))] [] M) (v4 v5 v6 v8 : Int) (M : Mem), f_L_law_b152 g104 xs L v4 v5 v6 v8 M = some (1, M') → WW p l e room_1 s m args below meth c D cas ad A 9 600000 7302250 Q 152 [(0, .ref b), (1, .ref (ad 0)), (4, .int (zI v4)), (5, .int (zI v5)), (6, .long (zJ v6)), (8, .int (zI v8))] [] M := by
    intro g104 hg104 v4 v5 v6 v8 M hf
    unfold f_L_law_b152 at hf
    refine R_iload X 5 dL_law_152 rfl ?_
    obtain ⟨hq133, hf⟩ := zgrd hf
    refine R_if_lt X 186 hq133 dL_law_154 (by decide) (fun c146 => ?_) (fun c146 => ?_)
    · have hf := zthen hf c146
      exact R_sub [0, 1, 2, 3] rfl (hB186 g104 hg104 v4 v5 M hf)
    · have hf := zelse hf c146
      refine R_iload X 3 dL_law_157 rfl ?_
      refine R_bipush X dL_law_159 (by decide +kernel) ?_
      refine R_ishr X dL_law_161 ?_
      refine R_iconst X dL_law_162 ?_
      refine R_iand X dL_law_163 ?_
      obtain ⟨hq134, hf⟩ := zgrd hf
      refine R_if_ne X 186 hq134 dL_law_164 (by decide) (fun c145 => ?_) (fun c145 => ?_)
      · have hf := zelse hf c145
        exact R_sub [0, 1, 2, 3] rfl (hB186 g104 hg104 v4 v5 M hf)
      · have hf := zthen hf c145
        refine R_aload_n X 1 dL_law_167 rfl rfl ?_
        obtain ⟨r135, M136, hc137, hf⟩ := zbnd_some hf
        refine R_callVi X (av := []) (rest := []) (c_X9_undo l D cas ad hi hc137) zy_X9_undo lc_0 rfl rfl wm_L_55 rfl rfl ⟨Nat.le_of_ble_eq_true rfl, Nat.le_of_ble_eq_true rfl⟩ ⟨Nat.le_refl _, Nat.le_refl _⟩ (Nat.le_of_ble_eq_true rfl) dL_law_168 ?_
        obtain ⟨hq138, hf⟩ := zgrd hf
        refine R_if_lt X 184 hq138 dL_law_171 (by decide) (fun c144 => ?_) (fun c144 => ?_)
        · have hf := zthen hf c144
          exact R_sub [] rfl (hB184 M136 hf)
        · have hf := zelse hf c144
          refine R_aload_n X 1 dL_law_174 rfl rfl ?_
          obtain ⟨r139, M140, hc141, hf⟩ := zbnd_some hf
          refine R_callSl X (av := [.ref (ad 0)]) (rest := []) (c_L_all l D cas ad hi hc141) zy_L_all wm_L_48 rfl rfl ⟨Nat.le_of_ble_eq_true rfl, Nat.le_of_ble_eq_true rfl⟩ ⟨Nat.le_refl _, Nat.le_refl _⟩ (Nat.le_of_ble_eq_true rfl) dL_law_175 ?_
          refine R_lload X 4 dL_law_178 rfl ?_
          refine R_lcmp X dL_law_180 ?_
          obtain ⟨hq142, hf⟩ := zgrd hf
          refine R_if_eq X 186 hq142 dL_law_181 (by decide) (fun c143 => ?_) (fun c143 => ?_)
          · have hf := zthen hf c143
            exact R_sub [0, 1, 2, 3] rfl (hB186 g104 hg104 v4 v5 M140 hf)
          · have hf := zelse hf c143
            exact R_sub [] rfl (hB184 M140 hf)
  have hB426 : ∀ (t1 : Int) (M : Mem), f_L_law_b426 xs L t1 M = some (1, M') → WW p l e room_1 s m args below meth c D cas ad A 9 600000 7302250 Q 426 [] [.int (zI t1)] M := by
    intro t1 M hf
    unfold f_L_law_b426 at hf
    obtain ⟨h1, -⟩ := Prod.mk.inj (Option.some.inj hf)
    subst h1
    exact hret _ _ _ dL_law_426
  have hB425 : ∀ (M : Mem), f_L_law_b425 xs L M = some (1, M') → WW p l e room_1 s m args below meth c D cas ad A 9 600000 7302250 Q 425 [] [] M := by
    intro M hf
    unfold f_L_law_b425 at hf
    refine R_iconst X dL_law_425 ?_
    exact R_sub [] rfl (hB426 0 M hf)
  have hB104 : ∀ (n : Nat) (v4 : Int) (M : Mem), f_L_law_b104 xs L n v4 M = some (1, M') → WW p l e room_1 s m args below meth c D cas ad A 9 600000 7302250 Q 104 [(0, .ref b), (1, .ref (ad 0)), (4, .int (zI v4))] [] M := by
    intro n
    induction n with
    | zero => intro v4 M hf; exact absurd hf (by unfold f_L_law_b104; simp)
    | succ n ih =>
      intro v4 M hf
      unfold f_L_law_b104 at hf
      refine R_iload X 2 dL_law_104 rfl ?_
      refine R_bipush X dL_law_106 (by decide +kernel) ?_
      obtain ⟨hq23, hf⟩ := zgrd hf
      refine R_icmp_ge X 241 ⟨hq23, (by decide)⟩ dL_law_108 (by decide) (fun c129 => ?_) (fun c129 => ?_)
      · have hf := zthen hf c129
        refine R_aload_n X 1 dL_law_241 rfl rfl ?_
        obtain ⟨r24, M25, hc26, hf⟩ := zbnd_some hf
        refine R_callSl X (av := [.ref (ad 0)]) (rest := []) (c_L_all l D cas ad hi hc26) zy_L_all wm_L_48 rfl rfl ⟨Nat.le_of_ble_eq_true rfl, Nat.le_of_ble_eq_true rfl⟩ ⟨Nat.le_refl _, Nat.le_refl _⟩ (Nat.le_of_ble_eq_true rfl) dL_law_242 ?_
        refine R_lstore X (lv' := [(4, .long (zJ r24)), (0, .ref b), (1, .ref (ad 0))]) dL_law_245 (by decide) rfl ?_
        refine R_aload_n X 2 dL_law_247 rfl rfl ?_
        obtain ⟨r27, M28, hc29, hf⟩ := zbnd_some hf
        refine R_callVi X (av := []) (rest := []) (c_X9_keep l D cas ad hi hc29) zy_X9_keep lc_0 rfl rfl wm_L_123 rfl rfl ⟨Nat.le_of_ble_eq_true rfl, Nat.le_of_ble_eq_true rfl⟩ ⟨Nat.le_refl _, Nat.le_refl _⟩ (Nat.le_of_ble_eq_true rfl) dL_law_248 ?_
        refine R_aload_n X 2 dL_law_251 rfl rfl ?_
        refine R_iconst X dL_law_252 ?_
        obtain ⟨r30, M31, hc32, hf⟩ := zbnd_some hf
        refine R_callVi X (av := [.int (zI 0)]) (rest := [.int (zI r27)]) (c_X9_count l D cas ad hi hc32) zy_X9_count lc_0 rfl rfl wm_L_12 rfl rfl ⟨Nat.le_of_ble_eq_true rfl, Nat.le_of_ble_eq_true rfl⟩ ⟨Nat.le_refl _, Nat.le_refl _⟩ (Nat.le_of_ble_eq_true rfl) dL_law_253 ?_
        obtain ⟨hq33, hf⟩ := zgrd hf
        refine R_icmp_eqW X 261 hq33 dL_law_256 (by decide) (fun c113 => ?_) (fun c113 => ?_)
        · have hf := zthen hf c113
          refine R_aload_n X 2 dL_law_261 rfl rfl ?_
          refine R_iconst X dL_law_262 ?_
          obtain ⟨r34, M35, hc36, hf⟩ := zbnd_some hf
          refine R_callVi X (av := [.int (zI 3)]) (rest := []) (c_X9_pass l D cas ad hi hc36) zy_X9_pass lc_0 rfl rfl wm_L_62 rfl rfl ⟨Nat.le_of_ble_eq_true rfl, Nat.le_of_ble_eq_true rfl⟩ ⟨Nat.le_refl _, Nat.le_refl _⟩ (Nat.le_of_ble_eq_true rfl) dL_law_263 ?_
          refine R_pop X dL_law_266 rfl ?_
          refine R_aload_n X 2 dL_law_267 rfl rfl ?_
          refine R_iconst X dL_law_268 ?_
          refine R_iconst X dL_law_269 ?_
          obtain ⟨r37, M38, hc39, hf⟩ := zbnd_some hf
          refine R_callVi X (av := [.int (zI 0), .int (zI 5)]) (rest := []) (c_X9_request l D cas ad hi hc39) zy_X9_request lc_0 rfl rfl wm_L_52 rfl rfl ⟨Nat.le_of_ble_eq_true rfl, Nat.le_of_ble_eq_true rfl⟩ ⟨Nat.le_refl _, Nat.le_refl _⟩ (Nat.le_of_ble_eq_true rfl) dL_law_270 ?_
          refine R_pop X dL_law_273 rfl ?_
          refine R_aload_n X 2 dL_law_274 rfl rfl ?_
          obtain ⟨r40, M41, hc42, hf⟩ := zbnd_some hf
          refine R_callVi X (av := []) (rest := []) (c_X9_restore l D cas ad hi hc42) zy_X9_restore lc_0 rfl rfl wm_L_126 rfl rfl ⟨Nat.le_of_ble_eq_true rfl, Nat.le_of_ble_eq_true rfl⟩ ⟨Nat.le_refl _, Nat.le_refl _⟩ (Nat.le_of_ble_eq_true rfl) dL_law_275 ?_
          refine R_aload_n X 2 dL_law_278 rfl rfl ?_
          refine R_iconst X dL_law_279 ?_
          obtain ⟨r43, M44, hc45, hf⟩ := zbnd_some hf
          refine R_callVi X (av := [.int (zI 0)]) (rest := [.int (zI r40)]) (c_X9_count l D cas ad hi hc45) zy_X9_count lc_0 rfl rfl wm_L_12 rfl rfl ⟨Nat.le_of_ble_eq_true rfl, Nat.le_of_ble_eq_true rfl⟩ ⟨Nat.le_refl _, Nat.le_refl _⟩ (Nat.le_of_ble_eq_true rfl) dL_law_280 ?_
          obtain ⟨hq46, hf⟩ := zgrd hf
          refine R_icmp_neW X 425 hq46 dL_law_283 (by decide) (fun c112 => ?_) (fun c112 => ?_)
          · have hf := zelse hf c112
            exact R_sub [] rfl (hB425 M44 hf)
          · have hf := zthen hf c112
            refine R_aload_n X 2 dL_law_286 rfl rfl ?_
            obtain ⟨r47, M48, hc49, hf⟩ := zbnd_some hf
            refine R_callSl X (av := [.ref (ad 0)]) (rest := []) (c_L_all l D cas ad hi hc49) zy_L_all wm_L_48 rfl rfl ⟨Nat.le_of_ble_eq_true rfl, Nat.le_of_ble_eq_true rfl⟩ ⟨Nat.le_refl _, Nat.le_refl _⟩ (Nat.le_of_ble_eq_true rfl) dL_law_287 ?_
            refine R_lload X 0 dL_law_290 rfl ?_
            refine R_lcmp X dL_law_292 ?_
            obtain ⟨hq50, hf⟩ := zgrd hf
            refine R_if_ne X 425 hq50 dL_law_293 (by decide) (fun c111 => ?_) (fun c111 => ?_)
            · have hf := zelse hf c111
              exact R_sub [] rfl (hB425 M48 hf)
            · have hf := zthen hf c111
              refine R_aload_n X 2 dL_law_296 rfl rfl ?_
              obtain ⟨r51, M52, hc53, hf⟩ := zbnd_some hf
              refine R_callVi X (av := []) (rest := []) (c_X9_undo l D cas ad hi hc53) zy_X9_undo lc_0 rfl rfl wm_L_55 rfl rfl ⟨Nat.le_of_ble_eq_true rfl, Nat.le_of_ble_eq_true rfl⟩ ⟨Nat.le_refl _, Nat.le_refl _⟩ (Nat.le_of_ble_eq_true rfl) dL_law_297 ?_
              obtain ⟨hq54, hf⟩ := zgrd hf
              refine R_if_lt X 425 hq54 dL_law_300 (by decide) (fun c110 => ?_) (fun c110 => ?_)
              · have hf := zthen hf c110
                exact R_sub [] rfl (hB425 M52 hf)
              · have hf := zelse hf c110
                refine R_aload_n X 2 dL_law_303 rfl rfl ?_
                obtain ⟨r55, M56, hc57, hf⟩ := zbnd_some hf
                refine R_callVi X (av := []) (rest := []) (c_X9_restore l D cas ad hi hc57) zy_X9_restore lc_0 rfl rfl wm_L_126 rfl rfl ⟨Nat.le_of_ble_eq_true rfl, Nat.le_of_ble_eq_true rfl⟩ ⟨Nat.le_refl _, Nat.le_refl _⟩ (Nat.le_of_ble_eq_true rfl) dL_law_304 ?_
                obtain ⟨hq58, hf⟩ := zgrd hf
                refine R_if_lt X 425 hq58 dL_law_307 (by decide) (fun c109 => ?_) (fun c109 => ?_)
                · have hf := zthen hf c109
                  exact R_sub [] rfl (hB425 M56 hf)
                · have hf := zelse hf c109
                  refine R_aload_n X 2 dL_law_310 rfl rfl ?_
                  obtain ⟨r59, M60, hc61, hf⟩ := zbnd_some hf
                  refine R_callSl X (av := [.ref (ad 0)]) (rest := []) (c_L_all l D cas ad hi hc61) zy_L_all wm_L_48 rfl rfl ⟨Nat.le_of_ble_eq_true rfl, Nat.le_of_ble_eq_true rfl⟩ ⟨Nat.le_refl _, Nat.le_refl _⟩ (Nat.le_of_ble_eq_true rfl) dL_law_311 ?_
                  refine R_lload X 0 dL_law_314 rfl ?_
                  refine R_lcmp X dL_law_316 ?_
                  obtain ⟨hq62, hf⟩ := zgrd hf
                  refine R_if_ne X 425 hq62 dL_law_317 (by decide) (fun c108 => ?_) (fun c108 => ?_)
                  · have hf := zelse hf c108
                    exact R_sub [] rfl (hB425 M60 hf)
                  · have hf := zthen hf c108
                    refine R_aload_n X 2 dL_law_320 rfl rfl ?_
                    refine R_sipush X dL_law_321 (by decide +kernel) ?_
                    obtain ⟨r63, M64, hc65, hf⟩ := zbnd_some hf
                    refine R_callVi X (av := [.int (zI 256)]) (rest := []) (c_X9_value l D cas ad hi hc65) zy_X9_value lc_0 rfl rfl wm_L_129 rfl rfl ⟨Nat.le_of_ble_eq_true rfl, Nat.le_of_ble_eq_true rfl⟩ ⟨Nat.le_refl _, Nat.le_refl _⟩ (Nat.le_of_ble_eq_true rfl) dL_law_324 ?_
                    refine R_iconst X dL_law_327 ?_
                    obtain ⟨hq66, hf⟩ := zgrd hf
                    refine R_icmp_ne X 425 ⟨hq66, (by decide)⟩ dL_law_328 (by decide) (fun c107 => ?_) (fun c107 => ?_)
                    · have hf := zelse hf c107
                      exact R_sub [] rfl (hB425 M64 hf)
                    · have hf := zthen hf c107
                      refine R_aload_n X 2 dL_law_331 rfl rfl ?_
                      refine R_bipush X dL_law_332 (by decide +kernel) ?_
                      refine R_iconst X dL_law_334 ?_
                      obtain ⟨r67, M68, hc69, hf⟩ := zbnd_some hf
                      refine R_callVi X (av := [.int (zI 16), .int (zI 0)]) (rest := []) (c_X9_shard l D cas ad hi hc69) zy_X9_shard lc_0 rfl rfl wm_L_26 rfl rfl ⟨Nat.le_of_ble_eq_true rfl, Nat.le_of_ble_eq_true rfl⟩ ⟨Nat.le_refl _, Nat.le_refl _⟩ (Nat.le_of_ble_eq_true rfl) dL_law_335 ?_
                      refine R_iconst X dL_law_338 ?_
                      obtain ⟨hq70, hf⟩ := zgrd hf
                      refine R_icmp_ne X 425 ⟨hq70, (by decide)⟩ dL_law_339 (by decide) (fun c106 => ?_) (fun c106 => ?_)
                      · have hf := zelse hf c106
                        exact R_sub [] rfl (hB425 M68 hf)
                      · have hf := zthen hf c106
                        refine R_aload_n X 2 dL_law_342 rfl rfl ?_
                        refine R_iconst X dL_law_343 ?_
                        refine R_bipush X dL_law_344 (by decide +kernel) ?_
                        obtain ⟨r71, M72, hc73, hf⟩ := zbnd_some hf
                        refine R_callVi X (av := [.int (zI 0), .int (zI 7)]) (rest := []) (c_X9_shard l D cas ad hi hc73) zy_X9_shard lc_0 rfl rfl wm_L_26 rfl rfl ⟨Nat.le_of_ble_eq_true rfl, Nat.le_of_ble_eq_true rfl⟩ ⟨Nat.le_refl _, Nat.le_refl _⟩ (Nat.le_of_ble_eq_true rfl) dL_law_346 ?_
                        refine R_bipush X dL_law_349 (by decide +kernel) ?_
                        obtain ⟨hq74, hf⟩ := zgrd hf
                        refine R_icmp_ne X 425 ⟨hq74, (by decide)⟩ dL_law_351 (by decide) (fun c105 => ?_) (fun c105 => ?_)
                        · have hf := zelse hf c105
                          exact R_sub [] rfl (hB425 M72 hf)
                        · have hf := zthen hf c105
                          refine R_aload_n X 2 dL_law_354 rfl rfl ?_
                          refine R_bipush X dL_law_355 (by decide +kernel) ?_
                          refine R_iconst X dL_law_357 ?_
                          obtain ⟨r75, M76, hc77, hf⟩ := zbnd_some hf
                          refine R_callVi X (av := [.int (zI 8), .int (zI 0)]) (rest := []) (c_X9_pasture l D cas ad hi hc77) zy_X9_pasture lc_0 rfl rfl wm_L_18 rfl rfl ⟨Nat.le_of_ble_eq_true rfl, Nat.le_of_ble_eq_true rfl⟩ ⟨Nat.le_refl _, Nat.le_refl _⟩ (Nat.le_of_ble_eq_true rfl) dL_law_358 ?_
                          refine R_iconst X dL_law_361 ?_
                          obtain ⟨hq78, hf⟩ := zgrd hf
                          refine R_icmp_ne X 425 ⟨hq78, (by decide)⟩ dL_law_362 (by decide) (fun c104 => ?_) (fun c104 => ?_)
                          · have hf := zelse hf c104
                            exact R_sub [] rfl (hB425 M76 hf)
                          · have hf := zthen hf c104
                            refine R_aload_n X 2 dL_law_365 rfl rfl ?_
                            refine R_iconst X dL_law_366 ?_
                            refine R_bipush X dL_law_367 (by decide +kernel) ?_
                            obtain ⟨r79, M80, hc81, hf⟩ := zbnd_some hf
                            refine R_callVi X (av := [.int (zI 0), .int (zI 9)]) (rest := []) (c_X9_pasture l D cas ad hi hc81) zy_X9_pasture lc_0 rfl rfl wm_L_18 rfl rfl ⟨Nat.le_of_ble_eq_true rfl, Nat.le_of_ble_eq_true rfl⟩ ⟨Nat.le_refl _, Nat.le_refl _⟩ (Nat.le_of_ble_eq_true rfl) dL_law_369 ?_
                            refine R_bipush X dL_law_372 (by decide +kernel) ?_
                            obtain ⟨hq82, hf⟩ := zgrd hf
                            refine R_icmp_ne X 425 ⟨hq82, (by decide)⟩ dL_law_374 (by decide) (fun c103 => ?_) (fun c103 => ?_)
                            · have hf := zelse hf c103
                              exact R_sub [] rfl (hB425 M80 hf)
                            · have hf := zthen hf c103
                              refine R_aload_n X 2 dL_law_377 rfl rfl ?_
                              refine R_bipush X dL_law_378 (by decide +kernel) ?_
                              obtain ⟨r83, M84, hc85, hf⟩ := zbnd_some hf
                              refine R_callVi X (av := [.int (zI 15)]) (rest := []) (c_X9_count l D cas ad hi hc85) zy_X9_count lc_0 rfl rfl wm_L_12 rfl rfl ⟨Nat.le_of_ble_eq_true rfl, Nat.le_of_ble_eq_true rfl⟩ ⟨Nat.le_refl _, Nat.le_refl _⟩ (Nat.le_of_ble_eq_true rfl) dL_law_380 ?_
                              refine R_bipush X dL_law_383 (by decide +kernel) ?_
                              obtain ⟨hq86, hf⟩ := zgrd hf
                              refine R_icmp_ne X 425 ⟨hq86, (by decide)⟩ dL_law_385 (by decide) (fun c102 => ?_) (fun c102 => ?_)
                              · have hf := zelse hf c102
                                exact R_sub [] rfl (hB425 M84 hf)
                              · have hf := zthen hf c102
                                refine R_aload_n X 2 dL_law_388 rfl rfl ?_
                                refine R_iconst X dL_law_389 ?_
                                refine R_bipush X dL_law_390 (by decide +kernel) ?_
                                obtain ⟨r87, M88, hc89, hf⟩ := zbnd_some hf
                                refine R_callVi X (av := [.int (zI 0), .int (zI 16)]) (rest := []) (c_X9_remembered l D cas ad hi hc89) zy_X9_remembered lc_0 rfl rfl wm_L_31 rfl rfl ⟨Nat.le_of_ble_eq_true rfl, Nat.le_of_ble_eq_true rfl⟩ ⟨Nat.le_refl _, Nat.le_refl _⟩ (Nat.le_of_ble_eq_true rfl) dL_law_392 ?_
                                refine R_iconst X dL_law_395 ?_
                                obtain ⟨hq90, hf⟩ := zgrd hf
                                refine R_icmp_ne X 425 ⟨hq90, (by decide)⟩ dL_law_396 (by decide) (fun c101 => ?_) (fun c101 => ?_)
                                · have hf := zelse hf c101
                                  exact R_sub [] rfl (hB425 M88 hf)
                                · have hf := zthen hf c101
                                  refine R_aload_n X 2 dL_law_399 rfl rfl ?_
                                  refine R_iconst X dL_law_400 ?_
                                  refine R_iconst X dL_law_401 ?_
                                  refine R_iconst X dL_law_402 ?_
                                  obtain ⟨r91, M92, hc93, hf⟩ := zbnd_some hf
                                  refine R_callVi X (av := [.int (zI 0), .int (zI 0), .int (zI (-1))]) (rest := []) (c_X9_way l D cas ad hi hc93) zy_X9_way lc_0 rfl rfl wm_L_42 rfl rfl ⟨Nat.le_of_ble_eq_true rfl, Nat.le_of_ble_eq_true rfl⟩ ⟨Nat.le_refl _, Nat.le_refl _⟩ (Nat.le_of_ble_eq_true rfl) dL_law_403 ?_
                                  refine R_bipush X dL_law_406 (by decide +kernel) ?_
                                  obtain ⟨hq94, hf⟩ := zgrd hf
                                  refine R_icmp_ne X 425 ⟨hq94, (by decide)⟩ dL_law_408 (by decide) (fun c100 => ?_) (fun c100 => ?_)
                                  · have hf := zelse hf c100
                                    exact R_sub [] rfl (hB425 M92 hf)
                                  · have hf := zthen hf c100
                                    refine R_aload_n X 2 dL_law_411 rfl rfl ?_
                                    refine R_bipush X dL_law_412 (by decide +kernel) ?_
                                    obtain ⟨r95, M96, hc97, hf⟩ := zbnd_some hf
                                    refine R_callVi X (av := [.int (zI 16)]) (rest := []) (c_X9_movesIn l D cas ad hi hc97) zy_X9_movesIn lc_0 rfl rfl wm_L_59 rfl rfl ⟨Nat.le_of_ble_eq_true rfl, Nat.le_of_ble_eq_true rfl⟩ ⟨Nat.le_refl _, Nat.le_refl _⟩ (Nat.le_of_ble_eq_true rfl) dL_law_414 ?_
                                    refine R_iconst X dL_law_417 ?_
                                    obtain ⟨hq98, hf⟩ := zgrd hf
                                    refine R_icmp_ne X 425 ⟨hq98, (by decide)⟩ dL_law_418 (by decide) (fun c99 => ?_) (fun c99 => ?_)
                                    · have hf := zelse hf c99
                                      exact R_sub [] rfl (hB425 M96 hf)
                                    · have hf := zthen hf c99
                                      refine R_iconst X dL_law_421 ?_
                                      refine R_goto X 426 dL_law_422 (by decide) ?_
                                      exact R_sub [] rfl (hB426 1 M96 hf)
        · have hf := zelse hf c113
          refine R_iconst X dL_law_259 ?_
          exact absurd hf (by simp)
      · have hf := zelse hf c129
        refine R_aload_n X 0 dL_law_111 rfl rfl ?_
        refine R_iconst X dL_law_112 ?_
        refine R_iload X 2 dL_law_113 rfl ?_
        refine R_iadd X dL_law_115 ?_
        obtain ⟨hq114, hf⟩ := zgrd hf
        refine R_callC X hi hX hbl hbA hL hq114 wm_L_104 ⟨Nat.le_of_ble_eq_true rfl, Nat.le_of_ble_eq_true rfl⟩ ⟨Nat.le_refl _, Nat.le_refl _⟩ (Nat.le_of_ble_eq_true rfl) dL_law_116 ?_
        obtain ⟨x115, ex115, hf⟩ := zlt_some hf
        refine R_istoreX X (lv' := [(5, .int (zI x115)), (0, .ref b), (1, .ref (ad 0)), (4, .int (zI v4))]) ex115 dL_law_119 (by decide) rfl ?_
        refine R_aload_n X 2 dL_law_121 rfl rfl ?_
        obtain ⟨r116, M117, hc118, hf⟩ := zbnd_some hf
        refine R_callSl X (av := [.ref (ad 0)]) (rest := []) (c_L_all l D cas ad hi hc118) zy_L_all wm_L_48 rfl rfl ⟨Nat.le_of_ble_eq_true rfl, Nat.le_of_ble_eq_true rfl⟩ ⟨Nat.le_refl _, Nat.le_refl _⟩ (Nat.le_of_ble_eq_true rfl) dL_law_122 ?_
        refine R_lstore X (lv' := [(6, .long (zJ r116)), (5, .int (zI x115)), (0, .ref b), (1, .ref (ad 0)), (4, .int (zI v4))]) dL_law_125 (by decide) rfl ?_
        refine R_aload_n X 3 dL_law_127 rfl rfl ?_
        refine R_iload X 1 dL_law_128 rfl ?_
        obtain ⟨r119, M120, hc121, hf⟩ := zbnd_some hf
        refine R_callSi X (av := [.ref (ad 0), .int (zI x115)]) (rest := []) (c_L_acts l D cas ad hi hc121) zy_L_acts wm_L_108 rfl rfl ⟨Nat.le_of_ble_eq_true rfl, Nat.le_of_ble_eq_true rfl⟩ ⟨Nat.le_refl _, Nat.le_refl _⟩ (Nat.le_of_ble_eq_true rfl) dL_law_130 ?_
        refine R_istore X (lv' := [(8, .int (zI r119)), (6, .long (zJ r116)), (5, .int (zI x115)), (0, .ref b), (1, .ref (ad 0)), (4, .int (zI v4))]) dL_law_133 (by decide) rfl ?_
        refine R_iload X 0 dL_law_135 rfl ?_
        obtain ⟨hq122, hf⟩ := zgrd hf
        refine R_if_ge X 152 hq122 dL_law_137 (by decide) (fun c128 => ?_) (fun c128 => ?_)
        · have hf := zthen hf c128
          exact R_sub [3, 4, 5, 2, 1, 0] rfl (hB152 (f_L_law_b104 xs L n) ih v4 x115 r116 r119 M120 hf)
        · have hf := zelse hf c128
          refine R_aload_n X 4 dL_law_140 rfl rfl ?_
          obtain ⟨r123, M124, hc125, hf⟩ := zbnd_some hf
          refine R_callSl X (av := [.ref (ad 0)]) (rest := []) (c_L_all l D cas ad hi hc125) zy_L_all wm_L_48 rfl rfl ⟨Nat.le_of_ble_eq_true rfl, Nat.le_of_ble_eq_true rfl⟩ ⟨Nat.le_refl _, Nat.le_refl _⟩ (Nat.le_of_ble_eq_true rfl) dL_law_141 ?_
          refine R_lload X 1 dL_law_144 rfl ?_
          refine R_lcmp X dL_law_146 ?_
          obtain ⟨hq126, hf⟩ := zgrd hf
          refine R_if_eq X 152 hq126 dL_law_147 (by decide) (fun c127 => ?_) (fun c127 => ?_)
          · have hf := zthen hf c127
            exact R_sub [3, 4, 5, 2, 1, 0] rfl (hB152 (f_L_law_b104 xs L n) ih v4 x115 r116 r119 M124 hf)
          · have hf := zelse hf c127
            refine R_iconst X dL_law_150 ?_
            exact absurd hf (by simp)
  have hB25 : ∀ (n : Nat) (v2 v3 v4 : Int) (M : Mem), f_L_law_b25 xs L n v2 v3 v4 M = some (1, M') → WW p l e room_1 s m args below meth c D cas ad A 9 600000 7302250 Q 25 [(0, .ref b), (1, .ref (ad 0)), (2, .int (zI v2)), (3, .int (zI v3)), (4, .int (zI v4))] [] M := by
    intro n
    induction n with
    | zero => intro v2 v3 v4 M hf; exact absurd hf (by unfold f_L_law_b25; simp)
    | succ n ih =>
      intro v2 v3 v4 M hf
      unfold f_L_law_b25 at hf
      refine R_iload X 4 dL_law_25 rfl ?_
      refine R_iload_n X 3 dL_law_27 rfl rfl ?_
      obtain ⟨hq6, hf⟩ := zgrd hf
      obtain ⟨hq7, hf⟩ := zgrd hf
      refine R_icmp_ge X 87 ⟨hq6, hq7⟩ dL_law_28 (by decide) (fun c22 => ?_) (fun c22 => ?_)
      · have hf := zthen hf c22
        refine R_aload_n X 1 dL_law_87 rfl rfl ?_
        refine R_iconst X dL_law_88 ?_
        obtain ⟨r8, M9, hc10, hf⟩ := zbnd_some hf
        refine R_callVi X (av := [.int (zI 0)]) (rest := []) (c_X9_addReader l D cas ad hi hc10) zy_X9_addReader lc_0 rfl rfl wm_L_82 rfl rfl ⟨Nat.le_of_ble_eq_true rfl, Nat.le_of_ble_eq_true rfl⟩ ⟨Nat.le_refl _, Nat.le_refl _⟩ (Nat.le_of_ble_eq_true rfl) dL_law_89 ?_
        refine R_pop X dL_law_92 rfl ?_
        refine R_aload_n X 1 dL_law_93 rfl rfl ?_
        refine R_iload_n X 3 dL_law_94 rfl rfl ?_
        refine R_iconst X dL_law_95 ?_
        refine R_isub X dL_law_96 ?_
        obtain ⟨r11, M12, hc13, hf⟩ := zbnd_some hf
        refine R_callVi X (av := [.int (zI (v3 - 1))]) (rest := []) (c_X9_addReader l D cas ad hi hc13) zy_X9_addReader lc_0 rfl rfl wm_L_82 rfl rfl ⟨Nat.le_of_ble_eq_true rfl, Nat.le_of_ble_eq_true rfl⟩ ⟨Nat.le_refl _, Nat.le_refl _⟩ (Nat.le_of_ble_eq_true rfl) dL_law_97 ?_
        refine R_pop X dL_law_100 rfl ?_
        refine R_iconst X dL_law_101 ?_
        refine R_istore X (lv' := [(4, .int (zI 0)), (0, .ref b), (1, .ref (ad 0)), (2, .int (zI v2)), (3, .int (zI v3))]) dL_law_102 (by decide) rfl ?_
        exact R_sub [1, 2, 0] rfl (hB104 100000 0 M12 hf)
      · have hf := zelse hf c22
        refine R_aload_n X 1 dL_law_31 rfl rfl ?_
        refine R_iload_n X 2 dL_law_32 rfl rfl ?_
        refine R_iconst X dL_law_33 ?_
        refine R_iconst X dL_law_34 ?_
        refine R_iload X 4 dL_law_35 rfl ?_
        refine R_imul X dL_law_37 ?_
        refine R_iadd X dL_law_38 ?_
        refine R_ishr X dL_law_39 ?_
        refine R_bipush X dL_law_40 (by decide +kernel) ?_
        obtain ⟨r14, M15, hc16, hf⟩ := zbnd_some hf
        refine R_callSi X (av := [.int (zI (ishr v2 (2 + (5 * v4)))), .int (zI 91)]) (rest := [.ref (ad 0)]) (c_L_low l D cas ad hi hc16) zy_L_low wm_L_45 rfl rfl ⟨Nat.le_of_ble_eq_true rfl, Nat.le_of_ble_eq_true rfl⟩ ⟨Nat.le_refl _, Nat.le_refl _⟩ (Nat.le_of_ble_eq_true rfl) dL_law_42 ?_
        refine R_iconst X dL_law_45 ?_
        refine R_iload_n X 2 dL_law_46 rfl rfl ?_
        refine R_iconst X dL_law_47 ?_
        refine R_iconst X dL_law_48 ?_
        refine R_iload X 4 dL_law_49 rfl ?_
        refine R_imul X dL_law_51 ?_
        refine R_iadd X dL_law_52 ?_
        refine R_ishr X dL_law_53 ?_
        refine R_bipush X dL_law_54 (by decide +kernel) ?_
        obtain ⟨r17, M18, hc19, hf⟩ := zbnd_some hf
        refine R_callSi X (av := [.int (zI (ishr v2 (4 + (4 * v4)))), .int (zI 16)]) (rest := [.int (zI 1), .int (zI r14), .ref (ad 0)]) (c_L_low l D cas ad hi hc19) zy_L_low wm_L_45 rfl rfl ⟨Nat.le_of_ble_eq_true rfl, Nat.le_of_ble_eq_true rfl⟩ ⟨Nat.le_refl _, Nat.le_refl _⟩ (Nat.le_of_ble_eq_true rfl) dL_law_56 ?_
        refine R_iadd X dL_law_59 ?_
        refine R_iload_n X 2 dL_law_60 rfl rfl ?_
        refine R_iconst X dL_law_61 ?_
        refine R_iload X 4 dL_law_62 rfl ?_
        refine R_iadd X dL_law_64 ?_
        refine R_ishr X dL_law_65 ?_
        refine R_iconst X dL_law_66 ?_
        refine R_iand X dL_law_67 ?_
        refine R_iconst X dL_law_68 ?_
        obtain ⟨hq20, hf⟩ := zgrd hf
        refine R_icmp_ne X 76 ⟨hq20, (by decide)⟩ dL_law_69 (by decide) (fun c21 => ?_) (fun c21 => ?_)
        · have hf := zelse hf c21
          refine R_iconst X dL_law_76 ?_
          exact R_sub [0, 1, 2, 3, 4] rfl (hB77 (f_L_law_b25 xs L n) ih v2 v3 v4 0 (1 + r17) r14 M18 hf)
        · have hf := zthen hf c21
          refine R_iconst X dL_law_72 ?_
          refine R_goto X 77 dL_law_73 (by decide) ?_
          exact R_sub [0, 1, 2, 3, 4] rfl (hB77 (f_L_law_b25 xs L n) ih v2 v3 v4 1 (1 + r17) r14 M18 hf)
  unfold f_L_law at hf
  refine R_aload_n X 1 dL_law_8 rfl rfl ?_
  refine R_iconst X dL_law_9 ?_
  refine R_callC X hi hX hbl hbA hL (by decide) wm_L_104 ⟨Nat.le_of_ble_eq_true rfl, Nat.le_of_ble_eq_true rfl⟩ ⟨Nat.le_refl _, Nat.le_refl _⟩ (Nat.le_of_ble_eq_true rfl) dL_law_10 ?_
  obtain ⟨x1, ex1, hf⟩ := zlt_some hf
  refine R_istore_nX X (lv' := [(2, .int (zI x1)), (1, .ref (ad 0)), (0, .ref b)]) ex1 dL_law_13 rfl (by decide) rfl ?_
  refine R_iconst X dL_law_14 ?_
  refine R_iload_n X 0 dL_law_15 rfl rfl ?_
  refine R_iconst X dL_law_16 ?_
  obtain ⟨r2, M3, hc4, hf⟩ := zbnd_some hf
  refine R_callSi X (av := [.int (zI x1), .int (zI 3)]) (rest := [.int (zI 2)]) (c_L_low l D cas ad hi hc4) zy_L_low wm_L_45 rfl rfl ⟨Nat.le_of_ble_eq_true rfl, Nat.le_of_ble_eq_true rfl⟩ ⟨Nat.le_refl _, Nat.le_refl _⟩ (Nat.le_of_ble_eq_true rfl) dL_law_17 ?_
  refine R_iadd X dL_law_20 ?_
  obtain ⟨x5, ex5, hf⟩ := zlt_some hf
  refine R_istore_nX X (lv' := [(3, .int (zI x5)), (2, .int (zI x1)), (1, .ref (ad 0)), (0, .ref b)]) ex5 dL_law_21 rfl (by decide) rfl ?_
  refine R_iconst X dL_law_22 ?_
  refine R_istore X (lv' := [(4, .int (zI 1)), (3, .int (zI x5)), (2, .int (zI x1)), (1, .ref (ad 0)), (0, .ref b)]) dL_law_23 (by decide) rfl ?_
  exact R_sub [4, 3, 2, 1, 0] rfl (hB25 100000 x1 x5 1 M3 hf)
