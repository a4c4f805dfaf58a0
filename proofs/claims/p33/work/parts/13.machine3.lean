theorem dL_isSound_0 : decode cL_isSound 0 = .ok (.aload_n 0, 1) := by decide +kernel
theorem dL_isSound_1 : decode cL_isSound 1 = .ok (.iconst 3, 1) := by decide +kernel
theorem dL_isSound_2 : decode cL_isSound 2 = .ok (.invokevirtual 12, 3) := by decide +kernel
theorem dL_isSound_5 : decode cL_isSound 5 = .ok (.istore_n 1, 1) := by decide +kernel
theorem dL_isSound_6 : decode cL_isSound 6 = .ok (.iconst 0, 1) := by decide +kernel
theorem dL_isSound_7 : decode cL_isSound 7 = .ok (.istore_n 2, 1) := by decide +kernel
theorem dL_isSound_8 : decode cL_isSound 8 = .ok (.iconst 0, 1) := by decide +kernel
theorem dL_isSound_9 : decode cL_isSound 9 = .ok (.istore_n 3, 1) := by decide +kernel
theorem dL_isSound_10 : decode cL_isSound 10 = .ok (.iconst 0, 1) := by decide +kernel
theorem dL_isSound_11 : decode cL_isSound 11 = .ok (.istore 4, 2) := by decide +kernel
theorem dL_isSound_13 : decode cL_isSound 13 = .ok (.iconst 0, 1) := by decide +kernel
theorem dL_isSound_14 : decode cL_isSound 14 = .ok (.istore 5, 2) := by decide +kernel
theorem dL_isSound_16 : decode cL_isSound 16 = .ok (.iconst 0, 1) := by decide +kernel
theorem dL_isSound_17 : decode cL_isSound 17 = .ok (.istore 6, 2) := by decide +kernel
theorem dL_isSound_19 : decode cL_isSound 19 = .ok (.iload 6, 2) := by decide +kernel
theorem dL_isSound_21 : decode cL_isSound 21 = .ok (.iload_n 1, 1) := by decide +kernel
theorem dL_isSound_22 : decode cL_isSound 22 = .ok (.if_icmp .ge 60, 3) := by decide +kernel
theorem dL_isSound_25 : decode cL_isSound 25 = .ok (.iload_n 2, 1) := by decide +kernel
theorem dL_isSound_26 : decode cL_isSound 26 = .ok (.aload_n 0, 1) := by decide +kernel
theorem dL_isSound_27 : decode cL_isSound 27 = .ok (.iload 6, 2) := by decide +kernel
theorem dL_isSound_29 : decode cL_isSound 29 = .ok (.iconst 3, 1) := by decide +kernel
theorem dL_isSound_30 : decode cL_isSound 30 = .ok (.invokevirtual 18, 3) := by decide +kernel
theorem dL_isSound_33 : decode cL_isSound 33 = .ok (.iadd, 1) := by decide +kernel
theorem dL_isSound_34 : decode cL_isSound 34 = .ok (.istore_n 2, 1) := by decide +kernel
theorem dL_isSound_35 : decode cL_isSound 35 = .ok (.iload_n 3, 1) := by decide +kernel
theorem dL_isSound_36 : decode cL_isSound 36 = .ok (.aload_n 0, 1) := by decide +kernel
theorem dL_isSound_37 : decode cL_isSound 37 = .ok (.iload 6, 2) := by decide +kernel
theorem dL_isSound_39 : decode cL_isSound 39 = .ok (.iconst 4, 1) := by decide +kernel
theorem dL_isSound_40 : decode cL_isSound 40 = .ok (.invokevirtual 18, 3) := by decide +kernel
theorem dL_isSound_43 : decode cL_isSound 43 = .ok (.iadd, 1) := by decide +kernel
theorem dL_isSound_44 : decode cL_isSound 44 = .ok (.istore_n 3, 1) := by decide +kernel
theorem dL_isSound_45 : decode cL_isSound 45 = .ok (.iload 4, 2) := by decide +kernel
theorem dL_isSound_47 : decode cL_isSound 47 = .ok (.aload_n 0, 1) := by decide +kernel
theorem dL_isSound_48 : decode cL_isSound 48 = .ok (.iload 6, 2) := by decide +kernel
theorem dL_isSound_50 : decode cL_isSound 50 = .ok (.iconst 2, 1) := by decide +kernel
theorem dL_isSound_51 : decode cL_isSound 51 = .ok (.invokevirtual 18, 3) := by decide +kernel
theorem dL_isSound_54 : decode cL_isSound 54 = .ok (.iadd, 1) := by decide +kernel
theorem dL_isSound_55 : decode cL_isSound 55 = .ok (.istore 4, 2) := by decide +kernel
theorem dL_isSound_57 : decode cL_isSound 57 = .ok (.aload_n 0, 1) := by decide +kernel
theorem dL_isSound_58 : decode cL_isSound 58 = .ok (.iload 6, 2) := by decide +kernel
theorem dL_isSound_60 : decode cL_isSound 60 = .ok (.iconst 3, 1) := by decide +kernel
theorem dL_isSound_61 : decode cL_isSound 61 = .ok (.invokevirtual 18, 3) := by decide +kernel
theorem dL_isSound_64 : decode cL_isSound 64 = .ok (.aload_n 0, 1) := by decide +kernel
theorem dL_isSound_65 : decode cL_isSound 65 = .ok (.iload 6, 2) := by decide +kernel
theorem dL_isSound_67 : decode cL_isSound 67 = .ok (.iconst 1, 1) := by decide +kernel
theorem dL_isSound_68 : decode cL_isSound 68 = .ok (.invokevirtual 18, 3) := by decide +kernel
theorem dL_isSound_71 : decode cL_isSound 71 = .ok (.if_icmp .le 5, 3) := by decide +kernel
theorem dL_isSound_74 : decode cL_isSound 74 = .ok (.iconst 0, 1) := by decide +kernel
theorem dL_isSound_75 : decode cL_isSound 75 = .ok (.ireturn, 1) := by decide +kernel
theorem dL_isSound_76 : decode cL_isSound 76 = .ok (.iinc 6 1, 3) := by decide +kernel
theorem dL_isSound_79 : decode cL_isSound 79 = .ok (.goto (-60), 3) := by decide +kernel
theorem dL_isSound_82 : decode cL_isSound 82 = .ok (.iconst 0, 1) := by decide +kernel
theorem dL_isSound_83 : decode cL_isSound 83 = .ok (.istore 6, 2) := by decide +kernel
theorem dL_isSound_85 : decode cL_isSound 85 = .ok (.iload 6, 2) := by decide +kernel
theorem dL_isSound_87 : decode cL_isSound 87 = .ok (.bipush 16, 2) := by decide +kernel
theorem dL_isSound_89 : decode cL_isSound 89 = .ok (.if_icmp .ge 183, 3) := by decide +kernel
theorem dL_isSound_92 : decode cL_isSound 92 = .ok (.iload 5, 2) := by decide +kernel
theorem dL_isSound_94 : decode cL_isSound 94 = .ok (.aload_n 0, 1) := by decide +kernel
theorem dL_isSound_95 : decode cL_isSound 95 = .ok (.iload 6, 2) := by decide +kernel
theorem dL_isSound_97 : decode cL_isSound 97 = .ok (.iconst 2, 1) := by decide +kernel
theorem dL_isSound_98 : decode cL_isSound 98 = .ok (.invokevirtual 26, 3) := by decide +kernel
theorem dL_isSound_101 : decode cL_isSound 101 = .ok (.iadd, 1) := by decide +kernel
theorem dL_isSound_102 : decode cL_isSound 102 = .ok (.istore 5, 2) := by decide +kernel
theorem dL_isSound_104 : decode cL_isSound 104 = .ok (.iload_n 3, 1) := by decide +kernel
theorem dL_isSound_105 : decode cL_isSound 105 = .ok (.aload_n 0, 1) := by decide +kernel
theorem dL_isSound_106 : decode cL_isSound 106 = .ok (.iload 6, 2) := by decide +kernel
theorem dL_isSound_108 : decode cL_isSound 108 = .ok (.iconst 3, 1) := by decide +kernel
theorem dL_isSound_109 : decode cL_isSound 109 = .ok (.invokevirtual 26, 3) := by decide +kernel
theorem dL_isSound_112 : decode cL_isSound 112 = .ok (.isub, 1) := by decide +kernel
theorem dL_isSound_113 : decode cL_isSound 113 = .ok (.istore_n 3, 1) := by decide +kernel
theorem dL_isSound_114 : decode cL_isSound 114 = .ok (.aload_n 0, 1) := by decide +kernel
theorem dL_isSound_115 : decode cL_isSound 115 = .ok (.aload_n 0, 1) := by decide +kernel
theorem dL_isSound_116 : decode cL_isSound 116 = .ok (.iload 6, 2) := by decide +kernel
theorem dL_isSound_118 : decode cL_isSound 118 = .ok (.iconst 0, 1) := by decide +kernel
theorem dL_isSound_119 : decode cL_isSound 119 = .ok (.invokevirtual 26, 3) := by decide +kernel
theorem dL_isSound_122 : decode cL_isSound 122 = .ok (.iload 6, 2) := by decide +kernel
theorem dL_isSound_124 : decode cL_isSound 124 = .ok (.iconst 0, 1) := by decide +kernel
theorem dL_isSound_125 : decode cL_isSound 125 = .ok (.invokevirtual 22, 3) := by decide +kernel
theorem dL_isSound_128 : decode cL_isSound 128 = .ok (.bipush (-5), 2) := by decide +kernel
theorem dL_isSound_130 : decode cL_isSound 130 = .ok (.if_icmp .ne 26, 3) := by decide +kernel
theorem dL_isSound_133 : decode cL_isSound 133 = .ok (.aload_n 0, 1) := by decide +kernel
theorem dL_isSound_134 : decode cL_isSound 134 = .ok (.iload 6, 2) := by decide +kernel
theorem dL_isSound_136 : decode cL_isSound 136 = .ok (.iconst 1, 1) := by decide +kernel
theorem dL_isSound_137 : decode cL_isSound 137 = .ok (.invokevirtual 26, 3) := by decide +kernel
theorem dL_isSound_140 : decode cL_isSound 140 = .ok (.ifCond .lt 16, 3) := by decide +kernel
theorem dL_isSound_143 : decode cL_isSound 143 = .ok (.aload_n 0, 1) := by decide +kernel
theorem dL_isSound_144 : decode cL_isSound 144 = .ok (.iload 6, 2) := by decide +kernel
theorem dL_isSound_146 : decode cL_isSound 146 = .ok (.iconst 1, 1) := by decide +kernel
theorem dL_isSound_147 : decode cL_isSound 147 = .ok (.invokevirtual 26, 3) := by decide +kernel
theorem dL_isSound_150 : decode cL_isSound 150 = .ok (.sipush 9999, 3) := by decide +kernel
theorem dL_isSound_153 : decode cL_isSound 153 = .ok (.if_icmp .le 5, 3) := by decide +kernel
theorem dL_isSound_156 : decode cL_isSound 156 = .ok (.iconst 0, 1) := by decide +kernel
theorem dL_isSound_157 : decode cL_isSound 157 = .ok (.ireturn, 1) := by decide +kernel
theorem dL_isSound_158 : decode cL_isSound 158 = .ok (.iconst 0, 1) := by decide +kernel
theorem dL_isSound_159 : decode cL_isSound 159 = .ok (.istore 7, 2) := by decide +kernel
theorem dL_isSound_161 : decode cL_isSound 161 = .ok (.iload 7, 2) := by decide +kernel
theorem dL_isSound_163 : decode cL_isSound 163 = .ok (.iload_n 1, 1) := by decide +kernel
theorem dL_isSound_164 : decode cL_isSound 164 = .ok (.if_icmp .ge 102, 3) := by decide +kernel
theorem dL_isSound_167 : decode cL_isSound 167 = .ok (.aload_n 0, 1) := by decide +kernel
theorem dL_isSound_168 : decode cL_isSound 168 = .ok (.iload 7, 2) := by decide +kernel
theorem dL_isSound_170 : decode cL_isSound 170 = .ok (.iload 6, 2) := by decide +kernel
theorem dL_isSound_172 : decode cL_isSound 172 = .ok (.iconst 0, 1) := by decide +kernel
theorem dL_isSound_173 : decode cL_isSound 173 = .ok (.invokevirtual 22, 3) := by decide +kernel
theorem dL_isSound_176 : decode cL_isSound 176 = .ok (.istore 8, 2) := by decide +kernel
theorem dL_isSound_178 : decode cL_isSound 178 = .ok (.iload 8, 2) := by decide +kernel
theorem dL_isSound_180 : decode cL_isSound 180 = .ok (.ifCond .lt 80, 3) := by decide +kernel
theorem dL_isSound_183 : decode cL_isSound 183 = .ok (.iload 8, 2) := by decide +kernel
theorem dL_isSound_185 : decode cL_isSound 185 = .ok (.iload 7, 2) := by decide +kernel
theorem dL_isSound_187 : decode cL_isSound 187 = .ok (.if_icmp .eq 71, 3) := by decide +kernel
theorem dL_isSound_190 : decode cL_isSound 190 = .ok (.iload 8, 2) := by decide +kernel
theorem dL_isSound_192 : decode cL_isSound 192 = .ok (.iload_n 1, 1) := by decide +kernel
theorem dL_isSound_193 : decode cL_isSound 193 = .ok (.if_icmp .ge 65, 3) := by decide +kernel
theorem dL_isSound_196 : decode cL_isSound 196 = .ok (.aload_n 0, 1) := by decide +kernel
theorem dL_isSound_197 : decode cL_isSound 197 = .ok (.iload 7, 2) := by decide +kernel
theorem dL_isSound_199 : decode cL_isSound 199 = .ok (.iload 6, 2) := by decide +kernel
theorem dL_isSound_201 : decode cL_isSound 201 = .ok (.iconst 1, 1) := by decide +kernel
theorem dL_isSound_202 : decode cL_isSound 202 = .ok (.invokevirtual 22, 3) := by decide +kernel
theorem dL_isSound_205 : decode cL_isSound 205 = .ok (.aload_n 0, 1) := by decide +kernel
theorem dL_isSound_206 : decode cL_isSound 206 = .ok (.iconst 0, 1) := by decide +kernel
theorem dL_isSound_207 : decode cL_isSound 207 = .ok (.invokevirtual 12, 3) := by decide +kernel
theorem dL_isSound_210 : decode cL_isSound 210 = .ok (.if_icmp .gt 48, 3) := by decide +kernel
theorem dL_isSound_213 : decode cL_isSound 213 = .ok (.aload_n 0, 1) := by decide +kernel
theorem dL_isSound_214 : decode cL_isSound 214 = .ok (.iload 6, 2) := by decide +kernel
theorem dL_isSound_216 : decode cL_isSound 216 = .ok (.iconst 0, 1) := by decide +kernel
theorem dL_isSound_217 : decode cL_isSound 217 = .ok (.invokevirtual 26, 3) := by decide +kernel
theorem dL_isSound_220 : decode cL_isSound 220 = .ok (.iload 8, 2) := by decide +kernel
theorem dL_isSound_222 : decode cL_isSound 222 = .ok (.if_icmp .eq 38, 3) := by decide +kernel
theorem dL_isSound_225 : decode cL_isSound 225 = .ok (.aload_n 0, 1) := by decide +kernel
theorem dL_isSound_226 : decode cL_isSound 226 = .ok (.iload 8, 2) := by decide +kernel
theorem dL_isSound_228 : decode cL_isSound 228 = .ok (.iload 6, 2) := by decide +kernel
theorem dL_isSound_230 : decode cL_isSound 230 = .ok (.iconst 1, 1) := by decide +kernel
theorem dL_isSound_231 : decode cL_isSound 231 = .ok (.invokevirtual 22, 3) := by decide +kernel
theorem dL_isSound_234 : decode cL_isSound 234 = .ok (.ifCond .lt 26, 3) := by decide +kernel
theorem dL_isSound_237 : decode cL_isSound 237 = .ok (.aload_n 0, 1) := by decide +kernel
theorem dL_isSound_238 : decode cL_isSound 238 = .ok (.iload 8, 2) := by decide +kernel
theorem dL_isSound_240 : decode cL_isSound 240 = .ok (.iload 6, 2) := by decide +kernel
theorem dL_isSound_242 : decode cL_isSound 242 = .ok (.iconst 1, 1) := by decide +kernel
theorem dL_isSound_243 : decode cL_isSound 243 = .ok (.invokevirtual 22, 3) := by decide +kernel
theorem dL_isSound_246 : decode cL_isSound 246 = .ok (.aload_n 0, 1) := by decide +kernel
theorem dL_isSound_247 : decode cL_isSound 247 = .ok (.iload 7, 2) := by decide +kernel
theorem dL_isSound_249 : decode cL_isSound 249 = .ok (.iload 6, 2) := by decide +kernel
theorem dL_isSound_251 : decode cL_isSound 251 = .ok (.iconst 1, 1) := by decide +kernel
theorem dL_isSound_252 : decode cL_isSound 252 = .ok (.invokevirtual 22, 3) := by decide +kernel
theorem dL_isSound_255 : decode cL_isSound 255 = .ok (.if_icmp .ge 5, 3) := by decide +kernel
theorem dL_isSound_258 : decode cL_isSound 258 = .ok (.iconst 0, 1) := by decide +kernel
theorem dL_isSound_259 : decode cL_isSound 259 = .ok (.ireturn, 1) := by decide +kernel
theorem dL_isSound_260 : decode cL_isSound 260 = .ok (.iinc 7 1, 3) := by decide +kernel
theorem dL_isSound_263 : decode cL_isSound 263 = .ok (.goto (-102), 3) := by decide +kernel
theorem dL_isSound_266 : decode cL_isSound 266 = .ok (.iinc 6 1, 3) := by decide +kernel
theorem dL_isSound_269 : decode cL_isSound 269 = .ok (.goto (-184), 3) := by decide +kernel
theorem dL_isSound_272 : decode cL_isSound 272 = .ok (.iload_n 2, 1) := by decide +kernel
theorem dL_isSound_273 : decode cL_isSound 273 = .ok (.bipush 16, 2) := by decide +kernel
theorem dL_isSound_275 : decode cL_isSound 275 = .ok (.if_icmp .ne 32, 3) := by decide +kernel
theorem dL_isSound_278 : decode cL_isSound 278 = .ok (.iload_n 3, 1) := by decide +kernel
theorem dL_isSound_279 : decode cL_isSound 279 = .ok (.ifCond .ne 28, 3) := by decide +kernel
theorem dL_isSound_282 : decode cL_isSound 282 = .ok (.iload 4, 2) := by decide +kernel
theorem dL_isSound_284 : decode cL_isSound 284 = .ok (.aload_n 0, 1) := by decide +kernel
theorem dL_isSound_285 : decode cL_isSound 285 = .ok (.iconst 4, 1) := by decide +kernel
theorem dL_isSound_286 : decode cL_isSound 286 = .ok (.invokevirtual 12, 3) := by decide +kernel
theorem dL_isSound_289 : decode cL_isSound 289 = .ok (.if_icmp .ne 18, 3) := by decide +kernel
theorem dL_isSound_292 : decode cL_isSound 292 = .ok (.iload 5, 2) := by decide +kernel
theorem dL_isSound_294 : decode cL_isSound 294 = .ok (.aload_n 0, 1) := by decide +kernel
theorem dL_isSound_295 : decode cL_isSound 295 = .ok (.bipush 8, 2) := by decide +kernel
theorem dL_isSound_297 : decode cL_isSound 297 = .ok (.invokevirtual 12, 3) := by decide +kernel
theorem dL_isSound_300 : decode cL_isSound 300 = .ok (.if_icmp .ne 7, 3) := by decide +kernel
theorem dL_isSound_303 : decode cL_isSound 303 = .ok (.iconst 1, 1) := by decide +kernel
theorem dL_isSound_304 : decode cL_isSound 304 = .ok (.goto 4, 3) := by decide +kernel
theorem dL_isSound_307 : decode cL_isSound 307 = .ok (.iconst 0, 1) := by decide +kernel
theorem dL_isSound_308 : decode cL_isSound 308 = .ok (.ireturn, 1) := by decide +kernel
set_option maxRecDepth 100000 in
set_option maxHeartbeats 4000000 in
theorem c_L_isSound (l : Launch) (D : va_G) (cas : Nat → ClassId) (ad : Nat → Nat) (hi : zInj ad)   {r : Int} {M M' : Mem} (hf : f_L_isSound M = some (r, M')) : zMi l D cas ad yL_isSound cL_isSound 9 (some .boolean) 5 109 [.ref (ad 0)] M r M' := by
  refine zbody (by decide) (Nat.le_of_ble_eq_true rfl) hi ?_
  intro p e s m args below meth c X hr hk0
  have X : zX p s m args c cL_isSound "ShardTrailsLaw" 9 D cas ad (zA ad) := X
  have hB156 : ∀ (M : Mem), f_L_isSound_b156 M = some (r, M') → WW p l e (zrm 5 109) s m args below meth c D cas ad (zA ad) 9 0 0 (MQ below (zQi D cas ad r M') args s 0 0 (zA ad)) 156 [] [] M := by
    intro M hf
    unfold f_L_isSound_b156 at hf
    refine R_iconst X dL_isSound_156 ?_
    exact R_zret X (Or.inl rfl) hr hk0 dL_isSound_157 hf
  have hB258 : ∀ (M : Mem), f_L_isSound_b258 M = some (r, M') → WW p l e (zrm 5 109) s m args below meth c D cas ad (zA ad) 9 0 0 (MQ below (zQi D cas ad r M') args s 0 0 (zA ad)) 258 [] [] M := by
    intro M hf
    unfold f_L_isSound_b258 at hf
    refine R_iconst X dL_isSound_258 ?_
    exact R_zret X (Or.inl rfl) hr hk0 dL_isSound_259 hf
  have hB260 : ∀ (g85 : Int → Int → Int → Int → Int → Int → Mem → Option (Int × Mem)) (hg85 : ∀ (v1 v2 v3 v4 v5 v6 : Int) (M : Mem), g85 v1 v2 v3 v4 v5 v6 M = some (r, M') → WW p l e (zrm 5 109) s m args below meth c D cas ad (zA ad) 9 0 0 (MQ below (zQi D cas ad r M') args s 0 0 (zA ad)) 85 [(0, .ref (ad 0)), (1, .int (zI v1)), (2, .int (zI v2)), (3, .int (zI v3)), (4, .int (zI v4)), (5, .int (zI v5)), (6, .int (zI v6))] [] M) (g161 : Int → Int → Int → Int → Int → Int → Int → Mem → Option (Int × Mem)) (hg161 : ∀ (v1 v2 v3 v4 v5 v6 v7 : Int) (M : Mem), g161 v1 v2 v3 v4 v5 v6 v7 M = some (r, M') → WW p l e (zrm 5 109) s m args below meth c D cas ad (zA ad) 9 0 0 (MQ below (zQi D cas ad r M') args s 0 0 (zA ad)) 161 [(0, .ref (ad 0)), (1, .int (zI v1)), (2, .int (zI v2)), (3, .int (zI v3)), (4, .int (zI v4)), (5, .int (zI v5)), (6, .int (zI v6)), (7, .int (zI v7))] [] M) (v1 v2 v3 v4 v5 v6 v7 : Int) (M : Mem), f_L_isSound_b260 g85 g161 v1 v2 v3 v4 v5 v6 v7 M = some (r, M') → WW p l e (zrm 5 109) s m args below meth c D cas ad (zA ad) 9 0 0 (MQ below (zQi D cas ad r M') args s 0 0 (zA ad)) 260 [(0, .ref (ad 0)), (1, .int (zI v1)), (2, .int (zI v2)), (3, .int (zI v3)), (4, .int (zI v4)), (5, .int (zI v5)), (6, .int (zI v6)), (7, .int (zI v7))] [] M := by
    intro g85 hg85 g161 hg161 v1 v2 v3 v4 v5 v6 v7 M hf
    unfold f_L_isSound_b260 at hf
    refine R_iinc X (lv' := [(7, .int (zI (v7 + 1))), (0, .ref (ad 0)), (1, .int (zI v1)), (2, .int (zI v2)), (3, .int (zI v3)), (4, .int (zI v4)), (5, .int (zI v5)), (6, .int (zI v6))]) 7 dL_isSound_260 rfl (by decide) rfl ?_
    refine R_goto X 161 dL_isSound_263 (by decide) ?_
    exact R_sub [1, 2, 3, 4, 5, 6, 7, 0] rfl (hg161 v1 v2 v3 v4 v5 v6 (v7 + 1) M hf)
  have hB161 : ∀ (g85 : Int → Int → Int → Int → Int → Int → Mem → Option (Int × Mem)) (hg85 : ∀ (v1 v2 v3 v4 v5 v6 : Int) (M : Mem), g85 v1 v2 v3 v4 v5 v6 M = some (r, M') → WW p l e (zrm 5 109) s m args below meth c D cas ad (zA ad) 9 0 0 (MQ below (zQi D cas ad r M') args s 0 0 (zA ad)) 85 [(0, .ref (ad 0)), (1, .int (zI v1)), (2, .int (zI v2)), (3, .int (zI v3)), (4, .int (zI v4)), (5, .int (zI v5)), (6, .int (zI v6))] [] M) (n : Nat) (v1 v2 v3 v4 v5 v6 v7 : Int) (M : Mem), f_L_isSound_b161 g85 n v1 v2 v3 v4 v5 v6 v7 M = some (r, M') → WW p l e (zrm 5 109) s m args below meth c D cas ad (zA ad) 9 0 0 (MQ below (zQi D cas ad r M') args s 0 0 (zA ad)) 161 [(0, .ref (ad 0)), (1, .int (zI v1)), (2, .int (zI v2)), (3, .int (zI v3)), (4, .int (zI v4)), (5, .int (zI v5)), (6, .int (zI v6)), (7, .int (zI v7))] [] M := by
    intro g85 hg85 n
    induction n with
    | zero => intro v1 v2 v3 v4 v5 v6 v7 M hf; exact absurd hf (by unfold f_L_isSound_b161; simp)
    | succ n ih =>
      intro v1 v2 v3 v4 v5 v6 v7 M hf
      unfold f_L_isSound_b161 at hf
      refine R_iload X 7 dL_isSound_161 rfl ?_
      refine R_iload_n X 1 dL_isSound_163 rfl rfl ?_
      obtain ⟨hq71, hf⟩ := zgrd hf
      obtain ⟨hq72, hf⟩ := zgrd hf
      refine R_icmp_ge X 266 ⟨hq71, hq72⟩ dL_isSound_164 (by decide) (fun c109 => ?_) (fun c109 => ?_)
      · have hf := zthen hf c109
        refine R_iinc X (lv' := [(6, .int (zI (v6 + 1))), (0, .ref (ad 0)), (1, .int (zI v1)), (2, .int (zI v2)), (3, .int (zI v3)), (4, .int (zI v4)), (5, .int (zI v5)), (7, .int (zI v7))]) 6 dL_isSound_266 rfl (by decide) rfl ?_
        refine R_goto X 85 dL_isSound_269 (by decide) ?_
        exact R_sub [1, 2, 3, 4, 5, 6, 0] rfl (hg85 v1 v2 v3 v4 v5 (v6 + 1) M hf)
      · have hf := zelse hf c109
        refine R_aload_n X 0 dL_isSound_167 rfl rfl ?_
        refine R_iload X 7 dL_isSound_168 rfl ?_
        refine R_iload X 6 dL_isSound_170 rfl ?_
        refine R_iconst X dL_isSound_172 ?_
        obtain ⟨r73, M74, hc75, hf⟩ := zbnd_some hf
        refine R_callVi X (av := [.int (zI v7), .int (zI v6), .int (zI 0)]) (rest := []) (c_X9_track l D cas ad hi hc75) zy_X9_track lc_0 rfl rfl wm_L_22 rfl rfl ⟨Nat.le_of_ble_eq_true rfl, Nat.le_of_ble_eq_true rfl⟩ ⟨Nat.le_refl _, Nat.le_refl _⟩ (Nat.le_of_ble_eq_true rfl) dL_isSound_173 ?_
        refine R_istore X (lv' := [(8, .int (zI r73)), (0, .ref (ad 0)), (1, .int (zI v1)), (2, .int (zI v2)), (3, .int (zI v3)), (4, .int (zI v4)), (5, .int (zI v5)), (6, .int (zI v6)), (7, .int (zI v7))]) dL_isSound_176 (by decide) rfl ?_
        refine R_iload X 0 dL_isSound_178 rfl ?_
        obtain ⟨hq76, hf⟩ := zgrd hf
        refine R_if_lt X 260 hq76 dL_isSound_180 (by decide) (fun c108 => ?_) (fun c108 => ?_)
        · have hf := zthen hf c108
          exact R_sub [1, 2, 3, 4, 5, 6, 7, 8] rfl (hB260 g85 hg85 (f_L_isSound_b161 g85 n) ih v1 v2 v3 v4 v5 v6 v7 M74 hf)
        · have hf := zelse hf c108
          refine R_iload X 0 dL_isSound_183 rfl ?_
          refine R_iload X 8 dL_isSound_185 rfl ?_
          obtain ⟨hq77, hf⟩ := zgrd hf
          refine R_icmp_eqW X 258 hq77 dL_isSound_187 (by decide) (fun c107 => ?_) (fun c107 => ?_)
          · have hf := zthen hf c107
            exact R_sub [] rfl (hB258 M74 hf)
          · have hf := zelse hf c107
            refine R_iload X 0 dL_isSound_190 rfl ?_
            refine R_iload_n X 2 dL_isSound_192 rfl rfl ?_
            refine R_icmp_ge X 258 ⟨hq76, hq72⟩ dL_isSound_193 (by decide) (fun c106 => ?_) (fun c106 => ?_)
            · have hf := zthen hf c106
              exact R_sub [] rfl (hB258 M74 hf)
            · have hf := zelse hf c106
              refine R_aload_n X 1 dL_isSound_196 rfl rfl ?_
              refine R_iload X 8 dL_isSound_197 rfl ?_
              refine R_iload X 7 dL_isSound_199 rfl ?_
              refine R_iconst X dL_isSound_201 ?_
              obtain ⟨r78, M79, hc80, hf⟩ := zbnd_some hf
              refine R_callVi X (av := [.int (zI v7), .int (zI v6), .int (zI 1)]) (rest := []) (c_X9_track l D cas ad hi hc80) zy_X9_track lc_0 rfl rfl wm_L_22 rfl rfl ⟨Nat.le_of_ble_eq_true rfl, Nat.le_of_ble_eq_true rfl⟩ ⟨Nat.le_refl _, Nat.le_refl _⟩ (Nat.le_of_ble_eq_true rfl) dL_isSound_202 ?_
              refine R_aload_n X 1 dL_isSound_205 rfl rfl ?_
              refine R_iconst X dL_isSound_206 ?_
              obtain ⟨r81, M82, hc83, hf⟩ := zbnd_some hf
              refine R_callVi X (av := [.int (zI 0)]) (rest := [.int (zI r78)]) (c_X9_count l D cas ad hi hc83) zy_X9_count lc_0 rfl rfl wm_L_12 rfl rfl ⟨Nat.le_of_ble_eq_true rfl, Nat.le_of_ble_eq_true rfl⟩ ⟨Nat.le_refl _, Nat.le_refl _⟩ (Nat.le_of_ble_eq_true rfl) dL_isSound_207 ?_
              obtain ⟨hq84, hf⟩ := zgrd hf
              obtain ⟨hq85, hf⟩ := zgrd hf
              refine R_icmp_gt X 258 ⟨hq84, hq85⟩ dL_isSound_210 (by decide) (fun c105 => ?_) (fun c105 => ?_)
              · have hf := zthen hf c105
                exact R_sub [] rfl (hB258 M82 hf)
              · have hf := zelse hf c105
                refine R_aload_n X 1 dL_isSound_213 rfl rfl ?_
                refine R_iload X 7 dL_isSound_214 rfl ?_
                refine R_iconst X dL_isSound_216 ?_
                obtain ⟨r86, M87, hc88, hf⟩ := zbnd_some hf
                refine R_callVi X (av := [.int (zI v6), .int (zI 0)]) (rest := []) (c_X9_shard l D cas ad hi hc88) zy_X9_shard lc_0 rfl rfl wm_L_26 rfl rfl ⟨Nat.le_of_ble_eq_true rfl, Nat.le_of_ble_eq_true rfl⟩ ⟨Nat.le_refl _, Nat.le_refl _⟩ (Nat.le_of_ble_eq_true rfl) dL_isSound_217 ?_
                refine R_iload X 0 dL_isSound_220 rfl ?_
                obtain ⟨hq89, hf⟩ := zgrd hf
                refine R_icmp_eqW X 260 hq89 dL_isSound_222 (by decide) (fun c104 => ?_) (fun c104 => ?_)
                · have hf := zthen hf c104
                  exact R_sub [1, 2, 3, 4, 5, 6, 7, 8] rfl (hB260 g85 hg85 (f_L_isSound_b161 g85 n) ih v1 v2 v3 v4 v5 v6 v7 M87 hf)
                · have hf := zelse hf c104
                  refine R_aload_n X 1 dL_isSound_225 rfl rfl ?_
                  refine R_iload X 0 dL_isSound_226 rfl ?_
                  refine R_iload X 7 dL_isSound_228 rfl ?_
                  refine R_iconst X dL_isSound_230 ?_
                  obtain ⟨r90, M91, hc92, hf⟩ := zbnd_some hf
                  refine R_callVi X (av := [.int (zI r73), .int (zI v6), .int (zI 1)]) (rest := []) (c_X9_track l D cas ad hi hc92) zy_X9_track lc_0 rfl rfl wm_L_22 rfl rfl ⟨Nat.le_of_ble_eq_true rfl, Nat.le_of_ble_eq_true rfl⟩ ⟨Nat.le_refl _, Nat.le_refl _⟩ (Nat.le_of_ble_eq_true rfl) dL_isSound_231 ?_
                  obtain ⟨hq93, hf⟩ := zgrd hf
                  refine R_if_lt X 260 hq93 dL_isSound_234 (by decide) (fun c103 => ?_) (fun c103 => ?_)
                  · have hf := zthen hf c103
                    exact R_sub [1, 2, 3, 4, 5, 6, 7, 8] rfl (hB260 g85 hg85 (f_L_isSound_b161 g85 n) ih v1 v2 v3 v4 v5 v6 v7 M91 hf)
                  · have hf := zelse hf c103
                    refine R_aload_n X 1 dL_isSound_237 rfl rfl ?_
                    refine R_iload X 0 dL_isSound_238 rfl ?_
                    refine R_iload X 7 dL_isSound_240 rfl ?_
                    refine R_iconst X dL_isSound_242 ?_
                    obtain ⟨r94, M95, hc96, hf⟩ := zbnd_some hf
                    refine R_callVi X (av := [.int (zI r73), .int (zI v6), .int (zI 1)]) (rest := []) (c_X9_track l D cas ad hi hc96) zy_X9_track lc_0 rfl rfl wm_L_22 rfl rfl ⟨Nat.le_of_ble_eq_true rfl, Nat.le_of_ble_eq_true rfl⟩ ⟨Nat.le_refl _, Nat.le_refl _⟩ (Nat.le_of_ble_eq_true rfl) dL_isSound_243 ?_
                    refine R_aload_n X 1 dL_isSound_246 rfl rfl ?_
                    refine R_iload X 8 dL_isSound_247 rfl ?_
                    refine R_iload X 7 dL_isSound_249 rfl ?_
                    refine R_iconst X dL_isSound_251 ?_
                    obtain ⟨r97, M98, hc99, hf⟩ := zbnd_some hf
                    refine R_callVi X (av := [.int (zI v7), .int (zI v6), .int (zI 1)]) (rest := [.int (zI r94)]) (c_X9_track l D cas ad hi hc99) zy_X9_track lc_0 rfl rfl wm_L_22 rfl rfl ⟨Nat.le_of_ble_eq_true rfl, Nat.le_of_ble_eq_true rfl⟩ ⟨Nat.le_refl _, Nat.le_refl _⟩ (Nat.le_of_ble_eq_true rfl) dL_isSound_252 ?_
                    obtain ⟨hq100, hf⟩ := zgrd hf
                    obtain ⟨hq101, hf⟩ := zgrd hf
                    refine R_icmp_ge X 260 ⟨hq100, hq101⟩ dL_isSound_255 (by decide) (fun c102 => ?_) (fun c102 => ?_)
                    · have hf := zthen hf c102
                      exact R_sub [1, 2, 3, 4, 5, 6, 7, 8] rfl (hB260 g85 hg85 (f_L_isSound_b161 g85 n) ih v1 v2 v3 v4 v5 v6 v7 M98 hf)
                    · have hf := zelse hf c102
                      exact R_sub [] rfl (hB258 M98 hf)
  have hB308 : ∀ (t1 : Int) (M : Mem), f_L_isSound_b308 t1 M = some (r, M') → WW p l e (zrm 5 109) s m args below meth c D cas ad (zA ad) 9 0 0 (MQ below (zQi D cas ad r M') args s 0 0 (zA ad)) 308 [] [.int (zI t1)] M := by
    intro t1 M hf
    unfold f_L_isSound_b308 at hf
    obtain ⟨hq70, hf⟩ := zgrd hf
    exact R_zret X hq70 hr hk0 dL_isSound_308 hf
  have hB307 : ∀ (M : Mem), f_L_isSound_b307 M = some (r, M') → WW p l e (zrm 5 109) s m args below meth c D cas ad (zA ad) 9 0 0 (MQ below (zQi D cas ad r M') args s 0 0 (zA ad)) 307 [] [] M := by
    intro M hf
    unfold f_L_isSound_b307 at hf
    refine R_iconst X dL_isSound_307 ?_
    exact R_sub [] rfl (hB308 0 M hf)
  have hB85 : ∀ (n : Nat) (v1 v2 v3 v4 v5 v6 : Int) (M : Mem), f_L_isSound_b85 n v1 v2 v3 v4 v5 v6 M = some (r, M') → WW p l e (zrm 5 109) s m args below meth c D cas ad (zA ad) 9 0 0 (MQ below (zQi D cas ad r M') args s 0 0 (zA ad)) 85 [(0, .ref (ad 0)), (1, .int (zI v1)), (2, .int (zI v2)), (3, .int (zI v3)), (4, .int (zI v4)), (5, .int (zI v5)), (6, .int (zI v6))] [] M := by
    intro n
    induction n with
    | zero => intro v1 v2 v3 v4 v5 v6 M hf; exact absurd hf (by unfold f_L_isSound_b85; simp)
    | succ n ih =>
      intro v1 v2 v3 v4 v5 v6 M hf
      unfold f_L_isSound_b85 at hf
      refine R_iload X 6 dL_isSound_85 rfl ?_
      refine R_bipush X dL_isSound_87 (by decide +kernel) ?_
      obtain ⟨hq28, hf⟩ := zgrd hf
      refine R_icmp_ge X 272 ⟨hq28, (by decide)⟩ dL_isSound_89 (by decide) (fun c69 => ?_) (fun c69 => ?_)
      · have hf := zthen hf c69
        refine R_iload_n X 2 dL_isSound_272 rfl rfl ?_
        refine R_bipush X dL_isSound_273 (by decide +kernel) ?_
        obtain ⟨hq29, hf⟩ := zgrd hf
        refine R_icmp_ne X 307 ⟨hq29, (by decide)⟩ dL_isSound_275 (by decide) (fun c42 => ?_) (fun c42 => ?_)
        · have hf := zelse hf c42
          exact R_sub [] rfl (hB307 M hf)
        · have hf := zthen hf c42
          refine R_iload_n X 3 dL_isSound_278 rfl rfl ?_
          obtain ⟨hq30, hf⟩ := zgrd hf
          refine R_if_ne X 307 hq30 dL_isSound_279 (by decide) (fun c41 => ?_) (fun c41 => ?_)
          · have hf := zelse hf c41
            exact R_sub [] rfl (hB307 M hf)
          · have hf := zthen hf c41
            refine R_iload X 4 dL_isSound_282 rfl ?_
            refine R_aload_n X 0 dL_isSound_284 rfl rfl ?_
            refine R_iconst X dL_isSound_285 ?_
            obtain ⟨r31, M32, hc33, hf⟩ := zbnd_some hf
            refine R_callVi X (av := [.int (zI 4)]) (rest := [.int (zI v4)]) (c_X9_count l D cas ad hi hc33) zy_X9_count lc_0 rfl rfl wm_L_12 rfl rfl ⟨Nat.le_of_ble_eq_true rfl, Nat.le_of_ble_eq_true rfl⟩ ⟨Nat.le_refl _, Nat.le_refl _⟩ (Nat.le_of_ble_eq_true rfl) dL_isSound_286 ?_
            obtain ⟨hq34, hf⟩ := zgrd hf
            refine R_icmp_neW X 307 hq34 dL_isSound_289 (by decide) (fun c40 => ?_) (fun c40 => ?_)
            · have hf := zelse hf c40
              exact R_sub [] rfl (hB307 M32 hf)
            · have hf := zthen hf c40
              refine R_iload X 5 dL_isSound_292 rfl ?_
              refine R_aload_n X 0 dL_isSound_294 rfl rfl ?_
              refine R_bipush X dL_isSound_295 (by decide +kernel) ?_
              obtain ⟨r35, M36, hc37, hf⟩ := zbnd_some hf
              refine R_callVi X (av := [.int (zI 8)]) (rest := [.int (zI v5)]) (c_X9_count l D cas ad hi hc37) zy_X9_count lc_0 rfl rfl wm_L_12 rfl rfl ⟨Nat.le_of_ble_eq_true rfl, Nat.le_of_ble_eq_true rfl⟩ ⟨Nat.le_refl _, Nat.le_refl _⟩ (Nat.le_of_ble_eq_true rfl) dL_isSound_297 ?_
              obtain ⟨hq38, hf⟩ := zgrd hf
              refine R_icmp_neW X 307 hq38 dL_isSound_300 (by decide) (fun c39 => ?_) (fun c39 => ?_)
              · have hf := zelse hf c39
                exact R_sub [] rfl (hB307 M36 hf)
              · have hf := zthen hf c39
                refine R_iconst X dL_isSound_303 ?_
                refine R_goto X 308 dL_isSound_304 (by decide) ?_
                exact R_sub [] rfl (hB308 1 M36 hf)
      · have hf := zelse hf c69
        refine R_iload X 5 dL_isSound_92 rfl ?_
        refine R_aload_n X 0 dL_isSound_94 rfl rfl ?_
        refine R_iload X 6 dL_isSound_95 rfl ?_
        refine R_iconst X dL_isSound_97 ?_
        obtain ⟨r43, M44, hc45, hf⟩ := zbnd_some hf
        refine R_callVi X (av := [.int (zI v6), .int (zI 2)]) (rest := [.int (zI v5)]) (c_X9_shard l D cas ad hi hc45) zy_X9_shard lc_0 rfl rfl wm_L_26 rfl rfl ⟨Nat.le_of_ble_eq_true rfl, Nat.le_of_ble_eq_true rfl⟩ ⟨Nat.le_refl _, Nat.le_refl _⟩ (Nat.le_of_ble_eq_true rfl) dL_isSound_98 ?_
        refine R_iadd X dL_isSound_101 ?_
        obtain ⟨x46, ex46, hf⟩ := zlt_some hf
        refine R_istoreX X (lv' := [(5, .int (zI x46)), (0, .ref (ad 0)), (1, .int (zI v1)), (2, .int (zI v2)), (3, .int (zI v3)), (4, .int (zI v4)), (6, .int (zI v6))]) ex46 dL_isSound_102 (by decide) rfl ?_
        refine R_iload_n X 4 dL_isSound_104 rfl rfl ?_
        refine R_aload_n X 1 dL_isSound_105 rfl rfl ?_
        refine R_iload X 6 dL_isSound_106 rfl ?_
        refine R_iconst X dL_isSound_108 ?_
        obtain ⟨r47, M48, hc49, hf⟩ := zbnd_some hf
        refine R_callVi X (av := [.int (zI v6), .int (zI 3)]) (rest := [.int (zI v3)]) (c_X9_shard l D cas ad hi hc49) zy_X9_shard lc_0 rfl rfl wm_L_26 rfl rfl ⟨Nat.le_of_ble_eq_true rfl, Nat.le_of_ble_eq_true rfl⟩ ⟨Nat.le_refl _, Nat.le_refl _⟩ (Nat.le_of_ble_eq_true rfl) dL_isSound_109 ?_
        refine R_isub X dL_isSound_112 ?_
        obtain ⟨x50, ex50, hf⟩ := zlt_some hf
        refine R_istore_nX X (lv' := [(3, .int (zI x50)), (5, .int (zI x46)), (0, .ref (ad 0)), (1, .int (zI v1)), (2, .int (zI v2)), (4, .int (zI v4)), (6, .int (zI v6))]) ex50 dL_isSound_113 rfl (by decide) rfl ?_
        refine R_aload_n X 2 dL_isSound_114 rfl rfl ?_
        refine R_aload_n X 2 dL_isSound_115 rfl rfl ?_
        refine R_iload X 6 dL_isSound_116 rfl ?_
        refine R_iconst X dL_isSound_118 ?_
        obtain ⟨r51, M52, hc53, hf⟩ := zbnd_some hf
        refine R_callVi X (av := [.int (zI v6), .int (zI 0)]) (rest := [.ref (ad 0)]) (c_X9_shard l D cas ad hi hc53) zy_X9_shard lc_0 rfl rfl wm_L_26 rfl rfl ⟨Nat.le_of_ble_eq_true rfl, Nat.le_of_ble_eq_true rfl⟩ ⟨Nat.le_refl _, Nat.le_refl _⟩ (Nat.le_of_ble_eq_true rfl) dL_isSound_119 ?_
        refine R_iload X 6 dL_isSound_122 rfl ?_
        refine R_iconst X dL_isSound_124 ?_
        obtain ⟨r54, M55, hc56, hf⟩ := zbnd_some hf
        refine R_callVi X (av := [.int (zI r51), .int (zI v6), .int (zI 0)]) (rest := []) (c_X9_track l D cas ad hi hc56) zy_X9_track lc_0 rfl rfl wm_L_22 rfl rfl ⟨Nat.le_of_ble_eq_true rfl, Nat.le_of_ble_eq_true rfl⟩ ⟨Nat.le_refl _, Nat.le_refl _⟩ (Nat.le_of_ble_eq_true rfl) dL_isSound_125 ?_
        refine R_bipush X dL_isSound_128 (by decide +kernel) ?_
        obtain ⟨hq57, hf⟩ := zgrd hf
        refine R_icmp_ne X 156 ⟨hq57, (by decide)⟩ dL_isSound_130 (by decide) (fun c68 => ?_) (fun c68 => ?_)
        · have hf := zelse hf c68
          exact R_sub [] rfl (hB156 M55 hf)
        · have hf := zthen hf c68
          refine R_aload_n X 2 dL_isSound_133 rfl rfl ?_
          refine R_iload X 6 dL_isSound_134 rfl ?_
          refine R_iconst X dL_isSound_136 ?_
          obtain ⟨r58, M59, hc60, hf⟩ := zbnd_some hf
          refine R_callVi X (av := [.int (zI v6), .int (zI 1)]) (rest := []) (c_X9_shard l D cas ad hi hc60) zy_X9_shard lc_0 rfl rfl wm_L_26 rfl rfl ⟨Nat.le_of_ble_eq_true rfl, Nat.le_of_ble_eq_true rfl⟩ ⟨Nat.le_refl _, Nat.le_refl _⟩ (Nat.le_of_ble_eq_true rfl) dL_isSound_137 ?_
          obtain ⟨hq61, hf⟩ := zgrd hf
          refine R_if_lt X 156 hq61 dL_isSound_140 (by decide) (fun c67 => ?_) (fun c67 => ?_)
          · have hf := zthen hf c67
            exact R_sub [] rfl (hB156 M59 hf)
          · have hf := zelse hf c67
            refine R_aload_n X 2 dL_isSound_143 rfl rfl ?_
            refine R_iload X 6 dL_isSound_144 rfl ?_
            refine R_iconst X dL_isSound_146 ?_
            obtain ⟨r62, M63, hc64, hf⟩ := zbnd_some hf
            refine R_callVi X (av := [.int (zI v6), .int (zI 1)]) (rest := []) (c_X9_shard l D cas ad hi hc64) zy_X9_shard lc_0 rfl rfl wm_L_26 rfl rfl ⟨Nat.le_of_ble_eq_true rfl, Nat.le_of_ble_eq_true rfl⟩ ⟨Nat.le_refl _, Nat.le_refl _⟩ (Nat.le_of_ble_eq_true rfl) dL_isSound_147 ?_
            refine R_sipush X dL_isSound_150 (by decide +kernel) ?_
            obtain ⟨hq65, hf⟩ := zgrd hf
            refine R_icmp_le X 158 ⟨hq65, (by decide)⟩ dL_isSound_153 (by decide) (fun c66 => ?_) (fun c66 => ?_)
            · have hf := zthen hf c66
              refine R_iconst X dL_isSound_158 ?_
              refine R_istore X (lv' := [(7, .int (zI 0)), (3, .int (zI x50)), (5, .int (zI x46)), (0, .ref (ad 0)), (1, .int (zI v1)), (2, .int (zI v2)), (4, .int (zI v4)), (6, .int (zI v6))]) dL_isSound_159 (by decide) rfl ?_
              exact R_sub [3, 4, 5, 1, 6, 2, 7, 0] rfl (hB161 (f_L_isSound_b85 n) ih 100000 v1 v2 x50 v4 x46 v6 0 M63 hf)
            · have hf := zelse hf c66
              exact R_sub [] rfl (hB156 M63 hf)
  have hB19 : ∀ (n : Nat) (v1 v2 v3 v4 v5 v6 : Int) (M : Mem), f_L_isSound_b19 n v1 v2 v3 v4 v5 v6 M = some (r, M') → WW p l e (zrm 5 109) s m args below meth c D cas ad (zA ad) 9 0 0 (MQ below (zQi D cas ad r M') args s 0 0 (zA ad)) 19 [(0, .ref (ad 0)), (1, .int (zI v1)), (2, .int (zI v2)), (3, .int (zI v3)), (4, .int (zI v4)), (5, .int (zI v5)), (6, .int (zI v6))] [] M := by
    intro n
    induction n with
    | zero => intro v1 v2 v3 v4 v5 v6 M hf; exact absurd hf (by unfold f_L_isSound_b19; simp)
    | succ n ih =>
      intro v1 v2 v3 v4 v5 v6 M hf
      unfold f_L_isSound_b19 at hf
      refine R_iload X 6 dL_isSound_19 rfl ?_
      refine R_iload_n X 1 dL_isSound_21 rfl rfl ?_
      obtain ⟨hq4, hf⟩ := zgrd hf
      obtain ⟨hq5, hf⟩ := zgrd hf
      refine R_icmp_ge X 82 ⟨hq4, hq5⟩ dL_isSound_22 (by decide) (fun c27 => ?_) (fun c27 => ?_)
      · have hf := zthen hf c27
        refine R_iconst X dL_isSound_82 ?_
        refine R_istore X (lv' := [(6, .int (zI 0)), (0, .ref (ad 0)), (1, .int (zI v1)), (2, .int (zI v2)), (3, .int (zI v3)), (4, .int (zI v4)), (5, .int (zI v5))]) dL_isSound_83 (by decide) rfl ?_
        exact R_sub [1, 2, 3, 4, 5, 6, 0] rfl (hB85 100000 v1 v2 v3 v4 v5 0 M hf)
      · have hf := zelse hf c27
        refine R_iload_n X 2 dL_isSound_25 rfl rfl ?_
        refine R_aload_n X 0 dL_isSound_26 rfl rfl ?_
        refine R_iload X 6 dL_isSound_27 rfl ?_
        refine R_iconst X dL_isSound_29 ?_
        obtain ⟨r6, M7, hc8, hf⟩ := zbnd_some hf
        refine R_callVi X (av := [.int (zI v6), .int (zI 3)]) (rest := [.int (zI v2)]) (c_X9_pasture l D cas ad hi hc8) zy_X9_pasture lc_0 rfl rfl wm_L_18 rfl rfl ⟨Nat.le_of_ble_eq_true rfl, Nat.le_of_ble_eq_true rfl⟩ ⟨Nat.le_refl _, Nat.le_refl _⟩ (Nat.le_of_ble_eq_true rfl) dL_isSound_30 ?_
        refine R_iadd X dL_isSound_33 ?_
        obtain ⟨x9, ex9, hf⟩ := zlt_some hf
        refine R_istore_nX X (lv' := [(2, .int (zI x9)), (0, .ref (ad 0)), (1, .int (zI v1)), (3, .int (zI v3)), (4, .int (zI v4)), (5, .int (zI v5)), (6, .int (zI v6))]) ex9 dL_isSound_34 rfl (by decide) rfl ?_
        refine R_iload_n X 3 dL_isSound_35 rfl rfl ?_
        refine R_aload_n X 1 dL_isSound_36 rfl rfl ?_
        refine R_iload X 6 dL_isSound_37 rfl ?_
        refine R_iconst X dL_isSound_39 ?_
        obtain ⟨r10, M11, hc12, hf⟩ := zbnd_some hf
        refine R_callVi X (av := [.int (zI v6), .int (zI 4)]) (rest := [.int (zI v3)]) (c_X9_pasture l D cas ad hi hc12) zy_X9_pasture lc_0 rfl rfl wm_L_18 rfl rfl ⟨Nat.le_of_ble_eq_true rfl, Nat.le_of_ble_eq_true rfl⟩ ⟨Nat.le_refl _, Nat.le_refl _⟩ (Nat.le_of_ble_eq_true rfl) dL_isSound_40 ?_
        refine R_iadd X dL_isSound_43 ?_
        obtain ⟨x13, ex13, hf⟩ := zlt_some hf
        refine R_istore_nX X (lv' := [(3, .int (zI x13)), (2, .int (zI x9)), (0, .ref (ad 0)), (1, .int (zI v1)), (4, .int (zI v4)), (5, .int (zI v5)), (6, .int (zI v6))]) ex13 dL_isSound_44 rfl (by decide) rfl ?_
        refine R_iload X 4 dL_isSound_45 rfl ?_
        refine R_aload_n X 2 dL_isSound_47 rfl rfl ?_
        refine R_iload X 6 dL_isSound_48 rfl ?_
        refine R_iconst X dL_isSound_50 ?_
        obtain ⟨r14, M15, hc16, hf⟩ := zbnd_some hf
        refine R_callVi X (av := [.int (zI v6), .int (zI 2)]) (rest := [.int (zI v4)]) (c_X9_pasture l D cas ad hi hc16) zy_X9_pasture lc_0 rfl rfl wm_L_18 rfl rfl ⟨Nat.le_of_ble_eq_true rfl, Nat.le_of_ble_eq_true rfl⟩ ⟨Nat.le_refl _, Nat.le_refl _⟩ (Nat.le_of_ble_eq_true rfl) dL_isSound_51 ?_
        refine R_iadd X dL_isSound_54 ?_
        obtain ⟨x17, ex17, hf⟩ := zlt_some hf
        refine R_istoreX X (lv' := [(4, .int (zI x17)), (3, .int (zI x13)), (2, .int (zI x9)), (0, .ref (ad 0)), (1, .int (zI v1)), (5, .int (zI v5)), (6, .int (zI v6))]) ex17 dL_isSound_55 (by decide) rfl ?_
        refine R_aload_n X 3 dL_isSound_57 rfl rfl ?_
        refine R_iload X 6 dL_isSound_58 rfl ?_
        refine R_iconst X dL_isSound_60 ?_
        obtain ⟨r18, M19, hc20, hf⟩ := zbnd_some hf
        refine R_callVi X (av := [.int (zI v6), .int (zI 3)]) (rest := []) (c_X9_pasture l D cas ad hi hc20) zy_X9_pasture lc_0 rfl rfl wm_L_18 rfl rfl ⟨Nat.le_of_ble_eq_true rfl, Nat.le_of_ble_eq_true rfl⟩ ⟨Nat.le_refl _, Nat.le_refl _⟩ (Nat.le_of_ble_eq_true rfl) dL_isSound_61 ?_
        refine R_aload_n X 3 dL_isSound_64 rfl rfl ?_
        refine R_iload X 6 dL_isSound_65 rfl ?_
        refine R_iconst X dL_isSound_67 ?_
        obtain ⟨r21, M22, hc23, hf⟩ := zbnd_some hf
        refine R_callVi X (av := [.int (zI v6), .int (zI 1)]) (rest := [.int (zI r18)]) (c_X9_pasture l D cas ad hi hc23) zy_X9_pasture lc_0 rfl rfl wm_L_18 rfl rfl ⟨Nat.le_of_ble_eq_true rfl, Nat.le_of_ble_eq_true rfl⟩ ⟨Nat.le_refl _, Nat.le_refl _⟩ (Nat.le_of_ble_eq_true rfl) dL_isSound_68 ?_
        obtain ⟨hq24, hf⟩ := zgrd hf
        obtain ⟨hq25, hf⟩ := zgrd hf
        refine R_icmp_le X 76 ⟨hq24, hq25⟩ dL_isSound_71 (by decide) (fun c26 => ?_) (fun c26 => ?_)
        · have hf := zthen hf c26
          refine R_iinc X (lv' := [(6, .int (zI (v6 + 1))), (4, .int (zI x17)), (3, .int (zI x13)), (2, .int (zI x9)), (0, .ref (ad 0)), (1, .int (zI v1)), (5, .int (zI v5))]) 6 dL_isSound_76 rfl (by decide) rfl ?_
          refine R_goto X 19 dL_isSound_79 (by decide) ?_
          exact R_sub [4, 5, 3, 2, 1, 6, 0] rfl (ih v1 x9 x13 x17 v5 (v6 + 1) M22 hf)
        · have hf := zelse hf c26
          refine R_iconst X dL_isSound_74 ?_
          exact R_zret X (Or.inl rfl) hr hk0 dL_isSound_75 hf
  unfold f_L_isSound at hf
  refine (?_ : WW p l e (zrm 5 109) s m args below meth c D cas ad (zA ad) 9 0 0 (MQ below (zQi D cas ad r M') args s 0 0 (zA ad)) 0 [(0, .ref (ad 0))] [] M)
  refine R_aload_n X 0 dL_isSound_0 rfl rfl ?_
  refine R_iconst X dL_isSound_1 ?_
  obtain ⟨r1, M2, hc3, hf⟩ := zbnd_some hf
  refine R_callVi X (av := [.int (zI 3)]) (rest := []) (c_X9_count l D cas ad hi hc3) zy_X9_count lc_0 rfl rfl wm_L_12 rfl rfl ⟨Nat.le_of_ble_eq_true rfl, Nat.le_of_ble_eq_true rfl⟩ ⟨Nat.le_refl _, Nat.le_refl _⟩ (Nat.le_of_ble_eq_true rfl) dL_isSound_2 ?_
  refine R_istore_n X (lv' := [(1, .int (zI r1)), (0, .ref (ad 0))]) dL_isSound_5 rfl (by decide) rfl ?_
  refine R_iconst X dL_isSound_6 ?_
  refine R_istore_n X (lv' := [(2, .int (zI 0)), (1, .int (zI r1)), (0, .ref (ad 0))]) dL_isSound_7 rfl (by decide) rfl ?_
  refine R_iconst X dL_isSound_8 ?_
  refine R_istore_n X (lv' := [(3, .int (zI 0)), (2, .int (zI 0)), (1, .int (zI r1)), (0, .ref (ad 0))]) dL_isSound_9 rfl (by decide) rfl ?_
  refine R_iconst X dL_isSound_10 ?_
  refine R_istore X (lv' := [(4, .int (zI 0)), (3, .int (zI 0)), (2, .int (zI 0)), (1, .int (zI r1)), (0, .ref (ad 0))]) dL_isSound_11 (by decide) rfl ?_
  refine R_iconst X dL_isSound_13 ?_
  refine R_istore X (lv' := [(5, .int (zI 0)), (4, .int (zI 0)), (3, .int (zI 0)), (2, .int (zI 0)), (1, .int (zI r1)), (0, .ref (ad 0))]) dL_isSound_14 (by decide) rfl ?_
  refine R_iconst X dL_isSound_16 ?_
  refine R_istore X (lv' := [(6, .int (zI 0)), (5, .int (zI 0)), (4, .int (zI 0)), (3, .int (zI 0)), (2, .int (zI 0)), (1, .int (zI r1)), (0, .ref (ad 0))]) dL_isSound_17 (by decide) rfl ?_
  exact R_sub [6, 5, 4, 3, 2, 1, 0] rfl (hB19 100000 r1 0 0 0 0 0 M2 hf)
