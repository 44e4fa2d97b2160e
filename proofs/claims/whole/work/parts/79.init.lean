/-! SealedTokens$Curve.<init>()V -/
theorem dX3_init_0 : decode cX3_init 0 = .ok (.aload_n 0, 1) := by decide +kernel
theorem dX3_init_1 : decode cX3_init 1 = .ok (.invokespecial 1, 3) := by decide +kernel
theorem dX3_init_4 : decode cX3_init 4 = .ok (.aload_n 0, 1) := by decide +kernel
theorem dX3_init_5 : decode cX3_init 5 = .ok (.iconst 2, 1) := by decide +kernel
theorem dX3_init_6 : decode cX3_init 6 = .ok (.bipush 8, 2) := by decide +kernel
theorem dX3_init_8 : decode cX3_init 8 = .ok (.multianewarray 9 2, 4) := by decide +kernel
theorem dX3_init_12 : decode cX3_init 12 = .ok (.putfield 11, 3) := by decide +kernel
theorem dX3_init_15 : decode cX3_init 15 = .ok (.aload_n 0, 1) := by decide +kernel
theorem dX3_init_16 : decode cX3_init 16 = .ok (.iconst 2, 1) := by decide +kernel
theorem dX3_init_17 : decode cX3_init 17 = .ok (.bipush 8, 2) := by decide +kernel
theorem dX3_init_19 : decode cX3_init 19 = .ok (.multianewarray 9 2, 4) := by decide +kernel
theorem dX3_init_23 : decode cX3_init 23 = .ok (.putfield 14, 3) := by decide +kernel
theorem dX3_init_26 : decode cX3_init 26 = .ok (.aload_n 0, 1) := by decide +kernel
theorem dX3_init_27 : decode cX3_init 27 = .ok (.new 17, 3) := by decide +kernel
theorem dX3_init_30 : decode cX3_init 30 = .ok (.dup, 1) := by decide +kernel
theorem dX3_init_31 : decode cX3_init 31 = .ok (.invokespecial 19, 3) := by decide +kernel
theorem dX3_init_34 : decode cX3_init 34 = .ok (.putfield 20, 3) := by decide +kernel
theorem dX3_init_37 : decode cX3_init 37 = .ok (.aload_n 0, 1) := by decide +kernel
theorem dX3_init_38 : decode cX3_init 38 = .ok (.new 17, 3) := by decide +kernel
theorem dX3_init_41 : decode cX3_init 41 = .ok (.dup, 1) := by decide +kernel
theorem dX3_init_42 : decode cX3_init 42 = .ok (.invokespecial 19, 3) := by decide +kernel
theorem dX3_init_45 : decode cX3_init 45 = .ok (.putfield 24, 3) := by decide +kernel
theorem dX3_init_48 : decode cX3_init 48 = .ok (.aload_n 0, 1) := by decide +kernel
theorem dX3_init_49 : decode cX3_init 49 = .ok (.ldc 27, 2) := by decide +kernel
theorem dX3_init_51 : decode cX3_init 51 = .ok (.invokestatic 29, 3) := by decide +kernel
theorem dX3_init_54 : decode cX3_init 54 = .ok (.putfield 33, 3) := by decide +kernel
theorem dX3_init_57 : decode cX3_init 57 = .ok (.aload_n 0, 1) := by decide +kernel
theorem dX3_init_58 : decode cX3_init 58 = .ok (.ldc 37, 2) := by decide +kernel
theorem dX3_init_60 : decode cX3_init 60 = .ok (.invokestatic 29, 3) := by decide +kernel
theorem dX3_init_63 : decode cX3_init 63 = .ok (.putfield 39, 3) := by decide +kernel
theorem dX3_init_66 : decode cX3_init 66 = .ok (.aload_n 0, 1) := by decide +kernel
theorem dX3_init_67 : decode cX3_init 67 = .ok (.ldc 42, 2) := by decide +kernel
theorem dX3_init_69 : decode cX3_init 69 = .ok (.invokestatic 29, 3) := by decide +kernel
theorem dX3_init_72 : decode cX3_init 72 = .ok (.putfield 44, 3) := by decide +kernel
theorem dX3_init_75 : decode cX3_init 75 = .ok (.aload_n 0, 1) := by decide +kernel
theorem dX3_init_76 : decode cX3_init 76 = .ok (.ldc 47, 2) := by decide +kernel
theorem dX3_init_78 : decode cX3_init 78 = .ok (.invokestatic 29, 3) := by decide +kernel
theorem dX3_init_81 : decode cX3_init 81 = .ok (.putfield 49, 3) := by decide +kernel
theorem dX3_init_84 : decode cX3_init 84 = .ok (.aload_n 0, 1) := by decide +kernel
theorem dX3_init_85 : decode cX3_init 85 = .ok (.bipush 8, 2) := by decide +kernel
theorem dX3_init_87 : decode cX3_init 87 = .ok (.newarray .long, 2) := by decide +kernel
theorem dX3_init_89 : decode cX3_init 89 = .ok (.putfield 52, 3) := by decide +kernel
theorem dX3_init_92 : decode cX3_init 92 = .ok (.aload_n 0, 1) := by decide +kernel
theorem dX3_init_93 : decode cX3_init 93 = .ok (.bipush 8, 2) := by decide +kernel
theorem dX3_init_95 : decode cX3_init 95 = .ok (.newarray .long, 2) := by decide +kernel
theorem dX3_init_97 : decode cX3_init 97 = .ok (.putfield 56, 3) := by decide +kernel
theorem dX3_init_100 : decode cX3_init 100 = .ok (.aload_n 0, 1) := by decide +kernel
theorem dX3_init_101 : decode cX3_init 101 = .ok (.iconst 3, 1) := by decide +kernel
theorem dX3_init_102 : decode cX3_init 102 = .ok (.bipush 8, 2) := by decide +kernel
theorem dX3_init_104 : decode cX3_init 104 = .ok (.multianewarray 9 2, 4) := by decide +kernel
theorem dX3_init_108 : decode cX3_init 108 = .ok (.putfield 59, 3) := by decide +kernel
theorem dX3_init_111 : decode cX3_init 111 = .ok (.aload_n 0, 1) := by decide +kernel
theorem dX3_init_112 : decode cX3_init 112 = .ok (.bipush 6, 2) := by decide +kernel
theorem dX3_init_114 : decode cX3_init 114 = .ok (.bipush 8, 2) := by decide +kernel
theorem dX3_init_116 : decode cX3_init 116 = .ok (.multianewarray 9 2, 4) := by decide +kernel
theorem dX3_init_120 : decode cX3_init 120 = .ok (.putfield 62, 3) := by decide +kernel
theorem dX3_init_123 : decode cX3_init 123 = .ok (.aload_n 0, 1) := by decide +kernel
theorem dX3_init_124 : decode cX3_init 124 = .ok (.new 65, 3) := by decide +kernel
theorem dX3_init_127 : decode cX3_init 127 = .ok (.dup, 1) := by decide +kernel
theorem dX3_init_128 : decode cX3_init 128 = .ok (.bipush 64, 2) := by decide +kernel
theorem dX3_init_130 : decode cX3_init 130 = .ok (.invokespecial 67, 3) := by decide +kernel
theorem dX3_init_133 : decode cX3_init 133 = .ok (.putfield 70, 3) := by decide +kernel
theorem dX3_init_136 : decode cX3_init 136 = .ok (.aload_n 0, 1) := by decide +kernel
theorem dX3_init_137 : decode cX3_init 137 = .ok (.new 65, 3) := by decide +kernel
theorem dX3_init_140 : decode cX3_init 140 = .ok (.dup, 1) := by decide +kernel
theorem dX3_init_141 : decode cX3_init 141 = .ok (.bipush 32, 2) := by decide +kernel
theorem dX3_init_143 : decode cX3_init 143 = .ok (.invokespecial 67, 3) := by decide +kernel
theorem dX3_init_146 : decode cX3_init 146 = .ok (.putfield 73, 3) := by decide +kernel
theorem dX3_init_149 : decode cX3_init 149 = .ok (.aload_n 0, 1) := by decide +kernel
theorem dX3_init_150 : decode cX3_init 150 = .ok (.new 65, 3) := by decide +kernel
theorem dX3_init_153 : decode cX3_init 153 = .ok (.dup, 1) := by decide +kernel
theorem dX3_init_154 : decode cX3_init 154 = .ok (.bipush 32, 2) := by decide +kernel
theorem dX3_init_156 : decode cX3_init 156 = .ok (.invokespecial 67, 3) := by decide +kernel
theorem dX3_init_159 : decode cX3_init 159 = .ok (.putfield 76, 3) := by decide +kernel
theorem dX3_init_162 : decode cX3_init 162 = .ok (.aload_n 0, 1) := by decide +kernel
theorem dX3_init_163 : decode cX3_init 163 = .ok (.new 65, 3) := by decide +kernel
theorem dX3_init_166 : decode cX3_init 166 = .ok (.dup, 1) := by decide +kernel
theorem dX3_init_167 : decode cX3_init 167 = .ok (.iconst 0, 1) := by decide +kernel
theorem dX3_init_168 : decode cX3_init 168 = .ok (.invokespecial 67, 3) := by decide +kernel
theorem dX3_init_171 : decode cX3_init 171 = .ok (.putfield 79, 3) := by decide +kernel
theorem dX3_init_174 : decode cX3_init 174 = .ok (.aload_n 0, 1) := by decide +kernel
theorem dX3_init_175 : decode cX3_init 175 = .ok (.getfield 20, 3) := by decide +kernel
theorem dX3_init_178 : decode cX3_init 178 = .ok (.aload_n 0, 1) := by decide +kernel
theorem dX3_init_179 : decode cX3_init 179 = .ok (.getfield 33, 3) := by decide +kernel
theorem dX3_init_182 : decode cX3_init 182 = .ok (.invokevirtual 82, 3) := by decide +kernel
theorem dX3_init_185 : decode cX3_init 185 = .ok (.aload_n 0, 1) := by decide +kernel
theorem dX3_init_186 : decode cX3_init 186 = .ok (.getfield 24, 3) := by decide +kernel
theorem dX3_init_189 : decode cX3_init 189 = .ok (.aload_n 0, 1) := by decide +kernel
theorem dX3_init_190 : decode cX3_init 190 = .ok (.getfield 44, 3) := by decide +kernel
theorem dX3_init_193 : decode cX3_init 193 = .ok (.invokevirtual 82, 3) := by decide +kernel
theorem dX3_init_196 : decode cX3_init 196 = .ok (.aload_n 0, 1) := by decide +kernel
theorem dX3_init_197 : decode cX3_init 197 = .ok (.getfield 20, 3) := by decide +kernel
theorem dX3_init_200 : decode cX3_init 200 = .ok (.ldc 86, 2) := by decide +kernel
theorem dX3_init_202 : decode cX3_init 202 = .ok (.invokestatic 29, 3) := by decide +kernel
theorem dX3_init_205 : decode cX3_init 205 = .ok (.iconst 0, 1) := by decide +kernel
theorem dX3_init_206 : decode cX3_init 206 = .ok (.bipush 32, 2) := by decide +kernel
theorem dX3_init_208 : decode cX3_init 208 = .ok (.aload_n 0, 1) := by decide +kernel
theorem dX3_init_209 : decode cX3_init 209 = .ok (.getfield 52, 3) := by decide +kernel
theorem dX3_init_212 : decode cX3_init 212 = .ok (.invokevirtual 88, 3) := by decide +kernel
theorem dX3_init_215 : decode cX3_init 215 = .ok (.aload_n 0, 1) := by decide +kernel
theorem dX3_init_216 : decode cX3_init 216 = .ok (.getfield 20, 3) := by decide +kernel
theorem dX3_init_219 : decode cX3_init 219 = .ok (.ldc 92, 2) := by decide +kernel
theorem dX3_init_221 : decode cX3_init 221 = .ok (.invokestatic 29, 3) := by decide +kernel
theorem dX3_init_224 : decode cX3_init 224 = .ok (.iconst 0, 1) := by decide +kernel
theorem dX3_init_225 : decode cX3_init 225 = .ok (.bipush 32, 2) := by decide +kernel
theorem dX3_init_227 : decode cX3_init 227 = .ok (.aload_n 0, 1) := by decide +kernel
theorem dX3_init_228 : decode cX3_init 228 = .ok (.getfield 11, 3) := by decide +kernel
theorem dX3_init_231 : decode cX3_init 231 = .ok (.iconst 0, 1) := by decide +kernel
theorem dX3_init_232 : decode cX3_init 232 = .ok (.aaload, 1) := by decide +kernel
theorem dX3_init_233 : decode cX3_init 233 = .ok (.invokevirtual 88, 3) := by decide +kernel
theorem dX3_init_236 : decode cX3_init 236 = .ok (.aload_n 0, 1) := by decide +kernel
theorem dX3_init_237 : decode cX3_init 237 = .ok (.getfield 20, 3) := by decide +kernel
theorem dX3_init_240 : decode cX3_init 240 = .ok (.ldc 94, 2) := by decide +kernel
theorem dX3_init_242 : decode cX3_init 242 = .ok (.invokestatic 29, 3) := by decide +kernel
theorem dX3_init_245 : decode cX3_init 245 = .ok (.iconst 0, 1) := by decide +kernel
theorem dX3_init_246 : decode cX3_init 246 = .ok (.bipush 32, 2) := by decide +kernel
theorem dX3_init_248 : decode cX3_init 248 = .ok (.aload_n 0, 1) := by decide +kernel
theorem dX3_init_249 : decode cX3_init 249 = .ok (.getfield 11, 3) := by decide +kernel
theorem dX3_init_252 : decode cX3_init 252 = .ok (.iconst 1, 1) := by decide +kernel
theorem dX3_init_253 : decode cX3_init 253 = .ok (.aaload, 1) := by decide +kernel
theorem dX3_init_254 : decode cX3_init 254 = .ok (.invokevirtual 88, 3) := by decide +kernel
theorem dX3_init_257 : decode cX3_init 257 = .ok (.aload_n 0, 1) := by decide +kernel
theorem dX3_init_258 : decode cX3_init 258 = .ok (.getfield 56, 3) := by decide +kernel
theorem dX3_init_261 : decode cX3_init 261 = .ok (.iconst 0, 1) := by decide +kernel
theorem dX3_init_262 : decode cX3_init 262 = .ok (.lconst 1, 1) := by decide +kernel
theorem dX3_init_263 : decode cX3_init 263 = .ok (.lastore, 1) := by decide +kernel
theorem dX3_init_264 : decode cX3_init 264 = .ok (.aload_n 0, 1) := by decide +kernel
theorem dX3_init_265 : decode cX3_init 265 = .ok (.getfield 20, 3) := by decide +kernel
theorem dX3_init_268 : decode cX3_init 268 = .ok (.aload_n 0, 1) := by decide +kernel
theorem dX3_init_269 : decode cX3_init 269 = .ok (.getfield 56, 3) := by decide +kernel
theorem dX3_init_272 : decode cX3_init 272 = .ok (.invokevirtual 96, 3) := by decide +kernel
theorem dX3_init_275 : decode cX3_init 275 = .ok (.aload_n 0, 1) := by decide +kernel
theorem dX3_init_276 : decode cX3_init 276 = .ok (.getfield 20, 3) := by decide +kernel
theorem dX3_init_279 : decode cX3_init 279 = .ok (.aload_n 0, 1) := by decide +kernel
theorem dX3_init_280 : decode cX3_init 280 = .ok (.getfield 52, 3) := by decide +kernel
theorem dX3_init_283 : decode cX3_init 283 = .ok (.invokevirtual 96, 3) := by decide +kernel
theorem dX3_init_286 : decode cX3_init 286 = .ok (.aload_n 0, 1) := by decide +kernel
theorem dX3_init_287 : decode cX3_init 287 = .ok (.getfield 20, 3) := by decide +kernel
theorem dX3_init_290 : decode cX3_init 290 = .ok (.aload_n 0, 1) := by decide +kernel
theorem dX3_init_291 : decode cX3_init 291 = .ok (.getfield 11, 3) := by decide +kernel
theorem dX3_init_294 : decode cX3_init 294 = .ok (.iconst 0, 1) := by decide +kernel
theorem dX3_init_295 : decode cX3_init 295 = .ok (.aaload, 1) := by decide +kernel
theorem dX3_init_296 : decode cX3_init 296 = .ok (.invokevirtual 96, 3) := by decide +kernel
theorem dX3_init_299 : decode cX3_init 299 = .ok (.aload_n 0, 1) := by decide +kernel
theorem dX3_init_300 : decode cX3_init 300 = .ok (.getfield 20, 3) := by decide +kernel
theorem dX3_init_303 : decode cX3_init 303 = .ok (.aload_n 0, 1) := by decide +kernel
theorem dX3_init_304 : decode cX3_init 304 = .ok (.getfield 11, 3) := by decide +kernel
theorem dX3_init_307 : decode cX3_init 307 = .ok (.iconst 1, 1) := by decide +kernel
theorem dX3_init_308 : decode cX3_init 308 = .ok (.aaload, 1) := by decide +kernel
theorem dX3_init_309 : decode cX3_init 309 = .ok (.invokevirtual 96, 3) := by decide +kernel
theorem dX3_init_312 : decode cX3_init 312 = .ok (.return_, 1) := by decide +kernel
theorem mP_X3_init {G : mG} {F : Nat} {M0 : mM} {Z0 S0 : Nat} {l0 : Nat} {M : mM} {sz : Nat} {sl : Nat} (h : P_X3_init G F l0 M sz sl = some (M0, Z0, S0)) : sz ≤ Z0 ∧ sl ≤ S0 := by
  unfold P_X3_init at h
  obtain ⟨M8, e8, h⟩ := bO_some h
  obtain ⟨M12, e12, h⟩ := bO_some h
  obtain ⟨M19, e19, h⟩ := bO_some h
  obtain ⟨M23, e23, h⟩ := bO_some h
  obtain ⟨M27, ⟨⟩, h⟩ := bO_some h
  obtain ⟨M31, z31, k31, e31, h⟩ := bA_some h
  have g31 := mP_X6_init e31
  obtain ⟨M34, e34, h⟩ := bO_some h
  obtain ⟨M38, ⟨⟩, h⟩ := bO_some h
  obtain ⟨M42, z42, k42, e42, h⟩ := bA_some h
  have g42 := mP_X6_init e42
  obtain ⟨M45, e45, h⟩ := bO_some h
  obtain ⟨v51, M51, z51, k51, e51, h⟩ := bAP_some h
  have g51 := mP_X3_ofDigits e51
  obtain ⟨M54, e54, h⟩ := bO_some h
  obtain ⟨v60, M60, z60, k60, e60, h⟩ := bAP_some h
  have g60 := mP_X3_ofDigits e60
  obtain ⟨M63, e63, h⟩ := bO_some h
  obtain ⟨v69, M69, z69, k69, e69, h⟩ := bAP_some h
  have g69 := mP_X3_ofDigits e69
  obtain ⟨M72, e72, h⟩ := bO_some h
  obtain ⟨v78, M78, z78, k78, e78, h⟩ := bAP_some h
  have g78 := mP_X3_ofDigits e78
  obtain ⟨M81, e81, h⟩ := bO_some h
  obtain ⟨M87, e87, h⟩ := bO_some h
  obtain ⟨M89, e89, h⟩ := bO_some h
  obtain ⟨M95, e95, h⟩ := bO_some h
  obtain ⟨M97, e97, h⟩ := bO_some h
  obtain ⟨M104, e104, h⟩ := bO_some h
  obtain ⟨M108, e108, h⟩ := bO_some h
  obtain ⟨M116, e116, h⟩ := bO_some h
  obtain ⟨M120, e120, h⟩ := bO_some h
  obtain ⟨M124, ⟨⟩, h⟩ := bO_some h
  obtain ⟨M130, z130, k130, e130, h⟩ := bA_some h
  have g130 := mP_X0_init e130
  obtain ⟨M133, e133, h⟩ := bO_some h
  obtain ⟨M137, ⟨⟩, h⟩ := bO_some h
  obtain ⟨M143, z143, k143, e143, h⟩ := bA_some h
  have g143 := mP_X0_init e143
  obtain ⟨M146, e146, h⟩ := bO_some h
  obtain ⟨M150, ⟨⟩, h⟩ := bO_some h
  obtain ⟨M156, z156, k156, e156, h⟩ := bA_some h
  have g156 := mP_X0_init e156
  obtain ⟨M159, e159, h⟩ := bO_some h
  obtain ⟨M163, ⟨⟩, h⟩ := bO_some h
  obtain ⟨M168, z168, k168, e168, h⟩ := bA_some h
  have g168 := mP_X0_init e168
  obtain ⟨M171, e171, h⟩ := bO_some h
  obtain ⟨v175, e175, h⟩ := bO_some h
  obtain ⟨v179, e179, h⟩ := bO_some h
  obtain ⟨_, f182, h⟩ := bO_some h
  obtain ⟨M182, e182, h⟩ := bO_some h
  obtain ⟨v186, e186, h⟩ := bO_some h
  obtain ⟨v190, e190, h⟩ := bO_some h
  obtain ⟨_, f193, h⟩ := bO_some h
  obtain ⟨M193, e193, h⟩ := bO_some h
  obtain ⟨v197, e197, h⟩ := bO_some h
  obtain ⟨v202, M202, z202, k202, e202, h⟩ := bAP_some h
  have g202 := mP_X3_ofDigits e202
  obtain ⟨v209, e209, h⟩ := bO_some h
  obtain ⟨_, f212, h⟩ := bO_some h
  obtain ⟨M212, e212, h⟩ := bO_some h
  obtain ⟨v216, e216, h⟩ := bO_some h
  obtain ⟨v221, M221, z221, k221, e221, h⟩ := bAP_some h
  have g221 := mP_X3_ofDigits e221
  obtain ⟨v228, e228, h⟩ := bO_some h
  obtain ⟨v232, e232, h⟩ := bO_some h
  obtain ⟨_, f233, h⟩ := bO_some h
  obtain ⟨M233, e233, h⟩ := bO_some h
  obtain ⟨v237, e237, h⟩ := bO_some h
  obtain ⟨v242, M242, z242, k242, e242, h⟩ := bAP_some h
  have g242 := mP_X3_ofDigits e242
  obtain ⟨v249, e249, h⟩ := bO_some h
  obtain ⟨v253, e253, h⟩ := bO_some h
  obtain ⟨_, f254, h⟩ := bO_some h
  obtain ⟨M254, e254, h⟩ := bO_some h
  obtain ⟨v258, e258, h⟩ := bO_some h
  obtain ⟨M263, e263, h⟩ := bO_some h
  obtain ⟨v265, e265, h⟩ := bO_some h
  obtain ⟨v269, e269, h⟩ := bO_some h
  obtain ⟨_, f272, h⟩ := bO_some h
  obtain ⟨M272, e272, h⟩ := bO_some h
  obtain ⟨v276, e276, h⟩ := bO_some h
  obtain ⟨v280, e280, h⟩ := bO_some h
  obtain ⟨_, f283, h⟩ := bO_some h
  obtain ⟨M283, e283, h⟩ := bO_some h
  obtain ⟨v287, e287, h⟩ := bO_some h
  obtain ⟨v291, e291, h⟩ := bO_some h
  obtain ⟨v295, e295, h⟩ := bO_some h
  obtain ⟨_, f296, h⟩ := bO_some h
  obtain ⟨M296, e296, h⟩ := bO_some h
  obtain ⟨v300, e300, h⟩ := bO_some h
  obtain ⟨v304, e304, h⟩ := bO_some h
  obtain ⟨v308, e308, h⟩ := bO_some h
  obtain ⟨_, f309, h⟩ := bO_some h
  obtain ⟨M309, e309, h⟩ := bO_some h
  have q := retA_v h
  omega
set_option maxHeartbeats 4000000 in
set_option maxRecDepth 100000 in
theorem wP_X3_init {G : mG} {F : Nat} {x : mXT} {z0 s0 : Nat} {M0 : mM} {Z0 S0 : Nat} (X : mCX G RX3 cX3_init 1 none "<init>" { frames := 5, cells := Z0 - z0, slots := S0 - s0, locals := 144 } x) (hQ : mQV x M0 (Z0, Z0 - z0, S0 - s0)) {l0 : Nat} {M : mM} {sz : Nat} {sl : Nat} (hz0 : z0 ≤ sz) (hs0 : s0 ≤ sl) (h : P_X3_init G F l0 M sz sl = some (M0, Z0, S0)) : WW x (sz, sz - z0, sl - s0) M 0 [(0, .ref l0)] [] := by
  unfold P_X3_init at h
  obtain ⟨M8, e8, h⟩ := bO_some h
  obtain ⟨M12, e12, h⟩ := bO_some h
  obtain ⟨M19, e19, h⟩ := bO_some h
  obtain ⟨M23, e23, h⟩ := bO_some h
  obtain ⟨M27, ⟨⟩, h⟩ := bO_some h
  obtain ⟨M31, z31, k31, e31, h⟩ := bA_some h
  have g31 := mP_X6_init e31
  obtain ⟨M34, e34, h⟩ := bO_some h
  obtain ⟨M38, ⟨⟩, h⟩ := bO_some h
  obtain ⟨M42, z42, k42, e42, h⟩ := bA_some h
  have g42 := mP_X6_init e42
  obtain ⟨M45, e45, h⟩ := bO_some h
  obtain ⟨v51, M51, z51, k51, e51, h⟩ := bAP_some h
  have g51 := mP_X3_ofDigits e51
  obtain ⟨M54, e54, h⟩ := bO_some h
  obtain ⟨v60, M60, z60, k60, e60, h⟩ := bAP_some h
  have g60 := mP_X3_ofDigits e60
  obtain ⟨M63, e63, h⟩ := bO_some h
  obtain ⟨v69, M69, z69, k69, e69, h⟩ := bAP_some h
  have g69 := mP_X3_ofDigits e69
  obtain ⟨M72, e72, h⟩ := bO_some h
  obtain ⟨v78, M78, z78, k78, e78, h⟩ := bAP_some h
  have g78 := mP_X3_ofDigits e78
  obtain ⟨M81, e81, h⟩ := bO_some h
  obtain ⟨M87, e87, h⟩ := bO_some h
  obtain ⟨M89, e89, h⟩ := bO_some h
  obtain ⟨M95, e95, h⟩ := bO_some h
  obtain ⟨M97, e97, h⟩ := bO_some h
  obtain ⟨M104, e104, h⟩ := bO_some h
  obtain ⟨M108, e108, h⟩ := bO_some h
  obtain ⟨M116, e116, h⟩ := bO_some h
  obtain ⟨M120, e120, h⟩ := bO_some h
  obtain ⟨M124, ⟨⟩, h⟩ := bO_some h
  obtain ⟨M130, z130, k130, e130, h⟩ := bA_some h
  have g130 := mP_X0_init e130
  obtain ⟨M133, e133, h⟩ := bO_some h
  obtain ⟨M137, ⟨⟩, h⟩ := bO_some h
  obtain ⟨M143, z143, k143, e143, h⟩ := bA_some h
  have g143 := mP_X0_init e143
  obtain ⟨M146, e146, h⟩ := bO_some h
  obtain ⟨M150, ⟨⟩, h⟩ := bO_some h
  obtain ⟨M156, z156, k156, e156, h⟩ := bA_some h
  have g156 := mP_X0_init e156
  obtain ⟨M159, e159, h⟩ := bO_some h
  obtain ⟨M163, ⟨⟩, h⟩ := bO_some h
  obtain ⟨M168, z168, k168, e168, h⟩ := bA_some h
  have g168 := mP_X0_init e168
  obtain ⟨M171, e171, h⟩ := bO_some h
  obtain ⟨v175, e175, h⟩ := bO_some h
  obtain ⟨v179, e179, h⟩ := bO_some h
  obtain ⟨_, f182, h⟩ := bO_some h
  obtain ⟨M182, e182, h⟩ := bO_some h
  obtain ⟨v186, e186, h⟩ := bO_some h
  obtain ⟨v190, e190, h⟩ := bO_some h
  obtain ⟨_, f193, h⟩ := bO_some h
  obtain ⟨M193, e193, h⟩ := bO_some h
  obtain ⟨v197, e197, h⟩ := bO_some h
  obtain ⟨v202, M202, z202, k202, e202, h⟩ := bAP_some h
  have g202 := mP_X3_ofDigits e202
  obtain ⟨v209, e209, h⟩ := bO_some h
  obtain ⟨_, f212, h⟩ := bO_some h
  obtain ⟨M212, e212, h⟩ := bO_some h
  obtain ⟨v216, e216, h⟩ := bO_some h
  obtain ⟨v221, M221, z221, k221, e221, h⟩ := bAP_some h
  have g221 := mP_X3_ofDigits e221
  obtain ⟨v228, e228, h⟩ := bO_some h
  obtain ⟨v232, e232, h⟩ := bO_some h
  obtain ⟨_, f233, h⟩ := bO_some h
  obtain ⟨M233, e233, h⟩ := bO_some h
  obtain ⟨v237, e237, h⟩ := bO_some h
  obtain ⟨v242, M242, z242, k242, e242, h⟩ := bAP_some h
  have g242 := mP_X3_ofDigits e242
  obtain ⟨v249, e249, h⟩ := bO_some h
  obtain ⟨v253, e253, h⟩ := bO_some h
  obtain ⟨_, f254, h⟩ := bO_some h
  obtain ⟨M254, e254, h⟩ := bO_some h
  obtain ⟨v258, e258, h⟩ := bO_some h
  obtain ⟨M263, e263, h⟩ := bO_some h
  obtain ⟨v265, e265, h⟩ := bO_some h
  obtain ⟨v269, e269, h⟩ := bO_some h
  obtain ⟨_, f272, h⟩ := bO_some h
  obtain ⟨M272, e272, h⟩ := bO_some h
  obtain ⟨v276, e276, h⟩ := bO_some h
  obtain ⟨v280, e280, h⟩ := bO_some h
  obtain ⟨_, f283, h⟩ := bO_some h
  obtain ⟨M283, e283, h⟩ := bO_some h
  obtain ⟨v287, e287, h⟩ := bO_some h
  obtain ⟨v291, e291, h⟩ := bO_some h
  obtain ⟨v295, e295, h⟩ := bO_some h
  obtain ⟨_, f296, h⟩ := bO_some h
  obtain ⟨M296, e296, h⟩ := bO_some h
  obtain ⟨v300, e300, h⟩ := bO_some h
  obtain ⟨v304, e304, h⟩ := bO_some h
  obtain ⟨v308, e308, h⟩ := bO_some h
  obtain ⟨_, f309, h⟩ := bO_some h
  obtain ⟨M309, e309, h⟩ := bO_some h
  have q := retA_v h
  refine ww_aload_n 0 X dX3_init_0 0 rfl rfl ?_
  refine ww_objI 1 X (st := []) dX3_init_1 oL_X3_1 oI_i oI_c (Nat.le_of_ble_eq_true rfl) (Nat.le_of_ble_eq_true rfl) (Nat.le_of_ble_eq_true rfl) ?_
  refine ww_aload_n 4 X dX3_init_4 0 rfl rfl ?_
  refine ww_iconst 5 X (v := (2 : Int32)) dX3_init_5 (by decide) ?_
  refine ww_bipush 6 X (v := (8 : Int32)) dX3_init_6 (by decide) ?_
  refine ww_mna 8 X (sz := sz) (sl := sl) (z0 := z0) (s0 := s0) dX3_init_8 cK_X3_9 e8 (by omega) (by omega) (by show _ ≤ Z0 - z0; omega) (by show _ ≤ S0 - s0; omega) ?_
  refine ww_putR 12 X dX3_init_12 (fP_X3_11 _ (Or.inr rfl)) e12 rfl rfl ?_
  refine ww_aload_n 15 X dX3_init_15 0 rfl rfl ?_
  refine ww_iconst 16 X (v := (2 : Int32)) dX3_init_16 (by decide) ?_
  refine ww_bipush 17 X (v := (8 : Int32)) dX3_init_17 (by decide) ?_
  refine ww_mna 19 X (sz := (sz + (1 + ((2 : Int32)).toNatClampNeg))) (sl := (sl + gsl (2 : Int32) (8 : Int32))) (z0 := z0) (s0 := s0) dX3_init_19 cK_X3_9 e19 (by omega) (by omega) (by show _ ≤ Z0 - z0; omega) (by show _ ≤ S0 - s0; omega) ?_
  refine ww_putR 23 X dX3_init_23 (fP_X3_14 _ (Or.inr rfl)) e23 rfl rfl ?_
  refine ww_aload_n 26 X dX3_init_26 0 rfl rfl ?_
  refine ww_newO 27 X (sz := ((sz + (1 + ((2 : Int32)).toNatClampNeg)) + (1 + ((2 : Int32)).toNatClampNeg))) (sl := ((sl + gsl (2 : Int32) (8 : Int32)) + gsl (2 : Int32) (8 : Int32))) (z0 := z0) (s0 := s0) dX3_init_27 nW_X3_17 (by omega) (by omega) (by show _ ≤ Z0 - z0; omega) (by show _ ≤ S0 - s0; omega) ?_
  refine ww_dup 30 X dX3_init_30 rfl ?_
  refine ww_callIVNa 31 X (sz := (((sz + (1 + ((2 : Int32)).toNatClampNeg)) + (1 + ((2 : Int32)).toNatClampNeg)) + 1)) (sl := (((sl + gsl (2 : Int32) (8 : Int32)) + gsl (2 : Int32) (8 : Int32)) + 8)) (z0 := z0) (s0 := s0) dX3_init_31 mY_X6_init mL_X3_19 (As := []) (rest := [.ref ((sz + (1 + ((2 : Int32)).toNatClampNeg)) + (1 + ((2 : Int32)).toNatClampNeg)), .ref l0]) rfl rfl ⟨Nat.le_of_ble_eq_true rfl, Nat.le_of_ble_eq_true rfl⟩ (by omega) (by omega) (by omega) (by omega) (by show _ ≤ Z0 - z0; omega) (by show _ ≤ S0 - s0; omega) (Nat.le_of_ble_eq_true rfl) (fun l D A => c_X6_init l D A e31) ?_
  refine ww_putR 34 X dX3_init_34 (fP_X3_20 _ (Or.inr rfl)) e34 rfl rfl ?_
  refine ww_aload_n 37 X dX3_init_37 0 rfl rfl ?_
  refine ww_newO 38 X (sz := z31) (sl := k31) (z0 := z0) (s0 := s0) dX3_init_38 nW_X3_17 (by omega) (by omega) (by show _ ≤ Z0 - z0; omega) (by show _ ≤ S0 - s0; omega) ?_
  refine ww_dup 41 X dX3_init_41 rfl ?_
  refine ww_callIVNa 42 X (sz := (z31 + 1)) (sl := (k31 + 8)) (z0 := z0) (s0 := s0) dX3_init_42 mY_X6_init mL_X3_19 (As := []) (rest := [.ref z31, .ref l0]) rfl rfl ⟨Nat.le_of_ble_eq_true rfl, Nat.le_of_ble_eq_true rfl⟩ (by omega) (by omega) (by omega) (by omega) (by show _ ≤ Z0 - z0; omega) (by show _ ≤ S0 - s0; omega) (Nat.le_of_ble_eq_true rfl) (fun l D A => c_X6_init l D A e42) ?_
  refine ww_putR 45 X dX3_init_45 (fP_X3_24 _ (Or.inr rfl)) e45 rfl rfl ?_
  refine ww_aload_n 48 X dX3_init_48 0 rfl rfl ?_
  refine ww_lds 49 X (j := 0) dX3_init_49 rfl ?_
  refine ww_callSRa 51 X (sz := z42) (sl := k42) (z0 := z0) (s0 := s0) dX3_init_51 mY_X3_ofDigits mL_X3_29 (As := [.ref (G.1 0)]) (rest := [.ref l0]) rfl rfl ⟨Nat.le_of_ble_eq_true rfl, Nat.le_of_ble_eq_true rfl⟩ (by omega) (by omega) (by omega) (by omega) (by show _ ≤ Z0 - z0; omega) (by show _ ≤ S0 - s0; omega) (Nat.le_of_ble_eq_true rfl) (fun l D A => c_X3_ofDigits l D A e51) ?_
  refine ww_putR 54 X dX3_init_54 (fP_X3_33 _ (Or.inr rfl)) e54 rfl rfl ?_
  refine ww_aload_n 57 X dX3_init_57 0 rfl rfl ?_
  refine ww_lds 58 X (j := 1) dX3_init_58 rfl ?_
  refine ww_callSRa 60 X (sz := z51) (sl := k51) (z0 := z0) (s0 := s0) dX3_init_60 mY_X3_ofDigits mL_X3_29 (As := [.ref (G.1 1)]) (rest := [.ref l0]) rfl rfl ⟨Nat.le_of_ble_eq_true rfl, Nat.le_of_ble_eq_true rfl⟩ (by omega) (by omega) (by omega) (by omega) (by show _ ≤ Z0 - z0; omega) (by show _ ≤ S0 - s0; omega) (Nat.le_of_ble_eq_true rfl) (fun l D A => c_X3_ofDigits l D A e60) ?_
  refine ww_putR 63 X dX3_init_63 (fP_X3_39 _ (Or.inr rfl)) e63 rfl rfl ?_
  refine ww_aload_n 66 X dX3_init_66 0 rfl rfl ?_
  refine ww_lds 67 X (j := 2) dX3_init_67 rfl ?_
  refine ww_callSRa 69 X (sz := z60) (sl := k60) (z0 := z0) (s0 := s0) dX3_init_69 mY_X3_ofDigits mL_X3_29 (As := [.ref (G.1 2)]) (rest := [.ref l0]) rfl rfl ⟨Nat.le_of_ble_eq_true rfl, Nat.le_of_ble_eq_true rfl⟩ (by omega) (by omega) (by omega) (by omega) (by show _ ≤ Z0 - z0; omega) (by show _ ≤ S0 - s0; omega) (Nat.le_of_ble_eq_true rfl) (fun l D A => c_X3_ofDigits l D A e69) ?_
  refine ww_putR 72 X dX3_init_72 (fP_X3_44 _ (Or.inr rfl)) e72 rfl rfl ?_
  refine ww_aload_n 75 X dX3_init_75 0 rfl rfl ?_
  refine ww_lds 76 X (j := 3) dX3_init_76 rfl ?_
  refine ww_callSRa 78 X (sz := z69) (sl := k69) (z0 := z0) (s0 := s0) dX3_init_78 mY_X3_ofDigits mL_X3_29 (As := [.ref (G.1 3)]) (rest := [.ref l0]) rfl rfl ⟨Nat.le_of_ble_eq_true rfl, Nat.le_of_ble_eq_true rfl⟩ (by omega) (by omega) (by omega) (by omega) (by show _ ≤ Z0 - z0; omega) (by show _ ≤ S0 - s0; omega) (Nat.le_of_ble_eq_true rfl) (fun l D A => c_X3_ofDigits l D A e78) ?_
  refine ww_putR 81 X dX3_init_81 (fP_X3_49 _ (Or.inr rfl)) e81 rfl rfl ?_
  refine ww_aload_n 84 X dX3_init_84 0 rfl rfl ?_
  refine ww_bipush 85 X (v := (8 : Int32)) dX3_init_85 (by decide) ?_
  refine ww_newA 87 X (sz := z78) (sl := k78) (z0 := z0) (s0 := s0) dX3_init_87 (k := 2) (by decide) rfl aC_2 e87 (by omega) (by omega) (by show _ ≤ Z0 - z0; omega) (by show _ ≤ S0 - s0; omega) ?_
  refine ww_putR 89 X dX3_init_89 (fP_X3_52 _ (Or.inr rfl)) e89 rfl rfl ?_
  refine ww_aload_n 92 X dX3_init_92 0 rfl rfl ?_
  refine ww_bipush 93 X (v := (8 : Int32)) dX3_init_93 (by decide) ?_
  refine ww_newA 95 X (sz := (z78 + 1)) (sl := (k78 + ((8 : Int32)).toNatClampNeg)) (z0 := z0) (s0 := s0) dX3_init_95 (k := 2) (by decide) rfl aC_2 e95 (by omega) (by omega) (by show _ ≤ Z0 - z0; omega) (by show _ ≤ S0 - s0; omega) ?_
  refine ww_putR 97 X dX3_init_97 (fP_X3_56 _ (Or.inr rfl)) e97 rfl rfl ?_
  refine ww_aload_n 100 X dX3_init_100 0 rfl rfl ?_
  refine ww_iconst 101 X (v := (3 : Int32)) dX3_init_101 (by decide) ?_
  refine ww_bipush 102 X (v := (8 : Int32)) dX3_init_102 (by decide) ?_
  refine ww_mna 104 X (sz := ((z78 + 1) + 1)) (sl := ((k78 + ((8 : Int32)).toNatClampNeg) + ((8 : Int32)).toNatClampNeg)) (z0 := z0) (s0 := s0) dX3_init_104 cK_X3_9 e104 (by omega) (by omega) (by show _ ≤ Z0 - z0; omega) (by show _ ≤ S0 - s0; omega) ?_
  refine ww_putR 108 X dX3_init_108 (fP_X3_59 _ (Or.inr rfl)) e108 rfl rfl ?_
  refine ww_aload_n 111 X dX3_init_111 0 rfl rfl ?_
  refine ww_bipush 112 X (v := (6 : Int32)) dX3_init_112 (by decide) ?_
  refine ww_bipush 114 X (v := (8 : Int32)) dX3_init_114 (by decide) ?_
  refine ww_mna 116 X (sz := (((z78 + 1) + 1) + (1 + ((3 : Int32)).toNatClampNeg))) (sl := (((k78 + ((8 : Int32)).toNatClampNeg) + ((8 : Int32)).toNatClampNeg) + gsl (3 : Int32) (8 : Int32))) (z0 := z0) (s0 := s0) dX3_init_116 cK_X3_9 e116 (by omega) (by omega) (by show _ ≤ Z0 - z0; omega) (by show _ ≤ S0 - s0; omega) ?_
  refine ww_putR 120 X dX3_init_120 (fP_X3_62 _ (Or.inr rfl)) e120 rfl rfl ?_
  refine ww_aload_n 123 X dX3_init_123 0 rfl rfl ?_
  refine ww_newO 124 X (sz := ((((z78 + 1) + 1) + (1 + ((3 : Int32)).toNatClampNeg)) + (1 + ((6 : Int32)).toNatClampNeg))) (sl := ((((k78 + ((8 : Int32)).toNatClampNeg) + ((8 : Int32)).toNatClampNeg) + gsl (3 : Int32) (8 : Int32)) + gsl (6 : Int32) (8 : Int32))) (z0 := z0) (s0 := s0) dX3_init_124 nW_X3_65 (by omega) (by omega) (by show _ ≤ Z0 - z0; omega) (by show _ ≤ S0 - s0; omega) ?_
  refine ww_dup 127 X dX3_init_127 rfl ?_
  refine ww_bipush 128 X (v := (64 : Int32)) dX3_init_128 (by decide) ?_
  refine ww_callIVa 130 X (sz := (((((z78 + 1) + 1) + (1 + ((3 : Int32)).toNatClampNeg)) + (1 + ((6 : Int32)).toNatClampNeg)) + 1)) (sl := (((((k78 + ((8 : Int32)).toNatClampNeg) + ((8 : Int32)).toNatClampNeg) + gsl (3 : Int32) (8 : Int32)) + gsl (6 : Int32) (8 : Int32)) + 3)) (z0 := z0) (s0 := s0) dX3_init_130 mY_X0_init mL_X3_67 (As := [.int (64 : Int32)]) (rest := [.ref ((((z78 + 1) + 1) + (1 + ((3 : Int32)).toNatClampNeg)) + (1 + ((6 : Int32)).toNatClampNeg)), .ref l0]) rfl rfl ⟨Nat.le_of_ble_eq_true rfl, Nat.le_of_ble_eq_true rfl⟩ (by omega) (by omega) (by omega) (by omega) (by show _ ≤ Z0 - z0; omega) (by show _ ≤ S0 - s0; omega) (Nat.le_of_ble_eq_true rfl) (fun l D A => c_X0_init l D A e130) ?_
  refine ww_putR 133 X dX3_init_133 (fP_X3_70 _ (Or.inr rfl)) e133 rfl rfl ?_
  refine ww_aload_n 136 X dX3_init_136 0 rfl rfl ?_
  refine ww_newO 137 X (sz := z130) (sl := k130) (z0 := z0) (s0 := s0) dX3_init_137 nW_X3_65 (by omega) (by omega) (by show _ ≤ Z0 - z0; omega) (by show _ ≤ S0 - s0; omega) ?_
  refine ww_dup 140 X dX3_init_140 rfl ?_
  refine ww_bipush 141 X (v := (32 : Int32)) dX3_init_141 (by decide) ?_
  refine ww_callIVa 143 X (sz := (z130 + 1)) (sl := (k130 + 3)) (z0 := z0) (s0 := s0) dX3_init_143 mY_X0_init mL_X3_67 (As := [.int (32 : Int32)]) (rest := [.ref z130, .ref l0]) rfl rfl ⟨Nat.le_of_ble_eq_true rfl, Nat.le_of_ble_eq_true rfl⟩ (by omega) (by omega) (by omega) (by omega) (by show _ ≤ Z0 - z0; omega) (by show _ ≤ S0 - s0; omega) (Nat.le_of_ble_eq_true rfl) (fun l D A => c_X0_init l D A e143) ?_
  refine ww_putR 146 X dX3_init_146 (fP_X3_73 _ (Or.inr rfl)) e146 rfl rfl ?_
  refine ww_aload_n 149 X dX3_init_149 0 rfl rfl ?_
  refine ww_newO 150 X (sz := z143) (sl := k143) (z0 := z0) (s0 := s0) dX3_init_150 nW_X3_65 (by omega) (by omega) (by show _ ≤ Z0 - z0; omega) (by show _ ≤ S0 - s0; omega) ?_
  refine ww_dup 153 X dX3_init_153 rfl ?_
  refine ww_bipush 154 X (v := (32 : Int32)) dX3_init_154 (by decide) ?_
  refine ww_callIVa 156 X (sz := (z143 + 1)) (sl := (k143 + 3)) (z0 := z0) (s0 := s0) dX3_init_156 mY_X0_init mL_X3_67 (As := [.int (32 : Int32)]) (rest := [.ref z143, .ref l0]) rfl rfl ⟨Nat.le_of_ble_eq_true rfl, Nat.le_of_ble_eq_true rfl⟩ (by omega) (by omega) (by omega) (by omega) (by show _ ≤ Z0 - z0; omega) (by show _ ≤ S0 - s0; omega) (Nat.le_of_ble_eq_true rfl) (fun l D A => c_X0_init l D A e156) ?_
  refine ww_putR 159 X dX3_init_159 (fP_X3_76 _ (Or.inr rfl)) e159 rfl rfl ?_
  refine ww_aload_n 162 X dX3_init_162 0 rfl rfl ?_
  refine ww_newO 163 X (sz := z156) (sl := k156) (z0 := z0) (s0 := s0) dX3_init_163 nW_X3_65 (by omega) (by omega) (by show _ ≤ Z0 - z0; omega) (by show _ ≤ S0 - s0; omega) ?_
  refine ww_dup 166 X dX3_init_166 rfl ?_
  refine ww_iconst 167 X (v := (0 : Int32)) dX3_init_167 (by decide) ?_
  refine ww_callIVa 168 X (sz := (z156 + 1)) (sl := (k156 + 3)) (z0 := z0) (s0 := s0) dX3_init_168 mY_X0_init mL_X3_67 (As := [.int (0 : Int32)]) (rest := [.ref z156, .ref l0]) rfl rfl ⟨Nat.le_of_ble_eq_true rfl, Nat.le_of_ble_eq_true rfl⟩ (by omega) (by omega) (by omega) (by omega) (by show _ ≤ Z0 - z0; omega) (by show _ ≤ S0 - s0; omega) (Nat.le_of_ble_eq_true rfl) (fun l D A => c_X0_init l D A e168) ?_
  refine ww_putR 171 X dX3_init_171 (fP_X3_79 _ (Or.inr rfl)) e171 rfl rfl ?_
  refine ww_aload_n 174 X dX3_init_174 0 rfl rfl ?_
  refine ww_getR 175 X dX3_init_175 fG_X3_20 e175 ?_
  refine ww_aload_n 178 X dX3_init_178 0 rfl rfl ?_
  refine ww_getR 179 X dX3_init_179 fG_X3_33 e179 ?_
  refine ww_callVVz 182 X (sz := z168) (sl := k168) (z0 := z0) (s0 := s0) dX3_init_182 mY_X6_become mL_X3_82 (rcv_spec f182) ⟨_, _, rfl⟩ (by decide) (As := [.ref v179]) (rest := []) rfl rfl ⟨Nat.le_of_ble_eq_true rfl, Nat.le_of_ble_eq_true rfl⟩ (by show _ ≤ Z0 - z0; omega) (by show _ ≤ S0 - s0; omega) (Nat.le_of_ble_eq_true rfl) (fun l D A => c_X6_become l D A e182) ?_
  refine ww_aload_n 185 X dX3_init_185 0 rfl rfl ?_
  refine ww_getR 186 X dX3_init_186 fG_X3_24 e186 ?_
  refine ww_aload_n 189 X dX3_init_189 0 rfl rfl ?_
  refine ww_getR 190 X dX3_init_190 fG_X3_44 e190 ?_
  refine ww_callVVz 193 X (sz := z168) (sl := k168) (z0 := z0) (s0 := s0) dX3_init_193 mY_X6_become mL_X3_82 (rcv_spec f193) ⟨_, _, rfl⟩ (by decide) (As := [.ref v190]) (rest := []) rfl rfl ⟨Nat.le_of_ble_eq_true rfl, Nat.le_of_ble_eq_true rfl⟩ (by show _ ≤ Z0 - z0; omega) (by show _ ≤ S0 - s0; omega) (Nat.le_of_ble_eq_true rfl) (fun l D A => c_X6_become l D A e193) ?_
  refine ww_aload_n 196 X dX3_init_196 0 rfl rfl ?_
  refine ww_getR 197 X dX3_init_197 fG_X3_20 e197 ?_
  refine ww_lds 200 X (j := 4) dX3_init_200 rfl ?_
  refine ww_callSRa 202 X (sz := z168) (sl := k168) (z0 := z0) (s0 := s0) dX3_init_202 mY_X3_ofDigits mL_X3_29 (As := [.ref (G.1 4)]) (rest := [.ref v197]) rfl rfl ⟨Nat.le_of_ble_eq_true rfl, Nat.le_of_ble_eq_true rfl⟩ (by omega) (by omega) (by omega) (by omega) (by show _ ≤ Z0 - z0; omega) (by show _ ≤ S0 - s0; omega) (Nat.le_of_ble_eq_true rfl) (fun l D A => c_X3_ofDigits l D A e202) ?_
  refine ww_iconst 205 X (v := (0 : Int32)) dX3_init_205 (by decide) ?_
  refine ww_bipush 206 X (v := (32 : Int32)) dX3_init_206 (by decide) ?_
  refine ww_aload_n 208 X dX3_init_208 0 rfl rfl ?_
  refine ww_getR 209 X dX3_init_209 fG_X3_52 e209 ?_
  refine ww_callVVz 212 X (sz := z202) (sl := k202) (z0 := z0) (s0 := s0) dX3_init_212 mY_X6_take mL_X3_88 (rcv_spec f212) ⟨_, _, rfl⟩ (by decide) (As := [.ref v202, .int (0 : Int32), .int (32 : Int32), .ref v209]) (rest := []) rfl rfl ⟨Nat.le_of_ble_eq_true rfl, Nat.le_of_ble_eq_true rfl⟩ (by show _ ≤ Z0 - z0; omega) (by show _ ≤ S0 - s0; omega) (Nat.le_of_ble_eq_true rfl) (fun l D A => c_X6_take l D A e212) ?_
  refine ww_aload_n 215 X dX3_init_215 0 rfl rfl ?_
  refine ww_getR 216 X dX3_init_216 fG_X3_20 e216 ?_
  refine ww_lds 219 X (j := 5) dX3_init_219 rfl ?_
  refine ww_callSRa 221 X (sz := z202) (sl := k202) (z0 := z0) (s0 := s0) dX3_init_221 mY_X3_ofDigits mL_X3_29 (As := [.ref (G.1 5)]) (rest := [.ref v216]) rfl rfl ⟨Nat.le_of_ble_eq_true rfl, Nat.le_of_ble_eq_true rfl⟩ (by omega) (by omega) (by omega) (by omega) (by show _ ≤ Z0 - z0; omega) (by show _ ≤ S0 - s0; omega) (Nat.le_of_ble_eq_true rfl) (fun l D A => c_X3_ofDigits l D A e221) ?_
  refine ww_iconst 224 X (v := (0 : Int32)) dX3_init_224 (by decide) ?_
  refine ww_bipush 225 X (v := (32 : Int32)) dX3_init_225 (by decide) ?_
  refine ww_aload_n 227 X dX3_init_227 0 rfl rfl ?_
  refine ww_getR 228 X dX3_init_228 fG_X3_11 e228 ?_
  refine ww_iconst 231 X (v := (0 : Int32)) dX3_init_231 (by decide) ?_
  refine ww_aald6 232 X dX3_init_232 e232 ?_
  refine ww_callVVz 233 X (sz := z221) (sl := k221) (z0 := z0) (s0 := s0) dX3_init_233 mY_X6_take mL_X3_88 (rcv_spec f233) ⟨_, _, rfl⟩ (by decide) (As := [.ref v221, .int (0 : Int32), .int (32 : Int32), .ref v232]) (rest := []) rfl rfl ⟨Nat.le_of_ble_eq_true rfl, Nat.le_of_ble_eq_true rfl⟩ (by show _ ≤ Z0 - z0; omega) (by show _ ≤ S0 - s0; omega) (Nat.le_of_ble_eq_true rfl) (fun l D A => c_X6_take l D A e233) ?_
  refine ww_aload_n 236 X dX3_init_236 0 rfl rfl ?_
  refine ww_getR 237 X dX3_init_237 fG_X3_20 e237 ?_
  refine ww_lds 240 X (j := 6) dX3_init_240 rfl ?_
  refine ww_callSRa 242 X (sz := z221) (sl := k221) (z0 := z0) (s0 := s0) dX3_init_242 mY_X3_ofDigits mL_X3_29 (As := [.ref (G.1 6)]) (rest := [.ref v237]) rfl rfl ⟨Nat.le_of_ble_eq_true rfl, Nat.le_of_ble_eq_true rfl⟩ (by omega) (by omega) (by omega) (by omega) (by show _ ≤ Z0 - z0; omega) (by show _ ≤ S0 - s0; omega) (Nat.le_of_ble_eq_true rfl) (fun l D A => c_X3_ofDigits l D A e242) ?_
  refine ww_iconst 245 X (v := (0 : Int32)) dX3_init_245 (by decide) ?_
  refine ww_bipush 246 X (v := (32 : Int32)) dX3_init_246 (by decide) ?_
  refine ww_aload_n 248 X dX3_init_248 0 rfl rfl ?_
  refine ww_getR 249 X dX3_init_249 fG_X3_11 e249 ?_
  refine ww_iconst 252 X (v := (1 : Int32)) dX3_init_252 (by decide) ?_
  refine ww_aald6 253 X dX3_init_253 e253 ?_
  refine ww_callVVz 254 X (sz := z242) (sl := k242) (z0 := z0) (s0 := s0) dX3_init_254 mY_X6_take mL_X3_88 (rcv_spec f254) ⟨_, _, rfl⟩ (by decide) (As := [.ref v242, .int (0 : Int32), .int (32 : Int32), .ref v253]) (rest := []) rfl rfl ⟨Nat.le_of_ble_eq_true rfl, Nat.le_of_ble_eq_true rfl⟩ (by show _ ≤ Z0 - z0; omega) (by show _ ≤ S0 - s0; omega) (Nat.le_of_ble_eq_true rfl) (fun l D A => c_X6_take l D A e254) ?_
  refine ww_aload_n 257 X dX3_init_257 0 rfl rfl ?_
  refine ww_getR 258 X dX3_init_258 fG_X3_56 e258 ?_
  refine ww_iconst 261 X (v := (0 : Int32)) dX3_init_261 (by decide) ?_
  refine ww_lconst 262 X (v := (1 : Int64)) dX3_init_262 (by decide) ?_
  refine ww_last 263 X dX3_init_263 e263 ?_
  refine ww_aload_n 264 X dX3_init_264 0 rfl rfl ?_
  refine ww_getR 265 X dX3_init_265 fG_X3_20 e265 ?_
  refine ww_aload_n 268 X dX3_init_268 0 rfl rfl ?_
  refine ww_getR 269 X dX3_init_269 fG_X3_56 e269 ?_
  refine ww_callVVz 272 X (sz := z242) (sl := k242) (z0 := z0) (s0 := s0) dX3_init_272 mY_X6_lead mL_X3_96 (rcv_spec f272) ⟨_, _, rfl⟩ (by decide) (As := [.ref v269]) (rest := []) rfl rfl ⟨Nat.le_of_ble_eq_true rfl, Nat.le_of_ble_eq_true rfl⟩ (by show _ ≤ Z0 - z0; omega) (by show _ ≤ S0 - s0; omega) (Nat.le_of_ble_eq_true rfl) (fun l D A => c_X6_lead l D A e272) ?_
  refine ww_aload_n 275 X dX3_init_275 0 rfl rfl ?_
  refine ww_getR 276 X dX3_init_276 fG_X3_20 e276 ?_
  refine ww_aload_n 279 X dX3_init_279 0 rfl rfl ?_
  refine ww_getR 280 X dX3_init_280 fG_X3_52 e280 ?_
  refine ww_callVVz 283 X (sz := z242) (sl := k242) (z0 := z0) (s0 := s0) dX3_init_283 mY_X6_lead mL_X3_96 (rcv_spec f283) ⟨_, _, rfl⟩ (by decide) (As := [.ref v280]) (rest := []) rfl rfl ⟨Nat.le_of_ble_eq_true rfl, Nat.le_of_ble_eq_true rfl⟩ (by show _ ≤ Z0 - z0; omega) (by show _ ≤ S0 - s0; omega) (Nat.le_of_ble_eq_true rfl) (fun l D A => c_X6_lead l D A e283) ?_
  refine ww_aload_n 286 X dX3_init_286 0 rfl rfl ?_
  refine ww_getR 287 X dX3_init_287 fG_X3_20 e287 ?_
  refine ww_aload_n 290 X dX3_init_290 0 rfl rfl ?_
  refine ww_getR 291 X dX3_init_291 fG_X3_11 e291 ?_
  refine ww_iconst 294 X (v := (0 : Int32)) dX3_init_294 (by decide) ?_
  refine ww_aald6 295 X dX3_init_295 e295 ?_
  refine ww_callVVz 296 X (sz := z242) (sl := k242) (z0 := z0) (s0 := s0) dX3_init_296 mY_X6_lead mL_X3_96 (rcv_spec f296) ⟨_, _, rfl⟩ (by decide) (As := [.ref v295]) (rest := []) rfl rfl ⟨Nat.le_of_ble_eq_true rfl, Nat.le_of_ble_eq_true rfl⟩ (by show _ ≤ Z0 - z0; omega) (by show _ ≤ S0 - s0; omega) (Nat.le_of_ble_eq_true rfl) (fun l D A => c_X6_lead l D A e296) ?_
  refine ww_aload_n 299 X dX3_init_299 0 rfl rfl ?_
  refine ww_getR 300 X dX3_init_300 fG_X3_20 e300 ?_
  refine ww_aload_n 303 X dX3_init_303 0 rfl rfl ?_
  refine ww_getR 304 X dX3_init_304 fG_X3_11 e304 ?_
  refine ww_iconst 307 X (v := (1 : Int32)) dX3_init_307 (by decide) ?_
  refine ww_aald6 308 X dX3_init_308 e308 ?_
  refine ww_callVVz 309 X (sz := z242) (sl := k242) (z0 := z0) (s0 := s0) dX3_init_309 mY_X6_lead mL_X3_96 (rcv_spec f309) ⟨_, _, rfl⟩ (by decide) (As := [.ref v308]) (rest := []) rfl rfl ⟨Nat.le_of_ble_eq_true rfl, Nat.le_of_ble_eq_true rfl⟩ (by show _ ≤ Z0 - z0; omega) (by show _ ≤ S0 - s0; omega) (Nat.le_of_ble_eq_true rfl) (fun l D A => c_X6_lead l D A e309) ?_
  exact ww_vretA 312 X hQ dX3_init_312 h
theorem c_X3_init {G : mG} {F : Nat} {M0 : mM} {Z0 S0 : Nat} (l : Launch) (D : mD) (A : Nat → Prop) {l0 : Nat} {M : mM} {sz : Nat} {sl : Nat} (h : P_X3_init G F l0 M sz sl = some (M0, Z0, S0)) : mMetV l D G A yX3_init cX3_init 1 none 5 144 (Z0 - sz) (S0 - sl) [.ref l0] M sz M0 Z0 := mMetV_of l D G A (by decide) (Nat.le_of_ble_eq_true rfl) (fun x X hQ => by have K := wP_X3_init X hQ (Nat.le_refl sz) (Nat.le_refl sl) h; rw [Nat.sub_self, Nat.sub_self] at K; exact K)
/-! SealedTokens.<init>()V -/
theorem dX11_init_0 : decode cX11_init 0 = .ok (.aload_n 0, 1) := by decide +kernel
theorem dX11_init_1 : decode cX11_init 1 = .ok (.invokespecial 1, 3) := by decide +kernel
theorem dX11_init_4 : decode cX11_init 4 = .ok (.aload_n 0, 1) := by decide +kernel
theorem dX11_init_5 : decode cX11_init 5 = .ok (.bipush 8, 2) := by decide +kernel
theorem dX11_init_7 : decode cX11_init 7 = .ok (.anewarray 9, 3) := by decide +kernel
theorem dX11_init_10 : decode cX11_init 10 = .ok (.putfield 11, 3) := by decide +kernel
theorem dX11_init_13 : decode cX11_init 13 = .ok (.aload_n 0, 1) := by decide +kernel
theorem dX11_init_14 : decode cX11_init 14 = .ok (.new 9, 3) := by decide +kernel
theorem dX11_init_17 : decode cX11_init 17 = .ok (.dup, 1) := by decide +kernel
theorem dX11_init_18 : decode cX11_init 18 = .ok (.sipush 8192, 3) := by decide +kernel
theorem dX11_init_21 : decode cX11_init 21 = .ok (.invokespecial 15, 3) := by decide +kernel
theorem dX11_init_24 : decode cX11_init 24 = .ok (.putfield 18, 3) := by decide +kernel
theorem dX11_init_27 : decode cX11_init 27 = .ok (.aload_n 0, 1) := by decide +kernel
theorem dX11_init_28 : decode cX11_init 28 = .ok (.new 9, 3) := by decide +kernel
theorem dX11_init_31 : decode cX11_init 31 = .ok (.dup, 1) := by decide +kernel
theorem dX11_init_32 : decode cX11_init 32 = .ok (.sipush 8192, 3) := by decide +kernel
theorem dX11_init_35 : decode cX11_init 35 = .ok (.invokespecial 15, 3) := by decide +kernel
theorem dX11_init_38 : decode cX11_init 38 = .ok (.putfield 22, 3) := by decide +kernel
theorem dX11_init_41 : decode cX11_init 41 = .ok (.aload_n 0, 1) := by decide +kernel
theorem dX11_init_42 : decode cX11_init 42 = .ok (.new 9, 3) := by decide +kernel
theorem dX11_init_45 : decode cX11_init 45 = .ok (.dup, 1) := by decide +kernel
theorem dX11_init_46 : decode cX11_init 46 = .ok (.iconst 0, 1) := by decide +kernel
theorem dX11_init_47 : decode cX11_init 47 = .ok (.invokespecial 15, 3) := by decide +kernel
theorem dX11_init_50 : decode cX11_init 50 = .ok (.putfield 25, 3) := by decide +kernel
theorem dX11_init_53 : decode cX11_init 53 = .ok (.aload_n 0, 1) := by decide +kernel
theorem dX11_init_54 : decode cX11_init 54 = .ok (.new 9, 3) := by decide +kernel
theorem dX11_init_57 : decode cX11_init 57 = .ok (.dup, 1) := by decide +kernel
theorem dX11_init_58 : decode cX11_init 58 = .ok (.sipush 22528, 3) := by decide +kernel
theorem dX11_init_61 : decode cX11_init 61 = .ok (.invokespecial 15, 3) := by decide +kernel
theorem dX11_init_64 : decode cX11_init 64 = .ok (.putfield 28, 3) := by decide +kernel
theorem dX11_init_67 : decode cX11_init 67 = .ok (.aload_n 0, 1) := by decide +kernel
theorem dX11_init_68 : decode cX11_init 68 = .ok (.new 9, 3) := by decide +kernel
theorem dX11_init_71 : decode cX11_init 71 = .ok (.dup, 1) := by decide +kernel
theorem dX11_init_72 : decode cX11_init 72 = .ok (.sipush 8192, 3) := by decide +kernel
theorem dX11_init_75 : decode cX11_init 75 = .ok (.invokespecial 15, 3) := by decide +kernel
theorem dX11_init_78 : decode cX11_init 78 = .ok (.putfield 31, 3) := by decide +kernel
theorem dX11_init_81 : decode cX11_init 81 = .ok (.aload_n 0, 1) := by decide +kernel
theorem dX11_init_82 : decode cX11_init 82 = .ok (.new 9, 3) := by decide +kernel
theorem dX11_init_85 : decode cX11_init 85 = .ok (.dup, 1) := by decide +kernel
theorem dX11_init_86 : decode cX11_init 86 = .ok (.sipush 8192, 3) := by decide +kernel
theorem dX11_init_89 : decode cX11_init 89 = .ok (.invokespecial 15, 3) := by decide +kernel
theorem dX11_init_92 : decode cX11_init 92 = .ok (.putfield 34, 3) := by decide +kernel
theorem dX11_init_95 : decode cX11_init 95 = .ok (.aload_n 0, 1) := by decide +kernel
theorem dX11_init_96 : decode cX11_init 96 = .ok (.new 37, 3) := by decide +kernel
theorem dX11_init_99 : decode cX11_init 99 = .ok (.dup, 1) := by decide +kernel
theorem dX11_init_100 : decode cX11_init 100 = .ok (.invokespecial 39, 3) := by decide +kernel
theorem dX11_init_103 : decode cX11_init 103 = .ok (.putfield 40, 3) := by decide +kernel
theorem dX11_init_106 : decode cX11_init 106 = .ok (.aload_n 0, 1) := by decide +kernel
theorem dX11_init_107 : decode cX11_init 107 = .ok (.new 37, 3) := by decide +kernel
theorem dX11_init_110 : decode cX11_init 110 = .ok (.dup, 1) := by decide +kernel
theorem dX11_init_111 : decode cX11_init 111 = .ok (.invokespecial 39, 3) := by decide +kernel
theorem dX11_init_114 : decode cX11_init 114 = .ok (.putfield 44, 3) := by decide +kernel
theorem dX11_init_117 : decode cX11_init 117 = .ok (.aload_n 0, 1) := by decide +kernel
theorem dX11_init_118 : decode cX11_init 118 = .ok (.new 47, 3) := by decide +kernel
theorem dX11_init_121 : decode cX11_init 121 = .ok (.dup, 1) := by decide +kernel
theorem dX11_init_122 : decode cX11_init 122 = .ok (.aload_n 0, 1) := by decide +kernel
theorem dX11_init_123 : decode cX11_init 123 = .ok (.getfield 25, 3) := by decide +kernel
theorem dX11_init_126 : decode cX11_init 126 = .ok (.aload_n 0, 1) := by decide +kernel
theorem dX11_init_127 : decode cX11_init 127 = .ok (.getfield 44, 3) := by decide +kernel
theorem dX11_init_130 : decode cX11_init 130 = .ok (.invokespecial 49, 3) := by decide +kernel
theorem dX11_init_133 : decode cX11_init 133 = .ok (.putfield 52, 3) := by decide +kernel
theorem dX11_init_136 : decode cX11_init 136 = .ok (.aload_n 0, 1) := by decide +kernel
theorem dX11_init_137 : decode cX11_init 137 = .ok (.bipush 16, 2) := by decide +kernel
theorem dX11_init_139 : decode cX11_init 139 = .ok (.anewarray 56, 3) := by decide +kernel
theorem dX11_init_142 : decode cX11_init 142 = .ok (.putfield 58, 3) := by decide +kernel
theorem dX11_init_145 : decode cX11_init 145 = .ok (.aload_n 0, 1) := by decide +kernel
theorem dX11_init_146 : decode cX11_init 146 = .ok (.new 56, 3) := by decide +kernel
theorem dX11_init_149 : decode cX11_init 149 = .ok (.dup, 1) := by decide +kernel
theorem dX11_init_150 : decode cX11_init 150 = .ok (.invokespecial 62, 3) := by decide +kernel
theorem dX11_init_153 : decode cX11_init 153 = .ok (.putfield 63, 3) := by decide +kernel
theorem dX11_init_156 : decode cX11_init 156 = .ok (.aload_n 0, 1) := by decide +kernel
theorem dX11_init_157 : decode cX11_init 157 = .ok (.new 67, 3) := by decide +kernel
theorem dX11_init_160 : decode cX11_init 160 = .ok (.dup, 1) := by decide +kernel
theorem dX11_init_161 : decode cX11_init 161 = .ok (.invokespecial 69, 3) := by decide +kernel
theorem dX11_init_164 : decode cX11_init 164 = .ok (.putfield 70, 3) := by decide +kernel
theorem dX11_init_167 : decode cX11_init 167 = .ok (.aload_n 0, 1) := by decide +kernel
theorem dX11_init_168 : decode cX11_init 168 = .ok (.new 74, 3) := by decide +kernel
theorem dX11_init_171 : decode cX11_init 171 = .ok (.dup, 1) := by decide +kernel
theorem dX11_init_172 : decode cX11_init 172 = .ok (.invokespecial 76, 3) := by decide +kernel
theorem dX11_init_175 : decode cX11_init 175 = .ok (.putfield 77, 3) := by decide +kernel
theorem dX11_init_178 : decode cX11_init 178 = .ok (.aload_n 0, 1) := by decide +kernel
theorem dX11_init_179 : decode cX11_init 179 = .ok (.new 81, 3) := by decide +kernel
theorem dX11_init_182 : decode cX11_init 182 = .ok (.dup, 1) := by decide +kernel
theorem dX11_init_183 : decode cX11_init 183 = .ok (.aload_n 0, 1) := by decide +kernel
theorem dX11_init_184 : decode cX11_init 184 = .ok (.getfield 70, 3) := by decide +kernel
theorem dX11_init_187 : decode cX11_init 187 = .ok (.aload_n 0, 1) := by decide +kernel
theorem dX11_init_188 : decode cX11_init 188 = .ok (.getfield 77, 3) := by decide +kernel
theorem dX11_init_191 : decode cX11_init 191 = .ok (.invokespecial 83, 3) := by decide +kernel
theorem dX11_init_194 : decode cX11_init 194 = .ok (.putfield 86, 3) := by decide +kernel
theorem dX11_init_197 : decode cX11_init 197 = .ok (.aload_n 0, 1) := by decide +kernel
theorem dX11_init_198 : decode cX11_init 198 = .ok (.new 90, 3) := by decide +kernel
theorem dX11_init_201 : decode cX11_init 201 = .ok (.dup, 1) := by decide +kernel
theorem dX11_init_202 : decode cX11_init 202 = .ok (.aload_n 0, 1) := by decide +kernel
theorem dX11_init_203 : decode cX11_init 203 = .ok (.getfield 70, 3) := by decide +kernel
theorem dX11_init_206 : decode cX11_init 206 = .ok (.invokespecial 92, 3) := by decide +kernel
theorem dX11_init_209 : decode cX11_init 209 = .ok (.putfield 95, 3) := by decide +kernel
theorem dX11_init_212 : decode cX11_init 212 = .ok (.aload_n 0, 1) := by decide +kernel
theorem dX11_init_213 : decode cX11_init 213 = .ok (.new 99, 3) := by decide +kernel
theorem dX11_init_216 : decode cX11_init 216 = .ok (.dup, 1) := by decide +kernel
theorem dX11_init_217 : decode cX11_init 217 = .ok (.invokespecial 101, 3) := by decide +kernel
theorem dX11_init_220 : decode cX11_init 220 = .ok (.putfield 102, 3) := by decide +kernel
theorem dX11_init_223 : decode cX11_init 223 = .ok (.aload_n 0, 1) := by decide +kernel
theorem dX11_init_224 : decode cX11_init 224 = .ok (.new 106, 3) := by decide +kernel
theorem dX11_init_227 : decode cX11_init 227 = .ok (.dup, 1) := by decide +kernel
theorem dX11_init_228 : decode cX11_init 228 = .ok (.invokespecial 108, 3) := by decide +kernel
theorem dX11_init_231 : decode cX11_init 231 = .ok (.putfield 109, 3) := by decide +kernel
theorem dX11_init_234 : decode cX11_init 234 = .ok (.iconst 0, 1) := by decide +kernel
theorem dX11_init_235 : decode cX11_init 235 = .ok (.istore_n 1, 1) := by decide +kernel
theorem dX11_init_236 : decode cX11_init 236 = .ok (.iload_n 1, 1) := by decide +kernel
theorem dX11_init_237 : decode cX11_init 237 = .ok (.bipush 8, 2) := by decide +kernel
theorem dX11_init_239 : decode cX11_init 239 = .ok (.if_icmp .ge 25, 3) := by decide +kernel
theorem dX11_init_242 : decode cX11_init 242 = .ok (.aload_n 0, 1) := by decide +kernel
theorem dX11_init_243 : decode cX11_init 243 = .ok (.getfield 11, 3) := by decide +kernel
theorem dX11_init_246 : decode cX11_init 246 = .ok (.iload_n 1, 1) := by decide +kernel
theorem dX11_init_247 : decode cX11_init 247 = .ok (.new 9, 3) := by decide +kernel
theorem dX11_init_250 : decode cX11_init 250 = .ok (.dup, 1) := by decide +kernel
theorem dX11_init_251 : decode cX11_init 251 = .ok (.sipush 8192, 3) := by decide +kernel
theorem dX11_init_254 : decode cX11_init 254 = .ok (.invokespecial 15, 3) := by decide +kernel
theorem dX11_init_257 : decode cX11_init 257 = .ok (.aastore, 1) := by decide +kernel
theorem dX11_init_258 : decode cX11_init 258 = .ok (.iinc 1 1, 3) := by decide +kernel
theorem dX11_init_261 : decode cX11_init 261 = .ok (.goto (-25), 3) := by decide +kernel
theorem dX11_init_264 : decode cX11_init 264 = .ok (.iconst 0, 1) := by decide +kernel
theorem dX11_init_265 : decode cX11_init 265 = .ok (.istore_n 1, 1) := by decide +kernel
theorem dX11_init_266 : decode cX11_init 266 = .ok (.iload_n 1, 1) := by decide +kernel
theorem dX11_init_267 : decode cX11_init 267 = .ok (.bipush 16, 2) := by decide +kernel
theorem dX11_init_269 : decode cX11_init 269 = .ok (.if_icmp .ge 22, 3) := by decide +kernel
theorem dX11_init_272 : decode cX11_init 272 = .ok (.aload_n 0, 1) := by decide +kernel
theorem dX11_init_273 : decode cX11_init 273 = .ok (.getfield 58, 3) := by decide +kernel
theorem dX11_init_276 : decode cX11_init 276 = .ok (.iload_n 1, 1) := by decide +kernel
theorem dX11_init_277 : decode cX11_init 277 = .ok (.new 56, 3) := by decide +kernel
theorem dX11_init_280 : decode cX11_init 280 = .ok (.dup, 1) := by decide +kernel
theorem dX11_init_281 : decode cX11_init 281 = .ok (.invokespecial 62, 3) := by decide +kernel
theorem dX11_init_284 : decode cX11_init 284 = .ok (.aastore, 1) := by decide +kernel
theorem dX11_init_285 : decode cX11_init 285 = .ok (.iinc 1 1, 3) := by decide +kernel
theorem dX11_init_288 : decode cX11_init 288 = .ok (.goto (-22), 3) := by decide +kernel
theorem dX11_init_291 : decode cX11_init 291 = .ok (.return_, 1) := by decide +kernel
theorem mB_X11_init_269 {G : mG} {F : Nat} {M0 : mM} {Z0 S0 : Nat} (r266 : Nat → Int32 → mM → Nat → Nat → Option (mM × Nat × Nat)) (hm266 : ∀ (l0 : Nat) (l1 : Int32) (M : mM) (sz : Nat) (sl : Nat), r266 l0 l1 M sz sl = some (M0, Z0, S0) → sz ≤ Z0 ∧ sl ≤ S0) {l0 : Nat} {l1 : Int32} {sk0 : Int32} {sk1 : Int32} {M : mM} {sz : Nat} {sl : Nat} (h : B_X11_init_269 G F r266 l0 l1 sk0 sk1 M sz sl = some (M0, Z0, S0)) : sz ≤ Z0 ∧ sl ≤ S0 := by
  unfold B_X11_init_269 at h
  by_cases q : sk1 ≤ sk0
  · replace h := (if_pos q).symm.trans h
    have q := retA_v h
    omega
  · replace h := (if_neg q).symm.trans h
    obtain ⟨v273, e273, h⟩ := bO_some h
    obtain ⟨M277, ⟨⟩, h⟩ := bO_some h
    obtain ⟨M281, z281, k281, e281, h⟩ := bA_some h
    have g281 := mP_X5_init e281
    obtain ⟨M284, e284, h⟩ := bO_some h
    have q := hm266 _ _ _ _ _ h
    omega
set_option maxHeartbeats 4000000 in
set_option maxRecDepth 100000 in
theorem wB_X11_init_269 {G : mG} {F : Nat} {x : mXT} {z0 s0 : Nat} {M0 : mM} {Z0 S0 : Nat} (X : mCX G RX11 cX11_init 2 none "<init>" { frames := 6, cells := Z0 - z0, slots := S0 - s0, locals := 164 } x) (hQ : mQV x M0 (Z0, Z0 - z0, S0 - s0)) (r266 : Nat → Int32 → mM → Nat → Nat → Option (mM × Nat × Nat)) (hm266 : ∀ (l0 : Nat) (l1 : Int32) (M : mM) (sz : Nat) (sl : Nat), r266 l0 l1 M sz sl = some (M0, Z0, S0) → sz ≤ Z0 ∧ sl ≤ S0) (hr266 : ∀ (l0 : Nat) (l1 : Int32) (M : mM) (sz : Nat) (sl : Nat), z0 ≤ sz → s0 ≤ sl → r266 l0 l1 M sz sl = some (M0, Z0, S0) → WW x (sz, sz - z0, sl - s0) M 266 [(0, .ref l0), (1, .int l1)] []) {l0 : Nat} {l1 : Int32} {sk0 : Int32} {sk1 : Int32} {M : mM} {sz : Nat} {sl : Nat} (hz0 : z0 ≤ sz) (hs0 : s0 ≤ sl) (h : B_X11_init_269 G F r266 l0 l1 sk0 sk1 M sz sl = some (M0, Z0, S0)) : WW x (sz, sz - z0, sl - s0) M 269 [(0, .ref l0), (1, .int l1)] [.int sk1, .int sk0] := by
  unfold B_X11_init_269 at h
  refine ww_icmp_ge 269 291 X dX11_init_269 (by decide) (fun q => ?_) (fun q => ?_)
  · replace h := (if_pos q).symm.trans h
    have q := retA_v h
    exact ww_vretA 291 X hQ dX11_init_291 h
  · replace h := (if_neg q).symm.trans h
    obtain ⟨v273, e273, h⟩ := bO_some h
    obtain ⟨M277, ⟨⟩, h⟩ := bO_some h
    obtain ⟨M281, z281, k281, e281, h⟩ := bA_some h
    have g281 := mP_X5_init e281
    obtain ⟨M284, e284, h⟩ := bO_some h
    have q := hm266 _ _ _ _ _ h
    refine ww_aload_n 272 X dX11_init_272 0 rfl rfl ?_
    refine ww_getR 273 X dX11_init_273 fG_X11_58 e273 ?_
    refine ww_iload_n 276 X dX11_init_276 1 rfl rfl ?_
    refine ww_newO 277 X (sz := sz) (sl := sl) (z0 := z0) (s0 := s0) dX11_init_277 nW_X11_56 (by omega) (by omega) (by show _ ≤ Z0 - z0; omega) (by show _ ≤ S0 - s0; omega) ?_
    refine ww_dup 280 X dX11_init_280 rfl ?_
    refine ww_callIVNa 281 X (sz := (sz + 1)) (sl := (sl + 10)) (z0 := z0) (s0 := s0) dX11_init_281 mY_X5_init mL_X11_62 (As := []) (rest := [.ref sz, .int l1, .ref v273]) rfl rfl ⟨Nat.le_of_ble_eq_true rfl, Nat.le_of_ble_eq_true rfl⟩ (by omega) (by omega) (by omega) (by omega) (by show _ ≤ Z0 - z0; omega) (by show _ ≤ S0 - s0; omega) (Nat.le_of_ble_eq_true rfl) (fun l D A => c_X5_init l D A e281) ?_
    refine ww_aast 284 X dX11_init_284 (by decide) ⟨_, rfl, rfl⟩ e284 ?_
    refine ww_iinc 285 X dX11_init_285 (lv' := [(0, .ref l0), (1, .int (l1 + 1))]) 1 rfl rfl (by decide) [1, 0] rfl ?_
    refine ww_goto 288 266 X dX11_init_288 (by decide) ?_
    exact (hr266 _ _ _ _ _ (by omega) (by omega) h)
theorem mB_X11_init_266 {G : mG} {F : Nat} {M0 : mM} {Z0 S0 : Nat} : ∀ (n : Nat) (l0 : Nat) (l1 : Int32) (M : mM) (sz : Nat) (sl : Nat), B_X11_init_266 G F n l0 l1 M sz sl = some (M0, Z0, S0) → sz ≤ Z0 ∧ sl ≤ S0 := by
  intro n
  induction n with
  | zero =>
    intro l0 l1 M sz sl h
    exact nomatch (show (none : Option (mM × Nat × Nat)) = some (M0, Z0, S0) from h)
  | succ n ih =>
    intro l0 l1 M sz sl h
    rw [B_X11_init_266] at h
    have q := mB_X11_init_269 _ ih h
    omega
set_option maxHeartbeats 4000000 in
set_option maxRecDepth 100000 in
theorem wB_X11_init_266 {G : mG} {F : Nat} {x : mXT} {z0 s0 : Nat} {M0 : mM} {Z0 S0 : Nat} (X : mCX G RX11 cX11_init 2 none "<init>" { frames := 6, cells := Z0 - z0, slots := S0 - s0, locals := 164 } x) (hQ : mQV x M0 (Z0, Z0 - z0, S0 - s0)) : ∀ (n : Nat) (l0 : Nat) (l1 : Int32) (M : mM) (sz : Nat) (sl : Nat), z0 ≤ sz → s0 ≤ sl → B_X11_init_266 G F n l0 l1 M sz sl = some (M0, Z0, S0) → WW x (sz, sz - z0, sl - s0) M 266 [(0, .ref l0), (1, .int l1)] [] := by
  intro n
  induction n with
  | zero =>
    intro l0 l1 M sz sl hz0 hs0 h
    exact nomatch (show (none : Option (mM × Nat × Nat)) = some (M0, Z0, S0) from h)
  | succ n ih =>
    intro l0 l1 M sz sl hz0 hs0 h
    rw [B_X11_init_266] at h
    have q := mB_X11_init_269 _ (mB_X11_init_266 n) h
    refine ww_iload_n 266 X dX11_init_266 1 rfl rfl ?_
    refine ww_bipush 267 X (v := (16 : Int32)) dX11_init_267 (by decide) ?_
    exact (wB_X11_init_269 X hQ _ (mB_X11_init_266 n) ih (by omega) (by omega) h)
theorem mB_X11_init_239 {G : mG} {F : Nat} {M0 : mM} {Z0 S0 : Nat} (r236 : Nat → Int32 → mM → Nat → Nat → Option (mM × Nat × Nat)) (hm236 : ∀ (l0 : Nat) (l1 : Int32) (M : mM) (sz : Nat) (sl : Nat), r236 l0 l1 M sz sl = some (M0, Z0, S0) → sz ≤ Z0 ∧ sl ≤ S0) {l0 : Nat} {l1 : Int32} {sk0 : Int32} {sk1 : Int32} {M : mM} {sz : Nat} {sl : Nat} (h : B_X11_init_239 G F r236 l0 l1 sk0 sk1 M sz sl = some (M0, Z0, S0)) : sz ≤ Z0 ∧ sl ≤ S0 := by
  unfold B_X11_init_239 at h
  by_cases q : sk1 ≤ sk0
  · replace h := (if_pos q).symm.trans h
    have q := mB_X11_init_266 F _ _ _ _ _ h
    omega
  · replace h := (if_neg q).symm.trans h
    obtain ⟨v243, e243, h⟩ := bO_some h
    obtain ⟨M247, ⟨⟩, h⟩ := bO_some h
    obtain ⟨M254, z254, k254, e254, h⟩ := bA_some h
    have g254 := mP_X0_init e254
    obtain ⟨M257, e257, h⟩ := bO_some h
    have q := hm236 _ _ _ _ _ h
    omega
set_option maxHeartbeats 4000000 in
set_option maxRecDepth 100000 in
theorem wB_X11_init_239 {G : mG} {F : Nat} {x : mXT} {z0 s0 : Nat} {M0 : mM} {Z0 S0 : Nat} (X : mCX G RX11 cX11_init 2 none "<init>" { frames := 6, cells := Z0 - z0, slots := S0 - s0, locals := 164 } x) (hQ : mQV x M0 (Z0, Z0 - z0, S0 - s0)) (r236 : Nat → Int32 → mM → Nat → Nat → Option (mM × Nat × Nat)) (hm236 : ∀ (l0 : Nat) (l1 : Int32) (M : mM) (sz : Nat) (sl : Nat), r236 l0 l1 M sz sl = some (M0, Z0, S0) → sz ≤ Z0 ∧ sl ≤ S0) (hr236 : ∀ (l0 : Nat) (l1 : Int32) (M : mM) (sz : Nat) (sl : Nat), z0 ≤ sz → s0 ≤ sl → r236 l0 l1 M sz sl = some (M0, Z0, S0) → WW x (sz, sz - z0, sl - s0) M 236 [(0, .ref l0), (1, .int l1)] []) {l0 : Nat} {l1 : Int32} {sk0 : Int32} {sk1 : Int32} {M : mM} {sz : Nat} {sl : Nat} (hz0 : z0 ≤ sz) (hs0 : s0 ≤ sl) (h : B_X11_init_239 G F r236 l0 l1 sk0 sk1 M sz sl = some (M0, Z0, S0)) : WW x (sz, sz - z0, sl - s0) M 239 [(0, .ref l0), (1, .int l1)] [.int sk1, .int sk0] := by
  unfold B_X11_init_239 at h
  refine ww_icmp_ge 239 264 X dX11_init_239 (by decide) (fun q => ?_) (fun q => ?_)
  · replace h := (if_pos q).symm.trans h
    have q := mB_X11_init_266 F _ _ _ _ _ h
    refine ww_iconst 264 X (v := (0 : Int32)) dX11_init_264 (by decide) ?_
    refine ww_istore_n 265 X dX11_init_265 (lv' := [(0, .ref l0), (1, .int (0 : Int32))]) rfl (by decide) [1, 0] rfl ?_
    exact (wB_X11_init_266 X hQ F _ _ _ _ _ (by omega) (by omega) h)
  · replace h := (if_neg q).symm.trans h
    obtain ⟨v243, e243, h⟩ := bO_some h
    obtain ⟨M247, ⟨⟩, h⟩ := bO_some h
    obtain ⟨M254, z254, k254, e254, h⟩ := bA_some h
    have g254 := mP_X0_init e254
    obtain ⟨M257, e257, h⟩ := bO_some h
    have q := hm236 _ _ _ _ _ h
    refine ww_aload_n 242 X dX11_init_242 0 rfl rfl ?_
    refine ww_getR 243 X dX11_init_243 fG_X11_11 e243 ?_
    refine ww_iload_n 246 X dX11_init_246 1 rfl rfl ?_
    refine ww_newO 247 X (sz := sz) (sl := sl) (z0 := z0) (s0 := s0) dX11_init_247 nW_X11_9 (by omega) (by omega) (by show _ ≤ Z0 - z0; omega) (by show _ ≤ S0 - s0; omega) ?_
    refine ww_dup 250 X dX11_init_250 rfl ?_
    refine ww_sipush 251 X (v := (8192 : Int32)) dX11_init_251 (by decide) ?_
    refine ww_callIVa 254 X (sz := (sz + 1)) (sl := (sl + 3)) (z0 := z0) (s0 := s0) dX11_init_254 mY_X0_init mL_X11_15 (As := [.int (8192 : Int32)]) (rest := [.ref sz, .int l1, .ref v243]) rfl rfl ⟨Nat.le_of_ble_eq_true rfl, Nat.le_of_ble_eq_true rfl⟩ (by omega) (by omega) (by omega) (by omega) (by show _ ≤ Z0 - z0; omega) (by show _ ≤ S0 - s0; omega) (Nat.le_of_ble_eq_true rfl) (fun l D A => c_X0_init l D A e254) ?_
    refine ww_aast 257 X dX11_init_257 (by decide) ⟨_, rfl, rfl⟩ e257 ?_
    refine ww_iinc 258 X dX11_init_258 (lv' := [(0, .ref l0), (1, .int (l1 + 1))]) 1 rfl rfl (by decide) [1, 0] rfl ?_
    refine ww_goto 261 236 X dX11_init_261 (by decide) ?_
    exact (hr236 _ _ _ _ _ (by omega) (by omega) h)
theorem mB_X11_init_236 {G : mG} {F : Nat} {M0 : mM} {Z0 S0 : Nat} : ∀ (n : Nat) (l0 : Nat) (l1 : Int32) (M : mM) (sz : Nat) (sl : Nat), B_X11_init_236 G F n l0 l1 M sz sl = some (M0, Z0, S0) → sz ≤ Z0 ∧ sl ≤ S0 := by
  intro n
  induction n with
  | zero =>
    intro l0 l1 M sz sl h
    exact nomatch (show (none : Option (mM × Nat × Nat)) = some (M0, Z0, S0) from h)
  | succ n ih =>
    intro l0 l1 M sz sl h
    rw [B_X11_init_236] at h
    have q := mB_X11_init_239 _ ih h
    omega
set_option maxHeartbeats 4000000 in
set_option maxRecDepth 100000 in
theorem wB_X11_init_236 {G : mG} {F : Nat} {x : mXT} {z0 s0 : Nat} {M0 : mM} {Z0 S0 : Nat} (X : mCX G RX11 cX11_init 2 none "<init>" { frames := 6, cells := Z0 - z0, slots := S0 - s0, locals := 164 } x) (hQ : mQV x M0 (Z0, Z0 - z0, S0 - s0)) : ∀ (n : Nat) (l0 : Nat) (l1 : Int32) (M : mM) (sz : Nat) (sl : Nat), z0 ≤ sz → s0 ≤ sl → B_X11_init_236 G F n l0 l1 M sz sl = some (M0, Z0, S0) → WW x (sz, sz - z0, sl - s0) M 236 [(0, .ref l0), (1, .int l1)] [] := by
  intro n
  induction n with
  | zero =>
    intro l0 l1 M sz sl hz0 hs0 h
    exact nomatch (show (none : Option (mM × Nat × Nat)) = some (M0, Z0, S0) from h)
  | succ n ih =>
    intro l0 l1 M sz sl hz0 hs0 h
    rw [B_X11_init_236] at h
    have q := mB_X11_init_239 _ (mB_X11_init_236 n) h
    refine ww_iload_n 236 X dX11_init_236 1 rfl rfl ?_
    refine ww_bipush 237 X (v := (8 : Int32)) dX11_init_237 (by decide) ?_
    exact (wB_X11_init_239 X hQ _ (mB_X11_init_236 n) ih (by omega) (by omega) h)
theorem mP_X11_init {G : mG} {F : Nat} {M0 : mM} {Z0 S0 : Nat} {l0 : Nat} {M : mM} {sz : Nat} {sl : Nat} (h : P_X11_init G F l0 M sz sl = some (M0, Z0, S0)) : sz ≤ Z0 ∧ sl ≤ S0 := by
  unfold P_X11_init at h
  obtain ⟨M7, e7, h⟩ := bO_some h
  obtain ⟨M10, e10, h⟩ := bO_some h
  obtain ⟨M14, ⟨⟩, h⟩ := bO_some h
  obtain ⟨M21, z21, k21, e21, h⟩ := bA_some h
  have g21 := mP_X0_init e21
  obtain ⟨M24, e24, h⟩ := bO_some h
  obtain ⟨M28, ⟨⟩, h⟩ := bO_some h
  obtain ⟨M35, z35, k35, e35, h⟩ := bA_some h
  have g35 := mP_X0_init e35
  obtain ⟨M38, e38, h⟩ := bO_some h
  obtain ⟨M42, ⟨⟩, h⟩ := bO_some h
  obtain ⟨M47, z47, k47, e47, h⟩ := bA_some h
  have g47 := mP_X0_init e47
  obtain ⟨M50, e50, h⟩ := bO_some h
  obtain ⟨M54, ⟨⟩, h⟩ := bO_some h
  obtain ⟨M61, z61, k61, e61, h⟩ := bA_some h
  have g61 := mP_X0_init e61
  obtain ⟨M64, e64, h⟩ := bO_some h
  obtain ⟨M68, ⟨⟩, h⟩ := bO_some h
  obtain ⟨M75, z75, k75, e75, h⟩ := bA_some h
  have g75 := mP_X0_init e75
  obtain ⟨M78, e78, h⟩ := bO_some h
  obtain ⟨M82, ⟨⟩, h⟩ := bO_some h
  obtain ⟨M89, z89, k89, e89, h⟩ := bA_some h
  have g89 := mP_X0_init e89
  obtain ⟨M92, e92, h⟩ := bO_some h
  obtain ⟨M96, ⟨⟩, h⟩ := bO_some h
  obtain ⟨M100, z100, k100, e100, h⟩ := bA_some h
  have g100 := mP_X9_init e100
  obtain ⟨M103, e103, h⟩ := bO_some h
  obtain ⟨M107, ⟨⟩, h⟩ := bO_some h
  obtain ⟨M111, z111, k111, e111, h⟩ := bA_some h
  have g111 := mP_X9_init e111
  obtain ⟨M114, e114, h⟩ := bO_some h
  obtain ⟨M118, ⟨⟩, h⟩ := bO_some h
  obtain ⟨v123, e123, h⟩ := bO_some h
  obtain ⟨v127, e127, h⟩ := bO_some h
  obtain ⟨M130, z130, k130, e130, h⟩ := bA_some h
  have g130 := mP_X7_init e130
  obtain ⟨M133, e133, h⟩ := bO_some h
  obtain ⟨M139, e139, h⟩ := bO_some h
  obtain ⟨M142, e142, h⟩ := bO_some h
  obtain ⟨M146, ⟨⟩, h⟩ := bO_some h
  obtain ⟨M150, z150, k150, e150, h⟩ := bA_some h
  have g150 := mP_X5_init e150
  obtain ⟨M153, e153, h⟩ := bO_some h
  obtain ⟨M157, ⟨⟩, h⟩ := bO_some h
  obtain ⟨M161, z161, k161, e161, h⟩ := bA_some h
  have g161 := mP_X4_init e161
  obtain ⟨M164, e164, h⟩ := bO_some h
  obtain ⟨M168, ⟨⟩, h⟩ := bO_some h
  obtain ⟨M172, z172, k172, e172, h⟩ := bA_some h
  have g172 := mP_X1_init e172
  obtain ⟨M175, e175, h⟩ := bO_some h
  obtain ⟨M179, ⟨⟩, h⟩ := bO_some h
  obtain ⟨v184, e184, h⟩ := bO_some h
  obtain ⟨v188, e188, h⟩ := bO_some h
  obtain ⟨M191, z191, k191, e191, h⟩ := bA_some h
  have g191 := mP_X2_init e191
  obtain ⟨M194, e194, h⟩ := bO_some h
  obtain ⟨M198, ⟨⟩, h⟩ := bO_some h
  obtain ⟨v203, e203, h⟩ := bO_some h
  obtain ⟨M206, z206, k206, e206, h⟩ := bA_some h
  have g206 := mP_X8_init e206
  obtain ⟨M209, e209, h⟩ := bO_some h
  obtain ⟨M213, ⟨⟩, h⟩ := bO_some h
  obtain ⟨M217, z217, k217, e217, h⟩ := bA_some h
  have g217 := mP_X3_init e217
  obtain ⟨M220, e220, h⟩ := bO_some h
  obtain ⟨M224, ⟨⟩, h⟩ := bO_some h
  obtain ⟨M228, z228, k228, e228, h⟩ := bA_some h
  have g228 := mP_X10_init e228
  obtain ⟨M231, e231, h⟩ := bO_some h
  have q := mB_X11_init_236 F _ _ _ _ _ h
  omega
set_option maxHeartbeats 4000000 in
set_option maxRecDepth 100000 in
theorem wP_X11_init {G : mG} {F : Nat} {x : mXT} {z0 s0 : Nat} {M0 : mM} {Z0 S0 : Nat} (X : mCX G RX11 cX11_init 2 none "<init>" { frames := 6, cells := Z0 - z0, slots := S0 - s0, locals := 164 } x) (hQ : mQV x M0 (Z0, Z0 - z0, S0 - s0)) {l0 : Nat} {M : mM} {sz : Nat} {sl : Nat} (hz0 : z0 ≤ sz) (hs0 : s0 ≤ sl) (h : P_X11_init G F l0 M sz sl = some (M0, Z0, S0)) : WW x (sz, sz - z0, sl - s0) M 0 [(0, .ref l0)] [] := by
  unfold P_X11_init at h
  obtain ⟨M7, e7, h⟩ := bO_some h
  obtain ⟨M10, e10, h⟩ := bO_some h
  obtain ⟨M14, ⟨⟩, h⟩ := bO_some h
  obtain ⟨M21, z21, k21, e21, h⟩ := bA_some h
  have g21 := mP_X0_init e21
  obtain ⟨M24, e24, h⟩ := bO_some h
  obtain ⟨M28, ⟨⟩, h⟩ := bO_some h
  obtain ⟨M35, z35, k35, e35, h⟩ := bA_some h
  have g35 := mP_X0_init e35
  obtain ⟨M38, e38, h⟩ := bO_some h
  obtain ⟨M42, ⟨⟩, h⟩ := bO_some h
  obtain ⟨M47, z47, k47, e47, h⟩ := bA_some h
  have g47 := mP_X0_init e47
  obtain ⟨M50, e50, h⟩ := bO_some h
  obtain ⟨M54, ⟨⟩, h⟩ := bO_some h
  obtain ⟨M61, z61, k61, e61, h⟩ := bA_some h
  have g61 := mP_X0_init e61
  obtain ⟨M64, e64, h⟩ := bO_some h
  obtain ⟨M68, ⟨⟩, h⟩ := bO_some h
  obtain ⟨M75, z75, k75, e75, h⟩ := bA_some h
  have g75 := mP_X0_init e75
  obtain ⟨M78, e78, h⟩ := bO_some h
  obtain ⟨M82, ⟨⟩, h⟩ := bO_some h
  obtain ⟨M89, z89, k89, e89, h⟩ := bA_some h
  have g89 := mP_X0_init e89
  obtain ⟨M92, e92, h⟩ := bO_some h
  obtain ⟨M96, ⟨⟩, h⟩ := bO_some h
  obtain ⟨M100, z100, k100, e100, h⟩ := bA_some h
  have g100 := mP_X9_init e100
  obtain ⟨M103, e103, h⟩ := bO_some h
  obtain ⟨M107, ⟨⟩, h⟩ := bO_some h
  obtain ⟨M111, z111, k111, e111, h⟩ := bA_some h
  have g111 := mP_X9_init e111
  obtain ⟨M114, e114, h⟩ := bO_some h
  obtain ⟨M118, ⟨⟩, h⟩ := bO_some h
  obtain ⟨v123, e123, h⟩ := bO_some h
  obtain ⟨v127, e127, h⟩ := bO_some h
  obtain ⟨M130, z130, k130, e130, h⟩ := bA_some h
  have g130 := mP_X7_init e130
  obtain ⟨M133, e133, h⟩ := bO_some h
  obtain ⟨M139, e139, h⟩ := bO_some h
  obtain ⟨M142, e142, h⟩ := bO_some h
  obtain ⟨M146, ⟨⟩, h⟩ := bO_some h
  obtain ⟨M150, z150, k150, e150, h⟩ := bA_some h
  have g150 := mP_X5_init e150
  obtain ⟨M153, e153, h⟩ := bO_some h
  obtain ⟨M157, ⟨⟩, h⟩ := bO_some h
  obtain ⟨M161, z161, k161, e161, h⟩ := bA_some h
  have g161 := mP_X4_init e161
  obtain ⟨M164, e164, h⟩ := bO_some h
  obtain ⟨M168, ⟨⟩, h⟩ := bO_some h
  obtain ⟨M172, z172, k172, e172, h⟩ := bA_some h
  have g172 := mP_X1_init e172
  obtain ⟨M175, e175, h⟩ := bO_some h
  obtain ⟨M179, ⟨⟩, h⟩ := bO_some h
  obtain ⟨v184, e184, h⟩ := bO_some h
  obtain ⟨v188, e188, h⟩ := bO_some h
  obtain ⟨M191, z191, k191, e191, h⟩ := bA_some h
  have g191 := mP_X2_init e191
  obtain ⟨M194, e194, h⟩ := bO_some h
  obtain ⟨M198, ⟨⟩, h⟩ := bO_some h
  obtain ⟨v203, e203, h⟩ := bO_some h
  obtain ⟨M206, z206, k206, e206, h⟩ := bA_some h
  have g206 := mP_X8_init e206
  obtain ⟨M209, e209, h⟩ := bO_some h
  obtain ⟨M213, ⟨⟩, h⟩ := bO_some h
  obtain ⟨M217, z217, k217, e217, h⟩ := bA_some h
  have g217 := mP_X3_init e217
  obtain ⟨M220, e220, h⟩ := bO_some h
  obtain ⟨M224, ⟨⟩, h⟩ := bO_some h
  obtain ⟨M228, z228, k228, e228, h⟩ := bA_some h
  have g228 := mP_X10_init e228
  obtain ⟨M231, e231, h⟩ := bO_some h
  have q := mB_X11_init_236 F _ _ _ _ _ h
  refine ww_aload_n 0 X dX11_init_0 0 rfl rfl ?_
  refine ww_objI 1 X (st := []) dX11_init_1 oL_X11_1 oI_i oI_c (Nat.le_of_ble_eq_true rfl) (Nat.le_of_ble_eq_true rfl) (Nat.le_of_ble_eq_true rfl) ?_
  refine ww_aload_n 4 X dX11_init_4 0 rfl rfl ?_
  refine ww_bipush 5 X (v := (8 : Int32)) dX11_init_5 (by decide) ?_
  refine ww_newQ 7 X (sz := sz) (sl := sl) (z0 := z0) (s0 := s0) dX11_init_7 (k := 4) (by decide) ⟨_, rfl, cK_X11_9⟩ e7 (by omega) (by omega) (by show _ ≤ Z0 - z0; omega) (by show _ ≤ S0 - s0; omega) ?_
  refine ww_putR 10 X dX11_init_10 (fP_X11_11 _ (Or.inr rfl)) e10 rfl rfl ?_
  refine ww_aload_n 13 X dX11_init_13 0 rfl rfl ?_
  refine ww_newO 14 X (sz := (sz + 1)) (sl := (sl + ((8 : Int32)).toNatClampNeg)) (z0 := z0) (s0 := s0) dX11_init_14 nW_X11_9 (by omega) (by omega) (by show _ ≤ Z0 - z0; omega) (by show _ ≤ S0 - s0; omega) ?_
  refine ww_dup 17 X dX11_init_17 rfl ?_
  refine ww_sipush 18 X (v := (8192 : Int32)) dX11_init_18 (by decide) ?_
  refine ww_callIVa 21 X (sz := ((sz + 1) + 1)) (sl := ((sl + ((8 : Int32)).toNatClampNeg) + 3)) (z0 := z0) (s0 := s0) dX11_init_21 mY_X0_init mL_X11_15 (As := [.int (8192 : Int32)]) (rest := [.ref (sz + 1), .ref l0]) rfl rfl ⟨Nat.le_of_ble_eq_true rfl, Nat.le_of_ble_eq_true rfl⟩ (by omega) (by omega) (by omega) (by omega) (by show _ ≤ Z0 - z0; omega) (by show _ ≤ S0 - s0; omega) (Nat.le_of_ble_eq_true rfl) (fun l D A => c_X0_init l D A e21) ?_
  refine ww_putR 24 X dX11_init_24 (fP_X11_18 _ (Or.inr rfl)) e24 rfl rfl ?_
  refine ww_aload_n 27 X dX11_init_27 0 rfl rfl ?_
  refine ww_newO 28 X (sz := z21) (sl := k21) (z0 := z0) (s0 := s0) dX11_init_28 nW_X11_9 (by omega) (by omega) (by show _ ≤ Z0 - z0; omega) (by show _ ≤ S0 - s0; omega) ?_
  refine ww_dup 31 X dX11_init_31 rfl ?_
  refine ww_sipush 32 X (v := (8192 : Int32)) dX11_init_32 (by decide) ?_
  refine ww_callIVa 35 X (sz := (z21 + 1)) (sl := (k21 + 3)) (z0 := z0) (s0 := s0) dX11_init_35 mY_X0_init mL_X11_15 (As := [.int (8192 : Int32)]) (rest := [.ref z21, .ref l0]) rfl rfl ⟨Nat.le_of_ble_eq_true rfl, Nat.le_of_ble_eq_true rfl⟩ (by omega) (by omega) (by omega) (by omega) (by show _ ≤ Z0 - z0; omega) (by show _ ≤ S0 - s0; omega) (Nat.le_of_ble_eq_true rfl) (fun l D A => c_X0_init l D A e35) ?_
  refine ww_putR 38 X dX11_init_38 (fP_X11_22 _ (Or.inr rfl)) e38 rfl rfl ?_
  refine ww_aload_n 41 X dX11_init_41 0 rfl rfl ?_
  refine ww_newO 42 X (sz := z35) (sl := k35) (z0 := z0) (s0 := s0) dX11_init_42 nW_X11_9 (by omega) (by omega) (by show _ ≤ Z0 - z0; omega) (by show _ ≤ S0 - s0; omega) ?_
  refine ww_dup 45 X dX11_init_45 rfl ?_
  refine ww_iconst 46 X (v := (0 : Int32)) dX11_init_46 (by decide) ?_
  refine ww_callIVa 47 X (sz := (z35 + 1)) (sl := (k35 + 3)) (z0 := z0) (s0 := s0) dX11_init_47 mY_X0_init mL_X11_15 (As := [.int (0 : Int32)]) (rest := [.ref z35, .ref l0]) rfl rfl ⟨Nat.le_of_ble_eq_true rfl, Nat.le_of_ble_eq_true rfl⟩ (by omega) (by omega) (by omega) (by omega) (by show _ ≤ Z0 - z0; omega) (by show _ ≤ S0 - s0; omega) (Nat.le_of_ble_eq_true rfl) (fun l D A => c_X0_init l D A e47) ?_
  refine ww_putR 50 X dX11_init_50 (fP_X11_25 _ (Or.inr rfl)) e50 rfl rfl ?_
  refine ww_aload_n 53 X dX11_init_53 0 rfl rfl ?_
  refine ww_newO 54 X (sz := z47) (sl := k47) (z0 := z0) (s0 := s0) dX11_init_54 nW_X11_9 (by omega) (by omega) (by show _ ≤ Z0 - z0; omega) (by show _ ≤ S0 - s0; omega) ?_
  refine ww_dup 57 X dX11_init_57 rfl ?_
  refine ww_sipush 58 X (v := (22528 : Int32)) dX11_init_58 (by decide) ?_
  refine ww_callIVa 61 X (sz := (z47 + 1)) (sl := (k47 + 3)) (z0 := z0) (s0 := s0) dX11_init_61 mY_X0_init mL_X11_15 (As := [.int (22528 : Int32)]) (rest := [.ref z47, .ref l0]) rfl rfl ⟨Nat.le_of_ble_eq_true rfl, Nat.le_of_ble_eq_true rfl⟩ (by omega) (by omega) (by omega) (by omega) (by show _ ≤ Z0 - z0; omega) (by show _ ≤ S0 - s0; omega) (Nat.le_of_ble_eq_true rfl) (fun l D A => c_X0_init l D A e61) ?_
  refine ww_putR 64 X dX11_init_64 (fP_X11_28 _ (Or.inr rfl)) e64 rfl rfl ?_
  refine ww_aload_n 67 X dX11_init_67 0 rfl rfl ?_
  refine ww_newO 68 X (sz := z61) (sl := k61) (z0 := z0) (s0 := s0) dX11_init_68 nW_X11_9 (by omega) (by omega) (by show _ ≤ Z0 - z0; omega) (by show _ ≤ S0 - s0; omega) ?_
  refine ww_dup 71 X dX11_init_71 rfl ?_
  refine ww_sipush 72 X (v := (8192 : Int32)) dX11_init_72 (by decide) ?_
  refine ww_callIVa 75 X (sz := (z61 + 1)) (sl := (k61 + 3)) (z0 := z0) (s0 := s0) dX11_init_75 mY_X0_init mL_X11_15 (As := [.int (8192 : Int32)]) (rest := [.ref z61, .ref l0]) rfl rfl ⟨Nat.le_of_ble_eq_true rfl, Nat.le_of_ble_eq_true rfl⟩ (by omega) (by omega) (by omega) (by omega) (by show _ ≤ Z0 - z0; omega) (by show _ ≤ S0 - s0; omega) (Nat.le_of_ble_eq_true rfl) (fun l D A => c_X0_init l D A e75) ?_
  refine ww_putR 78 X dX11_init_78 (fP_X11_31 _ (Or.inr rfl)) e78 rfl rfl ?_
  refine ww_aload_n 81 X dX11_init_81 0 rfl rfl ?_
  refine ww_newO 82 X (sz := z75) (sl := k75) (z0 := z0) (s0 := s0) dX11_init_82 nW_X11_9 (by omega) (by omega) (by show _ ≤ Z0 - z0; omega) (by show _ ≤ S0 - s0; omega) ?_
  refine ww_dup 85 X dX11_init_85 rfl ?_
  refine ww_sipush 86 X (v := (8192 : Int32)) dX11_init_86 (by decide) ?_
  refine ww_callIVa 89 X (sz := (z75 + 1)) (sl := (k75 + 3)) (z0 := z0) (s0 := s0) dX11_init_89 mY_X0_init mL_X11_15 (As := [.int (8192 : Int32)]) (rest := [.ref z75, .ref l0]) rfl rfl ⟨Nat.le_of_ble_eq_true rfl, Nat.le_of_ble_eq_true rfl⟩ (by omega) (by omega) (by omega) (by omega) (by show _ ≤ Z0 - z0; omega) (by show _ ≤ S0 - s0; omega) (Nat.le_of_ble_eq_true rfl) (fun l D A => c_X0_init l D A e89) ?_
  refine ww_putR 92 X dX11_init_92 (fP_X11_34 _ (Or.inr rfl)) e92 rfl rfl ?_
  refine ww_aload_n 95 X dX11_init_95 0 rfl rfl ?_
  refine ww_newO 96 X (sz := z89) (sl := k89) (z0 := z0) (s0 := s0) dX11_init_96 nW_X11_37 (by omega) (by omega) (by show _ ≤ Z0 - z0; omega) (by show _ ≤ S0 - s0; omega) ?_
  refine ww_dup 99 X dX11_init_99 rfl ?_
  refine ww_callIVNa 100 X (sz := (z89 + 1)) (sl := (k89 + 11)) (z0 := z0) (s0 := s0) dX11_init_100 mY_X9_init mL_X11_39 (As := []) (rest := [.ref z89, .ref l0]) rfl rfl ⟨Nat.le_of_ble_eq_true rfl, Nat.le_of_ble_eq_true rfl⟩ (by omega) (by omega) (by omega) (by omega) (by show _ ≤ Z0 - z0; omega) (by show _ ≤ S0 - s0; omega) (Nat.le_of_ble_eq_true rfl) (fun l D A => c_X9_init l D A e100) ?_
  refine ww_putR 103 X dX11_init_103 (fP_X11_40 _) e103 rfl rfl ?_
  refine ww_aload_n 106 X dX11_init_106 0 rfl rfl ?_
  refine ww_newO 107 X (sz := z100) (sl := k100) (z0 := z0) (s0 := s0) dX11_init_107 nW_X11_37 (by omega) (by omega) (by show _ ≤ Z0 - z0; omega) (by show _ ≤ S0 - s0; omega) ?_
  refine ww_dup 110 X dX11_init_110 rfl ?_
  refine ww_callIVNa 111 X (sz := (z100 + 1)) (sl := (k100 + 11)) (z0 := z0) (s0 := s0) dX11_init_111 mY_X9_init mL_X11_39 (As := []) (rest := [.ref z100, .ref l0]) rfl rfl ⟨Nat.le_of_ble_eq_true rfl, Nat.le_of_ble_eq_true rfl⟩ (by omega) (by omega) (by omega) (by omega) (by show _ ≤ Z0 - z0; omega) (by show _ ≤ S0 - s0; omega) (Nat.le_of_ble_eq_true rfl) (fun l D A => c_X9_init l D A e111) ?_
  refine ww_putR 114 X dX11_init_114 (fP_X11_44 _) e114 rfl rfl ?_
  refine ww_aload_n 117 X dX11_init_117 0 rfl rfl ?_
  refine ww_newO 118 X (sz := z111) (sl := k111) (z0 := z0) (s0 := s0) dX11_init_118 nW_X11_47 (by omega) (by omega) (by show _ ≤ Z0 - z0; omega) (by show _ ≤ S0 - s0; omega) ?_
  refine ww_dup 121 X dX11_init_121 rfl ?_
  refine ww_aload_n 122 X dX11_init_122 0 rfl rfl ?_
  refine ww_getR 123 X dX11_init_123 fG_X11_25 e123 ?_
  refine ww_aload_n 126 X dX11_init_126 0 rfl rfl ?_
  refine ww_getR 127 X dX11_init_127 fG_X11_44 e127 ?_
  refine ww_callIVa 130 X (sz := (z111 + 1)) (sl := (k111 + 9)) (z0 := z0) (s0 := s0) dX11_init_130 mY_X7_init mL_X11_49 (As := [.ref v123, .ref v127]) (rest := [.ref z111, .ref l0]) rfl rfl ⟨Nat.le_of_ble_eq_true rfl, Nat.le_of_ble_eq_true rfl⟩ (by omega) (by omega) (by omega) (by omega) (by show _ ≤ Z0 - z0; omega) (by show _ ≤ S0 - s0; omega) (Nat.le_of_ble_eq_true rfl) (fun l D A => c_X7_init l D A e130) ?_
  refine ww_putR 133 X dX11_init_133 (fP_X11_52 _ (Or.inr rfl)) e133 rfl rfl ?_
  refine ww_aload_n 136 X dX11_init_136 0 rfl rfl ?_
  refine ww_bipush 137 X (v := (16 : Int32)) dX11_init_137 (by decide) ?_
  refine ww_newQ 139 X (sz := z130) (sl := k130) (z0 := z0) (s0 := s0) dX11_init_139 (k := 5) (by decide) ⟨_, rfl, cK_X11_56⟩ e139 (by omega) (by omega) (by show _ ≤ Z0 - z0; omega) (by show _ ≤ S0 - s0; omega) ?_
  refine ww_putR 142 X dX11_init_142 (fP_X11_58 _ (Or.inr rfl)) e142 rfl rfl ?_
  refine ww_aload_n 145 X dX11_init_145 0 rfl rfl ?_
  refine ww_newO 146 X (sz := (z130 + 1)) (sl := (k130 + ((16 : Int32)).toNatClampNeg)) (z0 := z0) (s0 := s0) dX11_init_146 nW_X11_56 (by omega) (by omega) (by show _ ≤ Z0 - z0; omega) (by show _ ≤ S0 - s0; omega) ?_
  refine ww_dup 149 X dX11_init_149 rfl ?_
  refine ww_callIVNa 150 X (sz := ((z130 + 1) + 1)) (sl := ((k130 + ((16 : Int32)).toNatClampNeg) + 10)) (z0 := z0) (s0 := s0) dX11_init_150 mY_X5_init mL_X11_62 (As := []) (rest := [.ref (z130 + 1), .ref l0]) rfl rfl ⟨Nat.le_of_ble_eq_true rfl, Nat.le_of_ble_eq_true rfl⟩ (by omega) (by omega) (by omega) (by omega) (by show _ ≤ Z0 - z0; omega) (by show _ ≤ S0 - s0; omega) (Nat.le_of_ble_eq_true rfl) (fun l D A => c_X5_init l D A e150) ?_
  refine ww_putR 153 X dX11_init_153 (fP_X11_63 _) e153 rfl rfl ?_
  refine ww_aload_n 156 X dX11_init_156 0 rfl rfl ?_
  refine ww_newO 157 X (sz := z150) (sl := k150) (z0 := z0) (s0 := s0) dX11_init_157 nW_X11_67 (by omega) (by omega) (by show _ ≤ Z0 - z0; omega) (by show _ ≤ S0 - s0; omega) ?_
  refine ww_dup 160 X dX11_init_160 rfl ?_
  refine ww_callIVNa 161 X (sz := (z150 + 1)) (sl := (k150 + 11)) (z0 := z0) (s0 := s0) dX11_init_161 mY_X4_init mL_X11_69 (As := []) (rest := [.ref z150, .ref l0]) rfl rfl ⟨Nat.le_of_ble_eq_true rfl, Nat.le_of_ble_eq_true rfl⟩ (by omega) (by omega) (by omega) (by omega) (by show _ ≤ Z0 - z0; omega) (by show _ ≤ S0 - s0; omega) (Nat.le_of_ble_eq_true rfl) (fun l D A => c_X4_init l D A e161) ?_
  refine ww_putR 164 X dX11_init_164 (fP_X11_70 _ (Or.inr rfl)) e164 rfl rfl ?_
  refine ww_aload_n 167 X dX11_init_167 0 rfl rfl ?_
  refine ww_newO 168 X (sz := z161) (sl := k161) (z0 := z0) (s0 := s0) dX11_init_168 nW_X11_74 (by omega) (by omega) (by show _ ≤ Z0 - z0; omega) (by show _ ≤ S0 - s0; omega) ?_
  refine ww_dup 171 X dX11_init_171 rfl ?_
  refine ww_callIVa 172 X (sz := (z161 + 1)) (sl := (k161 + 6)) (z0 := z0) (s0 := s0) dX11_init_172 mY_X1_init mL_X11_76 (As := []) (rest := [.ref z161, .ref l0]) rfl rfl ⟨Nat.le_of_ble_eq_true rfl, Nat.le_of_ble_eq_true rfl⟩ (by omega) (by omega) (by omega) (by omega) (by show _ ≤ Z0 - z0; omega) (by show _ ≤ S0 - s0; omega) (Nat.le_of_ble_eq_true rfl) (fun l D A => c_X1_init l D A e172) ?_
  refine ww_putR 175 X dX11_init_175 (fP_X11_77 _ (Or.inr rfl)) e175 rfl rfl ?_
  refine ww_aload_n 178 X dX11_init_178 0 rfl rfl ?_
  refine ww_newO 179 X (sz := z172) (sl := k172) (z0 := z0) (s0 := s0) dX11_init_179 nW_X11_81 (by omega) (by omega) (by show _ ≤ Z0 - z0; omega) (by show _ ≤ S0 - s0; omega) ?_
  refine ww_dup 182 X dX11_init_182 rfl ?_
  refine ww_aload_n 183 X dX11_init_183 0 rfl rfl ?_
  refine ww_getR 184 X dX11_init_184 fG_X11_70 e184 ?_
  refine ww_aload_n 187 X dX11_init_187 0 rfl rfl ?_
  refine ww_getR 188 X dX11_init_188 fG_X11_77 e188 ?_
  refine ww_callIVa 191 X (sz := (z172 + 1)) (sl := (k172 + 9)) (z0 := z0) (s0 := s0) dX11_init_191 mY_X2_init mL_X11_83 (As := [.ref v184, .ref v188]) (rest := [.ref z172, .ref l0]) rfl rfl ⟨Nat.le_of_ble_eq_true rfl, Nat.le_of_ble_eq_true rfl⟩ (by omega) (by omega) (by omega) (by omega) (by show _ ≤ Z0 - z0; omega) (by show _ ≤ S0 - s0; omega) (Nat.le_of_ble_eq_true rfl) (fun l D A => c_X2_init l D A e191) ?_
  refine ww_putR 194 X dX11_init_194 (fP_X11_86 _ (Or.inr rfl)) e194 rfl rfl ?_
  refine ww_aload_n 197 X dX11_init_197 0 rfl rfl ?_
  refine ww_newO 198 X (sz := z191) (sl := k191) (z0 := z0) (s0 := s0) dX11_init_198 nW_X11_90 (by omega) (by omega) (by show _ ≤ Z0 - z0; omega) (by show _ ≤ S0 - s0; omega) ?_
  refine ww_dup 201 X dX11_init_201 rfl ?_
  refine ww_aload_n 202 X dX11_init_202 0 rfl rfl ?_
  refine ww_getR 203 X dX11_init_203 fG_X11_70 e203 ?_
  refine ww_callIVa 206 X (sz := (z191 + 1)) (sl := (k191 + 6)) (z0 := z0) (s0 := s0) dX11_init_206 mY_X8_init mL_X11_92 (As := [.ref v203]) (rest := [.ref z191, .ref l0]) rfl rfl ⟨Nat.le_of_ble_eq_true rfl, Nat.le_of_ble_eq_true rfl⟩ (by omega) (by omega) (by omega) (by omega) (by show _ ≤ Z0 - z0; omega) (by show _ ≤ S0 - s0; omega) (Nat.le_of_ble_eq_true rfl) (fun l D A => c_X8_init l D A e206) ?_
  refine ww_putR 209 X dX11_init_209 (fP_X11_95 _ (Or.inr rfl)) e209 rfl rfl ?_
  refine ww_aload_n 212 X dX11_init_212 0 rfl rfl ?_
  refine ww_newO 213 X (sz := z206) (sl := k206) (z0 := z0) (s0 := s0) dX11_init_213 nW_X11_99 (by omega) (by omega) (by show _ ≤ Z0 - z0; omega) (by show _ ≤ S0 - s0; omega) ?_
  refine ww_dup 216 X dX11_init_216 rfl ?_
  refine ww_callIVa 217 X (sz := (z206 + 1)) (sl := (k206 + 16)) (z0 := z0) (s0 := s0) dX11_init_217 mY_X3_init mL_X11_101 (As := []) (rest := [.ref z206, .ref l0]) rfl rfl ⟨Nat.le_of_ble_eq_true rfl, Nat.le_of_ble_eq_true rfl⟩ (by omega) (by omega) (by omega) (by omega) (by show _ ≤ Z0 - z0; omega) (by show _ ≤ S0 - s0; omega) (Nat.le_of_ble_eq_true rfl) (fun l D A => c_X3_init l D A e217) ?_
  refine ww_putR 220 X dX11_init_220 (fP_X11_102 _ (Or.inr rfl)) e220 rfl rfl ?_
  refine ww_aload_n 223 X dX11_init_223 0 rfl rfl ?_
  refine ww_newO 224 X (sz := z217) (sl := k217) (z0 := z0) (s0 := s0) dX11_init_224 nW_X11_106 (by omega) (by omega) (by show _ ≤ Z0 - z0; omega) (by show _ ≤ S0 - s0; omega) ?_
  refine ww_dup 227 X dX11_init_227 rfl ?_
  refine ww_callIVNa 228 X (sz := (z217 + 1)) (sl := (k217 + 16)) (z0 := z0) (s0 := s0) dX11_init_228 mY_X10_init mL_X11_108 (As := []) (rest := [.ref z217, .ref l0]) rfl rfl ⟨Nat.le_of_ble_eq_true rfl, Nat.le_of_ble_eq_true rfl⟩ (by omega) (by omega) (by omega) (by omega) (by show _ ≤ Z0 - z0; omega) (by show _ ≤ S0 - s0; omega) (Nat.le_of_ble_eq_true rfl) (fun l D A => c_X10_init l D A e228) ?_
  refine ww_putR 231 X dX11_init_231 (fP_X11_109 _ (Or.inr rfl)) e231 rfl rfl ?_
  refine ww_iconst 234 X (v := (0 : Int32)) dX11_init_234 (by decide) ?_
  refine ww_istore_n 235 X dX11_init_235 (lv' := [(0, .ref l0), (1, .int (0 : Int32))]) rfl (by decide) [1, 0] rfl ?_
  exact (wB_X11_init_236 X hQ F _ _ _ _ _ (by omega) (by omega) h)
theorem c_X11_init {G : mG} {F : Nat} {M0 : mM} {Z0 S0 : Nat} (l : Launch) (D : mD) (A : Nat → Prop) {l0 : Nat} {M : mM} {sz : Nat} {sl : Nat} (h : P_X11_init G F l0 M sz sl = some (M0, Z0, S0)) : mMetV l D G A yX11_init cX11_init 2 none 6 164 (Z0 - sz) (S0 - sl) [.ref l0] M sz M0 Z0 := mMetV_of l D G A (by decide) (Nat.le_of_ble_eq_true rfl) (fun x X hQ => by have K := wP_X11_init X hQ (Nat.le_refl sz) (Nat.le_refl sl) h; rw [Nat.sub_self, Nat.sub_self] at K; exact K)
