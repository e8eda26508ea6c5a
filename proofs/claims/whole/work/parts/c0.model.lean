/-! ===== the model's constructor ===== -/
def τ0 : TT := fun _ _ => false
abbrev mX12_init : MI := (RX12, yX12_init, cX12_init, 1, none)
theorem dX12_init_0 : decode cX12_init 0 = .ok (.aload_n 0, 1) := by decide +kernel
theorem dX12_init_1 : decode cX12_init 1 = .ok (.invokespecial 18, 3) := by decide +kernel
theorem dX12_init_4 : decode cX12_init 4 = .ok (.aload_n 0, 1) := by decide +kernel
theorem dX12_init_5 : decode cX12_init 5 = .ok (.sipush 1000, 3) := by decide +kernel
theorem dX12_init_8 : decode cX12_init 8 = .ok (.newarray .int, 2) := by decide +kernel
theorem dX12_init_10 : decode cX12_init 10 = .ok (.putfield 14, 3) := by decide +kernel
theorem dX12_init_13 : decode cX12_init 13 = .ok (.aload_n 0, 1) := by decide +kernel
theorem dX12_init_14 : decode cX12_init 14 = .ok (.sipush 1002, 3) := by decide +kernel
theorem dX12_init_17 : decode cX12_init 17 = .ok (.newarray .int, 2) := by decide +kernel
theorem dX12_init_19 : decode cX12_init 19 = .ok (.putfield 24, 3) := by decide +kernel
theorem dX12_init_22 : decode cX12_init 22 = .ok (.aload_n 0, 1) := by decide +kernel
theorem dX12_init_23 : decode cX12_init 23 = .ok (.sipush 1002, 3) := by decide +kernel
theorem dX12_init_26 : decode cX12_init 26 = .ok (.newarray .int, 2) := by decide +kernel
theorem dX12_init_28 : decode cX12_init 28 = .ok (.putfield 27, 3) := by decide +kernel
theorem dX12_init_31 : decode cX12_init 31 = .ok (.aload_n 0, 1) := by decide +kernel
theorem dX12_init_32 : decode cX12_init 32 = .ok (.sipush 1002, 3) := by decide +kernel
theorem dX12_init_35 : decode cX12_init 35 = .ok (.newarray .long, 2) := by decide +kernel
theorem dX12_init_37 : decode cX12_init 37 = .ok (.putfield 30, 3) := by decide +kernel
theorem dX12_init_40 : decode cX12_init 40 = .ok (.aload_n 0, 1) := by decide +kernel
theorem dX12_init_41 : decode cX12_init 41 = .ok (.bipush 23, 2) := by decide +kernel
theorem dX12_init_43 : decode cX12_init 43 = .ok (.newarray .long, 2) := by decide +kernel
theorem dX12_init_45 : decode cX12_init 45 = .ok (.dup, 1) := by decide +kernel
theorem dX12_init_46 : decode cX12_init 46 = .ok (.iconst 0, 1) := by decide +kernel
theorem dX12_init_47 : decode cX12_init 47 = .ok (.ldc2_w 34, 3) := by decide +kernel
theorem dX12_init_50 : decode cX12_init 50 = .ok (.lastore, 1) := by decide +kernel
theorem dX12_init_51 : decode cX12_init 51 = .ok (.dup, 1) := by decide +kernel
theorem dX12_init_52 : decode cX12_init 52 = .ok (.iconst 1, 1) := by decide +kernel
theorem dX12_init_53 : decode cX12_init 53 = .ok (.ldc2_w 36, 3) := by decide +kernel
theorem dX12_init_56 : decode cX12_init 56 = .ok (.lastore, 1) := by decide +kernel
theorem dX12_init_57 : decode cX12_init 57 = .ok (.dup, 1) := by decide +kernel
theorem dX12_init_58 : decode cX12_init 58 = .ok (.iconst 2, 1) := by decide +kernel
theorem dX12_init_59 : decode cX12_init 59 = .ok (.ldc2_w 38, 3) := by decide +kernel
theorem dX12_init_62 : decode cX12_init 62 = .ok (.lastore, 1) := by decide +kernel
theorem dX12_init_63 : decode cX12_init 63 = .ok (.dup, 1) := by decide +kernel
theorem dX12_init_64 : decode cX12_init 64 = .ok (.iconst 3, 1) := by decide +kernel
theorem dX12_init_65 : decode cX12_init 65 = .ok (.ldc2_w 40, 3) := by decide +kernel
theorem dX12_init_68 : decode cX12_init 68 = .ok (.lastore, 1) := by decide +kernel
theorem dX12_init_69 : decode cX12_init 69 = .ok (.dup, 1) := by decide +kernel
theorem dX12_init_70 : decode cX12_init 70 = .ok (.iconst 4, 1) := by decide +kernel
theorem dX12_init_71 : decode cX12_init 71 = .ok (.ldc2_w 42, 3) := by decide +kernel
theorem dX12_init_74 : decode cX12_init 74 = .ok (.lastore, 1) := by decide +kernel
theorem dX12_init_75 : decode cX12_init 75 = .ok (.dup, 1) := by decide +kernel
theorem dX12_init_76 : decode cX12_init 76 = .ok (.iconst 5, 1) := by decide +kernel
theorem dX12_init_77 : decode cX12_init 77 = .ok (.ldc2_w 44, 3) := by decide +kernel
theorem dX12_init_80 : decode cX12_init 80 = .ok (.lastore, 1) := by decide +kernel
theorem dX12_init_81 : decode cX12_init 81 = .ok (.dup, 1) := by decide +kernel
theorem dX12_init_82 : decode cX12_init 82 = .ok (.bipush 6, 2) := by decide +kernel
theorem dX12_init_84 : decode cX12_init 84 = .ok (.ldc2_w 46, 3) := by decide +kernel
theorem dX12_init_87 : decode cX12_init 87 = .ok (.lastore, 1) := by decide +kernel
theorem dX12_init_88 : decode cX12_init 88 = .ok (.dup, 1) := by decide +kernel
theorem dX12_init_89 : decode cX12_init 89 = .ok (.bipush 7, 2) := by decide +kernel
theorem dX12_init_91 : decode cX12_init 91 = .ok (.ldc2_w 48, 3) := by decide +kernel
theorem dX12_init_94 : decode cX12_init 94 = .ok (.lastore, 1) := by decide +kernel
theorem dX12_init_95 : decode cX12_init 95 = .ok (.dup, 1) := by decide +kernel
theorem dX12_init_96 : decode cX12_init 96 = .ok (.bipush 8, 2) := by decide +kernel
theorem dX12_init_98 : decode cX12_init 98 = .ok (.ldc2_w 50, 3) := by decide +kernel
theorem dX12_init_101 : decode cX12_init 101 = .ok (.lastore, 1) := by decide +kernel
theorem dX12_init_102 : decode cX12_init 102 = .ok (.dup, 1) := by decide +kernel
theorem dX12_init_103 : decode cX12_init 103 = .ok (.bipush 9, 2) := by decide +kernel
theorem dX12_init_105 : decode cX12_init 105 = .ok (.ldc2_w 52, 3) := by decide +kernel
theorem dX12_init_108 : decode cX12_init 108 = .ok (.lastore, 1) := by decide +kernel
theorem dX12_init_109 : decode cX12_init 109 = .ok (.dup, 1) := by decide +kernel
theorem dX12_init_110 : decode cX12_init 110 = .ok (.bipush 10, 2) := by decide +kernel
theorem dX12_init_112 : decode cX12_init 112 = .ok (.ldc2_w 54, 3) := by decide +kernel
theorem dX12_init_115 : decode cX12_init 115 = .ok (.lastore, 1) := by decide +kernel
theorem dX12_init_116 : decode cX12_init 116 = .ok (.dup, 1) := by decide +kernel
theorem dX12_init_117 : decode cX12_init 117 = .ok (.bipush 11, 2) := by decide +kernel
theorem dX12_init_119 : decode cX12_init 119 = .ok (.ldc2_w 56, 3) := by decide +kernel
theorem dX12_init_122 : decode cX12_init 122 = .ok (.lastore, 1) := by decide +kernel
theorem dX12_init_123 : decode cX12_init 123 = .ok (.dup, 1) := by decide +kernel
theorem dX12_init_124 : decode cX12_init 124 = .ok (.bipush 12, 2) := by decide +kernel
theorem dX12_init_126 : decode cX12_init 126 = .ok (.ldc2_w 58, 3) := by decide +kernel
theorem dX12_init_129 : decode cX12_init 129 = .ok (.lastore, 1) := by decide +kernel
theorem dX12_init_130 : decode cX12_init 130 = .ok (.dup, 1) := by decide +kernel
theorem dX12_init_131 : decode cX12_init 131 = .ok (.bipush 13, 2) := by decide +kernel
theorem dX12_init_133 : decode cX12_init 133 = .ok (.ldc2_w 60, 3) := by decide +kernel
theorem dX12_init_136 : decode cX12_init 136 = .ok (.lastore, 1) := by decide +kernel
theorem dX12_init_137 : decode cX12_init 137 = .ok (.dup, 1) := by decide +kernel
theorem dX12_init_138 : decode cX12_init 138 = .ok (.bipush 14, 2) := by decide +kernel
theorem dX12_init_140 : decode cX12_init 140 = .ok (.ldc2_w 62, 3) := by decide +kernel
theorem dX12_init_143 : decode cX12_init 143 = .ok (.lastore, 1) := by decide +kernel
theorem dX12_init_144 : decode cX12_init 144 = .ok (.dup, 1) := by decide +kernel
theorem dX12_init_145 : decode cX12_init 145 = .ok (.bipush 15, 2) := by decide +kernel
theorem dX12_init_147 : decode cX12_init 147 = .ok (.ldc2_w 64, 3) := by decide +kernel
theorem dX12_init_150 : decode cX12_init 150 = .ok (.lastore, 1) := by decide +kernel
theorem dX12_init_151 : decode cX12_init 151 = .ok (.dup, 1) := by decide +kernel
theorem dX12_init_152 : decode cX12_init 152 = .ok (.bipush 16, 2) := by decide +kernel
theorem dX12_init_154 : decode cX12_init 154 = .ok (.ldc2_w 66, 3) := by decide +kernel
theorem dX12_init_157 : decode cX12_init 157 = .ok (.lastore, 1) := by decide +kernel
theorem dX12_init_158 : decode cX12_init 158 = .ok (.dup, 1) := by decide +kernel
theorem dX12_init_159 : decode cX12_init 159 = .ok (.bipush 17, 2) := by decide +kernel
theorem dX12_init_161 : decode cX12_init 161 = .ok (.ldc2_w 68, 3) := by decide +kernel
theorem dX12_init_164 : decode cX12_init 164 = .ok (.lastore, 1) := by decide +kernel
theorem dX12_init_165 : decode cX12_init 165 = .ok (.dup, 1) := by decide +kernel
theorem dX12_init_166 : decode cX12_init 166 = .ok (.bipush 18, 2) := by decide +kernel
theorem dX12_init_168 : decode cX12_init 168 = .ok (.ldc2_w 70, 3) := by decide +kernel
theorem dX12_init_171 : decode cX12_init 171 = .ok (.lastore, 1) := by decide +kernel
theorem dX12_init_172 : decode cX12_init 172 = .ok (.dup, 1) := by decide +kernel
theorem dX12_init_173 : decode cX12_init 173 = .ok (.bipush 19, 2) := by decide +kernel
theorem dX12_init_175 : decode cX12_init 175 = .ok (.ldc2_w 72, 3) := by decide +kernel
theorem dX12_init_178 : decode cX12_init 178 = .ok (.lastore, 1) := by decide +kernel
theorem dX12_init_179 : decode cX12_init 179 = .ok (.dup, 1) := by decide +kernel
theorem dX12_init_180 : decode cX12_init 180 = .ok (.bipush 20, 2) := by decide +kernel
theorem dX12_init_182 : decode cX12_init 182 = .ok (.ldc2_w 74, 3) := by decide +kernel
theorem dX12_init_185 : decode cX12_init 185 = .ok (.lastore, 1) := by decide +kernel
theorem dX12_init_186 : decode cX12_init 186 = .ok (.dup, 1) := by decide +kernel
theorem dX12_init_187 : decode cX12_init 187 = .ok (.bipush 21, 2) := by decide +kernel
theorem dX12_init_189 : decode cX12_init 189 = .ok (.ldc2_w 76, 3) := by decide +kernel
theorem dX12_init_192 : decode cX12_init 192 = .ok (.lastore, 1) := by decide +kernel
theorem dX12_init_193 : decode cX12_init 193 = .ok (.dup, 1) := by decide +kernel
theorem dX12_init_194 : decode cX12_init 194 = .ok (.bipush 22, 2) := by decide +kernel
theorem dX12_init_196 : decode cX12_init 196 = .ok (.ldc2_w 78, 3) := by decide +kernel
theorem dX12_init_199 : decode cX12_init 199 = .ok (.lastore, 1) := by decide +kernel
theorem dX12_init_200 : decode cX12_init 200 = .ok (.putfield 80, 3) := by decide +kernel
theorem dX12_init_203 : decode cX12_init 203 = .ok (.aload_n 0, 1) := by decide +kernel
theorem dX12_init_204 : decode cX12_init 204 = .ok (.bipush 80, 2) := by decide +kernel
theorem dX12_init_206 : decode cX12_init 206 = .ok (.newarray .int, 2) := by decide +kernel
theorem dX12_init_208 : decode cX12_init 208 = .ok (.putfield 83, 3) := by decide +kernel
theorem dX12_init_211 : decode cX12_init 211 = .ok (.aload_n 0, 1) := by decide +kernel
theorem dX12_init_212 : decode cX12_init 212 = .ok (.sipush 2200, 3) := by decide +kernel
theorem dX12_init_215 : decode cX12_init 215 = .ok (.newarray .int, 2) := by decide +kernel
theorem dX12_init_217 : decode cX12_init 217 = .ok (.putfield 86, 3) := by decide +kernel
theorem dX12_init_220 : decode cX12_init 220 = .ok (.aload_n 0, 1) := by decide +kernel
theorem dX12_init_221 : decode cX12_init 221 = .ok (.sipush 2200, 3) := by decide +kernel
theorem dX12_init_224 : decode cX12_init 224 = .ok (.newarray .int, 2) := by decide +kernel
theorem dX12_init_226 : decode cX12_init 226 = .ok (.putfield 89, 3) := by decide +kernel
theorem dX12_init_229 : decode cX12_init 229 = .ok (.aload_n 0, 1) := by decide +kernel
theorem dX12_init_230 : decode cX12_init 230 = .ok (.bipush 15, 2) := by decide +kernel
theorem dX12_init_232 : decode cX12_init 232 = .ok (.newarray .long, 2) := by decide +kernel
theorem dX12_init_234 : decode cX12_init 234 = .ok (.putfield 92, 3) := by decide +kernel
theorem dX12_init_237 : decode cX12_init 237 = .ok (.aload_n 0, 1) := by decide +kernel
theorem dX12_init_238 : decode cX12_init 238 = .ok (.bipush 15, 2) := by decide +kernel
theorem dX12_init_240 : decode cX12_init 240 = .ok (.newarray .long, 2) := by decide +kernel
theorem dX12_init_242 : decode cX12_init 242 = .ok (.putfield 95, 3) := by decide +kernel
theorem dX12_init_245 : decode cX12_init 245 = .ok (.aload_n 0, 1) := by decide +kernel
theorem dX12_init_246 : decode cX12_init 246 = .ok (.bipush 15, 2) := by decide +kernel
theorem dX12_init_248 : decode cX12_init 248 = .ok (.newarray .int, 2) := by decide +kernel
theorem dX12_init_250 : decode cX12_init 250 = .ok (.putfield 98, 3) := by decide +kernel
theorem dX12_init_253 : decode cX12_init 253 = .ok (.aload_n 0, 1) := by decide +kernel
theorem dX12_init_254 : decode cX12_init 254 = .ok (.bipush 15, 2) := by decide +kernel
theorem dX12_init_256 : decode cX12_init 256 = .ok (.newarray .int, 2) := by decide +kernel
theorem dX12_init_258 : decode cX12_init 258 = .ok (.putfield 101, 3) := by decide +kernel
theorem dX12_init_261 : decode cX12_init 261 = .ok (.aload_n 0, 1) := by decide +kernel
theorem dX12_init_262 : decode cX12_init 262 = .ok (.sipush 330, 3) := by decide +kernel
theorem dX12_init_265 : decode cX12_init 265 = .ok (.newarray .int, 2) := by decide +kernel
theorem dX12_init_267 : decode cX12_init 267 = .ok (.putfield 104, 3) := by decide +kernel
theorem dX12_init_270 : decode cX12_init 270 = .ok (.aload_n 0, 1) := by decide +kernel
theorem dX12_init_271 : decode cX12_init 271 = .ok (.iconst 4, 1) := by decide +kernel
theorem dX12_init_272 : decode cX12_init 272 = .ok (.newarray .int, 2) := by decide +kernel
theorem dX12_init_274 : decode cX12_init 274 = .ok (.putfield 107, 3) := by decide +kernel
theorem dX12_init_277 : decode cX12_init 277 = .ok (.aload_n 0, 1) := by decide +kernel
theorem dX12_init_278 : decode cX12_init 278 = .ok (.sipush 1100, 3) := by decide +kernel
theorem dX12_init_281 : decode cX12_init 281 = .ok (.newarray .int, 2) := by decide +kernel
theorem dX12_init_283 : decode cX12_init 283 = .ok (.putfield 110, 3) := by decide +kernel
theorem dX12_init_286 : decode cX12_init 286 = .ok (.aload_n 0, 1) := by decide +kernel
theorem dX12_init_287 : decode cX12_init 287 = .ok (.sipush 966, 3) := by decide +kernel
theorem dX12_init_290 : decode cX12_init 290 = .ok (.newarray .int, 2) := by decide +kernel
theorem dX12_init_292 : decode cX12_init 292 = .ok (.putfield 113, 3) := by decide +kernel
theorem dX12_init_295 : decode cX12_init 295 = .ok (.aload_n 0, 1) := by decide +kernel
theorem dX12_init_296 : decode cX12_init 296 = .ok (.iconst 4, 1) := by decide +kernel
theorem dX12_init_297 : decode cX12_init 297 = .ok (.newarray .boolean, 2) := by decide +kernel
theorem dX12_init_299 : decode cX12_init 299 = .ok (.putfield 116, 3) := by decide +kernel
theorem dX12_init_302 : decode cX12_init 302 = .ok (.aload_n 0, 1) := by decide +kernel
theorem dX12_init_303 : decode cX12_init 303 = .ok (.bipush 6, 2) := by decide +kernel
theorem dX12_init_305 : decode cX12_init 305 = .ok (.newarray .int, 2) := by decide +kernel
theorem dX12_init_307 : decode cX12_init 307 = .ok (.putfield 120, 3) := by decide +kernel
theorem dX12_init_310 : decode cX12_init 310 = .ok (.aload_n 0, 1) := by decide +kernel
theorem dX12_init_311 : decode cX12_init 311 = .ok (.bipush 6, 2) := by decide +kernel
theorem dX12_init_313 : decode cX12_init 313 = .ok (.newarray .int, 2) := by decide +kernel
theorem dX12_init_315 : decode cX12_init 315 = .ok (.putfield 123, 3) := by decide +kernel
theorem dX12_init_318 : decode cX12_init 318 = .ok (.aload_n 0, 1) := by decide +kernel
theorem dX12_init_319 : decode cX12_init 319 = .ok (.bipush 20, 2) := by decide +kernel
theorem dX12_init_321 : decode cX12_init 321 = .ok (.newarray .int, 2) := by decide +kernel
theorem dX12_init_323 : decode cX12_init 323 = .ok (.putfield 126, 3) := by decide +kernel
theorem dX12_init_326 : decode cX12_init 326 = .ok (.aload_n 0, 1) := by decide +kernel
theorem dX12_init_327 : decode cX12_init 327 = .ok (.iconst 0, 1) := by decide +kernel
theorem dX12_init_328 : decode cX12_init 328 = .ok (.invokevirtual 129, 3) := by decide +kernel
theorem dX12_init_331 : decode cX12_init 331 = .ok (.aload_n 0, 1) := by decide +kernel
theorem dX12_init_332 : decode cX12_init 332 = .ok (.invokevirtual 133, 3) := by decide +kernel
theorem dX12_init_335 : decode cX12_init 335 = .ok (.return_, 1) := by decide +kernel
theorem ccX12_init : CC mX12_init 0 := ⟨mw (i := 1269) (by decide +kernel), mw (i := 12) (by decide +kernel), ⟨by decide +kernel, by decide +kernel, by decide +kernel⟩, by decide⟩
theorem imX12_init : Cond.instanceMethod yX12_init ∈ lg := mw (i := 1268) (by decide +kernel)
theorem kcX12 : KC 11 RX12 := ⟨TX12, 31, tyX12, rfl, rfl, iwX12, tyX12_ok, mw (i := 1264) (by decide +kernel), mw (i := 12) (by decide +kernel), fun j hj => by
  rcases (show j = 0 ∨ j = 1 ∨ j = 2 ∨ j = 3 ∨ j = 4 ∨ j = 5 ∨ j = 6 ∨ j = 7 ∨ j = 8 ∨ j = 9 ∨ j = 10 ∨ j = 11 ∨ j = 12 ∨ j = 13 ∨ j = 14 ∨ j = 15 ∨ j = 16 ∨ j = 17 ∨ j = 18 ∨ j = 19 ∨ j = 20 ∨ j = 21 ∨ j = 22 ∨ j = 23 ∨ j = 24 ∨ j = 25 ∨ j = 26 ∨ j = 27 ∨ j = 28 ∨ j = 29 ∨ j = 30 by omega) with rfl | rfl | rfl | rfl | rfl | rfl | rfl | rfl | rfl | rfl | rfl | rfl | rfl | rfl | rfl | rfl | rfl | rfl | rfl | rfl | rfl | rfl | rfl | rfl | rfl | rfl | rfl | rfl | rfl | rfl | rfl <;> rfl⟩
theorem ffX12_1 : FF0 11 1 RX12 := ⟨.array .int, fun _ => ⟨rfl, rfl⟩, by
  intro C T N h
  cases h
  exact ⟨by decide +kernel, rfl, rfl⟩⟩
theorem ffX12_4 : FF0 11 4 RX12 := ⟨.array .int, fun _ => ⟨rfl, rfl⟩, by
  intro C T N h
  cases h
  exact ⟨by decide +kernel, rfl, rfl⟩⟩
theorem ffX12_5 : FF0 11 5 RX12 := ⟨.array .int, fun _ => ⟨rfl, rfl⟩, by
  intro C T N h
  cases h
  exact ⟨by decide +kernel, rfl, rfl⟩⟩
theorem ffX12_6 : FF0 11 6 RX12 := ⟨.array .long, fun _ => ⟨rfl, rfl⟩, by
  intro C T N h
  cases h
  exact ⟨by decide +kernel, rfl, rfl⟩⟩
theorem ffX12_9 : FF0 11 9 RX12 := ⟨.array .long, fun _ => ⟨rfl, rfl⟩, by
  intro C T N h
  cases h
  exact ⟨by decide +kernel, rfl, rfl⟩⟩
theorem ffX12_10 : FF0 11 10 RX12 := ⟨.array .int, fun _ => ⟨rfl, rfl⟩, by
  intro C T N h
  cases h
  exact ⟨by decide +kernel, rfl, rfl⟩⟩
theorem ffX12_11 : FF0 11 11 RX12 := ⟨.array .int, fun _ => ⟨rfl, rfl⟩, by
  intro C T N h
  cases h
  exact ⟨by decide +kernel, rfl, rfl⟩⟩
theorem ffX12_12 : FF0 11 12 RX12 := ⟨.array .int, fun _ => ⟨rfl, rfl⟩, by
  intro C T N h
  cases h
  exact ⟨by decide +kernel, rfl, rfl⟩⟩
theorem ffX12_14 : FF0 11 14 RX12 := ⟨.array .long, fun _ => ⟨rfl, rfl⟩, by
  intro C T N h
  cases h
  exact ⟨by decide +kernel, rfl, rfl⟩⟩
theorem ffX12_15 : FF0 11 15 RX12 := ⟨.array .long, fun _ => ⟨rfl, rfl⟩, by
  intro C T N h
  cases h
  exact ⟨by decide +kernel, rfl, rfl⟩⟩
theorem ffX12_16 : FF0 11 16 RX12 := ⟨.array .int, fun _ => ⟨rfl, rfl⟩, by
  intro C T N h
  cases h
  exact ⟨by decide +kernel, rfl, rfl⟩⟩
theorem ffX12_17 : FF0 11 17 RX12 := ⟨.array .int, fun _ => ⟨rfl, rfl⟩, by
  intro C T N h
  cases h
  exact ⟨by decide +kernel, rfl, rfl⟩⟩
theorem ffX12_20 : FF0 11 20 RX12 := ⟨.array .int, fun _ => ⟨rfl, rfl⟩, by
  intro C T N h
  cases h
  exact ⟨by decide +kernel, rfl, rfl⟩⟩
theorem ffX12_21 : FF0 11 21 RX12 := ⟨.array .int, fun _ => ⟨rfl, rfl⟩, by
  intro C T N h
  cases h
  exact ⟨by decide +kernel, rfl, rfl⟩⟩
theorem ffX12_22 : FF0 11 22 RX12 := ⟨.array .int, fun _ => ⟨rfl, rfl⟩, by
  intro C T N h
  cases h
  exact ⟨by decide +kernel, rfl, rfl⟩⟩
theorem ffX12_23 : FF0 11 23 RX12 := ⟨.array .int, fun _ => ⟨rfl, rfl⟩, by
  intro C T N h
  cases h
  exact ⟨by decide +kernel, rfl, rfl⟩⟩
theorem ffX12_25 : FF0 11 25 RX12 := ⟨.array .boolean, fun _ => ⟨rfl, rfl⟩, by
  intro C T N h
  cases h
  exact ⟨by decide +kernel, rfl, rfl⟩⟩
theorem ffX12_26 : FF0 11 26 RX12 := ⟨.array .int, fun _ => ⟨rfl, rfl⟩, by
  intro C T N h
  cases h
  exact ⟨by decide +kernel, rfl, rfl⟩⟩
theorem ffX12_27 : FF0 11 27 RX12 := ⟨.array .int, fun _ => ⟨rfl, rfl⟩, by
  intro C T N h
  cases h
  exact ⟨by decide +kernel, rfl, rfl⟩⟩
theorem ffX12_29 : FF0 11 29 RX12 := ⟨.array .int, fun _ => ⟨rfl, rfl⟩, by
  intro C T N h
  cases h
  exact ⟨by decide +kernel, rfl, rfl⟩⟩
def tX12 : TT := st2 (st2 (st2 (st2 (st2 (st2 (st2 (st2 (st2 (st2 (st2 (st2 (st2 (st2 (st2 (st2 (st2 (st2 (st2 (st2 (tX11 τ0) (249) 1) (249) 4) (249) 5) (249) 6) (249) 9) (249) 10) (249) 11) (249) 12) (249) 14) (249) 15) (249) 16) (249) 17) (249) 20) (249) 21) (249) 22) (249) 23) (249) 25) (249) 26) (249) 27) (249) 29
def sX12 (σ : MM) : MM := uL0 (uL0 (uL0 (uL0 (uL0 (uL0 (uL0 (uL0 (uL0 (uL0 (uL0 (uL0 (uL0 (uL0 (uL0 (uL0 (uL0 (uL0 (uL0 (uL0 (uL0 (uL0 (uL0 (σ) (254) 0 (620680)) (254) 1 (817571)) (254) 2 (30595897)) (254) 3 (40072202)) (254) 4 (6251602)) (254) 5 (31692)) (254) 6 (8974471490)) (254) 7 (8420923)) (254) 8 (407118)) (254) 9 (1014841)) (254) 10 (1167099)) (254) 11 (426554)) (254) 12 (36021333)) (254) 13 (36027290)) (254) 14 (36179249)) (254) 15 (983064)) (254) 16 (19741)) (254) 17 (1891)) (254) 18 (573)) (254) 19 (204478)) (254) 20 (23270970)) (254) 21 (26802)) (254) 22 (6250976)
set_option maxRecDepth 100000 in
theorem ful12 : fulB 270 tX12 = true := by decide +kernel
theorem X12_end {l : Launch} {K : KK} : RP l K 270 30 mX12_init (ZI K 270 20 11005) 326 [(0, .ref (K.2.1 + 249))] [] enU (bd (FX12_standsAsAlways 249 (0 : Int32)) (fun _ => bd (FX12_begins 249) (fun _ => pu ()))) := by
  refine rp_id ?_
  refine rp_aload_n 0 dX12_init_326 rfl ?_
  refine rp_iconst (0 : Int32) dX12_init_327 (by decide) ?_
  refine rp_callVv [.int (0 : Int32)] (SX12_standsAsAlways (hn := Nat.le_refl _) 249 (0 : Int32) o249) cvX12_standsAsAlways (mw (i := 1294) (by decide +kernel)) (by decide) o249 (by decide) rfl rfl rfl (Nat.le_of_ble_eq_true rfl) dX12_init_328 (fun x1 => ?_)
  refine rp_aload_n 0 dX12_init_331 rfl ?_
  refine rp_callVv [] (SX12_begins (hn := Nat.le_refl _) 249 o249) cvX12_begins (mw (i := 1298) (by decide +kernel)) (by decide) o249 (by decide) rfl rfl rfl (Nat.le_of_ble_eq_true rfl) dX12_init_332 (fun x2 => ?_)
  exact rp_pu (rp_vretZ rfl dX12_init_335)
set_option maxHeartbeats 4000000 in
set_option maxRecDepth 100000 in
theorem IX12 {l : Launch} {K : KK} {σ σ1 σ2 : MM} (hF : Fr 250 σ (tX11 τ0)) (h1 : FX12_standsAsAlways 249 (0 : Int32) (sX12 σ) = some ((), σ1)) (h2 : FX12_begins 249 σ1 = some ((), σ2)) : CI l K 250 20 11005 30 mX12_init [.ref (K.2.1 + 249)] σ (tX11 τ0) σ2 tX12 := by
  refine CI.of (by decide +kernel) rfl (Nat.le_of_ble_eq_true rfl) ?_
  show RN l K 250 30 20 11005 mX12_init _ 0 [(0, .ref (K.2.1 + 249))] [] 0 0 σ (tX11 τ0)
  refine rn_aload_n 0 dX12_init_0 rfl ?_
  refine rn_obj (mw (i := 1270) (by decide +kernel)) (mw (i := 33) (by decide +kernel)) (mw (i := 34) (by decide +kernel)) (by decide) (by decide) dX12_init_1 ?_
  refine rn_aload_n 0 dX12_init_4 rfl ?_
  refine rn_sipush (nI 1000) dX12_init_5 (by decide) ?_
  refine rn_newa (t := 0) (N := 1000) (by decide) (mw (i := 104) (by decide +kernel)) (by decide +kernel) hF (by decide) (by decide) (by decide) (by decide) (by decide) dX12_init_8 ?_
  have hG1 : Fr (250 + 1) (σ) (tX11 τ0) := hF.mono (by omega)
  refine rn_putF fi_X12_14 ffX12_1 rfl (by decide +kernel) (by decide) (by omega) (by decide) (by rw [(show rf 249 1 = 250 by decide +kernel)]) dX12_init_10 ?_
  have hG2 : Fr (250 + 1) (σ) (st2 (tX11 τ0) (249) 1) := hG1.st (by omega)
  refine rn_aload_n 0 dX12_init_13 rfl ?_
  refine rn_sipush (nI 1002) dX12_init_14 (by decide) ?_
  refine rn_newa (t := 0) (N := 1002) (by decide) (mw (i := 104) (by decide +kernel)) (by decide +kernel) hG2 (by decide) (by decide) (by decide) (by decide) (by decide) dX12_init_17 ?_
  have hG3 : Fr (250 + 2) (σ) (st2 (tX11 τ0) (249) 1) := hG2.mono (by omega)
  refine rn_putF fi_X12_24 ffX12_4 rfl (by decide +kernel) (by decide) (by omega) (by decide) (by rw [(show rf 249 4 = 251 by decide +kernel)]) dX12_init_19 ?_
  have hG4 : Fr (250 + 2) (σ) (st2 (st2 (tX11 τ0) (249) 1) (249) 4) := hG3.st (by omega)
  refine rn_aload_n 0 dX12_init_22 rfl ?_
  refine rn_sipush (nI 1002) dX12_init_23 (by decide) ?_
  refine rn_newa (t := 0) (N := 1002) (by decide) (mw (i := 104) (by decide +kernel)) (by decide +kernel) hG4 (by decide) (by decide) (by decide) (by decide) (by decide) dX12_init_26 ?_
  have hG5 : Fr (250 + 3) (σ) (st2 (st2 (tX11 τ0) (249) 1) (249) 4) := hG4.mono (by omega)
  refine rn_putF fi_X12_27 ffX12_5 rfl (by decide +kernel) (by decide) (by omega) (by decide) (by rw [(show rf 249 5 = 252 by decide +kernel)]) dX12_init_28 ?_
  have hG6 : Fr (250 + 3) (σ) (st2 (st2 (st2 (tX11 τ0) (249) 1) (249) 4) (249) 5) := hG5.st (by omega)
  refine rn_aload_n 0 dX12_init_31 rfl ?_
  refine rn_sipush (nI 1002) dX12_init_32 (by decide) ?_
  refine rn_newa (t := 1) (N := 1002) (by decide) (mw (i := 103) (by decide +kernel)) (by decide +kernel) hG6 (by decide) (by decide) (by decide) (by decide) (by decide) dX12_init_35 ?_
  have hG7 : Fr (250 + 4) (σ) (st2 (st2 (st2 (tX11 τ0) (249) 1) (249) 4) (249) 5) := hG6.mono (by omega)
  refine rn_putF fi_X12_30 ffX12_6 rfl (by decide +kernel) (by decide) (by omega) (by decide) (by rw [(show rf 249 6 = 253 by decide +kernel)]) dX12_init_37 ?_
  have hG8 : Fr (250 + 4) (σ) (st2 (st2 (st2 (st2 (tX11 τ0) (249) 1) (249) 4) (249) 5) (249) 6) := hG7.st (by omega)
  refine rn_aload_n 0 dX12_init_40 rfl ?_
  refine rn_bipush (nI 23) dX12_init_41 (by decide) ?_
  refine rn_newa (t := 1) (N := 23) (by decide) (mw (i := 103) (by decide +kernel)) (by decide +kernel) hG8 (by decide) (by decide) (by decide) (by decide) (by decide) dX12_init_43 ?_
  have hG9 : Fr (250 + 5) (σ) (st2 (st2 (st2 (st2 (tX11 τ0) (249) 1) (249) 4) (249) 5) (249) 6) := hG8.mono (by omega)
  refine rn_dup dX12_init_45 rfl ?_
  refine rn_iconst (nI 0) dX12_init_46 (by decide) ?_
  refine rn_ldc2 (v := 620680) (mw (i := 1271) (by decide +kernel)) dX12_init_47 ?_
  refine rn_last (N := 23) (a := 254) (i := 0) (by decide +kernel) (by omega) (by decide) (by decide) dX12_init_50 ?_
  have hG10 : Fr (250 + 5) (uL0 (σ) (254) 0 (620680)) (st2 (st2 (st2 (st2 (tX11 τ0) (249) 1) (249) 4) (249) 5) (249) 6) := hG9.uL (by omega)
  refine rn_dup dX12_init_51 rfl ?_
  refine rn_iconst (nI 1) dX12_init_52 (by decide) ?_
  refine rn_ldc2 (v := 817571) (mw (i := 1272) (by decide +kernel)) dX12_init_53 ?_
  refine rn_last (N := 23) (a := 254) (i := 1) (by decide +kernel) (by omega) (by decide) (by decide) dX12_init_56 ?_
  have hG11 : Fr (250 + 5) (uL0 (uL0 (σ) (254) 0 (620680)) (254) 1 (817571)) (st2 (st2 (st2 (st2 (tX11 τ0) (249) 1) (249) 4) (249) 5) (249) 6) := hG10.uL (by omega)
  refine rn_dup dX12_init_57 rfl ?_
  refine rn_iconst (nI 2) dX12_init_58 (by decide) ?_
  refine rn_ldc2 (v := 30595897) (mw (i := 1273) (by decide +kernel)) dX12_init_59 ?_
  refine rn_last (N := 23) (a := 254) (i := 2) (by decide +kernel) (by omega) (by decide) (by decide) dX12_init_62 ?_
  have hG12 : Fr (250 + 5) (uL0 (uL0 (uL0 (σ) (254) 0 (620680)) (254) 1 (817571)) (254) 2 (30595897)) (st2 (st2 (st2 (st2 (tX11 τ0) (249) 1) (249) 4) (249) 5) (249) 6) := hG11.uL (by omega)
  refine rn_dup dX12_init_63 rfl ?_
  refine rn_iconst (nI 3) dX12_init_64 (by decide) ?_
  refine rn_ldc2 (v := 40072202) (mw (i := 1274) (by decide +kernel)) dX12_init_65 ?_
  refine rn_last (N := 23) (a := 254) (i := 3) (by decide +kernel) (by omega) (by decide) (by decide) dX12_init_68 ?_
  have hG13 : Fr (250 + 5) (uL0 (uL0 (uL0 (uL0 (σ) (254) 0 (620680)) (254) 1 (817571)) (254) 2 (30595897)) (254) 3 (40072202)) (st2 (st2 (st2 (st2 (tX11 τ0) (249) 1) (249) 4) (249) 5) (249) 6) := hG12.uL (by omega)
  refine rn_dup dX12_init_69 rfl ?_
  refine rn_iconst (nI 4) dX12_init_70 (by decide) ?_
  refine rn_ldc2 (v := 6251602) (mw (i := 1275) (by decide +kernel)) dX12_init_71 ?_
  refine rn_last (N := 23) (a := 254) (i := 4) (by decide +kernel) (by omega) (by decide) (by decide) dX12_init_74 ?_
  have hG14 : Fr (250 + 5) (uL0 (uL0 (uL0 (uL0 (uL0 (σ) (254) 0 (620680)) (254) 1 (817571)) (254) 2 (30595897)) (254) 3 (40072202)) (254) 4 (6251602)) (st2 (st2 (st2 (st2 (tX11 τ0) (249) 1) (249) 4) (249) 5) (249) 6) := hG13.uL (by omega)
  refine rn_dup dX12_init_75 rfl ?_
  refine rn_iconst (nI 5) dX12_init_76 (by decide) ?_
  refine rn_ldc2 (v := 31692) (mw (i := 1276) (by decide +kernel)) dX12_init_77 ?_
  refine rn_last (N := 23) (a := 254) (i := 5) (by decide +kernel) (by omega) (by decide) (by decide) dX12_init_80 ?_
  have hG15 : Fr (250 + 5) (uL0 (uL0 (uL0 (uL0 (uL0 (uL0 (σ) (254) 0 (620680)) (254) 1 (817571)) (254) 2 (30595897)) (254) 3 (40072202)) (254) 4 (6251602)) (254) 5 (31692)) (st2 (st2 (st2 (st2 (tX11 τ0) (249) 1) (249) 4) (249) 5) (249) 6) := hG14.uL (by omega)
  refine rn_dup dX12_init_81 rfl ?_
  refine rn_bipush (nI 6) dX12_init_82 (by decide) ?_
  refine rn_ldc2 (v := 8974471490) (mw (i := 1277) (by decide +kernel)) dX12_init_84 ?_
  refine rn_last (N := 23) (a := 254) (i := 6) (by decide +kernel) (by omega) (by decide) (by decide) dX12_init_87 ?_
  have hG16 : Fr (250 + 5) (uL0 (uL0 (uL0 (uL0 (uL0 (uL0 (uL0 (σ) (254) 0 (620680)) (254) 1 (817571)) (254) 2 (30595897)) (254) 3 (40072202)) (254) 4 (6251602)) (254) 5 (31692)) (254) 6 (8974471490)) (st2 (st2 (st2 (st2 (tX11 τ0) (249) 1) (249) 4) (249) 5) (249) 6) := hG15.uL (by omega)
  refine rn_dup dX12_init_88 rfl ?_
  refine rn_bipush (nI 7) dX12_init_89 (by decide) ?_
  refine rn_ldc2 (v := 8420923) (mw (i := 1278) (by decide +kernel)) dX12_init_91 ?_
  refine rn_last (N := 23) (a := 254) (i := 7) (by decide +kernel) (by omega) (by decide) (by decide) dX12_init_94 ?_
  have hG17 : Fr (250 + 5) (uL0 (uL0 (uL0 (uL0 (uL0 (uL0 (uL0 (uL0 (σ) (254) 0 (620680)) (254) 1 (817571)) (254) 2 (30595897)) (254) 3 (40072202)) (254) 4 (6251602)) (254) 5 (31692)) (254) 6 (8974471490)) (254) 7 (8420923)) (st2 (st2 (st2 (st2 (tX11 τ0) (249) 1) (249) 4) (249) 5) (249) 6) := hG16.uL (by omega)
  refine rn_dup dX12_init_95 rfl ?_
  refine rn_bipush (nI 8) dX12_init_96 (by decide) ?_
  refine rn_ldc2 (v := 407118) (mw (i := 1279) (by decide +kernel)) dX12_init_98 ?_
  refine rn_last (N := 23) (a := 254) (i := 8) (by decide +kernel) (by omega) (by decide) (by decide) dX12_init_101 ?_
  have hG18 : Fr (250 + 5) (uL0 (uL0 (uL0 (uL0 (uL0 (uL0 (uL0 (uL0 (uL0 (σ) (254) 0 (620680)) (254) 1 (817571)) (254) 2 (30595897)) (254) 3 (40072202)) (254) 4 (6251602)) (254) 5 (31692)) (254) 6 (8974471490)) (254) 7 (8420923)) (254) 8 (407118)) (st2 (st2 (st2 (st2 (tX11 τ0) (249) 1) (249) 4) (249) 5) (249) 6) := hG17.uL (by omega)
  refine rn_dup dX12_init_102 rfl ?_
  refine rn_bipush (nI 9) dX12_init_103 (by decide) ?_
  refine rn_ldc2 (v := 1014841) (mw (i := 1280) (by decide +kernel)) dX12_init_105 ?_
  refine rn_last (N := 23) (a := 254) (i := 9) (by decide +kernel) (by omega) (by decide) (by decide) dX12_init_108 ?_
  have hG19 : Fr (250 + 5) (uL0 (uL0 (uL0 (uL0 (uL0 (uL0 (uL0 (uL0 (uL0 (uL0 (σ) (254) 0 (620680)) (254) 1 (817571)) (254) 2 (30595897)) (254) 3 (40072202)) (254) 4 (6251602)) (254) 5 (31692)) (254) 6 (8974471490)) (254) 7 (8420923)) (254) 8 (407118)) (254) 9 (1014841)) (st2 (st2 (st2 (st2 (tX11 τ0) (249) 1) (249) 4) (249) 5) (249) 6) := hG18.uL (by omega)
  refine rn_dup dX12_init_109 rfl ?_
  refine rn_bipush (nI 10) dX12_init_110 (by decide) ?_
  refine rn_ldc2 (v := 1167099) (mw (i := 1281) (by decide +kernel)) dX12_init_112 ?_
  refine rn_last (N := 23) (a := 254) (i := 10) (by decide +kernel) (by omega) (by decide) (by decide) dX12_init_115 ?_
  have hG20 : Fr (250 + 5) (uL0 (uL0 (uL0 (uL0 (uL0 (uL0 (uL0 (uL0 (uL0 (uL0 (uL0 (σ) (254) 0 (620680)) (254) 1 (817571)) (254) 2 (30595897)) (254) 3 (40072202)) (254) 4 (6251602)) (254) 5 (31692)) (254) 6 (8974471490)) (254) 7 (8420923)) (254) 8 (407118)) (254) 9 (1014841)) (254) 10 (1167099)) (st2 (st2 (st2 (st2 (tX11 τ0) (249) 1) (249) 4) (249) 5) (249) 6) := hG19.uL (by omega)
  refine rn_dup dX12_init_116 rfl ?_
  refine rn_bipush (nI 11) dX12_init_117 (by decide) ?_
  refine rn_ldc2 (v := 426554) (mw (i := 1282) (by decide +kernel)) dX12_init_119 ?_
  refine rn_last (N := 23) (a := 254) (i := 11) (by decide +kernel) (by omega) (by decide) (by decide) dX12_init_122 ?_
  have hG21 : Fr (250 + 5) (uL0 (uL0 (uL0 (uL0 (uL0 (uL0 (uL0 (uL0 (uL0 (uL0 (uL0 (uL0 (σ) (254) 0 (620680)) (254) 1 (817571)) (254) 2 (30595897)) (254) 3 (40072202)) (254) 4 (6251602)) (254) 5 (31692)) (254) 6 (8974471490)) (254) 7 (8420923)) (254) 8 (407118)) (254) 9 (1014841)) (254) 10 (1167099)) (254) 11 (426554)) (st2 (st2 (st2 (st2 (tX11 τ0) (249) 1) (249) 4) (249) 5) (249) 6) := hG20.uL (by omega)
  refine rn_dup dX12_init_123 rfl ?_
  refine rn_bipush (nI 12) dX12_init_124 (by decide) ?_
  refine rn_ldc2 (v := 36021333) (mw (i := 1283) (by decide +kernel)) dX12_init_126 ?_
  refine rn_last (N := 23) (a := 254) (i := 12) (by decide +kernel) (by omega) (by decide) (by decide) dX12_init_129 ?_
  have hG22 : Fr (250 + 5) (uL0 (uL0 (uL0 (uL0 (uL0 (uL0 (uL0 (uL0 (uL0 (uL0 (uL0 (uL0 (uL0 (σ) (254) 0 (620680)) (254) 1 (817571)) (254) 2 (30595897)) (254) 3 (40072202)) (254) 4 (6251602)) (254) 5 (31692)) (254) 6 (8974471490)) (254) 7 (8420923)) (254) 8 (407118)) (254) 9 (1014841)) (254) 10 (1167099)) (254) 11 (426554)) (254) 12 (36021333)) (st2 (st2 (st2 (st2 (tX11 τ0) (249) 1) (249) 4) (249) 5) (249) 6) := hG21.uL (by omega)
  refine rn_dup dX12_init_130 rfl ?_
  refine rn_bipush (nI 13) dX12_init_131 (by decide) ?_
  refine rn_ldc2 (v := 36027290) (mw (i := 1284) (by decide +kernel)) dX12_init_133 ?_
  refine rn_last (N := 23) (a := 254) (i := 13) (by decide +kernel) (by omega) (by decide) (by decide) dX12_init_136 ?_
  have hG23 : Fr (250 + 5) (uL0 (uL0 (uL0 (uL0 (uL0 (uL0 (uL0 (uL0 (uL0 (uL0 (uL0 (uL0 (uL0 (uL0 (σ) (254) 0 (620680)) (254) 1 (817571)) (254) 2 (30595897)) (254) 3 (40072202)) (254) 4 (6251602)) (254) 5 (31692)) (254) 6 (8974471490)) (254) 7 (8420923)) (254) 8 (407118)) (254) 9 (1014841)) (254) 10 (1167099)) (254) 11 (426554)) (254) 12 (36021333)) (254) 13 (36027290)) (st2 (st2 (st2 (st2 (tX11 τ0) (249) 1) (249) 4) (249) 5) (249) 6) := hG22.uL (by omega)
  refine rn_dup dX12_init_137 rfl ?_
  refine rn_bipush (nI 14) dX12_init_138 (by decide) ?_
  refine rn_ldc2 (v := 36179249) (mw (i := 1285) (by decide +kernel)) dX12_init_140 ?_
  refine rn_last (N := 23) (a := 254) (i := 14) (by decide +kernel) (by omega) (by decide) (by decide) dX12_init_143 ?_
  have hG24 : Fr (250 + 5) (uL0 (uL0 (uL0 (uL0 (uL0 (uL0 (uL0 (uL0 (uL0 (uL0 (uL0 (uL0 (uL0 (uL0 (uL0 (σ) (254) 0 (620680)) (254) 1 (817571)) (254) 2 (30595897)) (254) 3 (40072202)) (254) 4 (6251602)) (254) 5 (31692)) (254) 6 (8974471490)) (254) 7 (8420923)) (254) 8 (407118)) (254) 9 (1014841)) (254) 10 (1167099)) (254) 11 (426554)) (254) 12 (36021333)) (254) 13 (36027290)) (254) 14 (36179249)) (st2 (st2 (st2 (st2 (tX11 τ0) (249) 1) (249) 4) (249) 5) (249) 6) := hG23.uL (by omega)
  refine rn_dup dX12_init_144 rfl ?_
  refine rn_bipush (nI 15) dX12_init_145 (by decide) ?_
  refine rn_ldc2 (v := 983064) (mw (i := 1286) (by decide +kernel)) dX12_init_147 ?_
  refine rn_last (N := 23) (a := 254) (i := 15) (by decide +kernel) (by omega) (by decide) (by decide) dX12_init_150 ?_
  have hG25 : Fr (250 + 5) (uL0 (uL0 (uL0 (uL0 (uL0 (uL0 (uL0 (uL0 (uL0 (uL0 (uL0 (uL0 (uL0 (uL0 (uL0 (uL0 (σ) (254) 0 (620680)) (254) 1 (817571)) (254) 2 (30595897)) (254) 3 (40072202)) (254) 4 (6251602)) (254) 5 (31692)) (254) 6 (8974471490)) (254) 7 (8420923)) (254) 8 (407118)) (254) 9 (1014841)) (254) 10 (1167099)) (254) 11 (426554)) (254) 12 (36021333)) (254) 13 (36027290)) (254) 14 (36179249)) (254) 15 (983064)) (st2 (st2 (st2 (st2 (tX11 τ0) (249) 1) (249) 4) (249) 5) (249) 6) := hG24.uL (by omega)
  refine rn_dup dX12_init_151 rfl ?_
  refine rn_bipush (nI 16) dX12_init_152 (by decide) ?_
  refine rn_ldc2 (v := 19741) (mw (i := 1287) (by decide +kernel)) dX12_init_154 ?_
  refine rn_last (N := 23) (a := 254) (i := 16) (by decide +kernel) (by omega) (by decide) (by decide) dX12_init_157 ?_
  have hG26 : Fr (250 + 5) (uL0 (uL0 (uL0 (uL0 (uL0 (uL0 (uL0 (uL0 (uL0 (uL0 (uL0 (uL0 (uL0 (uL0 (uL0 (uL0 (uL0 (σ) (254) 0 (620680)) (254) 1 (817571)) (254) 2 (30595897)) (254) 3 (40072202)) (254) 4 (6251602)) (254) 5 (31692)) (254) 6 (8974471490)) (254) 7 (8420923)) (254) 8 (407118)) (254) 9 (1014841)) (254) 10 (1167099)) (254) 11 (426554)) (254) 12 (36021333)) (254) 13 (36027290)) (254) 14 (36179249)) (254) 15 (983064)) (254) 16 (19741)) (st2 (st2 (st2 (st2 (tX11 τ0) (249) 1) (249) 4) (249) 5) (249) 6) := hG25.uL (by omega)
  refine rn_dup dX12_init_158 rfl ?_
  refine rn_bipush (nI 17) dX12_init_159 (by decide) ?_
  refine rn_ldc2 (v := 1891) (mw (i := 1288) (by decide +kernel)) dX12_init_161 ?_
  refine rn_last (N := 23) (a := 254) (i := 17) (by decide +kernel) (by omega) (by decide) (by decide) dX12_init_164 ?_
  have hG27 : Fr (250 + 5) (uL0 (uL0 (uL0 (uL0 (uL0 (uL0 (uL0 (uL0 (uL0 (uL0 (uL0 (uL0 (uL0 (uL0 (uL0 (uL0 (uL0 (uL0 (σ) (254) 0 (620680)) (254) 1 (817571)) (254) 2 (30595897)) (254) 3 (40072202)) (254) 4 (6251602)) (254) 5 (31692)) (254) 6 (8974471490)) (254) 7 (8420923)) (254) 8 (407118)) (254) 9 (1014841)) (254) 10 (1167099)) (254) 11 (426554)) (254) 12 (36021333)) (254) 13 (36027290)) (254) 14 (36179249)) (254) 15 (983064)) (254) 16 (19741)) (254) 17 (1891)) (st2 (st2 (st2 (st2 (tX11 τ0) (249) 1) (249) 4) (249) 5) (249) 6) := hG26.uL (by omega)
  refine rn_dup dX12_init_165 rfl ?_
  refine rn_bipush (nI 18) dX12_init_166 (by decide) ?_
  refine rn_ldc2 (v := 573) (mw (i := 1289) (by decide +kernel)) dX12_init_168 ?_
  refine rn_last (N := 23) (a := 254) (i := 18) (by decide +kernel) (by omega) (by decide) (by decide) dX12_init_171 ?_
  have hG28 : Fr (250 + 5) (uL0 (uL0 (uL0 (uL0 (uL0 (uL0 (uL0 (uL0 (uL0 (uL0 (uL0 (uL0 (uL0 (uL0 (uL0 (uL0 (uL0 (uL0 (uL0 (σ) (254) 0 (620680)) (254) 1 (817571)) (254) 2 (30595897)) (254) 3 (40072202)) (254) 4 (6251602)) (254) 5 (31692)) (254) 6 (8974471490)) (254) 7 (8420923)) (254) 8 (407118)) (254) 9 (1014841)) (254) 10 (1167099)) (254) 11 (426554)) (254) 12 (36021333)) (254) 13 (36027290)) (254) 14 (36179249)) (254) 15 (983064)) (254) 16 (19741)) (254) 17 (1891)) (254) 18 (573)) (st2 (st2 (st2 (st2 (tX11 τ0) (249) 1) (249) 4) (249) 5) (249) 6) := hG27.uL (by omega)
  refine rn_dup dX12_init_172 rfl ?_
  refine rn_bipush (nI 19) dX12_init_173 (by decide) ?_
  refine rn_ldc2 (v := 204478) (mw (i := 1290) (by decide +kernel)) dX12_init_175 ?_
  refine rn_last (N := 23) (a := 254) (i := 19) (by decide +kernel) (by omega) (by decide) (by decide) dX12_init_178 ?_
  have hG29 : Fr (250 + 5) (uL0 (uL0 (uL0 (uL0 (uL0 (uL0 (uL0 (uL0 (uL0 (uL0 (uL0 (uL0 (uL0 (uL0 (uL0 (uL0 (uL0 (uL0 (uL0 (uL0 (σ) (254) 0 (620680)) (254) 1 (817571)) (254) 2 (30595897)) (254) 3 (40072202)) (254) 4 (6251602)) (254) 5 (31692)) (254) 6 (8974471490)) (254) 7 (8420923)) (254) 8 (407118)) (254) 9 (1014841)) (254) 10 (1167099)) (254) 11 (426554)) (254) 12 (36021333)) (254) 13 (36027290)) (254) 14 (36179249)) (254) 15 (983064)) (254) 16 (19741)) (254) 17 (1891)) (254) 18 (573)) (254) 19 (204478)) (st2 (st2 (st2 (st2 (tX11 τ0) (249) 1) (249) 4) (249) 5) (249) 6) := hG28.uL (by omega)
  refine rn_dup dX12_init_179 rfl ?_
  refine rn_bipush (nI 20) dX12_init_180 (by decide) ?_
  refine rn_ldc2 (v := 23270970) (mw (i := 1291) (by decide +kernel)) dX12_init_182 ?_
  refine rn_last (N := 23) (a := 254) (i := 20) (by decide +kernel) (by omega) (by decide) (by decide) dX12_init_185 ?_
  have hG30 : Fr (250 + 5) (uL0 (uL0 (uL0 (uL0 (uL0 (uL0 (uL0 (uL0 (uL0 (uL0 (uL0 (uL0 (uL0 (uL0 (uL0 (uL0 (uL0 (uL0 (uL0 (uL0 (uL0 (σ) (254) 0 (620680)) (254) 1 (817571)) (254) 2 (30595897)) (254) 3 (40072202)) (254) 4 (6251602)) (254) 5 (31692)) (254) 6 (8974471490)) (254) 7 (8420923)) (254) 8 (407118)) (254) 9 (1014841)) (254) 10 (1167099)) (254) 11 (426554)) (254) 12 (36021333)) (254) 13 (36027290)) (254) 14 (36179249)) (254) 15 (983064)) (254) 16 (19741)) (254) 17 (1891)) (254) 18 (573)) (254) 19 (204478)) (254) 20 (23270970)) (st2 (st2 (st2 (st2 (tX11 τ0) (249) 1) (249) 4) (249) 5) (249) 6) := hG29.uL (by omega)
  refine rn_dup dX12_init_186 rfl ?_
  refine rn_bipush (nI 21) dX12_init_187 (by decide) ?_
  refine rn_ldc2 (v := 26802) (mw (i := 1292) (by decide +kernel)) dX12_init_189 ?_
  refine rn_last (N := 23) (a := 254) (i := 21) (by decide +kernel) (by omega) (by decide) (by decide) dX12_init_192 ?_
  have hG31 : Fr (250 + 5) (uL0 (uL0 (uL0 (uL0 (uL0 (uL0 (uL0 (uL0 (uL0 (uL0 (uL0 (uL0 (uL0 (uL0 (uL0 (uL0 (uL0 (uL0 (uL0 (uL0 (uL0 (uL0 (σ) (254) 0 (620680)) (254) 1 (817571)) (254) 2 (30595897)) (254) 3 (40072202)) (254) 4 (6251602)) (254) 5 (31692)) (254) 6 (8974471490)) (254) 7 (8420923)) (254) 8 (407118)) (254) 9 (1014841)) (254) 10 (1167099)) (254) 11 (426554)) (254) 12 (36021333)) (254) 13 (36027290)) (254) 14 (36179249)) (254) 15 (983064)) (254) 16 (19741)) (254) 17 (1891)) (254) 18 (573)) (254) 19 (204478)) (254) 20 (23270970)) (254) 21 (26802)) (st2 (st2 (st2 (st2 (tX11 τ0) (249) 1) (249) 4) (249) 5) (249) 6) := hG30.uL (by omega)
  refine rn_dup dX12_init_193 rfl ?_
  refine rn_bipush (nI 22) dX12_init_194 (by decide) ?_
  refine rn_ldc2 (v := 6250976) (mw (i := 1293) (by decide +kernel)) dX12_init_196 ?_
  refine rn_last (N := 23) (a := 254) (i := 22) (by decide +kernel) (by omega) (by decide) (by decide) dX12_init_199 ?_
  have hG32 : Fr (250 + 5) (uL0 (uL0 (uL0 (uL0 (uL0 (uL0 (uL0 (uL0 (uL0 (uL0 (uL0 (uL0 (uL0 (uL0 (uL0 (uL0 (uL0 (uL0 (uL0 (uL0 (uL0 (uL0 (uL0 (σ) (254) 0 (620680)) (254) 1 (817571)) (254) 2 (30595897)) (254) 3 (40072202)) (254) 4 (6251602)) (254) 5 (31692)) (254) 6 (8974471490)) (254) 7 (8420923)) (254) 8 (407118)) (254) 9 (1014841)) (254) 10 (1167099)) (254) 11 (426554)) (254) 12 (36021333)) (254) 13 (36027290)) (254) 14 (36179249)) (254) 15 (983064)) (254) 16 (19741)) (254) 17 (1891)) (254) 18 (573)) (254) 19 (204478)) (254) 20 (23270970)) (254) 21 (26802)) (254) 22 (6250976)) (st2 (st2 (st2 (st2 (tX11 τ0) (249) 1) (249) 4) (249) 5) (249) 6) := hG31.uL (by omega)
  refine rn_putF fi_X12_80 ffX12_9 rfl (by decide +kernel) (by decide) (by omega) (by decide) (by rw [(show rf 249 9 = 254 by decide +kernel)]) dX12_init_200 ?_
  have hG33 : Fr (250 + 5) (uL0 (uL0 (uL0 (uL0 (uL0 (uL0 (uL0 (uL0 (uL0 (uL0 (uL0 (uL0 (uL0 (uL0 (uL0 (uL0 (uL0 (uL0 (uL0 (uL0 (uL0 (uL0 (uL0 (σ) (254) 0 (620680)) (254) 1 (817571)) (254) 2 (30595897)) (254) 3 (40072202)) (254) 4 (6251602)) (254) 5 (31692)) (254) 6 (8974471490)) (254) 7 (8420923)) (254) 8 (407118)) (254) 9 (1014841)) (254) 10 (1167099)) (254) 11 (426554)) (254) 12 (36021333)) (254) 13 (36027290)) (254) 14 (36179249)) (254) 15 (983064)) (254) 16 (19741)) (254) 17 (1891)) (254) 18 (573)) (254) 19 (204478)) (254) 20 (23270970)) (254) 21 (26802)) (254) 22 (6250976)) (st2 (st2 (st2 (st2 (st2 (tX11 τ0) (249) 1) (249) 4) (249) 5) (249) 6) (249) 9) := hG32.st (by omega)
  refine rn_aload_n 0 dX12_init_203 rfl ?_
  refine rn_bipush (nI 80) dX12_init_204 (by decide) ?_
  refine rn_newa (t := 0) (N := 80) (by decide) (mw (i := 104) (by decide +kernel)) (by decide +kernel) hG33 (by decide) (by decide) (by decide) (by decide) (by decide) dX12_init_206 ?_
  have hG34 : Fr (250 + 6) (uL0 (uL0 (uL0 (uL0 (uL0 (uL0 (uL0 (uL0 (uL0 (uL0 (uL0 (uL0 (uL0 (uL0 (uL0 (uL0 (uL0 (uL0 (uL0 (uL0 (uL0 (uL0 (uL0 (σ) (254) 0 (620680)) (254) 1 (817571)) (254) 2 (30595897)) (254) 3 (40072202)) (254) 4 (6251602)) (254) 5 (31692)) (254) 6 (8974471490)) (254) 7 (8420923)) (254) 8 (407118)) (254) 9 (1014841)) (254) 10 (1167099)) (254) 11 (426554)) (254) 12 (36021333)) (254) 13 (36027290)) (254) 14 (36179249)) (254) 15 (983064)) (254) 16 (19741)) (254) 17 (1891)) (254) 18 (573)) (254) 19 (204478)) (254) 20 (23270970)) (254) 21 (26802)) (254) 22 (6250976)) (st2 (st2 (st2 (st2 (st2 (tX11 τ0) (249) 1) (249) 4) (249) 5) (249) 6) (249) 9) := hG33.mono (by omega)
  refine rn_putF fi_X12_83 ffX12_10 rfl (by decide +kernel) (by decide) (by omega) (by decide) (by rw [(show rf 249 10 = 255 by decide +kernel)]) dX12_init_208 ?_
  have hG35 : Fr (250 + 6) (uL0 (uL0 (uL0 (uL0 (uL0 (uL0 (uL0 (uL0 (uL0 (uL0 (uL0 (uL0 (uL0 (uL0 (uL0 (uL0 (uL0 (uL0 (uL0 (uL0 (uL0 (uL0 (uL0 (σ) (254) 0 (620680)) (254) 1 (817571)) (254) 2 (30595897)) (254) 3 (40072202)) (254) 4 (6251602)) (254) 5 (31692)) (254) 6 (8974471490)) (254) 7 (8420923)) (254) 8 (407118)) (254) 9 (1014841)) (254) 10 (1167099)) (254) 11 (426554)) (254) 12 (36021333)) (254) 13 (36027290)) (254) 14 (36179249)) (254) 15 (983064)) (254) 16 (19741)) (254) 17 (1891)) (254) 18 (573)) (254) 19 (204478)) (254) 20 (23270970)) (254) 21 (26802)) (254) 22 (6250976)) (st2 (st2 (st2 (st2 (st2 (st2 (tX11 τ0) (249) 1) (249) 4) (249) 5) (249) 6) (249) 9) (249) 10) := hG34.st (by omega)
  refine rn_aload_n 0 dX12_init_211 rfl ?_
  refine rn_sipush (nI 2200) dX12_init_212 (by decide) ?_
  refine rn_newa (t := 0) (N := 2200) (by decide) (mw (i := 104) (by decide +kernel)) (by decide +kernel) hG35 (by decide) (by decide) (by decide) (by decide) (by decide) dX12_init_215 ?_
  have hG36 : Fr (250 + 7) (uL0 (uL0 (uL0 (uL0 (uL0 (uL0 (uL0 (uL0 (uL0 (uL0 (uL0 (uL0 (uL0 (uL0 (uL0 (uL0 (uL0 (uL0 (uL0 (uL0 (uL0 (uL0 (uL0 (σ) (254) 0 (620680)) (254) 1 (817571)) (254) 2 (30595897)) (254) 3 (40072202)) (254) 4 (6251602)) (254) 5 (31692)) (254) 6 (8974471490)) (254) 7 (8420923)) (254) 8 (407118)) (254) 9 (1014841)) (254) 10 (1167099)) (254) 11 (426554)) (254) 12 (36021333)) (254) 13 (36027290)) (254) 14 (36179249)) (254) 15 (983064)) (254) 16 (19741)) (254) 17 (1891)) (254) 18 (573)) (254) 19 (204478)) (254) 20 (23270970)) (254) 21 (26802)) (254) 22 (6250976)) (st2 (st2 (st2 (st2 (st2 (st2 (tX11 τ0) (249) 1) (249) 4) (249) 5) (249) 6) (249) 9) (249) 10) := hG35.mono (by omega)
  refine rn_putF fi_X12_86 ffX12_11 rfl (by decide +kernel) (by decide) (by omega) (by decide) (by rw [(show rf 249 11 = 256 by decide +kernel)]) dX12_init_217 ?_
  have hG37 : Fr (250 + 7) (uL0 (uL0 (uL0 (uL0 (uL0 (uL0 (uL0 (uL0 (uL0 (uL0 (uL0 (uL0 (uL0 (uL0 (uL0 (uL0 (uL0 (uL0 (uL0 (uL0 (uL0 (uL0 (uL0 (σ) (254) 0 (620680)) (254) 1 (817571)) (254) 2 (30595897)) (254) 3 (40072202)) (254) 4 (6251602)) (254) 5 (31692)) (254) 6 (8974471490)) (254) 7 (8420923)) (254) 8 (407118)) (254) 9 (1014841)) (254) 10 (1167099)) (254) 11 (426554)) (254) 12 (36021333)) (254) 13 (36027290)) (254) 14 (36179249)) (254) 15 (983064)) (254) 16 (19741)) (254) 17 (1891)) (254) 18 (573)) (254) 19 (204478)) (254) 20 (23270970)) (254) 21 (26802)) (254) 22 (6250976)) (st2 (st2 (st2 (st2 (st2 (st2 (st2 (tX11 τ0) (249) 1) (249) 4) (249) 5) (249) 6) (249) 9) (249) 10) (249) 11) := hG36.st (by omega)
  refine rn_aload_n 0 dX12_init_220 rfl ?_
  refine rn_sipush (nI 2200) dX12_init_221 (by decide) ?_
  refine rn_newa (t := 0) (N := 2200) (by decide) (mw (i := 104) (by decide +kernel)) (by decide +kernel) hG37 (by decide) (by decide) (by decide) (by decide) (by decide) dX12_init_224 ?_
  have hG38 : Fr (250 + 8) (uL0 (uL0 (uL0 (uL0 (uL0 (uL0 (uL0 (uL0 (uL0 (uL0 (uL0 (uL0 (uL0 (uL0 (uL0 (uL0 (uL0 (uL0 (uL0 (uL0 (uL0 (uL0 (uL0 (σ) (254) 0 (620680)) (254) 1 (817571)) (254) 2 (30595897)) (254) 3 (40072202)) (254) 4 (6251602)) (254) 5 (31692)) (254) 6 (8974471490)) (254) 7 (8420923)) (254) 8 (407118)) (254) 9 (1014841)) (254) 10 (1167099)) (254) 11 (426554)) (254) 12 (36021333)) (254) 13 (36027290)) (254) 14 (36179249)) (254) 15 (983064)) (254) 16 (19741)) (254) 17 (1891)) (254) 18 (573)) (254) 19 (204478)) (254) 20 (23270970)) (254) 21 (26802)) (254) 22 (6250976)) (st2 (st2 (st2 (st2 (st2 (st2 (st2 (tX11 τ0) (249) 1) (249) 4) (249) 5) (249) 6) (249) 9) (249) 10) (249) 11) := hG37.mono (by omega)
  refine rn_putF fi_X12_89 ffX12_12 rfl (by decide +kernel) (by decide) (by omega) (by decide) (by rw [(show rf 249 12 = 257 by decide +kernel)]) dX12_init_226 ?_
  have hG39 : Fr (250 + 8) (uL0 (uL0 (uL0 (uL0 (uL0 (uL0 (uL0 (uL0 (uL0 (uL0 (uL0 (uL0 (uL0 (uL0 (uL0 (uL0 (uL0 (uL0 (uL0 (uL0 (uL0 (uL0 (uL0 (σ) (254) 0 (620680)) (254) 1 (817571)) (254) 2 (30595897)) (254) 3 (40072202)) (254) 4 (6251602)) (254) 5 (31692)) (254) 6 (8974471490)) (254) 7 (8420923)) (254) 8 (407118)) (254) 9 (1014841)) (254) 10 (1167099)) (254) 11 (426554)) (254) 12 (36021333)) (254) 13 (36027290)) (254) 14 (36179249)) (254) 15 (983064)) (254) 16 (19741)) (254) 17 (1891)) (254) 18 (573)) (254) 19 (204478)) (254) 20 (23270970)) (254) 21 (26802)) (254) 22 (6250976)) (st2 (st2 (st2 (st2 (st2 (st2 (st2 (st2 (tX11 τ0) (249) 1) (249) 4) (249) 5) (249) 6) (249) 9) (249) 10) (249) 11) (249) 12) := hG38.st (by omega)
  refine rn_aload_n 0 dX12_init_229 rfl ?_
  refine rn_bipush (nI 15) dX12_init_230 (by decide) ?_
  refine rn_newa (t := 1) (N := 15) (by decide) (mw (i := 103) (by decide +kernel)) (by decide +kernel) hG39 (by decide) (by decide) (by decide) (by decide) (by decide) dX12_init_232 ?_
  have hG40 : Fr (250 + 9) (uL0 (uL0 (uL0 (uL0 (uL0 (uL0 (uL0 (uL0 (uL0 (uL0 (uL0 (uL0 (uL0 (uL0 (uL0 (uL0 (uL0 (uL0 (uL0 (uL0 (uL0 (uL0 (uL0 (σ) (254) 0 (620680)) (254) 1 (817571)) (254) 2 (30595897)) (254) 3 (40072202)) (254) 4 (6251602)) (254) 5 (31692)) (254) 6 (8974471490)) (254) 7 (8420923)) (254) 8 (407118)) (254) 9 (1014841)) (254) 10 (1167099)) (254) 11 (426554)) (254) 12 (36021333)) (254) 13 (36027290)) (254) 14 (36179249)) (254) 15 (983064)) (254) 16 (19741)) (254) 17 (1891)) (254) 18 (573)) (254) 19 (204478)) (254) 20 (23270970)) (254) 21 (26802)) (254) 22 (6250976)) (st2 (st2 (st2 (st2 (st2 (st2 (st2 (st2 (tX11 τ0) (249) 1) (249) 4) (249) 5) (249) 6) (249) 9) (249) 10) (249) 11) (249) 12) := hG39.mono (by omega)
  refine rn_putF fi_X12_92 ffX12_14 rfl (by decide +kernel) (by decide) (by omega) (by decide) (by rw [(show rf 249 14 = 258 by decide +kernel)]) dX12_init_234 ?_
  have hG41 : Fr (250 + 9) (uL0 (uL0 (uL0 (uL0 (uL0 (uL0 (uL0 (uL0 (uL0 (uL0 (uL0 (uL0 (uL0 (uL0 (uL0 (uL0 (uL0 (uL0 (uL0 (uL0 (uL0 (uL0 (uL0 (σ) (254) 0 (620680)) (254) 1 (817571)) (254) 2 (30595897)) (254) 3 (40072202)) (254) 4 (6251602)) (254) 5 (31692)) (254) 6 (8974471490)) (254) 7 (8420923)) (254) 8 (407118)) (254) 9 (1014841)) (254) 10 (1167099)) (254) 11 (426554)) (254) 12 (36021333)) (254) 13 (36027290)) (254) 14 (36179249)) (254) 15 (983064)) (254) 16 (19741)) (254) 17 (1891)) (254) 18 (573)) (254) 19 (204478)) (254) 20 (23270970)) (254) 21 (26802)) (254) 22 (6250976)) (st2 (st2 (st2 (st2 (st2 (st2 (st2 (st2 (st2 (tX11 τ0) (249) 1) (249) 4) (249) 5) (249) 6) (249) 9) (249) 10) (249) 11) (249) 12) (249) 14) := hG40.st (by omega)
  refine rn_aload_n 0 dX12_init_237 rfl ?_
  refine rn_bipush (nI 15) dX12_init_238 (by decide) ?_
  refine rn_newa (t := 1) (N := 15) (by decide) (mw (i := 103) (by decide +kernel)) (by decide +kernel) hG41 (by decide) (by decide) (by decide) (by decide) (by decide) dX12_init_240 ?_
  have hG42 : Fr (250 + 10) (uL0 (uL0 (uL0 (uL0 (uL0 (uL0 (uL0 (uL0 (uL0 (uL0 (uL0 (uL0 (uL0 (uL0 (uL0 (uL0 (uL0 (uL0 (uL0 (uL0 (uL0 (uL0 (uL0 (σ) (254) 0 (620680)) (254) 1 (817571)) (254) 2 (30595897)) (254) 3 (40072202)) (254) 4 (6251602)) (254) 5 (31692)) (254) 6 (8974471490)) (254) 7 (8420923)) (254) 8 (407118)) (254) 9 (1014841)) (254) 10 (1167099)) (254) 11 (426554)) (254) 12 (36021333)) (254) 13 (36027290)) (254) 14 (36179249)) (254) 15 (983064)) (254) 16 (19741)) (254) 17 (1891)) (254) 18 (573)) (254) 19 (204478)) (254) 20 (23270970)) (254) 21 (26802)) (254) 22 (6250976)) (st2 (st2 (st2 (st2 (st2 (st2 (st2 (st2 (st2 (tX11 τ0) (249) 1) (249) 4) (249) 5) (249) 6) (249) 9) (249) 10) (249) 11) (249) 12) (249) 14) := hG41.mono (by omega)
  refine rn_putF fi_X12_95 ffX12_15 rfl (by decide +kernel) (by decide) (by omega) (by decide) (by rw [(show rf 249 15 = 259 by decide +kernel)]) dX12_init_242 ?_
  have hG43 : Fr (250 + 10) (uL0 (uL0 (uL0 (uL0 (uL0 (uL0 (uL0 (uL0 (uL0 (uL0 (uL0 (uL0 (uL0 (uL0 (uL0 (uL0 (uL0 (uL0 (uL0 (uL0 (uL0 (uL0 (uL0 (σ) (254) 0 (620680)) (254) 1 (817571)) (254) 2 (30595897)) (254) 3 (40072202)) (254) 4 (6251602)) (254) 5 (31692)) (254) 6 (8974471490)) (254) 7 (8420923)) (254) 8 (407118)) (254) 9 (1014841)) (254) 10 (1167099)) (254) 11 (426554)) (254) 12 (36021333)) (254) 13 (36027290)) (254) 14 (36179249)) (254) 15 (983064)) (254) 16 (19741)) (254) 17 (1891)) (254) 18 (573)) (254) 19 (204478)) (254) 20 (23270970)) (254) 21 (26802)) (254) 22 (6250976)) (st2 (st2 (st2 (st2 (st2 (st2 (st2 (st2 (st2 (st2 (tX11 τ0) (249) 1) (249) 4) (249) 5) (249) 6) (249) 9) (249) 10) (249) 11) (249) 12) (249) 14) (249) 15) := hG42.st (by omega)
  refine rn_aload_n 0 dX12_init_245 rfl ?_
  refine rn_bipush (nI 15) dX12_init_246 (by decide) ?_
  refine rn_newa (t := 0) (N := 15) (by decide) (mw (i := 104) (by decide +kernel)) (by decide +kernel) hG43 (by decide) (by decide) (by decide) (by decide) (by decide) dX12_init_248 ?_
  have hG44 : Fr (250 + 11) (uL0 (uL0 (uL0 (uL0 (uL0 (uL0 (uL0 (uL0 (uL0 (uL0 (uL0 (uL0 (uL0 (uL0 (uL0 (uL0 (uL0 (uL0 (uL0 (uL0 (uL0 (uL0 (uL0 (σ) (254) 0 (620680)) (254) 1 (817571)) (254) 2 (30595897)) (254) 3 (40072202)) (254) 4 (6251602)) (254) 5 (31692)) (254) 6 (8974471490)) (254) 7 (8420923)) (254) 8 (407118)) (254) 9 (1014841)) (254) 10 (1167099)) (254) 11 (426554)) (254) 12 (36021333)) (254) 13 (36027290)) (254) 14 (36179249)) (254) 15 (983064)) (254) 16 (19741)) (254) 17 (1891)) (254) 18 (573)) (254) 19 (204478)) (254) 20 (23270970)) (254) 21 (26802)) (254) 22 (6250976)) (st2 (st2 (st2 (st2 (st2 (st2 (st2 (st2 (st2 (st2 (tX11 τ0) (249) 1) (249) 4) (249) 5) (249) 6) (249) 9) (249) 10) (249) 11) (249) 12) (249) 14) (249) 15) := hG43.mono (by omega)
  refine rn_putF fi_X12_98 ffX12_16 rfl (by decide +kernel) (by decide) (by omega) (by decide) (by rw [(show rf 249 16 = 260 by decide +kernel)]) dX12_init_250 ?_
  have hG45 : Fr (250 + 11) (uL0 (uL0 (uL0 (uL0 (uL0 (uL0 (uL0 (uL0 (uL0 (uL0 (uL0 (uL0 (uL0 (uL0 (uL0 (uL0 (uL0 (uL0 (uL0 (uL0 (uL0 (uL0 (uL0 (σ) (254) 0 (620680)) (254) 1 (817571)) (254) 2 (30595897)) (254) 3 (40072202)) (254) 4 (6251602)) (254) 5 (31692)) (254) 6 (8974471490)) (254) 7 (8420923)) (254) 8 (407118)) (254) 9 (1014841)) (254) 10 (1167099)) (254) 11 (426554)) (254) 12 (36021333)) (254) 13 (36027290)) (254) 14 (36179249)) (254) 15 (983064)) (254) 16 (19741)) (254) 17 (1891)) (254) 18 (573)) (254) 19 (204478)) (254) 20 (23270970)) (254) 21 (26802)) (254) 22 (6250976)) (st2 (st2 (st2 (st2 (st2 (st2 (st2 (st2 (st2 (st2 (st2 (tX11 τ0) (249) 1) (249) 4) (249) 5) (249) 6) (249) 9) (249) 10) (249) 11) (249) 12) (249) 14) (249) 15) (249) 16) := hG44.st (by omega)
  refine rn_aload_n 0 dX12_init_253 rfl ?_
  refine rn_bipush (nI 15) dX12_init_254 (by decide) ?_
  refine rn_newa (t := 0) (N := 15) (by decide) (mw (i := 104) (by decide +kernel)) (by decide +kernel) hG45 (by decide) (by decide) (by decide) (by decide) (by decide) dX12_init_256 ?_
  have hG46 : Fr (250 + 12) (uL0 (uL0 (uL0 (uL0 (uL0 (uL0 (uL0 (uL0 (uL0 (uL0 (uL0 (uL0 (uL0 (uL0 (uL0 (uL0 (uL0 (uL0 (uL0 (uL0 (uL0 (uL0 (uL0 (σ) (254) 0 (620680)) (254) 1 (817571)) (254) 2 (30595897)) (254) 3 (40072202)) (254) 4 (6251602)) (254) 5 (31692)) (254) 6 (8974471490)) (254) 7 (8420923)) (254) 8 (407118)) (254) 9 (1014841)) (254) 10 (1167099)) (254) 11 (426554)) (254) 12 (36021333)) (254) 13 (36027290)) (254) 14 (36179249)) (254) 15 (983064)) (254) 16 (19741)) (254) 17 (1891)) (254) 18 (573)) (254) 19 (204478)) (254) 20 (23270970)) (254) 21 (26802)) (254) 22 (6250976)) (st2 (st2 (st2 (st2 (st2 (st2 (st2 (st2 (st2 (st2 (st2 (tX11 τ0) (249) 1) (249) 4) (249) 5) (249) 6) (249) 9) (249) 10) (249) 11) (249) 12) (249) 14) (249) 15) (249) 16) := hG45.mono (by omega)
  refine rn_putF fi_X12_101 ffX12_17 rfl (by decide +kernel) (by decide) (by omega) (by decide) (by rw [(show rf 249 17 = 261 by decide +kernel)]) dX12_init_258 ?_
  have hG47 : Fr (250 + 12) (uL0 (uL0 (uL0 (uL0 (uL0 (uL0 (uL0 (uL0 (uL0 (uL0 (uL0 (uL0 (uL0 (uL0 (uL0 (uL0 (uL0 (uL0 (uL0 (uL0 (uL0 (uL0 (uL0 (σ) (254) 0 (620680)) (254) 1 (817571)) (254) 2 (30595897)) (254) 3 (40072202)) (254) 4 (6251602)) (254) 5 (31692)) (254) 6 (8974471490)) (254) 7 (8420923)) (254) 8 (407118)) (254) 9 (1014841)) (254) 10 (1167099)) (254) 11 (426554)) (254) 12 (36021333)) (254) 13 (36027290)) (254) 14 (36179249)) (254) 15 (983064)) (254) 16 (19741)) (254) 17 (1891)) (254) 18 (573)) (254) 19 (204478)) (254) 20 (23270970)) (254) 21 (26802)) (254) 22 (6250976)) (st2 (st2 (st2 (st2 (st2 (st2 (st2 (st2 (st2 (st2 (st2 (st2 (tX11 τ0) (249) 1) (249) 4) (249) 5) (249) 6) (249) 9) (249) 10) (249) 11) (249) 12) (249) 14) (249) 15) (249) 16) (249) 17) := hG46.st (by omega)
  refine rn_aload_n 0 dX12_init_261 rfl ?_
  refine rn_sipush (nI 330) dX12_init_262 (by decide) ?_
  refine rn_newa (t := 0) (N := 330) (by decide) (mw (i := 104) (by decide +kernel)) (by decide +kernel) hG47 (by decide) (by decide) (by decide) (by decide) (by decide) dX12_init_265 ?_
  have hG48 : Fr (250 + 13) (uL0 (uL0 (uL0 (uL0 (uL0 (uL0 (uL0 (uL0 (uL0 (uL0 (uL0 (uL0 (uL0 (uL0 (uL0 (uL0 (uL0 (uL0 (uL0 (uL0 (uL0 (uL0 (uL0 (σ) (254) 0 (620680)) (254) 1 (817571)) (254) 2 (30595897)) (254) 3 (40072202)) (254) 4 (6251602)) (254) 5 (31692)) (254) 6 (8974471490)) (254) 7 (8420923)) (254) 8 (407118)) (254) 9 (1014841)) (254) 10 (1167099)) (254) 11 (426554)) (254) 12 (36021333)) (254) 13 (36027290)) (254) 14 (36179249)) (254) 15 (983064)) (254) 16 (19741)) (254) 17 (1891)) (254) 18 (573)) (254) 19 (204478)) (254) 20 (23270970)) (254) 21 (26802)) (254) 22 (6250976)) (st2 (st2 (st2 (st2 (st2 (st2 (st2 (st2 (st2 (st2 (st2 (st2 (tX11 τ0) (249) 1) (249) 4) (249) 5) (249) 6) (249) 9) (249) 10) (249) 11) (249) 12) (249) 14) (249) 15) (249) 16) (249) 17) := hG47.mono (by omega)
  refine rn_putF fi_X12_104 ffX12_20 rfl (by decide +kernel) (by decide) (by omega) (by decide) (by rw [(show rf 249 20 = 262 by decide +kernel)]) dX12_init_267 ?_
  have hG49 : Fr (250 + 13) (uL0 (uL0 (uL0 (uL0 (uL0 (uL0 (uL0 (uL0 (uL0 (uL0 (uL0 (uL0 (uL0 (uL0 (uL0 (uL0 (uL0 (uL0 (uL0 (uL0 (uL0 (uL0 (uL0 (σ) (254) 0 (620680)) (254) 1 (817571)) (254) 2 (30595897)) (254) 3 (40072202)) (254) 4 (6251602)) (254) 5 (31692)) (254) 6 (8974471490)) (254) 7 (8420923)) (254) 8 (407118)) (254) 9 (1014841)) (254) 10 (1167099)) (254) 11 (426554)) (254) 12 (36021333)) (254) 13 (36027290)) (254) 14 (36179249)) (254) 15 (983064)) (254) 16 (19741)) (254) 17 (1891)) (254) 18 (573)) (254) 19 (204478)) (254) 20 (23270970)) (254) 21 (26802)) (254) 22 (6250976)) (st2 (st2 (st2 (st2 (st2 (st2 (st2 (st2 (st2 (st2 (st2 (st2 (st2 (tX11 τ0) (249) 1) (249) 4) (249) 5) (249) 6) (249) 9) (249) 10) (249) 11) (249) 12) (249) 14) (249) 15) (249) 16) (249) 17) (249) 20) := hG48.st (by omega)
  refine rn_aload_n 0 dX12_init_270 rfl ?_
  refine rn_iconst (nI 4) dX12_init_271 (by decide) ?_
  refine rn_newa (t := 0) (N := 4) (by decide) (mw (i := 104) (by decide +kernel)) (by decide +kernel) hG49 (by decide) (by decide) (by decide) (by decide) (by decide) dX12_init_272 ?_
  have hG50 : Fr (250 + 14) (uL0 (uL0 (uL0 (uL0 (uL0 (uL0 (uL0 (uL0 (uL0 (uL0 (uL0 (uL0 (uL0 (uL0 (uL0 (uL0 (uL0 (uL0 (uL0 (uL0 (uL0 (uL0 (uL0 (σ) (254) 0 (620680)) (254) 1 (817571)) (254) 2 (30595897)) (254) 3 (40072202)) (254) 4 (6251602)) (254) 5 (31692)) (254) 6 (8974471490)) (254) 7 (8420923)) (254) 8 (407118)) (254) 9 (1014841)) (254) 10 (1167099)) (254) 11 (426554)) (254) 12 (36021333)) (254) 13 (36027290)) (254) 14 (36179249)) (254) 15 (983064)) (254) 16 (19741)) (254) 17 (1891)) (254) 18 (573)) (254) 19 (204478)) (254) 20 (23270970)) (254) 21 (26802)) (254) 22 (6250976)) (st2 (st2 (st2 (st2 (st2 (st2 (st2 (st2 (st2 (st2 (st2 (st2 (st2 (tX11 τ0) (249) 1) (249) 4) (249) 5) (249) 6) (249) 9) (249) 10) (249) 11) (249) 12) (249) 14) (249) 15) (249) 16) (249) 17) (249) 20) := hG49.mono (by omega)
  refine rn_putF fi_X12_107 ffX12_21 rfl (by decide +kernel) (by decide) (by omega) (by decide) (by rw [(show rf 249 21 = 263 by decide +kernel)]) dX12_init_274 ?_
  have hG51 : Fr (250 + 14) (uL0 (uL0 (uL0 (uL0 (uL0 (uL0 (uL0 (uL0 (uL0 (uL0 (uL0 (uL0 (uL0 (uL0 (uL0 (uL0 (uL0 (uL0 (uL0 (uL0 (uL0 (uL0 (uL0 (σ) (254) 0 (620680)) (254) 1 (817571)) (254) 2 (30595897)) (254) 3 (40072202)) (254) 4 (6251602)) (254) 5 (31692)) (254) 6 (8974471490)) (254) 7 (8420923)) (254) 8 (407118)) (254) 9 (1014841)) (254) 10 (1167099)) (254) 11 (426554)) (254) 12 (36021333)) (254) 13 (36027290)) (254) 14 (36179249)) (254) 15 (983064)) (254) 16 (19741)) (254) 17 (1891)) (254) 18 (573)) (254) 19 (204478)) (254) 20 (23270970)) (254) 21 (26802)) (254) 22 (6250976)) (st2 (st2 (st2 (st2 (st2 (st2 (st2 (st2 (st2 (st2 (st2 (st2 (st2 (st2 (tX11 τ0) (249) 1) (249) 4) (249) 5) (249) 6) (249) 9) (249) 10) (249) 11) (249) 12) (249) 14) (249) 15) (249) 16) (249) 17) (249) 20) (249) 21) := hG50.st (by omega)
  refine rn_aload_n 0 dX12_init_277 rfl ?_
  refine rn_sipush (nI 1100) dX12_init_278 (by decide) ?_
  refine rn_newa (t := 0) (N := 1100) (by decide) (mw (i := 104) (by decide +kernel)) (by decide +kernel) hG51 (by decide) (by decide) (by decide) (by decide) (by decide) dX12_init_281 ?_
  have hG52 : Fr (250 + 15) (uL0 (uL0 (uL0 (uL0 (uL0 (uL0 (uL0 (uL0 (uL0 (uL0 (uL0 (uL0 (uL0 (uL0 (uL0 (uL0 (uL0 (uL0 (uL0 (uL0 (uL0 (uL0 (uL0 (σ) (254) 0 (620680)) (254) 1 (817571)) (254) 2 (30595897)) (254) 3 (40072202)) (254) 4 (6251602)) (254) 5 (31692)) (254) 6 (8974471490)) (254) 7 (8420923)) (254) 8 (407118)) (254) 9 (1014841)) (254) 10 (1167099)) (254) 11 (426554)) (254) 12 (36021333)) (254) 13 (36027290)) (254) 14 (36179249)) (254) 15 (983064)) (254) 16 (19741)) (254) 17 (1891)) (254) 18 (573)) (254) 19 (204478)) (254) 20 (23270970)) (254) 21 (26802)) (254) 22 (6250976)) (st2 (st2 (st2 (st2 (st2 (st2 (st2 (st2 (st2 (st2 (st2 (st2 (st2 (st2 (tX11 τ0) (249) 1) (249) 4) (249) 5) (249) 6) (249) 9) (249) 10) (249) 11) (249) 12) (249) 14) (249) 15) (249) 16) (249) 17) (249) 20) (249) 21) := hG51.mono (by omega)
  refine rn_putF fi_X12_110 ffX12_22 rfl (by decide +kernel) (by decide) (by omega) (by decide) (by rw [(show rf 249 22 = 264 by decide +kernel)]) dX12_init_283 ?_
  have hG53 : Fr (250 + 15) (uL0 (uL0 (uL0 (uL0 (uL0 (uL0 (uL0 (uL0 (uL0 (uL0 (uL0 (uL0 (uL0 (uL0 (uL0 (uL0 (uL0 (uL0 (uL0 (uL0 (uL0 (uL0 (uL0 (σ) (254) 0 (620680)) (254) 1 (817571)) (254) 2 (30595897)) (254) 3 (40072202)) (254) 4 (6251602)) (254) 5 (31692)) (254) 6 (8974471490)) (254) 7 (8420923)) (254) 8 (407118)) (254) 9 (1014841)) (254) 10 (1167099)) (254) 11 (426554)) (254) 12 (36021333)) (254) 13 (36027290)) (254) 14 (36179249)) (254) 15 (983064)) (254) 16 (19741)) (254) 17 (1891)) (254) 18 (573)) (254) 19 (204478)) (254) 20 (23270970)) (254) 21 (26802)) (254) 22 (6250976)) (st2 (st2 (st2 (st2 (st2 (st2 (st2 (st2 (st2 (st2 (st2 (st2 (st2 (st2 (st2 (tX11 τ0) (249) 1) (249) 4) (249) 5) (249) 6) (249) 9) (249) 10) (249) 11) (249) 12) (249) 14) (249) 15) (249) 16) (249) 17) (249) 20) (249) 21) (249) 22) := hG52.st (by omega)
  refine rn_aload_n 0 dX12_init_286 rfl ?_
  refine rn_sipush (nI 966) dX12_init_287 (by decide) ?_
  refine rn_newa (t := 0) (N := 966) (by decide) (mw (i := 104) (by decide +kernel)) (by decide +kernel) hG53 (by decide) (by decide) (by decide) (by decide) (by decide) dX12_init_290 ?_
  have hG54 : Fr (250 + 16) (uL0 (uL0 (uL0 (uL0 (uL0 (uL0 (uL0 (uL0 (uL0 (uL0 (uL0 (uL0 (uL0 (uL0 (uL0 (uL0 (uL0 (uL0 (uL0 (uL0 (uL0 (uL0 (uL0 (σ) (254) 0 (620680)) (254) 1 (817571)) (254) 2 (30595897)) (254) 3 (40072202)) (254) 4 (6251602)) (254) 5 (31692)) (254) 6 (8974471490)) (254) 7 (8420923)) (254) 8 (407118)) (254) 9 (1014841)) (254) 10 (1167099)) (254) 11 (426554)) (254) 12 (36021333)) (254) 13 (36027290)) (254) 14 (36179249)) (254) 15 (983064)) (254) 16 (19741)) (254) 17 (1891)) (254) 18 (573)) (254) 19 (204478)) (254) 20 (23270970)) (254) 21 (26802)) (254) 22 (6250976)) (st2 (st2 (st2 (st2 (st2 (st2 (st2 (st2 (st2 (st2 (st2 (st2 (st2 (st2 (st2 (tX11 τ0) (249) 1) (249) 4) (249) 5) (249) 6) (249) 9) (249) 10) (249) 11) (249) 12) (249) 14) (249) 15) (249) 16) (249) 17) (249) 20) (249) 21) (249) 22) := hG53.mono (by omega)
  refine rn_putF fi_X12_113 ffX12_23 rfl (by decide +kernel) (by decide) (by omega) (by decide) (by rw [(show rf 249 23 = 265 by decide +kernel)]) dX12_init_292 ?_
  have hG55 : Fr (250 + 16) (uL0 (uL0 (uL0 (uL0 (uL0 (uL0 (uL0 (uL0 (uL0 (uL0 (uL0 (uL0 (uL0 (uL0 (uL0 (uL0 (uL0 (uL0 (uL0 (uL0 (uL0 (uL0 (uL0 (σ) (254) 0 (620680)) (254) 1 (817571)) (254) 2 (30595897)) (254) 3 (40072202)) (254) 4 (6251602)) (254) 5 (31692)) (254) 6 (8974471490)) (254) 7 (8420923)) (254) 8 (407118)) (254) 9 (1014841)) (254) 10 (1167099)) (254) 11 (426554)) (254) 12 (36021333)) (254) 13 (36027290)) (254) 14 (36179249)) (254) 15 (983064)) (254) 16 (19741)) (254) 17 (1891)) (254) 18 (573)) (254) 19 (204478)) (254) 20 (23270970)) (254) 21 (26802)) (254) 22 (6250976)) (st2 (st2 (st2 (st2 (st2 (st2 (st2 (st2 (st2 (st2 (st2 (st2 (st2 (st2 (st2 (st2 (tX11 τ0) (249) 1) (249) 4) (249) 5) (249) 6) (249) 9) (249) 10) (249) 11) (249) 12) (249) 14) (249) 15) (249) 16) (249) 17) (249) 20) (249) 21) (249) 22) (249) 23) := hG54.st (by omega)
  refine rn_aload_n 0 dX12_init_295 rfl ?_
  refine rn_iconst (nI 4) dX12_init_296 (by decide) ?_
  refine rn_newa (t := 3) (N := 4) (by decide) (mw (i := 1408) (by decide +kernel)) (by decide +kernel) hG55 (by decide) (by decide) (by decide) (by decide) (by decide) dX12_init_297 ?_
  have hG56 : Fr (250 + 17) (uL0 (uL0 (uL0 (uL0 (uL0 (uL0 (uL0 (uL0 (uL0 (uL0 (uL0 (uL0 (uL0 (uL0 (uL0 (uL0 (uL0 (uL0 (uL0 (uL0 (uL0 (uL0 (uL0 (σ) (254) 0 (620680)) (254) 1 (817571)) (254) 2 (30595897)) (254) 3 (40072202)) (254) 4 (6251602)) (254) 5 (31692)) (254) 6 (8974471490)) (254) 7 (8420923)) (254) 8 (407118)) (254) 9 (1014841)) (254) 10 (1167099)) (254) 11 (426554)) (254) 12 (36021333)) (254) 13 (36027290)) (254) 14 (36179249)) (254) 15 (983064)) (254) 16 (19741)) (254) 17 (1891)) (254) 18 (573)) (254) 19 (204478)) (254) 20 (23270970)) (254) 21 (26802)) (254) 22 (6250976)) (st2 (st2 (st2 (st2 (st2 (st2 (st2 (st2 (st2 (st2 (st2 (st2 (st2 (st2 (st2 (st2 (tX11 τ0) (249) 1) (249) 4) (249) 5) (249) 6) (249) 9) (249) 10) (249) 11) (249) 12) (249) 14) (249) 15) (249) 16) (249) 17) (249) 20) (249) 21) (249) 22) (249) 23) := hG55.mono (by omega)
  refine rn_putF fi_X12_116 ffX12_25 rfl (by decide +kernel) (by decide) (by omega) (by decide) (by rw [(show rf 249 25 = 266 by decide +kernel)]) dX12_init_299 ?_
  have hG57 : Fr (250 + 17) (uL0 (uL0 (uL0 (uL0 (uL0 (uL0 (uL0 (uL0 (uL0 (uL0 (uL0 (uL0 (uL0 (uL0 (uL0 (uL0 (uL0 (uL0 (uL0 (uL0 (uL0 (uL0 (uL0 (σ) (254) 0 (620680)) (254) 1 (817571)) (254) 2 (30595897)) (254) 3 (40072202)) (254) 4 (6251602)) (254) 5 (31692)) (254) 6 (8974471490)) (254) 7 (8420923)) (254) 8 (407118)) (254) 9 (1014841)) (254) 10 (1167099)) (254) 11 (426554)) (254) 12 (36021333)) (254) 13 (36027290)) (254) 14 (36179249)) (254) 15 (983064)) (254) 16 (19741)) (254) 17 (1891)) (254) 18 (573)) (254) 19 (204478)) (254) 20 (23270970)) (254) 21 (26802)) (254) 22 (6250976)) (st2 (st2 (st2 (st2 (st2 (st2 (st2 (st2 (st2 (st2 (st2 (st2 (st2 (st2 (st2 (st2 (st2 (tX11 τ0) (249) 1) (249) 4) (249) 5) (249) 6) (249) 9) (249) 10) (249) 11) (249) 12) (249) 14) (249) 15) (249) 16) (249) 17) (249) 20) (249) 21) (249) 22) (249) 23) (249) 25) := hG56.st (by omega)
  refine rn_aload_n 0 dX12_init_302 rfl ?_
  refine rn_bipush (nI 6) dX12_init_303 (by decide) ?_
  refine rn_newa (t := 0) (N := 6) (by decide) (mw (i := 104) (by decide +kernel)) (by decide +kernel) hG57 (by decide) (by decide) (by decide) (by decide) (by decide) dX12_init_305 ?_
  have hG58 : Fr (250 + 18) (uL0 (uL0 (uL0 (uL0 (uL0 (uL0 (uL0 (uL0 (uL0 (uL0 (uL0 (uL0 (uL0 (uL0 (uL0 (uL0 (uL0 (uL0 (uL0 (uL0 (uL0 (uL0 (uL0 (σ) (254) 0 (620680)) (254) 1 (817571)) (254) 2 (30595897)) (254) 3 (40072202)) (254) 4 (6251602)) (254) 5 (31692)) (254) 6 (8974471490)) (254) 7 (8420923)) (254) 8 (407118)) (254) 9 (1014841)) (254) 10 (1167099)) (254) 11 (426554)) (254) 12 (36021333)) (254) 13 (36027290)) (254) 14 (36179249)) (254) 15 (983064)) (254) 16 (19741)) (254) 17 (1891)) (254) 18 (573)) (254) 19 (204478)) (254) 20 (23270970)) (254) 21 (26802)) (254) 22 (6250976)) (st2 (st2 (st2 (st2 (st2 (st2 (st2 (st2 (st2 (st2 (st2 (st2 (st2 (st2 (st2 (st2 (st2 (tX11 τ0) (249) 1) (249) 4) (249) 5) (249) 6) (249) 9) (249) 10) (249) 11) (249) 12) (249) 14) (249) 15) (249) 16) (249) 17) (249) 20) (249) 21) (249) 22) (249) 23) (249) 25) := hG57.mono (by omega)
  refine rn_putF fi_X12_120 ffX12_26 rfl (by decide +kernel) (by decide) (by omega) (by decide) (by rw [(show rf 249 26 = 267 by decide +kernel)]) dX12_init_307 ?_
  have hG59 : Fr (250 + 18) (uL0 (uL0 (uL0 (uL0 (uL0 (uL0 (uL0 (uL0 (uL0 (uL0 (uL0 (uL0 (uL0 (uL0 (uL0 (uL0 (uL0 (uL0 (uL0 (uL0 (uL0 (uL0 (uL0 (σ) (254) 0 (620680)) (254) 1 (817571)) (254) 2 (30595897)) (254) 3 (40072202)) (254) 4 (6251602)) (254) 5 (31692)) (254) 6 (8974471490)) (254) 7 (8420923)) (254) 8 (407118)) (254) 9 (1014841)) (254) 10 (1167099)) (254) 11 (426554)) (254) 12 (36021333)) (254) 13 (36027290)) (254) 14 (36179249)) (254) 15 (983064)) (254) 16 (19741)) (254) 17 (1891)) (254) 18 (573)) (254) 19 (204478)) (254) 20 (23270970)) (254) 21 (26802)) (254) 22 (6250976)) (st2 (st2 (st2 (st2 (st2 (st2 (st2 (st2 (st2 (st2 (st2 (st2 (st2 (st2 (st2 (st2 (st2 (st2 (tX11 τ0) (249) 1) (249) 4) (249) 5) (249) 6) (249) 9) (249) 10) (249) 11) (249) 12) (249) 14) (249) 15) (249) 16) (249) 17) (249) 20) (249) 21) (249) 22) (249) 23) (249) 25) (249) 26) := hG58.st (by omega)
  refine rn_aload_n 0 dX12_init_310 rfl ?_
  refine rn_bipush (nI 6) dX12_init_311 (by decide) ?_
  refine rn_newa (t := 0) (N := 6) (by decide) (mw (i := 104) (by decide +kernel)) (by decide +kernel) hG59 (by decide) (by decide) (by decide) (by decide) (by decide) dX12_init_313 ?_
  have hG60 : Fr (250 + 19) (uL0 (uL0 (uL0 (uL0 (uL0 (uL0 (uL0 (uL0 (uL0 (uL0 (uL0 (uL0 (uL0 (uL0 (uL0 (uL0 (uL0 (uL0 (uL0 (uL0 (uL0 (uL0 (uL0 (σ) (254) 0 (620680)) (254) 1 (817571)) (254) 2 (30595897)) (254) 3 (40072202)) (254) 4 (6251602)) (254) 5 (31692)) (254) 6 (8974471490)) (254) 7 (8420923)) (254) 8 (407118)) (254) 9 (1014841)) (254) 10 (1167099)) (254) 11 (426554)) (254) 12 (36021333)) (254) 13 (36027290)) (254) 14 (36179249)) (254) 15 (983064)) (254) 16 (19741)) (254) 17 (1891)) (254) 18 (573)) (254) 19 (204478)) (254) 20 (23270970)) (254) 21 (26802)) (254) 22 (6250976)) (st2 (st2 (st2 (st2 (st2 (st2 (st2 (st2 (st2 (st2 (st2 (st2 (st2 (st2 (st2 (st2 (st2 (st2 (tX11 τ0) (249) 1) (249) 4) (249) 5) (249) 6) (249) 9) (249) 10) (249) 11) (249) 12) (249) 14) (249) 15) (249) 16) (249) 17) (249) 20) (249) 21) (249) 22) (249) 23) (249) 25) (249) 26) := hG59.mono (by omega)
  refine rn_putF fi_X12_123 ffX12_27 rfl (by decide +kernel) (by decide) (by omega) (by decide) (by rw [(show rf 249 27 = 268 by decide +kernel)]) dX12_init_315 ?_
  have hG61 : Fr (250 + 19) (uL0 (uL0 (uL0 (uL0 (uL0 (uL0 (uL0 (uL0 (uL0 (uL0 (uL0 (uL0 (uL0 (uL0 (uL0 (uL0 (uL0 (uL0 (uL0 (uL0 (uL0 (uL0 (uL0 (σ) (254) 0 (620680)) (254) 1 (817571)) (254) 2 (30595897)) (254) 3 (40072202)) (254) 4 (6251602)) (254) 5 (31692)) (254) 6 (8974471490)) (254) 7 (8420923)) (254) 8 (407118)) (254) 9 (1014841)) (254) 10 (1167099)) (254) 11 (426554)) (254) 12 (36021333)) (254) 13 (36027290)) (254) 14 (36179249)) (254) 15 (983064)) (254) 16 (19741)) (254) 17 (1891)) (254) 18 (573)) (254) 19 (204478)) (254) 20 (23270970)) (254) 21 (26802)) (254) 22 (6250976)) (st2 (st2 (st2 (st2 (st2 (st2 (st2 (st2 (st2 (st2 (st2 (st2 (st2 (st2 (st2 (st2 (st2 (st2 (st2 (tX11 τ0) (249) 1) (249) 4) (249) 5) (249) 6) (249) 9) (249) 10) (249) 11) (249) 12) (249) 14) (249) 15) (249) 16) (249) 17) (249) 20) (249) 21) (249) 22) (249) 23) (249) 25) (249) 26) (249) 27) := hG60.st (by omega)
  refine rn_aload_n 0 dX12_init_318 rfl ?_
  refine rn_bipush (nI 20) dX12_init_319 (by decide) ?_
  refine rn_newa (t := 0) (N := 20) (by decide) (mw (i := 104) (by decide +kernel)) (by decide +kernel) hG61 (by decide) (by decide) (by decide) (by decide) (by decide) dX12_init_321 ?_
  have hG62 : Fr (250 + 20) (uL0 (uL0 (uL0 (uL0 (uL0 (uL0 (uL0 (uL0 (uL0 (uL0 (uL0 (uL0 (uL0 (uL0 (uL0 (uL0 (uL0 (uL0 (uL0 (uL0 (uL0 (uL0 (uL0 (σ) (254) 0 (620680)) (254) 1 (817571)) (254) 2 (30595897)) (254) 3 (40072202)) (254) 4 (6251602)) (254) 5 (31692)) (254) 6 (8974471490)) (254) 7 (8420923)) (254) 8 (407118)) (254) 9 (1014841)) (254) 10 (1167099)) (254) 11 (426554)) (254) 12 (36021333)) (254) 13 (36027290)) (254) 14 (36179249)) (254) 15 (983064)) (254) 16 (19741)) (254) 17 (1891)) (254) 18 (573)) (254) 19 (204478)) (254) 20 (23270970)) (254) 21 (26802)) (254) 22 (6250976)) (st2 (st2 (st2 (st2 (st2 (st2 (st2 (st2 (st2 (st2 (st2 (st2 (st2 (st2 (st2 (st2 (st2 (st2 (st2 (tX11 τ0) (249) 1) (249) 4) (249) 5) (249) 6) (249) 9) (249) 10) (249) 11) (249) 12) (249) 14) (249) 15) (249) 16) (249) 17) (249) 20) (249) 21) (249) 22) (249) 23) (249) 25) (249) 26) (249) 27) := hG61.mono (by omega)
  refine rn_putF fi_X12_126 ffX12_29 rfl (by decide +kernel) (by decide) (by omega) (by decide) (by rw [(show rf 249 29 = 269 by decide +kernel)]) dX12_init_323 ?_
  have hG63 : Fr (250 + 20) (uL0 (uL0 (uL0 (uL0 (uL0 (uL0 (uL0 (uL0 (uL0 (uL0 (uL0 (uL0 (uL0 (uL0 (uL0 (uL0 (uL0 (uL0 (uL0 (uL0 (uL0 (uL0 (uL0 (σ) (254) 0 (620680)) (254) 1 (817571)) (254) 2 (30595897)) (254) 3 (40072202)) (254) 4 (6251602)) (254) 5 (31692)) (254) 6 (8974471490)) (254) 7 (8420923)) (254) 8 (407118)) (254) 9 (1014841)) (254) 10 (1167099)) (254) 11 (426554)) (254) 12 (36021333)) (254) 13 (36027290)) (254) 14 (36179249)) (254) 15 (983064)) (254) 16 (19741)) (254) 17 (1891)) (254) 18 (573)) (254) 19 (204478)) (254) 20 (23270970)) (254) 21 (26802)) (254) 22 (6250976)) (st2 (st2 (st2 (st2 (st2 (st2 (st2 (st2 (st2 (st2 (st2 (st2 (st2 (st2 (st2 (st2 (st2 (st2 (st2 (st2 (tX11 τ0) (249) 1) (249) 4) (249) 5) (249) 6) (249) 9) (249) 10) (249) 11) (249) 12) (249) 14) (249) 15) (249) 16) (249) 17) (249) 20) (249) 21) (249) 22) (249) 23) (249) 25) (249) 26) (249) 27) (249) 29) := hG62.st (by omega)
  exact rn_rp (n0 := 250) (k := 20) (z := 11005) (σ := sX12 σ) (τ := tX12) (t := bd (FX12_standsAsAlways 249 (0 : Int32)) (fun _ => bd (FX12_begins 249) (fun _ => pu ()))) ful12 (by decide) (by decide) (by decide) (by rw [ev_bd h1, ev_bd h2]; rfl) X12_end
theorem frX12 {σ : MM} (hF : Fr 250 σ (tX11 τ0)) : Fr (250 + 20) (sX12 σ) tX12 := by
  have hF1 : Fr (250 + 1) (σ) (tX11 τ0) := hF.mono (by omega)
  have hF2 : Fr (250 + 1) (σ) (st2 (tX11 τ0) (249) 1) := hF1.st (by omega)
  have hF3 : Fr (250 + 2) (σ) (st2 (tX11 τ0) (249) 1) := hF2.mono (by omega)
  have hF4 : Fr (250 + 2) (σ) (st2 (st2 (tX11 τ0) (249) 1) (249) 4) := hF3.st (by omega)
  have hF5 : Fr (250 + 3) (σ) (st2 (st2 (tX11 τ0) (249) 1) (249) 4) := hF4.mono (by omega)
  have hF6 : Fr (250 + 3) (σ) (st2 (st2 (st2 (tX11 τ0) (249) 1) (249) 4) (249) 5) := hF5.st (by omega)
  have hF7 : Fr (250 + 4) (σ) (st2 (st2 (st2 (tX11 τ0) (249) 1) (249) 4) (249) 5) := hF6.mono (by omega)
  have hF8 : Fr (250 + 4) (σ) (st2 (st2 (st2 (st2 (tX11 τ0) (249) 1) (249) 4) (249) 5) (249) 6) := hF7.st (by omega)
  have hF9 : Fr (250 + 5) (σ) (st2 (st2 (st2 (st2 (tX11 τ0) (249) 1) (249) 4) (249) 5) (249) 6) := hF8.mono (by omega)
  have hF10 : Fr (250 + 5) (uL0 (σ) (254) 0 (620680)) (st2 (st2 (st2 (st2 (tX11 τ0) (249) 1) (249) 4) (249) 5) (249) 6) := hF9.uL (by omega)
  have hF11 : Fr (250 + 5) (uL0 (uL0 (σ) (254) 0 (620680)) (254) 1 (817571)) (st2 (st2 (st2 (st2 (tX11 τ0) (249) 1) (249) 4) (249) 5) (249) 6) := hF10.uL (by omega)
  have hF12 : Fr (250 + 5) (uL0 (uL0 (uL0 (σ) (254) 0 (620680)) (254) 1 (817571)) (254) 2 (30595897)) (st2 (st2 (st2 (st2 (tX11 τ0) (249) 1) (249) 4) (249) 5) (249) 6) := hF11.uL (by omega)
  have hF13 : Fr (250 + 5) (uL0 (uL0 (uL0 (uL0 (σ) (254) 0 (620680)) (254) 1 (817571)) (254) 2 (30595897)) (254) 3 (40072202)) (st2 (st2 (st2 (st2 (tX11 τ0) (249) 1) (249) 4) (249) 5) (249) 6) := hF12.uL (by omega)
  have hF14 : Fr (250 + 5) (uL0 (uL0 (uL0 (uL0 (uL0 (σ) (254) 0 (620680)) (254) 1 (817571)) (254) 2 (30595897)) (254) 3 (40072202)) (254) 4 (6251602)) (st2 (st2 (st2 (st2 (tX11 τ0) (249) 1) (249) 4) (249) 5) (249) 6) := hF13.uL (by omega)
  have hF15 : Fr (250 + 5) (uL0 (uL0 (uL0 (uL0 (uL0 (uL0 (σ) (254) 0 (620680)) (254) 1 (817571)) (254) 2 (30595897)) (254) 3 (40072202)) (254) 4 (6251602)) (254) 5 (31692)) (st2 (st2 (st2 (st2 (tX11 τ0) (249) 1) (249) 4) (249) 5) (249) 6) := hF14.uL (by omega)
  have hF16 : Fr (250 + 5) (uL0 (uL0 (uL0 (uL0 (uL0 (uL0 (uL0 (σ) (254) 0 (620680)) (254) 1 (817571)) (254) 2 (30595897)) (254) 3 (40072202)) (254) 4 (6251602)) (254) 5 (31692)) (254) 6 (8974471490)) (st2 (st2 (st2 (st2 (tX11 τ0) (249) 1) (249) 4) (249) 5) (249) 6) := hF15.uL (by omega)
  have hF17 : Fr (250 + 5) (uL0 (uL0 (uL0 (uL0 (uL0 (uL0 (uL0 (uL0 (σ) (254) 0 (620680)) (254) 1 (817571)) (254) 2 (30595897)) (254) 3 (40072202)) (254) 4 (6251602)) (254) 5 (31692)) (254) 6 (8974471490)) (254) 7 (8420923)) (st2 (st2 (st2 (st2 (tX11 τ0) (249) 1) (249) 4) (249) 5) (249) 6) := hF16.uL (by omega)
  have hF18 : Fr (250 + 5) (uL0 (uL0 (uL0 (uL0 (uL0 (uL0 (uL0 (uL0 (uL0 (σ) (254) 0 (620680)) (254) 1 (817571)) (254) 2 (30595897)) (254) 3 (40072202)) (254) 4 (6251602)) (254) 5 (31692)) (254) 6 (8974471490)) (254) 7 (8420923)) (254) 8 (407118)) (st2 (st2 (st2 (st2 (tX11 τ0) (249) 1) (249) 4) (249) 5) (249) 6) := hF17.uL (by omega)
  have hF19 : Fr (250 + 5) (uL0 (uL0 (uL0 (uL0 (uL0 (uL0 (uL0 (uL0 (uL0 (uL0 (σ) (254) 0 (620680)) (254) 1 (817571)) (254) 2 (30595897)) (254) 3 (40072202)) (254) 4 (6251602)) (254) 5 (31692)) (254) 6 (8974471490)) (254) 7 (8420923)) (254) 8 (407118)) (254) 9 (1014841)) (st2 (st2 (st2 (st2 (tX11 τ0) (249) 1) (249) 4) (249) 5) (249) 6) := hF18.uL (by omega)
  have hF20 : Fr (250 + 5) (uL0 (uL0 (uL0 (uL0 (uL0 (uL0 (uL0 (uL0 (uL0 (uL0 (uL0 (σ) (254) 0 (620680)) (254) 1 (817571)) (254) 2 (30595897)) (254) 3 (40072202)) (254) 4 (6251602)) (254) 5 (31692)) (254) 6 (8974471490)) (254) 7 (8420923)) (254) 8 (407118)) (254) 9 (1014841)) (254) 10 (1167099)) (st2 (st2 (st2 (st2 (tX11 τ0) (249) 1) (249) 4) (249) 5) (249) 6) := hF19.uL (by omega)
  have hF21 : Fr (250 + 5) (uL0 (uL0 (uL0 (uL0 (uL0 (uL0 (uL0 (uL0 (uL0 (uL0 (uL0 (uL0 (σ) (254) 0 (620680)) (254) 1 (817571)) (254) 2 (30595897)) (254) 3 (40072202)) (254) 4 (6251602)) (254) 5 (31692)) (254) 6 (8974471490)) (254) 7 (8420923)) (254) 8 (407118)) (254) 9 (1014841)) (254) 10 (1167099)) (254) 11 (426554)) (st2 (st2 (st2 (st2 (tX11 τ0) (249) 1) (249) 4) (249) 5) (249) 6) := hF20.uL (by omega)
  have hF22 : Fr (250 + 5) (uL0 (uL0 (uL0 (uL0 (uL0 (uL0 (uL0 (uL0 (uL0 (uL0 (uL0 (uL0 (uL0 (σ) (254) 0 (620680)) (254) 1 (817571)) (254) 2 (30595897)) (254) 3 (40072202)) (254) 4 (6251602)) (254) 5 (31692)) (254) 6 (8974471490)) (254) 7 (8420923)) (254) 8 (407118)) (254) 9 (1014841)) (254) 10 (1167099)) (254) 11 (426554)) (254) 12 (36021333)) (st2 (st2 (st2 (st2 (tX11 τ0) (249) 1) (249) 4) (249) 5) (249) 6) := hF21.uL (by omega)
  have hF23 : Fr (250 + 5) (uL0 (uL0 (uL0 (uL0 (uL0 (uL0 (uL0 (uL0 (uL0 (uL0 (uL0 (uL0 (uL0 (uL0 (σ) (254) 0 (620680)) (254) 1 (817571)) (254) 2 (30595897)) (254) 3 (40072202)) (254) 4 (6251602)) (254) 5 (31692)) (254) 6 (8974471490)) (254) 7 (8420923)) (254) 8 (407118)) (254) 9 (1014841)) (254) 10 (1167099)) (254) 11 (426554)) (254) 12 (36021333)) (254) 13 (36027290)) (st2 (st2 (st2 (st2 (tX11 τ0) (249) 1) (249) 4) (249) 5) (249) 6) := hF22.uL (by omega)
  have hF24 : Fr (250 + 5) (uL0 (uL0 (uL0 (uL0 (uL0 (uL0 (uL0 (uL0 (uL0 (uL0 (uL0 (uL0 (uL0 (uL0 (uL0 (σ) (254) 0 (620680)) (254) 1 (817571)) (254) 2 (30595897)) (254) 3 (40072202)) (254) 4 (6251602)) (254) 5 (31692)) (254) 6 (8974471490)) (254) 7 (8420923)) (254) 8 (407118)) (254) 9 (1014841)) (254) 10 (1167099)) (254) 11 (426554)) (254) 12 (36021333)) (254) 13 (36027290)) (254) 14 (36179249)) (st2 (st2 (st2 (st2 (tX11 τ0) (249) 1) (249) 4) (249) 5) (249) 6) := hF23.uL (by omega)
  have hF25 : Fr (250 + 5) (uL0 (uL0 (uL0 (uL0 (uL0 (uL0 (uL0 (uL0 (uL0 (uL0 (uL0 (uL0 (uL0 (uL0 (uL0 (uL0 (σ) (254) 0 (620680)) (254) 1 (817571)) (254) 2 (30595897)) (254) 3 (40072202)) (254) 4 (6251602)) (254) 5 (31692)) (254) 6 (8974471490)) (254) 7 (8420923)) (254) 8 (407118)) (254) 9 (1014841)) (254) 10 (1167099)) (254) 11 (426554)) (254) 12 (36021333)) (254) 13 (36027290)) (254) 14 (36179249)) (254) 15 (983064)) (st2 (st2 (st2 (st2 (tX11 τ0) (249) 1) (249) 4) (249) 5) (249) 6) := hF24.uL (by omega)
  have hF26 : Fr (250 + 5) (uL0 (uL0 (uL0 (uL0 (uL0 (uL0 (uL0 (uL0 (uL0 (uL0 (uL0 (uL0 (uL0 (uL0 (uL0 (uL0 (uL0 (σ) (254) 0 (620680)) (254) 1 (817571)) (254) 2 (30595897)) (254) 3 (40072202)) (254) 4 (6251602)) (254) 5 (31692)) (254) 6 (8974471490)) (254) 7 (8420923)) (254) 8 (407118)) (254) 9 (1014841)) (254) 10 (1167099)) (254) 11 (426554)) (254) 12 (36021333)) (254) 13 (36027290)) (254) 14 (36179249)) (254) 15 (983064)) (254) 16 (19741)) (st2 (st2 (st2 (st2 (tX11 τ0) (249) 1) (249) 4) (249) 5) (249) 6) := hF25.uL (by omega)
  have hF27 : Fr (250 + 5) (uL0 (uL0 (uL0 (uL0 (uL0 (uL0 (uL0 (uL0 (uL0 (uL0 (uL0 (uL0 (uL0 (uL0 (uL0 (uL0 (uL0 (uL0 (σ) (254) 0 (620680)) (254) 1 (817571)) (254) 2 (30595897)) (254) 3 (40072202)) (254) 4 (6251602)) (254) 5 (31692)) (254) 6 (8974471490)) (254) 7 (8420923)) (254) 8 (407118)) (254) 9 (1014841)) (254) 10 (1167099)) (254) 11 (426554)) (254) 12 (36021333)) (254) 13 (36027290)) (254) 14 (36179249)) (254) 15 (983064)) (254) 16 (19741)) (254) 17 (1891)) (st2 (st2 (st2 (st2 (tX11 τ0) (249) 1) (249) 4) (249) 5) (249) 6) := hF26.uL (by omega)
  have hF28 : Fr (250 + 5) (uL0 (uL0 (uL0 (uL0 (uL0 (uL0 (uL0 (uL0 (uL0 (uL0 (uL0 (uL0 (uL0 (uL0 (uL0 (uL0 (uL0 (uL0 (uL0 (σ) (254) 0 (620680)) (254) 1 (817571)) (254) 2 (30595897)) (254) 3 (40072202)) (254) 4 (6251602)) (254) 5 (31692)) (254) 6 (8974471490)) (254) 7 (8420923)) (254) 8 (407118)) (254) 9 (1014841)) (254) 10 (1167099)) (254) 11 (426554)) (254) 12 (36021333)) (254) 13 (36027290)) (254) 14 (36179249)) (254) 15 (983064)) (254) 16 (19741)) (254) 17 (1891)) (254) 18 (573)) (st2 (st2 (st2 (st2 (tX11 τ0) (249) 1) (249) 4) (249) 5) (249) 6) := hF27.uL (by omega)
  have hF29 : Fr (250 + 5) (uL0 (uL0 (uL0 (uL0 (uL0 (uL0 (uL0 (uL0 (uL0 (uL0 (uL0 (uL0 (uL0 (uL0 (uL0 (uL0 (uL0 (uL0 (uL0 (uL0 (σ) (254) 0 (620680)) (254) 1 (817571)) (254) 2 (30595897)) (254) 3 (40072202)) (254) 4 (6251602)) (254) 5 (31692)) (254) 6 (8974471490)) (254) 7 (8420923)) (254) 8 (407118)) (254) 9 (1014841)) (254) 10 (1167099)) (254) 11 (426554)) (254) 12 (36021333)) (254) 13 (36027290)) (254) 14 (36179249)) (254) 15 (983064)) (254) 16 (19741)) (254) 17 (1891)) (254) 18 (573)) (254) 19 (204478)) (st2 (st2 (st2 (st2 (tX11 τ0) (249) 1) (249) 4) (249) 5) (249) 6) := hF28.uL (by omega)
  have hF30 : Fr (250 + 5) (uL0 (uL0 (uL0 (uL0 (uL0 (uL0 (uL0 (uL0 (uL0 (uL0 (uL0 (uL0 (uL0 (uL0 (uL0 (uL0 (uL0 (uL0 (uL0 (uL0 (uL0 (σ) (254) 0 (620680)) (254) 1 (817571)) (254) 2 (30595897)) (254) 3 (40072202)) (254) 4 (6251602)) (254) 5 (31692)) (254) 6 (8974471490)) (254) 7 (8420923)) (254) 8 (407118)) (254) 9 (1014841)) (254) 10 (1167099)) (254) 11 (426554)) (254) 12 (36021333)) (254) 13 (36027290)) (254) 14 (36179249)) (254) 15 (983064)) (254) 16 (19741)) (254) 17 (1891)) (254) 18 (573)) (254) 19 (204478)) (254) 20 (23270970)) (st2 (st2 (st2 (st2 (tX11 τ0) (249) 1) (249) 4) (249) 5) (249) 6) := hF29.uL (by omega)
  have hF31 : Fr (250 + 5) (uL0 (uL0 (uL0 (uL0 (uL0 (uL0 (uL0 (uL0 (uL0 (uL0 (uL0 (uL0 (uL0 (uL0 (uL0 (uL0 (uL0 (uL0 (uL0 (uL0 (uL0 (uL0 (σ) (254) 0 (620680)) (254) 1 (817571)) (254) 2 (30595897)) (254) 3 (40072202)) (254) 4 (6251602)) (254) 5 (31692)) (254) 6 (8974471490)) (254) 7 (8420923)) (254) 8 (407118)) (254) 9 (1014841)) (254) 10 (1167099)) (254) 11 (426554)) (254) 12 (36021333)) (254) 13 (36027290)) (254) 14 (36179249)) (254) 15 (983064)) (254) 16 (19741)) (254) 17 (1891)) (254) 18 (573)) (254) 19 (204478)) (254) 20 (23270970)) (254) 21 (26802)) (st2 (st2 (st2 (st2 (tX11 τ0) (249) 1) (249) 4) (249) 5) (249) 6) := hF30.uL (by omega)
  have hF32 : Fr (250 + 5) (uL0 (uL0 (uL0 (uL0 (uL0 (uL0 (uL0 (uL0 (uL0 (uL0 (uL0 (uL0 (uL0 (uL0 (uL0 (uL0 (uL0 (uL0 (uL0 (uL0 (uL0 (uL0 (uL0 (σ) (254) 0 (620680)) (254) 1 (817571)) (254) 2 (30595897)) (254) 3 (40072202)) (254) 4 (6251602)) (254) 5 (31692)) (254) 6 (8974471490)) (254) 7 (8420923)) (254) 8 (407118)) (254) 9 (1014841)) (254) 10 (1167099)) (254) 11 (426554)) (254) 12 (36021333)) (254) 13 (36027290)) (254) 14 (36179249)) (254) 15 (983064)) (254) 16 (19741)) (254) 17 (1891)) (254) 18 (573)) (254) 19 (204478)) (254) 20 (23270970)) (254) 21 (26802)) (254) 22 (6250976)) (st2 (st2 (st2 (st2 (tX11 τ0) (249) 1) (249) 4) (249) 5) (249) 6) := hF31.uL (by omega)
  have hF33 : Fr (250 + 5) (uL0 (uL0 (uL0 (uL0 (uL0 (uL0 (uL0 (uL0 (uL0 (uL0 (uL0 (uL0 (uL0 (uL0 (uL0 (uL0 (uL0 (uL0 (uL0 (uL0 (uL0 (uL0 (uL0 (σ) (254) 0 (620680)) (254) 1 (817571)) (254) 2 (30595897)) (254) 3 (40072202)) (254) 4 (6251602)) (254) 5 (31692)) (254) 6 (8974471490)) (254) 7 (8420923)) (254) 8 (407118)) (254) 9 (1014841)) (254) 10 (1167099)) (254) 11 (426554)) (254) 12 (36021333)) (254) 13 (36027290)) (254) 14 (36179249)) (254) 15 (983064)) (254) 16 (19741)) (254) 17 (1891)) (254) 18 (573)) (254) 19 (204478)) (254) 20 (23270970)) (254) 21 (26802)) (254) 22 (6250976)) (st2 (st2 (st2 (st2 (st2 (tX11 τ0) (249) 1) (249) 4) (249) 5) (249) 6) (249) 9) := hF32.st (by omega)
  have hF34 : Fr (250 + 6) (uL0 (uL0 (uL0 (uL0 (uL0 (uL0 (uL0 (uL0 (uL0 (uL0 (uL0 (uL0 (uL0 (uL0 (uL0 (uL0 (uL0 (uL0 (uL0 (uL0 (uL0 (uL0 (uL0 (σ) (254) 0 (620680)) (254) 1 (817571)) (254) 2 (30595897)) (254) 3 (40072202)) (254) 4 (6251602)) (254) 5 (31692)) (254) 6 (8974471490)) (254) 7 (8420923)) (254) 8 (407118)) (254) 9 (1014841)) (254) 10 (1167099)) (254) 11 (426554)) (254) 12 (36021333)) (254) 13 (36027290)) (254) 14 (36179249)) (254) 15 (983064)) (254) 16 (19741)) (254) 17 (1891)) (254) 18 (573)) (254) 19 (204478)) (254) 20 (23270970)) (254) 21 (26802)) (254) 22 (6250976)) (st2 (st2 (st2 (st2 (st2 (tX11 τ0) (249) 1) (249) 4) (249) 5) (249) 6) (249) 9) := hF33.mono (by omega)
  have hF35 : Fr (250 + 6) (uL0 (uL0 (uL0 (uL0 (uL0 (uL0 (uL0 (uL0 (uL0 (uL0 (uL0 (uL0 (uL0 (uL0 (uL0 (uL0 (uL0 (uL0 (uL0 (uL0 (uL0 (uL0 (uL0 (σ) (254) 0 (620680)) (254) 1 (817571)) (254) 2 (30595897)) (254) 3 (40072202)) (254) 4 (6251602)) (254) 5 (31692)) (254) 6 (8974471490)) (254) 7 (8420923)) (254) 8 (407118)) (254) 9 (1014841)) (254) 10 (1167099)) (254) 11 (426554)) (254) 12 (36021333)) (254) 13 (36027290)) (254) 14 (36179249)) (254) 15 (983064)) (254) 16 (19741)) (254) 17 (1891)) (254) 18 (573)) (254) 19 (204478)) (254) 20 (23270970)) (254) 21 (26802)) (254) 22 (6250976)) (st2 (st2 (st2 (st2 (st2 (st2 (tX11 τ0) (249) 1) (249) 4) (249) 5) (249) 6) (249) 9) (249) 10) := hF34.st (by omega)
  have hF36 : Fr (250 + 7) (uL0 (uL0 (uL0 (uL0 (uL0 (uL0 (uL0 (uL0 (uL0 (uL0 (uL0 (uL0 (uL0 (uL0 (uL0 (uL0 (uL0 (uL0 (uL0 (uL0 (uL0 (uL0 (uL0 (σ) (254) 0 (620680)) (254) 1 (817571)) (254) 2 (30595897)) (254) 3 (40072202)) (254) 4 (6251602)) (254) 5 (31692)) (254) 6 (8974471490)) (254) 7 (8420923)) (254) 8 (407118)) (254) 9 (1014841)) (254) 10 (1167099)) (254) 11 (426554)) (254) 12 (36021333)) (254) 13 (36027290)) (254) 14 (36179249)) (254) 15 (983064)) (254) 16 (19741)) (254) 17 (1891)) (254) 18 (573)) (254) 19 (204478)) (254) 20 (23270970)) (254) 21 (26802)) (254) 22 (6250976)) (st2 (st2 (st2 (st2 (st2 (st2 (tX11 τ0) (249) 1) (249) 4) (249) 5) (249) 6) (249) 9) (249) 10) := hF35.mono (by omega)
  have hF37 : Fr (250 + 7) (uL0 (uL0 (uL0 (uL0 (uL0 (uL0 (uL0 (uL0 (uL0 (uL0 (uL0 (uL0 (uL0 (uL0 (uL0 (uL0 (uL0 (uL0 (uL0 (uL0 (uL0 (uL0 (uL0 (σ) (254) 0 (620680)) (254) 1 (817571)) (254) 2 (30595897)) (254) 3 (40072202)) (254) 4 (6251602)) (254) 5 (31692)) (254) 6 (8974471490)) (254) 7 (8420923)) (254) 8 (407118)) (254) 9 (1014841)) (254) 10 (1167099)) (254) 11 (426554)) (254) 12 (36021333)) (254) 13 (36027290)) (254) 14 (36179249)) (254) 15 (983064)) (254) 16 (19741)) (254) 17 (1891)) (254) 18 (573)) (254) 19 (204478)) (254) 20 (23270970)) (254) 21 (26802)) (254) 22 (6250976)) (st2 (st2 (st2 (st2 (st2 (st2 (st2 (tX11 τ0) (249) 1) (249) 4) (249) 5) (249) 6) (249) 9) (249) 10) (249) 11) := hF36.st (by omega)
  have hF38 : Fr (250 + 8) (uL0 (uL0 (uL0 (uL0 (uL0 (uL0 (uL0 (uL0 (uL0 (uL0 (uL0 (uL0 (uL0 (uL0 (uL0 (uL0 (uL0 (uL0 (uL0 (uL0 (uL0 (uL0 (uL0 (σ) (254) 0 (620680)) (254) 1 (817571)) (254) 2 (30595897)) (254) 3 (40072202)) (254) 4 (6251602)) (254) 5 (31692)) (254) 6 (8974471490)) (254) 7 (8420923)) (254) 8 (407118)) (254) 9 (1014841)) (254) 10 (1167099)) (254) 11 (426554)) (254) 12 (36021333)) (254) 13 (36027290)) (254) 14 (36179249)) (254) 15 (983064)) (254) 16 (19741)) (254) 17 (1891)) (254) 18 (573)) (254) 19 (204478)) (254) 20 (23270970)) (254) 21 (26802)) (254) 22 (6250976)) (st2 (st2 (st2 (st2 (st2 (st2 (st2 (tX11 τ0) (249) 1) (249) 4) (249) 5) (249) 6) (249) 9) (249) 10) (249) 11) := hF37.mono (by omega)
  have hF39 : Fr (250 + 8) (uL0 (uL0 (uL0 (uL0 (uL0 (uL0 (uL0 (uL0 (uL0 (uL0 (uL0 (uL0 (uL0 (uL0 (uL0 (uL0 (uL0 (uL0 (uL0 (uL0 (uL0 (uL0 (uL0 (σ) (254) 0 (620680)) (254) 1 (817571)) (254) 2 (30595897)) (254) 3 (40072202)) (254) 4 (6251602)) (254) 5 (31692)) (254) 6 (8974471490)) (254) 7 (8420923)) (254) 8 (407118)) (254) 9 (1014841)) (254) 10 (1167099)) (254) 11 (426554)) (254) 12 (36021333)) (254) 13 (36027290)) (254) 14 (36179249)) (254) 15 (983064)) (254) 16 (19741)) (254) 17 (1891)) (254) 18 (573)) (254) 19 (204478)) (254) 20 (23270970)) (254) 21 (26802)) (254) 22 (6250976)) (st2 (st2 (st2 (st2 (st2 (st2 (st2 (st2 (tX11 τ0) (249) 1) (249) 4) (249) 5) (249) 6) (249) 9) (249) 10) (249) 11) (249) 12) := hF38.st (by omega)
  have hF40 : Fr (250 + 9) (uL0 (uL0 (uL0 (uL0 (uL0 (uL0 (uL0 (uL0 (uL0 (uL0 (uL0 (uL0 (uL0 (uL0 (uL0 (uL0 (uL0 (uL0 (uL0 (uL0 (uL0 (uL0 (uL0 (σ) (254) 0 (620680)) (254) 1 (817571)) (254) 2 (30595897)) (254) 3 (40072202)) (254) 4 (6251602)) (254) 5 (31692)) (254) 6 (8974471490)) (254) 7 (8420923)) (254) 8 (407118)) (254) 9 (1014841)) (254) 10 (1167099)) (254) 11 (426554)) (254) 12 (36021333)) (254) 13 (36027290)) (254) 14 (36179249)) (254) 15 (983064)) (254) 16 (19741)) (254) 17 (1891)) (254) 18 (573)) (254) 19 (204478)) (254) 20 (23270970)) (254) 21 (26802)) (254) 22 (6250976)) (st2 (st2 (st2 (st2 (st2 (st2 (st2 (st2 (tX11 τ0) (249) 1) (249) 4) (249) 5) (249) 6) (249) 9) (249) 10) (249) 11) (249) 12) := hF39.mono (by omega)
  have hF41 : Fr (250 + 9) (uL0 (uL0 (uL0 (uL0 (uL0 (uL0 (uL0 (uL0 (uL0 (uL0 (uL0 (uL0 (uL0 (uL0 (uL0 (uL0 (uL0 (uL0 (uL0 (uL0 (uL0 (uL0 (uL0 (σ) (254) 0 (620680)) (254) 1 (817571)) (254) 2 (30595897)) (254) 3 (40072202)) (254) 4 (6251602)) (254) 5 (31692)) (254) 6 (8974471490)) (254) 7 (8420923)) (254) 8 (407118)) (254) 9 (1014841)) (254) 10 (1167099)) (254) 11 (426554)) (254) 12 (36021333)) (254) 13 (36027290)) (254) 14 (36179249)) (254) 15 (983064)) (254) 16 (19741)) (254) 17 (1891)) (254) 18 (573)) (254) 19 (204478)) (254) 20 (23270970)) (254) 21 (26802)) (254) 22 (6250976)) (st2 (st2 (st2 (st2 (st2 (st2 (st2 (st2 (st2 (tX11 τ0) (249) 1) (249) 4) (249) 5) (249) 6) (249) 9) (249) 10) (249) 11) (249) 12) (249) 14) := hF40.st (by omega)
  have hF42 : Fr (250 + 10) (uL0 (uL0 (uL0 (uL0 (uL0 (uL0 (uL0 (uL0 (uL0 (uL0 (uL0 (uL0 (uL0 (uL0 (uL0 (uL0 (uL0 (uL0 (uL0 (uL0 (uL0 (uL0 (uL0 (σ) (254) 0 (620680)) (254) 1 (817571)) (254) 2 (30595897)) (254) 3 (40072202)) (254) 4 (6251602)) (254) 5 (31692)) (254) 6 (8974471490)) (254) 7 (8420923)) (254) 8 (407118)) (254) 9 (1014841)) (254) 10 (1167099)) (254) 11 (426554)) (254) 12 (36021333)) (254) 13 (36027290)) (254) 14 (36179249)) (254) 15 (983064)) (254) 16 (19741)) (254) 17 (1891)) (254) 18 (573)) (254) 19 (204478)) (254) 20 (23270970)) (254) 21 (26802)) (254) 22 (6250976)) (st2 (st2 (st2 (st2 (st2 (st2 (st2 (st2 (st2 (tX11 τ0) (249) 1) (249) 4) (249) 5) (249) 6) (249) 9) (249) 10) (249) 11) (249) 12) (249) 14) := hF41.mono (by omega)
  have hF43 : Fr (250 + 10) (uL0 (uL0 (uL0 (uL0 (uL0 (uL0 (uL0 (uL0 (uL0 (uL0 (uL0 (uL0 (uL0 (uL0 (uL0 (uL0 (uL0 (uL0 (uL0 (uL0 (uL0 (uL0 (uL0 (σ) (254) 0 (620680)) (254) 1 (817571)) (254) 2 (30595897)) (254) 3 (40072202)) (254) 4 (6251602)) (254) 5 (31692)) (254) 6 (8974471490)) (254) 7 (8420923)) (254) 8 (407118)) (254) 9 (1014841)) (254) 10 (1167099)) (254) 11 (426554)) (254) 12 (36021333)) (254) 13 (36027290)) (254) 14 (36179249)) (254) 15 (983064)) (254) 16 (19741)) (254) 17 (1891)) (254) 18 (573)) (254) 19 (204478)) (254) 20 (23270970)) (254) 21 (26802)) (254) 22 (6250976)) (st2 (st2 (st2 (st2 (st2 (st2 (st2 (st2 (st2 (st2 (tX11 τ0) (249) 1) (249) 4) (249) 5) (249) 6) (249) 9) (249) 10) (249) 11) (249) 12) (249) 14) (249) 15) := hF42.st (by omega)
  have hF44 : Fr (250 + 11) (uL0 (uL0 (uL0 (uL0 (uL0 (uL0 (uL0 (uL0 (uL0 (uL0 (uL0 (uL0 (uL0 (uL0 (uL0 (uL0 (uL0 (uL0 (uL0 (uL0 (uL0 (uL0 (uL0 (σ) (254) 0 (620680)) (254) 1 (817571)) (254) 2 (30595897)) (254) 3 (40072202)) (254) 4 (6251602)) (254) 5 (31692)) (254) 6 (8974471490)) (254) 7 (8420923)) (254) 8 (407118)) (254) 9 (1014841)) (254) 10 (1167099)) (254) 11 (426554)) (254) 12 (36021333)) (254) 13 (36027290)) (254) 14 (36179249)) (254) 15 (983064)) (254) 16 (19741)) (254) 17 (1891)) (254) 18 (573)) (254) 19 (204478)) (254) 20 (23270970)) (254) 21 (26802)) (254) 22 (6250976)) (st2 (st2 (st2 (st2 (st2 (st2 (st2 (st2 (st2 (st2 (tX11 τ0) (249) 1) (249) 4) (249) 5) (249) 6) (249) 9) (249) 10) (249) 11) (249) 12) (249) 14) (249) 15) := hF43.mono (by omega)
  have hF45 : Fr (250 + 11) (uL0 (uL0 (uL0 (uL0 (uL0 (uL0 (uL0 (uL0 (uL0 (uL0 (uL0 (uL0 (uL0 (uL0 (uL0 (uL0 (uL0 (uL0 (uL0 (uL0 (uL0 (uL0 (uL0 (σ) (254) 0 (620680)) (254) 1 (817571)) (254) 2 (30595897)) (254) 3 (40072202)) (254) 4 (6251602)) (254) 5 (31692)) (254) 6 (8974471490)) (254) 7 (8420923)) (254) 8 (407118)) (254) 9 (1014841)) (254) 10 (1167099)) (254) 11 (426554)) (254) 12 (36021333)) (254) 13 (36027290)) (254) 14 (36179249)) (254) 15 (983064)) (254) 16 (19741)) (254) 17 (1891)) (254) 18 (573)) (254) 19 (204478)) (254) 20 (23270970)) (254) 21 (26802)) (254) 22 (6250976)) (st2 (st2 (st2 (st2 (st2 (st2 (st2 (st2 (st2 (st2 (st2 (tX11 τ0) (249) 1) (249) 4) (249) 5) (249) 6) (249) 9) (249) 10) (249) 11) (249) 12) (249) 14) (249) 15) (249) 16) := hF44.st (by omega)
  have hF46 : Fr (250 + 12) (uL0 (uL0 (uL0 (uL0 (uL0 (uL0 (uL0 (uL0 (uL0 (uL0 (uL0 (uL0 (uL0 (uL0 (uL0 (uL0 (uL0 (uL0 (uL0 (uL0 (uL0 (uL0 (uL0 (σ) (254) 0 (620680)) (254) 1 (817571)) (254) 2 (30595897)) (254) 3 (40072202)) (254) 4 (6251602)) (254) 5 (31692)) (254) 6 (8974471490)) (254) 7 (8420923)) (254) 8 (407118)) (254) 9 (1014841)) (254) 10 (1167099)) (254) 11 (426554)) (254) 12 (36021333)) (254) 13 (36027290)) (254) 14 (36179249)) (254) 15 (983064)) (254) 16 (19741)) (254) 17 (1891)) (254) 18 (573)) (254) 19 (204478)) (254) 20 (23270970)) (254) 21 (26802)) (254) 22 (6250976)) (st2 (st2 (st2 (st2 (st2 (st2 (st2 (st2 (st2 (st2 (st2 (tX11 τ0) (249) 1) (249) 4) (249) 5) (249) 6) (249) 9) (249) 10) (249) 11) (249) 12) (249) 14) (249) 15) (249) 16) := hF45.mono (by omega)
  have hF47 : Fr (250 + 12) (uL0 (uL0 (uL0 (uL0 (uL0 (uL0 (uL0 (uL0 (uL0 (uL0 (uL0 (uL0 (uL0 (uL0 (uL0 (uL0 (uL0 (uL0 (uL0 (uL0 (uL0 (uL0 (uL0 (σ) (254) 0 (620680)) (254) 1 (817571)) (254) 2 (30595897)) (254) 3 (40072202)) (254) 4 (6251602)) (254) 5 (31692)) (254) 6 (8974471490)) (254) 7 (8420923)) (254) 8 (407118)) (254) 9 (1014841)) (254) 10 (1167099)) (254) 11 (426554)) (254) 12 (36021333)) (254) 13 (36027290)) (254) 14 (36179249)) (254) 15 (983064)) (254) 16 (19741)) (254) 17 (1891)) (254) 18 (573)) (254) 19 (204478)) (254) 20 (23270970)) (254) 21 (26802)) (254) 22 (6250976)) (st2 (st2 (st2 (st2 (st2 (st2 (st2 (st2 (st2 (st2 (st2 (st2 (tX11 τ0) (249) 1) (249) 4) (249) 5) (249) 6) (249) 9) (249) 10) (249) 11) (249) 12) (249) 14) (249) 15) (249) 16) (249) 17) := hF46.st (by omega)
  have hF48 : Fr (250 + 13) (uL0 (uL0 (uL0 (uL0 (uL0 (uL0 (uL0 (uL0 (uL0 (uL0 (uL0 (uL0 (uL0 (uL0 (uL0 (uL0 (uL0 (uL0 (uL0 (uL0 (uL0 (uL0 (uL0 (σ) (254) 0 (620680)) (254) 1 (817571)) (254) 2 (30595897)) (254) 3 (40072202)) (254) 4 (6251602)) (254) 5 (31692)) (254) 6 (8974471490)) (254) 7 (8420923)) (254) 8 (407118)) (254) 9 (1014841)) (254) 10 (1167099)) (254) 11 (426554)) (254) 12 (36021333)) (254) 13 (36027290)) (254) 14 (36179249)) (254) 15 (983064)) (254) 16 (19741)) (254) 17 (1891)) (254) 18 (573)) (254) 19 (204478)) (254) 20 (23270970)) (254) 21 (26802)) (254) 22 (6250976)) (st2 (st2 (st2 (st2 (st2 (st2 (st2 (st2 (st2 (st2 (st2 (st2 (tX11 τ0) (249) 1) (249) 4) (249) 5) (249) 6) (249) 9) (249) 10) (249) 11) (249) 12) (249) 14) (249) 15) (249) 16) (249) 17) := hF47.mono (by omega)
  have hF49 : Fr (250 + 13) (uL0 (uL0 (uL0 (uL0 (uL0 (uL0 (uL0 (uL0 (uL0 (uL0 (uL0 (uL0 (uL0 (uL0 (uL0 (uL0 (uL0 (uL0 (uL0 (uL0 (uL0 (uL0 (uL0 (σ) (254) 0 (620680)) (254) 1 (817571)) (254) 2 (30595897)) (254) 3 (40072202)) (254) 4 (6251602)) (254) 5 (31692)) (254) 6 (8974471490)) (254) 7 (8420923)) (254) 8 (407118)) (254) 9 (1014841)) (254) 10 (1167099)) (254) 11 (426554)) (254) 12 (36021333)) (254) 13 (36027290)) (254) 14 (36179249)) (254) 15 (983064)) (254) 16 (19741)) (254) 17 (1891)) (254) 18 (573)) (254) 19 (204478)) (254) 20 (23270970)) (254) 21 (26802)) (254) 22 (6250976)) (st2 (st2 (st2 (st2 (st2 (st2 (st2 (st2 (st2 (st2 (st2 (st2 (st2 (tX11 τ0) (249) 1) (249) 4) (249) 5) (249) 6) (249) 9) (249) 10) (249) 11) (249) 12) (249) 14) (249) 15) (249) 16) (249) 17) (249) 20) := hF48.st (by omega)
  have hF50 : Fr (250 + 14) (uL0 (uL0 (uL0 (uL0 (uL0 (uL0 (uL0 (uL0 (uL0 (uL0 (uL0 (uL0 (uL0 (uL0 (uL0 (uL0 (uL0 (uL0 (uL0 (uL0 (uL0 (uL0 (uL0 (σ) (254) 0 (620680)) (254) 1 (817571)) (254) 2 (30595897)) (254) 3 (40072202)) (254) 4 (6251602)) (254) 5 (31692)) (254) 6 (8974471490)) (254) 7 (8420923)) (254) 8 (407118)) (254) 9 (1014841)) (254) 10 (1167099)) (254) 11 (426554)) (254) 12 (36021333)) (254) 13 (36027290)) (254) 14 (36179249)) (254) 15 (983064)) (254) 16 (19741)) (254) 17 (1891)) (254) 18 (573)) (254) 19 (204478)) (254) 20 (23270970)) (254) 21 (26802)) (254) 22 (6250976)) (st2 (st2 (st2 (st2 (st2 (st2 (st2 (st2 (st2 (st2 (st2 (st2 (st2 (tX11 τ0) (249) 1) (249) 4) (249) 5) (249) 6) (249) 9) (249) 10) (249) 11) (249) 12) (249) 14) (249) 15) (249) 16) (249) 17) (249) 20) := hF49.mono (by omega)
  have hF51 : Fr (250 + 14) (uL0 (uL0 (uL0 (uL0 (uL0 (uL0 (uL0 (uL0 (uL0 (uL0 (uL0 (uL0 (uL0 (uL0 (uL0 (uL0 (uL0 (uL0 (uL0 (uL0 (uL0 (uL0 (uL0 (σ) (254) 0 (620680)) (254) 1 (817571)) (254) 2 (30595897)) (254) 3 (40072202)) (254) 4 (6251602)) (254) 5 (31692)) (254) 6 (8974471490)) (254) 7 (8420923)) (254) 8 (407118)) (254) 9 (1014841)) (254) 10 (1167099)) (254) 11 (426554)) (254) 12 (36021333)) (254) 13 (36027290)) (254) 14 (36179249)) (254) 15 (983064)) (254) 16 (19741)) (254) 17 (1891)) (254) 18 (573)) (254) 19 (204478)) (254) 20 (23270970)) (254) 21 (26802)) (254) 22 (6250976)) (st2 (st2 (st2 (st2 (st2 (st2 (st2 (st2 (st2 (st2 (st2 (st2 (st2 (st2 (tX11 τ0) (249) 1) (249) 4) (249) 5) (249) 6) (249) 9) (249) 10) (249) 11) (249) 12) (249) 14) (249) 15) (249) 16) (249) 17) (249) 20) (249) 21) := hF50.st (by omega)
  have hF52 : Fr (250 + 15) (uL0 (uL0 (uL0 (uL0 (uL0 (uL0 (uL0 (uL0 (uL0 (uL0 (uL0 (uL0 (uL0 (uL0 (uL0 (uL0 (uL0 (uL0 (uL0 (uL0 (uL0 (uL0 (uL0 (σ) (254) 0 (620680)) (254) 1 (817571)) (254) 2 (30595897)) (254) 3 (40072202)) (254) 4 (6251602)) (254) 5 (31692)) (254) 6 (8974471490)) (254) 7 (8420923)) (254) 8 (407118)) (254) 9 (1014841)) (254) 10 (1167099)) (254) 11 (426554)) (254) 12 (36021333)) (254) 13 (36027290)) (254) 14 (36179249)) (254) 15 (983064)) (254) 16 (19741)) (254) 17 (1891)) (254) 18 (573)) (254) 19 (204478)) (254) 20 (23270970)) (254) 21 (26802)) (254) 22 (6250976)) (st2 (st2 (st2 (st2 (st2 (st2 (st2 (st2 (st2 (st2 (st2 (st2 (st2 (st2 (tX11 τ0) (249) 1) (249) 4) (249) 5) (249) 6) (249) 9) (249) 10) (249) 11) (249) 12) (249) 14) (249) 15) (249) 16) (249) 17) (249) 20) (249) 21) := hF51.mono (by omega)
  have hF53 : Fr (250 + 15) (uL0 (uL0 (uL0 (uL0 (uL0 (uL0 (uL0 (uL0 (uL0 (uL0 (uL0 (uL0 (uL0 (uL0 (uL0 (uL0 (uL0 (uL0 (uL0 (uL0 (uL0 (uL0 (uL0 (σ) (254) 0 (620680)) (254) 1 (817571)) (254) 2 (30595897)) (254) 3 (40072202)) (254) 4 (6251602)) (254) 5 (31692)) (254) 6 (8974471490)) (254) 7 (8420923)) (254) 8 (407118)) (254) 9 (1014841)) (254) 10 (1167099)) (254) 11 (426554)) (254) 12 (36021333)) (254) 13 (36027290)) (254) 14 (36179249)) (254) 15 (983064)) (254) 16 (19741)) (254) 17 (1891)) (254) 18 (573)) (254) 19 (204478)) (254) 20 (23270970)) (254) 21 (26802)) (254) 22 (6250976)) (st2 (st2 (st2 (st2 (st2 (st2 (st2 (st2 (st2 (st2 (st2 (st2 (st2 (st2 (st2 (tX11 τ0) (249) 1) (249) 4) (249) 5) (249) 6) (249) 9) (249) 10) (249) 11) (249) 12) (249) 14) (249) 15) (249) 16) (249) 17) (249) 20) (249) 21) (249) 22) := hF52.st (by omega)
  have hF54 : Fr (250 + 16) (uL0 (uL0 (uL0 (uL0 (uL0 (uL0 (uL0 (uL0 (uL0 (uL0 (uL0 (uL0 (uL0 (uL0 (uL0 (uL0 (uL0 (uL0 (uL0 (uL0 (uL0 (uL0 (uL0 (σ) (254) 0 (620680)) (254) 1 (817571)) (254) 2 (30595897)) (254) 3 (40072202)) (254) 4 (6251602)) (254) 5 (31692)) (254) 6 (8974471490)) (254) 7 (8420923)) (254) 8 (407118)) (254) 9 (1014841)) (254) 10 (1167099)) (254) 11 (426554)) (254) 12 (36021333)) (254) 13 (36027290)) (254) 14 (36179249)) (254) 15 (983064)) (254) 16 (19741)) (254) 17 (1891)) (254) 18 (573)) (254) 19 (204478)) (254) 20 (23270970)) (254) 21 (26802)) (254) 22 (6250976)) (st2 (st2 (st2 (st2 (st2 (st2 (st2 (st2 (st2 (st2 (st2 (st2 (st2 (st2 (st2 (tX11 τ0) (249) 1) (249) 4) (249) 5) (249) 6) (249) 9) (249) 10) (249) 11) (249) 12) (249) 14) (249) 15) (249) 16) (249) 17) (249) 20) (249) 21) (249) 22) := hF53.mono (by omega)
  have hF55 : Fr (250 + 16) (uL0 (uL0 (uL0 (uL0 (uL0 (uL0 (uL0 (uL0 (uL0 (uL0 (uL0 (uL0 (uL0 (uL0 (uL0 (uL0 (uL0 (uL0 (uL0 (uL0 (uL0 (uL0 (uL0 (σ) (254) 0 (620680)) (254) 1 (817571)) (254) 2 (30595897)) (254) 3 (40072202)) (254) 4 (6251602)) (254) 5 (31692)) (254) 6 (8974471490)) (254) 7 (8420923)) (254) 8 (407118)) (254) 9 (1014841)) (254) 10 (1167099)) (254) 11 (426554)) (254) 12 (36021333)) (254) 13 (36027290)) (254) 14 (36179249)) (254) 15 (983064)) (254) 16 (19741)) (254) 17 (1891)) (254) 18 (573)) (254) 19 (204478)) (254) 20 (23270970)) (254) 21 (26802)) (254) 22 (6250976)) (st2 (st2 (st2 (st2 (st2 (st2 (st2 (st2 (st2 (st2 (st2 (st2 (st2 (st2 (st2 (st2 (tX11 τ0) (249) 1) (249) 4) (249) 5) (249) 6) (249) 9) (249) 10) (249) 11) (249) 12) (249) 14) (249) 15) (249) 16) (249) 17) (249) 20) (249) 21) (249) 22) (249) 23) := hF54.st (by omega)
  have hF56 : Fr (250 + 17) (uL0 (uL0 (uL0 (uL0 (uL0 (uL0 (uL0 (uL0 (uL0 (uL0 (uL0 (uL0 (uL0 (uL0 (uL0 (uL0 (uL0 (uL0 (uL0 (uL0 (uL0 (uL0 (uL0 (σ) (254) 0 (620680)) (254) 1 (817571)) (254) 2 (30595897)) (254) 3 (40072202)) (254) 4 (6251602)) (254) 5 (31692)) (254) 6 (8974471490)) (254) 7 (8420923)) (254) 8 (407118)) (254) 9 (1014841)) (254) 10 (1167099)) (254) 11 (426554)) (254) 12 (36021333)) (254) 13 (36027290)) (254) 14 (36179249)) (254) 15 (983064)) (254) 16 (19741)) (254) 17 (1891)) (254) 18 (573)) (254) 19 (204478)) (254) 20 (23270970)) (254) 21 (26802)) (254) 22 (6250976)) (st2 (st2 (st2 (st2 (st2 (st2 (st2 (st2 (st2 (st2 (st2 (st2 (st2 (st2 (st2 (st2 (tX11 τ0) (249) 1) (249) 4) (249) 5) (249) 6) (249) 9) (249) 10) (249) 11) (249) 12) (249) 14) (249) 15) (249) 16) (249) 17) (249) 20) (249) 21) (249) 22) (249) 23) := hF55.mono (by omega)
  have hF57 : Fr (250 + 17) (uL0 (uL0 (uL0 (uL0 (uL0 (uL0 (uL0 (uL0 (uL0 (uL0 (uL0 (uL0 (uL0 (uL0 (uL0 (uL0 (uL0 (uL0 (uL0 (uL0 (uL0 (uL0 (uL0 (σ) (254) 0 (620680)) (254) 1 (817571)) (254) 2 (30595897)) (254) 3 (40072202)) (254) 4 (6251602)) (254) 5 (31692)) (254) 6 (8974471490)) (254) 7 (8420923)) (254) 8 (407118)) (254) 9 (1014841)) (254) 10 (1167099)) (254) 11 (426554)) (254) 12 (36021333)) (254) 13 (36027290)) (254) 14 (36179249)) (254) 15 (983064)) (254) 16 (19741)) (254) 17 (1891)) (254) 18 (573)) (254) 19 (204478)) (254) 20 (23270970)) (254) 21 (26802)) (254) 22 (6250976)) (st2 (st2 (st2 (st2 (st2 (st2 (st2 (st2 (st2 (st2 (st2 (st2 (st2 (st2 (st2 (st2 (st2 (tX11 τ0) (249) 1) (249) 4) (249) 5) (249) 6) (249) 9) (249) 10) (249) 11) (249) 12) (249) 14) (249) 15) (249) 16) (249) 17) (249) 20) (249) 21) (249) 22) (249) 23) (249) 25) := hF56.st (by omega)
  have hF58 : Fr (250 + 18) (uL0 (uL0 (uL0 (uL0 (uL0 (uL0 (uL0 (uL0 (uL0 (uL0 (uL0 (uL0 (uL0 (uL0 (uL0 (uL0 (uL0 (uL0 (uL0 (uL0 (uL0 (uL0 (uL0 (σ) (254) 0 (620680)) (254) 1 (817571)) (254) 2 (30595897)) (254) 3 (40072202)) (254) 4 (6251602)) (254) 5 (31692)) (254) 6 (8974471490)) (254) 7 (8420923)) (254) 8 (407118)) (254) 9 (1014841)) (254) 10 (1167099)) (254) 11 (426554)) (254) 12 (36021333)) (254) 13 (36027290)) (254) 14 (36179249)) (254) 15 (983064)) (254) 16 (19741)) (254) 17 (1891)) (254) 18 (573)) (254) 19 (204478)) (254) 20 (23270970)) (254) 21 (26802)) (254) 22 (6250976)) (st2 (st2 (st2 (st2 (st2 (st2 (st2 (st2 (st2 (st2 (st2 (st2 (st2 (st2 (st2 (st2 (st2 (tX11 τ0) (249) 1) (249) 4) (249) 5) (249) 6) (249) 9) (249) 10) (249) 11) (249) 12) (249) 14) (249) 15) (249) 16) (249) 17) (249) 20) (249) 21) (249) 22) (249) 23) (249) 25) := hF57.mono (by omega)
  have hF59 : Fr (250 + 18) (uL0 (uL0 (uL0 (uL0 (uL0 (uL0 (uL0 (uL0 (uL0 (uL0 (uL0 (uL0 (uL0 (uL0 (uL0 (uL0 (uL0 (uL0 (uL0 (uL0 (uL0 (uL0 (uL0 (σ) (254) 0 (620680)) (254) 1 (817571)) (254) 2 (30595897)) (254) 3 (40072202)) (254) 4 (6251602)) (254) 5 (31692)) (254) 6 (8974471490)) (254) 7 (8420923)) (254) 8 (407118)) (254) 9 (1014841)) (254) 10 (1167099)) (254) 11 (426554)) (254) 12 (36021333)) (254) 13 (36027290)) (254) 14 (36179249)) (254) 15 (983064)) (254) 16 (19741)) (254) 17 (1891)) (254) 18 (573)) (254) 19 (204478)) (254) 20 (23270970)) (254) 21 (26802)) (254) 22 (6250976)) (st2 (st2 (st2 (st2 (st2 (st2 (st2 (st2 (st2 (st2 (st2 (st2 (st2 (st2 (st2 (st2 (st2 (st2 (tX11 τ0) (249) 1) (249) 4) (249) 5) (249) 6) (249) 9) (249) 10) (249) 11) (249) 12) (249) 14) (249) 15) (249) 16) (249) 17) (249) 20) (249) 21) (249) 22) (249) 23) (249) 25) (249) 26) := hF58.st (by omega)
  have hF60 : Fr (250 + 19) (uL0 (uL0 (uL0 (uL0 (uL0 (uL0 (uL0 (uL0 (uL0 (uL0 (uL0 (uL0 (uL0 (uL0 (uL0 (uL0 (uL0 (uL0 (uL0 (uL0 (uL0 (uL0 (uL0 (σ) (254) 0 (620680)) (254) 1 (817571)) (254) 2 (30595897)) (254) 3 (40072202)) (254) 4 (6251602)) (254) 5 (31692)) (254) 6 (8974471490)) (254) 7 (8420923)) (254) 8 (407118)) (254) 9 (1014841)) (254) 10 (1167099)) (254) 11 (426554)) (254) 12 (36021333)) (254) 13 (36027290)) (254) 14 (36179249)) (254) 15 (983064)) (254) 16 (19741)) (254) 17 (1891)) (254) 18 (573)) (254) 19 (204478)) (254) 20 (23270970)) (254) 21 (26802)) (254) 22 (6250976)) (st2 (st2 (st2 (st2 (st2 (st2 (st2 (st2 (st2 (st2 (st2 (st2 (st2 (st2 (st2 (st2 (st2 (st2 (tX11 τ0) (249) 1) (249) 4) (249) 5) (249) 6) (249) 9) (249) 10) (249) 11) (249) 12) (249) 14) (249) 15) (249) 16) (249) 17) (249) 20) (249) 21) (249) 22) (249) 23) (249) 25) (249) 26) := hF59.mono (by omega)
  have hF61 : Fr (250 + 19) (uL0 (uL0 (uL0 (uL0 (uL0 (uL0 (uL0 (uL0 (uL0 (uL0 (uL0 (uL0 (uL0 (uL0 (uL0 (uL0 (uL0 (uL0 (uL0 (uL0 (uL0 (uL0 (uL0 (σ) (254) 0 (620680)) (254) 1 (817571)) (254) 2 (30595897)) (254) 3 (40072202)) (254) 4 (6251602)) (254) 5 (31692)) (254) 6 (8974471490)) (254) 7 (8420923)) (254) 8 (407118)) (254) 9 (1014841)) (254) 10 (1167099)) (254) 11 (426554)) (254) 12 (36021333)) (254) 13 (36027290)) (254) 14 (36179249)) (254) 15 (983064)) (254) 16 (19741)) (254) 17 (1891)) (254) 18 (573)) (254) 19 (204478)) (254) 20 (23270970)) (254) 21 (26802)) (254) 22 (6250976)) (st2 (st2 (st2 (st2 (st2 (st2 (st2 (st2 (st2 (st2 (st2 (st2 (st2 (st2 (st2 (st2 (st2 (st2 (st2 (tX11 τ0) (249) 1) (249) 4) (249) 5) (249) 6) (249) 9) (249) 10) (249) 11) (249) 12) (249) 14) (249) 15) (249) 16) (249) 17) (249) 20) (249) 21) (249) 22) (249) 23) (249) 25) (249) 26) (249) 27) := hF60.st (by omega)
  have hF62 : Fr (250 + 20) (uL0 (uL0 (uL0 (uL0 (uL0 (uL0 (uL0 (uL0 (uL0 (uL0 (uL0 (uL0 (uL0 (uL0 (uL0 (uL0 (uL0 (uL0 (uL0 (uL0 (uL0 (uL0 (uL0 (σ) (254) 0 (620680)) (254) 1 (817571)) (254) 2 (30595897)) (254) 3 (40072202)) (254) 4 (6251602)) (254) 5 (31692)) (254) 6 (8974471490)) (254) 7 (8420923)) (254) 8 (407118)) (254) 9 (1014841)) (254) 10 (1167099)) (254) 11 (426554)) (254) 12 (36021333)) (254) 13 (36027290)) (254) 14 (36179249)) (254) 15 (983064)) (254) 16 (19741)) (254) 17 (1891)) (254) 18 (573)) (254) 19 (204478)) (254) 20 (23270970)) (254) 21 (26802)) (254) 22 (6250976)) (st2 (st2 (st2 (st2 (st2 (st2 (st2 (st2 (st2 (st2 (st2 (st2 (st2 (st2 (st2 (st2 (st2 (st2 (st2 (tX11 τ0) (249) 1) (249) 4) (249) 5) (249) 6) (249) 9) (249) 10) (249) 11) (249) 12) (249) 14) (249) 15) (249) 16) (249) 17) (249) 20) (249) 21) (249) 22) (249) 23) (249) 25) (249) 26) (249) 27) := hF61.mono (by omega)
  have hF63 : Fr (250 + 20) (uL0 (uL0 (uL0 (uL0 (uL0 (uL0 (uL0 (uL0 (uL0 (uL0 (uL0 (uL0 (uL0 (uL0 (uL0 (uL0 (uL0 (uL0 (uL0 (uL0 (uL0 (uL0 (uL0 (σ) (254) 0 (620680)) (254) 1 (817571)) (254) 2 (30595897)) (254) 3 (40072202)) (254) 4 (6251602)) (254) 5 (31692)) (254) 6 (8974471490)) (254) 7 (8420923)) (254) 8 (407118)) (254) 9 (1014841)) (254) 10 (1167099)) (254) 11 (426554)) (254) 12 (36021333)) (254) 13 (36027290)) (254) 14 (36179249)) (254) 15 (983064)) (254) 16 (19741)) (254) 17 (1891)) (254) 18 (573)) (254) 19 (204478)) (254) 20 (23270970)) (254) 21 (26802)) (254) 22 (6250976)) (st2 (st2 (st2 (st2 (st2 (st2 (st2 (st2 (st2 (st2 (st2 (st2 (st2 (st2 (st2 (st2 (st2 (st2 (st2 (st2 (tX11 τ0) (249) 1) (249) 4) (249) 5) (249) 6) (249) 9) (249) 10) (249) 11) (249) 12) (249) 14) (249) 15) (249) 16) (249) 17) (249) 20) (249) 21) (249) 22) (249) 23) (249) 25) (249) 26) (249) 27) (249) 29) := hF62.st (by omega)
  exact hF63
