theorem dX12_passes_0 : decode cX12_passes 0 = .ok (.iconst 0, 1) := by decide +kernel
theorem dX12_passes_1 : decode cX12_passes 1 = .ok (.istore_n 3, 1) := by decide +kernel
theorem dX12_passes_2 : decode cX12_passes 2 = .ok (.iconst 0, 1) := by decide +kernel
theorem dX12_passes_3 : decode cX12_passes 3 = .ok (.istore 4, 2) := by decide +kernel
theorem dX12_passes_5 : decode cX12_passes 5 = .ok (.iload 4, 2) := by decide +kernel
theorem dX12_passes_7 : decode cX12_passes 7 = .ok (.aload_n 0, 1) := by decide +kernel
theorem dX12_passes_8 : decode cX12_passes 8 = .ok (.invokevirtual 269, 3) := by decide +kernel
theorem dX12_passes_11 : decode cX12_passes 11 = .ok (.if_icmp .ge 48, 3) := by decide +kernel
theorem dX12_passes_14 : decode cX12_passes 14 = .ok (.iload_n 3, 1) := by decide +kernel
theorem dX12_passes_15 : decode cX12_passes 15 = .ok (.aload_n 0, 1) := by decide +kernel
theorem dX12_passes_16 : decode cX12_passes 16 = .ok (.iload_n 1, 1) := by decide +kernel
theorem dX12_passes_17 : decode cX12_passes 17 = .ok (.iload 4, 2) := by decide +kernel
theorem dX12_passes_19 : decode cX12_passes 19 = .ok (.invokevirtual 294, 3) := by decide +kernel
theorem dX12_passes_22 : decode cX12_passes 22 = .ok (.ifCond .eq 28, 3) := by decide +kernel
theorem dX12_passes_25 : decode cX12_passes 25 = .ok (.aload_n 0, 1) := by decide +kernel
theorem dX12_passes_26 : decode cX12_passes 26 = .ok (.iload_n 1, 1) := by decide +kernel
theorem dX12_passes_27 : decode cX12_passes 27 = .ok (.iload 4, 2) := by decide +kernel
theorem dX12_passes_29 : decode cX12_passes 29 = .ok (.invokevirtual 301, 3) := by decide +kernel
theorem dX12_passes_32 : decode cX12_passes 32 = .ok (.ifCond .eq 18, 3) := by decide +kernel
theorem dX12_passes_35 : decode cX12_passes 35 = .ok (.aload_n 0, 1) := by decide +kernel
theorem dX12_passes_36 : decode cX12_passes 36 = .ok (.iload 4, 2) := by decide +kernel
theorem dX12_passes_38 : decode cX12_passes 38 = .ok (.iconst 0, 1) := by decide +kernel
theorem dX12_passes_39 : decode cX12_passes 39 = .ok (.invokevirtual 273, 3) := by decide +kernel
theorem dX12_passes_42 : decode cX12_passes 42 = .ok (.iconst 1, 1) := by decide +kernel
theorem dX12_passes_43 : decode cX12_passes 43 = .ok (.if_icmp .ne 7, 3) := by decide +kernel
theorem dX12_passes_46 : decode cX12_passes 46 = .ok (.iconst 1, 1) := by decide +kernel
theorem dX12_passes_47 : decode cX12_passes 47 = .ok (.goto 4, 3) := by decide +kernel
theorem dX12_passes_50 : decode cX12_passes 50 = .ok (.iconst 0, 1) := by decide +kernel
theorem dX12_passes_51 : decode cX12_passes 51 = .ok (.iadd, 1) := by decide +kernel
theorem dX12_passes_52 : decode cX12_passes 52 = .ok (.istore_n 3, 1) := by decide +kernel
theorem dX12_passes_53 : decode cX12_passes 53 = .ok (.iinc 4 1, 3) := by decide +kernel
theorem dX12_passes_56 : decode cX12_passes 56 = .ok (.goto (-51), 3) := by decide +kernel
theorem dX12_passes_59 : decode cX12_passes 59 = .ok (.iconst 0, 1) := by decide +kernel
theorem dX12_passes_60 : decode cX12_passes 60 = .ok (.istore 4, 2) := by decide +kernel
theorem dX12_passes_62 : decode cX12_passes 62 = .ok (.iconst 0, 1) := by decide +kernel
theorem dX12_passes_63 : decode cX12_passes 63 = .ok (.istore 5, 2) := by decide +kernel
theorem dX12_passes_65 : decode cX12_passes 65 = .ok (.iload 5, 2) := by decide +kernel
theorem dX12_passes_67 : decode cX12_passes 67 = .ok (.aload_n 0, 1) := by decide +kernel
theorem dX12_passes_68 : decode cX12_passes 68 = .ok (.invokevirtual 269, 3) := by decide +kernel
theorem dX12_passes_71 : decode cX12_passes 71 = .ok (.if_icmp .ge 221, 3) := by decide +kernel
theorem dX12_passes_74 : decode cX12_passes 74 = .ok (.aload_n 0, 1) := by decide +kernel
theorem dX12_passes_75 : decode cX12_passes 75 = .ok (.iload_n 1, 1) := by decide +kernel
theorem dX12_passes_76 : decode cX12_passes 76 = .ok (.iload 5, 2) := by decide +kernel
theorem dX12_passes_78 : decode cX12_passes 78 = .ok (.invokevirtual 294, 3) := by decide +kernel
theorem dX12_passes_81 : decode cX12_passes 81 = .ok (.ifCond .eq 205, 3) := by decide +kernel
theorem dX12_passes_84 : decode cX12_passes 84 = .ok (.iload_n 2, 1) := by decide +kernel
theorem dX12_passes_85 : decode cX12_passes 85 = .ok (.ifCond .eq 201, 3) := by decide +kernel
theorem dX12_passes_88 : decode cX12_passes 88 = .ok (.aload_n 0, 1) := by decide +kernel
theorem dX12_passes_89 : decode cX12_passes 89 = .ok (.getfield 107, 3) := by decide +kernel
theorem dX12_passes_92 : decode cX12_passes 92 = .ok (.iconst 0, 1) := by decide +kernel
theorem dX12_passes_93 : decode cX12_passes 93 = .ok (.aload_n 0, 1) := by decide +kernel
theorem dX12_passes_94 : decode cX12_passes 94 = .ok (.getfield 113, 3) := by decide +kernel
theorem dX12_passes_97 : decode cX12_passes 97 = .ok (.iload_n 1, 1) := by decide +kernel
theorem dX12_passes_98 : decode cX12_passes 98 = .ok (.iconst 1, 1) := by decide +kernel
theorem dX12_passes_99 : decode cX12_passes 99 = .ok (.iadd, 1) := by decide +kernel
theorem dX12_passes_100 : decode cX12_passes 100 = .ok (.iload 5, 2) := by decide +kernel
theorem dX12_passes_102 : decode cX12_passes 102 = .ok (.iadd, 1) := by decide +kernel
theorem dX12_passes_103 : decode cX12_passes 103 = .ok (.iaload, 1) := by decide +kernel
theorem dX12_passes_104 : decode cX12_passes 104 = .ok (.iastore, 1) := by decide +kernel
theorem dX12_passes_105 : decode cX12_passes 105 = .ok (.aload_n 0, 1) := by decide +kernel
theorem dX12_passes_106 : decode cX12_passes 106 = .ok (.getfield 107, 3) := by decide +kernel
theorem dX12_passes_109 : decode cX12_passes 109 = .ok (.iconst 1, 1) := by decide +kernel
theorem dX12_passes_110 : decode cX12_passes 110 = .ok (.iconst 3, 1) := by decide +kernel
theorem dX12_passes_111 : decode cX12_passes 111 = .ok (.aload_n 0, 1) := by decide +kernel
theorem dX12_passes_112 : decode cX12_passes 112 = .ok (.getfield 113, 3) := by decide +kernel
theorem dX12_passes_115 : decode cX12_passes 115 = .ok (.iload_n 1, 1) := by decide +kernel
theorem dX12_passes_116 : decode cX12_passes 116 = .ok (.bipush 13, 2) := by decide +kernel
theorem dX12_passes_118 : decode cX12_passes 118 = .ok (.iadd, 1) := by decide +kernel
theorem dX12_passes_119 : decode cX12_passes 119 = .ok (.iload 5, 2) := by decide +kernel
theorem dX12_passes_121 : decode cX12_passes 121 = .ok (.iadd, 1) := by decide +kernel
theorem dX12_passes_122 : decode cX12_passes 122 = .ok (.iaload, 1) := by decide +kernel
theorem dX12_passes_123 : decode cX12_passes 123 = .ok (.isub, 1) := by decide +kernel
theorem dX12_passes_124 : decode cX12_passes 124 = .ok (.iastore, 1) := by decide +kernel
theorem dX12_passes_125 : decode cX12_passes 125 = .ok (.aload_n 0, 1) := by decide +kernel
theorem dX12_passes_126 : decode cX12_passes 126 = .ok (.getfield 107, 3) := by decide +kernel
theorem dX12_passes_129 : decode cX12_passes 129 = .ok (.iconst 2, 1) := by decide +kernel
theorem dX12_passes_130 : decode cX12_passes 130 = .ok (.iload_n 3, 1) := by decide +kernel
theorem dX12_passes_131 : decode cX12_passes 131 = .ok (.iastore, 1) := by decide +kernel
theorem dX12_passes_132 : decode cX12_passes 132 = .ok (.aload_n 0, 1) := by decide +kernel
theorem dX12_passes_133 : decode cX12_passes 133 = .ok (.getfield 107, 3) := by decide +kernel
theorem dX12_passes_136 : decode cX12_passes 136 = .ok (.iconst 3, 1) := by decide +kernel
theorem dX12_passes_137 : decode cX12_passes 137 = .ok (.aload_n 0, 1) := by decide +kernel
theorem dX12_passes_138 : decode cX12_passes 138 = .ok (.getfield 113, 3) := by decide +kernel
theorem dX12_passes_141 : decode cX12_passes 141 = .ok (.iload_n 1, 1) := by decide +kernel
theorem dX12_passes_142 : decode cX12_passes 142 = .ok (.iconst 0, 1) := by decide +kernel
theorem dX12_passes_143 : decode cX12_passes 143 = .ok (.iadd, 1) := by decide +kernel
theorem dX12_passes_144 : decode cX12_passes 144 = .ok (.iaload, 1) := by decide +kernel
theorem dX12_passes_145 : decode cX12_passes 145 = .ok (.iastore, 1) := by decide +kernel
theorem dX12_passes_146 : decode cX12_passes 146 = .ok (.aload_n 0, 1) := by decide +kernel
theorem dX12_passes_147 : decode cX12_passes 147 = .ok (.getfield 83, 3) := by decide +kernel
theorem dX12_passes_150 : decode cX12_passes 150 = .ok (.iconst 3, 1) := by decide +kernel
theorem dX12_passes_151 : decode cX12_passes 151 = .ok (.iaload, 1) := by decide +kernel
theorem dX12_passes_152 : decode cX12_passes 152 = .ok (.ifCond .ge 14, 3) := by decide +kernel
theorem dX12_passes_155 : decode cX12_passes 155 = .ok (.iconst 1, 1) := by decide +kernel
theorem dX12_passes_156 : decode cX12_passes 156 = .ok (.aload_n 0, 1) := by decide +kernel
theorem dX12_passes_157 : decode cX12_passes 157 = .ok (.getfield 107, 3) := by decide +kernel
theorem dX12_passes_160 : decode cX12_passes 160 = .ok (.iconst 1, 1) := by decide +kernel
theorem dX12_passes_161 : decode cX12_passes 161 = .ok (.iaload, 1) := by decide +kernel
theorem dX12_passes_162 : decode cX12_passes 162 = .ok (.iadd, 1) := by decide +kernel
theorem dX12_passes_163 : decode cX12_passes 163 = .ok (.goto 13, 3) := by decide +kernel
theorem dX12_passes_166 : decode cX12_passes 166 = .ok (.aload_n 0, 1) := by decide +kernel
theorem dX12_passes_167 : decode cX12_passes 167 = .ok (.aload_n 0, 1) := by decide +kernel
theorem dX12_passes_168 : decode cX12_passes 168 = .ok (.getfield 83, 3) := by decide +kernel
theorem dX12_passes_171 : decode cX12_passes 171 = .ok (.iconst 3, 1) := by decide +kernel
theorem dX12_passes_172 : decode cX12_passes 172 = .ok (.iaload, 1) := by decide +kernel
theorem dX12_passes_173 : decode cX12_passes 173 = .ok (.invokevirtual 310, 3) := by decide +kernel
theorem dX12_passes_176 : decode cX12_passes 176 = .ok (.istore 6, 2) := by decide +kernel
theorem dX12_passes_178 : decode cX12_passes 178 = .ok (.iload 6, 2) := by decide +kernel
theorem dX12_passes_180 : decode cX12_passes 180 = .ok (.ifCond .ge 7, 3) := by decide +kernel
theorem dX12_passes_183 : decode cX12_passes 183 = .ok (.iconst 0, 1) := by decide +kernel
theorem dX12_passes_184 : decode cX12_passes 184 = .ok (.goto 17, 3) := by decide +kernel
theorem dX12_passes_187 : decode cX12_passes 187 = .ok (.iload 6, 2) := by decide +kernel
theorem dX12_passes_189 : decode cX12_passes 189 = .ok (.bipush 9, 2) := by decide +kernel
theorem dX12_passes_191 : decode cX12_passes 191 = .ok (.if_icmp .le 8, 3) := by decide +kernel
theorem dX12_passes_194 : decode cX12_passes 194 = .ok (.bipush 9, 2) := by decide +kernel
theorem dX12_passes_196 : decode cX12_passes 196 = .ok (.goto 5, 3) := by decide +kernel
theorem dX12_passes_199 : decode cX12_passes 199 = .ok (.iload 6, 2) := by decide +kernel
theorem dX12_passes_201 : decode cX12_passes 201 = .ok (.istore 6, 2) := by decide +kernel
theorem dX12_passes_203 : decode cX12_passes 203 = .ok (.aload_n 0, 1) := by decide +kernel
theorem dX12_passes_204 : decode cX12_passes 204 = .ok (.iload_n 1, 1) := by decide +kernel
theorem dX12_passes_205 : decode cX12_passes 205 = .ok (.iload 5, 2) := by decide +kernel
theorem dX12_passes_207 : decode cX12_passes 207 = .ok (.invokevirtual 301, 3) := by decide +kernel
theorem dX12_passes_210 : decode cX12_passes 210 = .ok (.istore 7, 2) := by decide +kernel
theorem dX12_passes_212 : decode cX12_passes 212 = .ok (.aload_n 0, 1) := by decide +kernel
theorem dX12_passes_213 : decode cX12_passes 213 = .ok (.getfield 113, 3) := by decide +kernel
theorem dX12_passes_216 : decode cX12_passes 216 = .ok (.iload_n 1, 1) := by decide +kernel
theorem dX12_passes_217 : decode cX12_passes 217 = .ok (.iconst 1, 1) := by decide +kernel
theorem dX12_passes_218 : decode cX12_passes 218 = .ok (.iadd, 1) := by decide +kernel
theorem dX12_passes_219 : decode cX12_passes 219 = .ok (.iload 5, 2) := by decide +kernel
theorem dX12_passes_221 : decode cX12_passes 221 = .ok (.iadd, 1) := by decide +kernel
theorem dX12_passes_222 : decode cX12_passes 222 = .ok (.dup2, 1) := by decide +kernel
theorem dX12_passes_223 : decode cX12_passes 223 = .ok (.iaload, 1) := by decide +kernel
theorem dX12_passes_224 : decode cX12_passes 224 = .ok (.iload 6, 2) := by decide +kernel
theorem dX12_passes_226 : decode cX12_passes 226 = .ok (.aload_n 0, 1) := by decide +kernel
theorem dX12_passes_227 : decode cX12_passes 227 = .ok (.getfield 113, 3) := by decide +kernel
theorem dX12_passes_230 : decode cX12_passes 230 = .ok (.iload_n 1, 1) := by decide +kernel
theorem dX12_passes_231 : decode cX12_passes 231 = .ok (.iconst 1, 1) := by decide +kernel
theorem dX12_passes_232 : decode cX12_passes 232 = .ok (.iadd, 1) := by decide +kernel
theorem dX12_passes_233 : decode cX12_passes 233 = .ok (.iload 5, 2) := by decide +kernel
theorem dX12_passes_235 : decode cX12_passes 235 = .ok (.iadd, 1) := by decide +kernel
theorem dX12_passes_236 : decode cX12_passes 236 = .ok (.iaload, 1) := by decide +kernel
theorem dX12_passes_237 : decode cX12_passes 237 = .ok (.if_icmp .ge 8, 3) := by decide +kernel
theorem dX12_passes_240 : decode cX12_passes 240 = .ok (.iload 6, 2) := by decide +kernel
theorem dX12_passes_242 : decode cX12_passes 242 = .ok (.goto 14, 3) := by decide +kernel
theorem dX12_passes_245 : decode cX12_passes 245 = .ok (.aload_n 0, 1) := by decide +kernel
theorem dX12_passes_246 : decode cX12_passes 246 = .ok (.getfield 113, 3) := by decide +kernel
theorem dX12_passes_249 : decode cX12_passes 249 = .ok (.iload_n 1, 1) := by decide +kernel
theorem dX12_passes_250 : decode cX12_passes 250 = .ok (.iconst 1, 1) := by decide +kernel
theorem dX12_passes_251 : decode cX12_passes 251 = .ok (.iadd, 1) := by decide +kernel
theorem dX12_passes_252 : decode cX12_passes 252 = .ok (.iload 5, 2) := by decide +kernel
theorem dX12_passes_254 : decode cX12_passes 254 = .ok (.iadd, 1) := by decide +kernel
theorem dX12_passes_255 : decode cX12_passes 255 = .ok (.iaload, 1) := by decide +kernel
theorem dX12_passes_256 : decode cX12_passes 256 = .ok (.isub, 1) := by decide +kernel
theorem dX12_passes_257 : decode cX12_passes 257 = .ok (.iastore, 1) := by decide +kernel
theorem dX12_passes_258 : decode cX12_passes 258 = .ok (.iload 4, 2) := by decide +kernel
theorem dX12_passes_260 : decode cX12_passes 260 = .ok (.iload 7, 2) := by decide +kernel
theorem dX12_passes_262 : decode cX12_passes 262 = .ok (.ifCond .eq 20, 3) := by decide +kernel
theorem dX12_passes_265 : decode cX12_passes 265 = .ok (.aload_n 0, 1) := by decide +kernel
theorem dX12_passes_266 : decode cX12_passes 266 = .ok (.iload_n 1, 1) := by decide +kernel
theorem dX12_passes_267 : decode cX12_passes 267 = .ok (.iload 5, 2) := by decide +kernel
theorem dX12_passes_269 : decode cX12_passes 269 = .ok (.invokevirtual 301, 3) := by decide +kernel
theorem dX12_passes_272 : decode cX12_passes 272 = .ok (.ifCond .ne 10, 3) := by decide +kernel
theorem dX12_passes_275 : decode cX12_passes 275 = .ok (.iconst 1, 1) := by decide +kernel
theorem dX12_passes_276 : decode cX12_passes 276 = .ok (.iload 5, 2) := by decide +kernel
theorem dX12_passes_278 : decode cX12_passes 278 = .ok (.ishl, 1) := by decide +kernel
theorem dX12_passes_279 : decode cX12_passes 279 = .ok (.goto 4, 3) := by decide +kernel
theorem dX12_passes_282 : decode cX12_passes 282 = .ok (.iconst 0, 1) := by decide +kernel
theorem dX12_passes_283 : decode cX12_passes 283 = .ok (.ior, 1) := by decide +kernel
theorem dX12_passes_284 : decode cX12_passes 284 = .ok (.istore 4, 2) := by decide +kernel
theorem dX12_passes_286 : decode cX12_passes 286 = .ok (.iinc 5 1, 3) := by decide +kernel
theorem dX12_passes_289 : decode cX12_passes 289 = .ok (.goto (-224), 3) := by decide +kernel
theorem dX12_passes_292 : decode cX12_passes 292 = .ok (.aload_n 0, 1) := by decide +kernel
theorem dX12_passes_293 : decode cX12_passes 293 = .ok (.getfield 113, 3) := by decide +kernel
theorem dX12_passes_296 : decode cX12_passes 296 = .ok (.iload_n 1, 1) := by decide +kernel
theorem dX12_passes_297 : decode cX12_passes 297 = .ok (.iconst 0, 1) := by decide +kernel
theorem dX12_passes_298 : decode cX12_passes 298 = .ok (.iadd, 1) := by decide +kernel
theorem dX12_passes_299 : decode cX12_passes 299 = .ok (.dup2, 1) := by decide +kernel
theorem dX12_passes_300 : decode cX12_passes 300 = .ok (.iaload, 1) := by decide +kernel
theorem dX12_passes_301 : decode cX12_passes 301 = .ok (.iconst 1, 1) := by decide +kernel
theorem dX12_passes_302 : decode cX12_passes 302 = .ok (.iadd, 1) := by decide +kernel
theorem dX12_passes_303 : decode cX12_passes 303 = .ok (.iastore, 1) := by decide +kernel
theorem dX12_passes_304 : decode cX12_passes 304 = .ok (.iload 4, 2) := by decide +kernel
theorem dX12_passes_306 : decode cX12_passes 306 = .ok (.ireturn, 1) := by decide +kernel
noncomputable def FX12_passes (a0 : Nat) (p1 : Int32) (p2 : Int32) : PP Int32 := bd (it (fun (s1 : Int32 × Int32) => (bd (FX12_cloths a0) (fun x2 => if x2 ≤ s1.2 then pu (Sum.inr s1.1) else bd (FX12_doesHang a0 p1 s1.2) (fun x3 => bd (if ((b2i x3)) = 0 then pu (0 : Int32) else bd (FX12_isWet a0 p1 s1.2) (fun x4 => if ((b2i x4)) = 0 then pu (0 : Int32) else bd (FX12_clothOf a0 s1.2 (0 : Int32)) (fun x5 => if x5 = (1 : Int32) then pu (1 : Int32) else pu (0 : Int32))) : PP (Int32)) (fun (v6 : Int32) => lt (s1.1 + v6) (fun y7 => lt (s1.2 + (1 : Int32)) (fun y8 => pu (Sum.inl (y7, y8))))))) : PP ((Int32 × Int32) ⊕ (Int32)))) FU ((0 : Int32), (0 : Int32))) (fun (v9 : Int32) => bd (it (fun (s10 : Int32 × Int32) => (bd (FX12_cloths a0) (fun x11 => if x11 ≤ s10.2 then pu (Sum.inr s10.1) else bd (FX12_doesHang a0 p1 s10.2) (fun x12 => bd (if ((b2i x12)) = 0 then pu s10.1 else if p2 = 0 then pu s10.1 else bd (aI (rf a0 23) 966 ((p1 + (1 : Int32)) + s10.2)) (fun x13 => bd (uI (rf a0 21) 4 (0 : Int32) x13) (fun (_ : Unit) => bd (aI (rf a0 23) 966 ((p1 + (13 : Int32)) + s10.2)) (fun x14 => bd (uI (rf a0 21) 4 (1 : Int32) ((3 : Int32) - x14)) (fun (_ : Unit) => bd (uI (rf a0 21) 4 (2 : Int32) v9) (fun (_ : Unit) => bd (aI (rf a0 23) 966 (p1 + (0 : Int32))) (fun x15 => bd (uI (rf a0 21) 4 (3 : Int32) x15) (fun (_ : Unit) => bd (aI (rf a0 10) 80 (3 : Int32)) (fun x16 => bd (if 0 ≤ x16 then bd (aI (rf a0 10) 80 (3 : Int32)) (fun x17 => bd (FX12_worthAt a0 x17) (fun x18 => pu x18)) else bd (aI (rf a0 21) 4 (1 : Int32)) (fun x19 => pu ((1 : Int32) + x19)) : PP (Int32)) (fun (v20 : Int32) => bd (if 0 ≤ v20 then if v20 ≤ (9 : Int32) then pu v20 else pu (9 : Int32) else pu (0 : Int32) : PP (Int32)) (fun (v21 : Int32) => bd (FX12_isWet a0 p1 s10.2) (fun x22 => lt ((b2i x22)) (fun y23 => bd (aI (rf a0 23) 966 ((p1 + (1 : Int32)) + s10.2)) (fun x24 => bd (aI (rf a0 23) 966 ((p1 + (1 : Int32)) + s10.2)) (fun x25 => bd (if x25 ≤ v21 then bd (aI (rf a0 23) 966 ((p1 + (1 : Int32)) + s10.2)) (fun x26 => pu x26) else pu v21 : PP (Int32)) (fun (v27 : Int32) => bd (uI (rf a0 23) 966 ((p1 + (1 : Int32)) + s10.2) (x24 - v27)) (fun (_ : Unit) => bd (if y23 = 0 then pu (0 : Int32) else bd (FX12_isWet a0 p1 s10.2) (fun x28 => if ((b2i x28)) = 0 then pu ((1 : Int32) <<< (s10.2 &&& 31)) else pu (0 : Int32)) : PP (Int32)) (fun (v29 : Int32) => lt (s10.1 ||| v29) (fun y30 => pu y30)))))))))))))))))) : PP (Int32)) (fun (v31 : Int32) => lt (s10.2 + (1 : Int32)) (fun y32 => pu (Sum.inl (v31, y32)))))) : PP ((Int32 × Int32) ⊕ (Int32)))) FU ((0 : Int32), (0 : Int32))) (fun (v33 : Int32) => bd (aI (rf a0 23) 966 (p1 + (0 : Int32))) (fun x34 => bd (uI (rf a0 23) 966 (p1 + (0 : Int32)) (x34 + (1 : Int32))) (fun (_ : Unit) => pu v33))))
set_option maxHeartbeats 4000000 in
set_option maxRecDepth 100000 in
theorem SX12_passes {l : Launch} {K : KK} {n : Nat} {hn : 270 ≤ n} (a0 : Nat) (p1 : Int32) (p2 : Int32) (h0 : ob a0 11) : CT l K n 2 mX12_passes [.ref (K.2.1 + a0), .int p1, .int p2] enI (FX12_passes a0 p1 p2) := by
  refine CT.of2 (lv2 := [(0, .ref (K.2.1 + a0)), (1, .int p1), (2, .int p2)]) (by decide) rfl hn (Nat.le_of_ble_eq_true rfl) rfl (rp_id ?_)
  unfold FX12_passes
  refine rp_iconst (0 : Int32) dX12_passes_0 (by decide) ?_
  refine rp_istore_n [(3, .int (0 : Int32)), (0, .ref (K.2.1 + a0)), (1, .int p1), (2, .int p2)] dX12_passes_1 (by decide) rfl ?_
  refine rp_iconst (0 : Int32) dX12_passes_2 (by decide) ?_
  refine rp_istore [(4, .int (0 : Int32)), (3, .int (0 : Int32)), (0, .ref (K.2.1 + a0)), (1, .int p1), (2, .int p2)] dX12_passes_3 (by decide) rfl ?_
  refine rp_as ?_
  refine rp_join 59 (fun v9 => [(0, .ref (K.2.1 + a0)), (1, .int p1), (2, .int p2), (3, .int v9)]) (fun _ => []) (fun v9 => ?_) (fun hX5_0 => ?_)
  · refine rp_iconst (0 : Int32) dX12_passes_59 (by decide) ?_
    refine rp_istore [(4, .int (0 : Int32)), (0, .ref (K.2.1 + a0)), (1, .int p1), (2, .int p2), (3, .int v9)] dX12_passes_60 (by decide) rfl ?_
    refine rp_iconst (0 : Int32) dX12_passes_62 (by decide) ?_
    refine rp_istore [(5, .int (0 : Int32)), (4, .int (0 : Int32)), (0, .ref (K.2.1 + a0)), (1, .int p1), (2, .int p2), (3, .int v9)] dX12_passes_63 (by decide) rfl ?_
    refine rp_as ?_
    refine rp_join 292 (fun v33 => [(0, .ref (K.2.1 + a0)), (1, .int p1), (4, .int v33)]) (fun _ => []) (fun v33 => ?_) (fun hX65_0 => ?_)
    · refine rp_aload_n 0 dX12_passes_292 rfl ?_
      refine rp_getR fi_X12_113 h0 rfl dX12_passes_293 ?_
      refine rp_iload_n 1 dX12_passes_296 rfl ?_
      refine rp_iconst (0 : Int32) dX12_passes_297 (by decide) ?_
      refine rp_iadd dX12_passes_298 ?_
      refine rp_dup2 dX12_passes_299 rfl rfl ?_
      refine rp_iald (tX12_23 h0) dX12_passes_300 (fun x34 => ?_)
      refine rp_iconst (1 : Int32) dX12_passes_301 (by decide) ?_
      refine rp_iadd dX12_passes_302 ?_
      refine rp_iast (tX12_23 h0) dX12_passes_303 ?_
      refine rp_iload 2 dX12_passes_304 rfl ?_
      exact rp_pu (rp_iret rfl dX12_passes_306)
    refine rp_sub [2, 3, 4, 5, 1, 0] rfl (rp_it (fun (s10 : Int32 × Int32) => [(0, .ref (K.2.1 + a0)), (1, .int p1), (2, .int p2), (3, .int v9), (4, .int s10.1), (5, .int s10.2)]) (fun N65 ih65 s10 => ?_) FU ((0 : Int32), (0 : Int32)))
    refine rp_iload 5 dX12_passes_65 rfl ?_
    refine rp_aload_n 0 dX12_passes_67 rfl ?_
    refine rp_callVi [] (SX12_cloths (hn := hn) a0 h0) cvX12_cloths (mw (i := 1306) (by decide +kernel)) (by omega) h0 (by decide) rfl rfl rfl (Nat.le_of_ble_eq_true rfl) dX12_passes_68 (fun x11 => ?_)
    refine rp_icmp_ge 292 dX12_passes_71 (by decide) ?_ ?_
    · exact rp_sub [0, 1, 4] rfl (rp_puR (hX65_0 s10.1))
    · refine rp_aload_n 0 dX12_passes_74 rfl ?_
      refine rp_iload_n 1 dX12_passes_75 rfl ?_
      refine rp_iload 5 dX12_passes_76 rfl ?_
      refine rp_callVz [.int p1, .int s10.2] (SX12_doesHang (hn := hn) a0 p1 s10.2 h0) cvX12_doesHang (mw (i := 1599) (by decide +kernel)) (by omega) h0 (by decide) rfl rfl rfl (Nat.le_of_ble_eq_true rfl) dX12_passes_78 (fun x12 => ?_)
      refine rp_as ?_
      refine rp_join 286 (fun (v31 : Int32) => [(0, .ref (K.2.1 + a0)), (1, .int p1), (2, .int p2), (3, .int v9), (4, .int v31), (5, .int s10.2)]) (fun v31 => []) (fun v31 => ?_) (fun hJ286 => ?_)
      · refine rp_iinc (fun y32 => [(5, .int y32), (0, .ref (K.2.1 + a0)), (1, .int p1), (2, .int p2), (3, .int v9), (4, .int v31)]) 5 dX12_passes_286 rfl (by rfl) (by decide) (fun y32 => rfl) (fun y32 => ?_)
        refine rp_goto 65 dX12_passes_289 (by decide) ?_
        exact rp_sub [1, 2, 3, 4, 5, 0] rfl (ih65 (v31, y32))
      refine rp_if_eq 286 dX12_passes_81 (by decide) ?_ ?_
      · exact rp_sub [0, 1, 2, 3, 4, 5] rfl (rp_pu (hJ286 s10.1))
      · refine rp_iload_n 2 dX12_passes_84 rfl ?_
        refine rp_if_eq 286 dX12_passes_85 (by decide) ?_ ?_
        · exact rp_sub [0, 1, 2, 3, 4, 5] rfl (rp_pu (hJ286 s10.1))
        · refine rp_aload_n 0 dX12_passes_88 rfl ?_
          refine rp_getR fi_X12_107 h0 rfl dX12_passes_89 ?_
          refine rp_iconst (0 : Int32) dX12_passes_92 (by decide) ?_
          refine rp_aload_n 0 dX12_passes_93 rfl ?_
          refine rp_getR fi_X12_113 h0 rfl dX12_passes_94 ?_
          refine rp_iload_n 1 dX12_passes_97 rfl ?_
          refine rp_iconst (1 : Int32) dX12_passes_98 (by decide) ?_
          refine rp_iadd dX12_passes_99 ?_
          refine rp_iload 5 dX12_passes_100 rfl ?_
          refine rp_iadd dX12_passes_102 ?_
          refine rp_iald (tX12_23 h0) dX12_passes_103 (fun x13 => ?_)
          refine rp_iast (tX12_21 h0) dX12_passes_104 ?_
          refine rp_aload_n 0 dX12_passes_105 rfl ?_
          refine rp_getR fi_X12_107 h0 rfl dX12_passes_106 ?_
          refine rp_iconst (1 : Int32) dX12_passes_109 (by decide) ?_
          refine rp_iconst (3 : Int32) dX12_passes_110 (by decide) ?_
          refine rp_aload_n 0 dX12_passes_111 rfl ?_
          refine rp_getR fi_X12_113 h0 rfl dX12_passes_112 ?_
          refine rp_iload_n 1 dX12_passes_115 rfl ?_
          refine rp_bipush (13 : Int32) dX12_passes_116 (by decide) ?_
          refine rp_iadd dX12_passes_118 ?_
          refine rp_iload 5 dX12_passes_119 rfl ?_
          refine rp_iadd dX12_passes_121 ?_
          refine rp_iald (tX12_23 h0) dX12_passes_122 (fun x14 => ?_)
          refine rp_isub dX12_passes_123 ?_
          refine rp_iast (tX12_21 h0) dX12_passes_124 ?_
          refine rp_aload_n 0 dX12_passes_125 rfl ?_
          refine rp_getR fi_X12_107 h0 rfl dX12_passes_126 ?_
          refine rp_iconst (2 : Int32) dX12_passes_129 (by decide) ?_
          refine rp_iload_n 3 dX12_passes_130 rfl ?_
          refine rp_iast (tX12_21 h0) dX12_passes_131 ?_
          refine rp_aload_n 0 dX12_passes_132 rfl ?_
          refine rp_getR fi_X12_107 h0 rfl dX12_passes_133 ?_
          refine rp_iconst (3 : Int32) dX12_passes_136 (by decide) ?_
          refine rp_aload_n 0 dX12_passes_137 rfl ?_
          refine rp_getR fi_X12_113 h0 rfl dX12_passes_138 ?_
          refine rp_iload_n 1 dX12_passes_141 rfl ?_
          refine rp_iconst (0 : Int32) dX12_passes_142 (by decide) ?_
          refine rp_iadd dX12_passes_143 ?_
          refine rp_iald (tX12_23 h0) dX12_passes_144 (fun x15 => ?_)
          refine rp_iast (tX12_21 h0) dX12_passes_145 ?_
          refine rp_aload_n 0 dX12_passes_146 rfl ?_
          refine rp_getR fi_X12_83 h0 rfl dX12_passes_147 ?_
          refine rp_iconst (3 : Int32) dX12_passes_150 (by decide) ?_
          refine rp_iald (tX12_10 h0) dX12_passes_151 (fun x16 => ?_)
          refine rp_as ?_
          refine rp_join 176 (fun (v20 : Int32) => [(0, .ref (K.2.1 + a0)), (1, .int p1), (2, .int p2), (3, .int v9), (4, .int s10.1), (5, .int s10.2)]) (fun v20 => [.int v20]) (fun v20 => ?_) (fun hJ176 => ?_)
          · refine rp_istore [(6, .int v20), (0, .ref (K.2.1 + a0)), (1, .int p1), (2, .int p2), (3, .int v9), (4, .int s10.1), (5, .int s10.2)] dX12_passes_176 (by decide) rfl ?_
            refine rp_iload 0 dX12_passes_178 rfl ?_
            refine rp_as ?_
            refine rp_join 201 (fun (v21 : Int32) => [(0, .ref (K.2.1 + a0)), (1, .int p1), (2, .int p2), (3, .int v9), (4, .int s10.1), (5, .int s10.2)]) (fun v21 => [.int v21]) (fun v21 => ?_) (fun hJ201 => ?_)
            · refine rp_istore [(6, .int v21), (0, .ref (K.2.1 + a0)), (1, .int p1), (2, .int p2), (3, .int v9), (4, .int s10.1), (5, .int s10.2)] dX12_passes_201 (by decide) rfl ?_
              refine rp_aload_n 1 dX12_passes_203 rfl ?_
              refine rp_iload_n 2 dX12_passes_204 rfl ?_
              refine rp_iload 6 dX12_passes_205 rfl ?_
              refine rp_callVz [.int p1, .int s10.2] (SX12_isWet (hn := hn) a0 p1 s10.2 h0) cvX12_isWet (mw (i := 1603) (by decide +kernel)) (by omega) h0 (by decide) rfl rfl rfl (Nat.le_of_ble_eq_true rfl) dX12_passes_207 (fun x22 => ?_)
              refine rp_lti (fun y23 => ?_)
              refine rp_istore [(7, .int y23), (6, .int v21), (0, .ref (K.2.1 + a0)), (1, .int p1), (2, .int p2), (3, .int v9), (4, .int s10.1), (5, .int s10.2)] dX12_passes_210 (by decide) rfl ?_
              refine rp_aload_n 2 dX12_passes_212 rfl ?_
              refine rp_getR fi_X12_113 h0 rfl dX12_passes_213 ?_
              refine rp_iload_n 3 dX12_passes_216 rfl ?_
              refine rp_iconst (1 : Int32) dX12_passes_217 (by decide) ?_
              refine rp_iadd dX12_passes_218 ?_
              refine rp_iload 7 dX12_passes_219 rfl ?_
              refine rp_iadd dX12_passes_221 ?_
              refine rp_dup2 dX12_passes_222 rfl rfl ?_
              refine rp_iald (tX12_23 h0) dX12_passes_223 (fun x24 => ?_)
              refine rp_iload 1 dX12_passes_224 rfl ?_
              refine rp_aload_n 2 dX12_passes_226 rfl ?_
              refine rp_getR fi_X12_113 h0 rfl dX12_passes_227 ?_
              refine rp_iload_n 3 dX12_passes_230 rfl ?_
              refine rp_iconst (1 : Int32) dX12_passes_231 (by decide) ?_
              refine rp_iadd dX12_passes_232 ?_
              refine rp_iload 7 dX12_passes_233 rfl ?_
              refine rp_iadd dX12_passes_235 ?_
              refine rp_iald (tX12_23 h0) dX12_passes_236 (fun x25 => ?_)
              refine rp_as ?_
              refine rp_join 256 (fun (v27 : Int32) => [(0, .ref (K.2.1 + a0)), (1, .int p1), (2, .int p2), (3, .int v9), (4, .int s10.1), (5, .int s10.2), (7, .int y23)]) (fun v27 => [.int v27, .int x24, .int ((p1 + (1 : Int32)) + s10.2), .ref (K.2.1 + (rf a0 23))]) (fun v27 => ?_) (fun hJ256 => ?_)
              · refine rp_isub dX12_passes_256 ?_
                refine rp_iast (tX12_23 h0) dX12_passes_257 ?_
                refine rp_iload 4 dX12_passes_258 rfl ?_
                refine rp_iload 6 dX12_passes_260 rfl ?_
                refine rp_as ?_
                refine rp_join 283 (fun (v29 : Int32) => [(0, .ref (K.2.1 + a0)), (1, .int p1), (2, .int p2), (3, .int v9), (5, .int s10.2)]) (fun v29 => [.int v29, .int s10.1]) (fun v29 => ?_) (fun hJ283 => ?_)
                · refine rp_ior dX12_passes_283 ?_
                  refine rp_lti (fun y30 => ?_)
                  refine rp_istore [(4, .int y30), (0, .ref (K.2.1 + a0)), (1, .int p1), (2, .int p2), (3, .int v9), (5, .int s10.2)] dX12_passes_284 (by decide) rfl ?_
                  exact rp_sub [1, 2, 3, 4, 0, 5] rfl (rp_pu (hJ286 y30))
                refine rp_if_eq 282 dX12_passes_262 (by decide) ?_ ?_
                · refine rp_iconst (0 : Int32) dX12_passes_282 (by decide) ?_
                  exact rp_sub [0, 1, 2, 3, 5] rfl (rp_pu (hJ283 (0 : Int32)))
                · refine rp_aload_n 0 dX12_passes_265 rfl ?_
                  refine rp_iload_n 1 dX12_passes_266 rfl ?_
                  refine rp_iload 5 dX12_passes_267 rfl ?_
                  refine rp_callVz [.int p1, .int s10.2] (SX12_isWet (hn := hn) a0 p1 s10.2 h0) cvX12_isWet (mw (i := 1603) (by decide +kernel)) (by omega) h0 (by decide) rfl rfl rfl (Nat.le_of_ble_eq_true rfl) dX12_passes_269 (fun x28 => ?_)
                  refine rp_if_ne 282 dX12_passes_272 (by decide) ?_ ?_
                  · refine rp_iconst (0 : Int32) dX12_passes_282 (by decide) ?_
                    exact rp_sub [0, 1, 2, 3, 5] rfl (rp_pu (hJ283 (0 : Int32)))
                  · refine rp_iconst (1 : Int32) dX12_passes_275 (by decide) ?_
                    refine rp_iload 5 dX12_passes_276 rfl ?_
                    refine rp_ishl dX12_passes_278 ?_
                    refine rp_goto 283 dX12_passes_279 (by decide) ?_
                    exact rp_sub [0, 1, 2, 3, 5] rfl (rp_pu (hJ283 ((1 : Int32) <<< (s10.2 &&& 31))))
              refine rp_icmp_ge 245 dX12_passes_237 (by decide) ?_ ?_
              · refine rp_aload_n 2 dX12_passes_245 rfl ?_
                refine rp_getR fi_X12_113 h0 rfl dX12_passes_246 ?_
                refine rp_iload_n 3 dX12_passes_249 rfl ?_
                refine rp_iconst (1 : Int32) dX12_passes_250 (by decide) ?_
                refine rp_iadd dX12_passes_251 ?_
                refine rp_iload 7 dX12_passes_252 rfl ?_
                refine rp_iadd dX12_passes_254 ?_
                refine rp_iald (tX12_23 h0) dX12_passes_255 (fun x26 => ?_)
                exact rp_sub [2, 3, 4, 5, 6, 7, 0] rfl (rp_pu (hJ256 x26))
              · refine rp_iload 1 dX12_passes_240 rfl ?_
                refine rp_goto 256 dX12_passes_242 (by decide) ?_
                exact rp_sub [2, 3, 4, 5, 6, 7, 0] rfl (rp_pu (hJ256 v21))
            refine rp_if_ge 187 dX12_passes_180 (by decide) ?_ ?_
            · refine rp_iload 0 dX12_passes_187 rfl ?_
              refine rp_bipush (9 : Int32) dX12_passes_189 (by decide) ?_
              refine rp_icmp_le 199 dX12_passes_191 (by decide) ?_ ?_
              · refine rp_iload 0 dX12_passes_199 rfl ?_
                exact rp_sub [1, 2, 3, 4, 5, 6] rfl (rp_pu (hJ201 v20))
              · refine rp_bipush (9 : Int32) dX12_passes_194 (by decide) ?_
                refine rp_goto 201 dX12_passes_196 (by decide) ?_
                exact rp_sub [1, 2, 3, 4, 5, 6] rfl (rp_pu (hJ201 (9 : Int32)))
            · refine rp_iconst (0 : Int32) dX12_passes_183 (by decide) ?_
              refine rp_goto 201 dX12_passes_184 (by decide) ?_
              exact rp_sub [1, 2, 3, 4, 5, 6] rfl (rp_pu (hJ201 (0 : Int32)))
          refine rp_if_ge 166 dX12_passes_152 (by decide) ?_ ?_
          · refine rp_aload_n 0 dX12_passes_166 rfl ?_
            refine rp_aload_n 0 dX12_passes_167 rfl ?_
            refine rp_getR fi_X12_83 h0 rfl dX12_passes_168 ?_
            refine rp_iconst (3 : Int32) dX12_passes_171 (by decide) ?_
            refine rp_iald (tX12_10 h0) dX12_passes_172 (fun x17 => ?_)
            refine rp_callVi [.int x17] (SX12_worthAt (hn := hn) a0 x17 h0) cvX12_worthAt (mw (i := 1651) (by decide +kernel)) (by omega) h0 (by decide) rfl rfl rfl (Nat.le_of_ble_eq_true rfl) dX12_passes_173 (fun x18 => ?_)
            exact rp_sub [0, 1, 2, 3, 4, 5] rfl (rp_pu (hJ176 x18))
          · refine rp_iconst (1 : Int32) dX12_passes_155 (by decide) ?_
            refine rp_aload_n 0 dX12_passes_156 rfl ?_
            refine rp_getR fi_X12_107 h0 rfl dX12_passes_157 ?_
            refine rp_iconst (1 : Int32) dX12_passes_160 (by decide) ?_
            refine rp_iald (tX12_21 h0) dX12_passes_161 (fun x19 => ?_)
            refine rp_iadd dX12_passes_162 ?_
            refine rp_goto 176 dX12_passes_163 (by decide) ?_
            exact rp_sub [0, 1, 2, 3, 4, 5] rfl (rp_pu (hJ176 ((1 : Int32) + x19)))
  refine rp_sub [2, 3, 4, 1, 0] rfl (rp_it (fun (s1 : Int32 × Int32) => [(0, .ref (K.2.1 + a0)), (1, .int p1), (2, .int p2), (3, .int s1.1), (4, .int s1.2)]) (fun N5 ih5 s1 => ?_) FU ((0 : Int32), (0 : Int32)))
  refine rp_iload 4 dX12_passes_5 rfl ?_
  refine rp_aload_n 0 dX12_passes_7 rfl ?_
  refine rp_callVi [] (SX12_cloths (hn := hn) a0 h0) cvX12_cloths (mw (i := 1306) (by decide +kernel)) (by omega) h0 (by decide) rfl rfl rfl (Nat.le_of_ble_eq_true rfl) dX12_passes_8 (fun x2 => ?_)
  refine rp_icmp_ge 59 dX12_passes_11 (by decide) ?_ ?_
  · exact rp_sub [0, 1, 2, 3] rfl (rp_puR (hX5_0 s1.1))
  · refine rp_iload_n 3 dX12_passes_14 rfl ?_
    refine rp_aload_n 0 dX12_passes_15 rfl ?_
    refine rp_iload_n 1 dX12_passes_16 rfl ?_
    refine rp_iload 4 dX12_passes_17 rfl ?_
    refine rp_callVz [.int p1, .int s1.2] (SX12_doesHang (hn := hn) a0 p1 s1.2 h0) cvX12_doesHang (mw (i := 1599) (by decide +kernel)) (by omega) h0 (by decide) rfl rfl rfl (Nat.le_of_ble_eq_true rfl) dX12_passes_19 (fun x3 => ?_)
    refine rp_as ?_
    refine rp_join 51 (fun (v6 : Int32) => [(0, .ref (K.2.1 + a0)), (1, .int p1), (2, .int p2), (4, .int s1.2)]) (fun v6 => [.int v6, .int s1.1]) (fun v6 => ?_) (fun hJ51 => ?_)
    · refine rp_iadd dX12_passes_51 ?_
      refine rp_lti (fun y7 => ?_)
      refine rp_istore_n [(3, .int y7), (0, .ref (K.2.1 + a0)), (1, .int p1), (2, .int p2), (4, .int s1.2)] dX12_passes_52 (by decide) rfl ?_
      refine rp_iinc (fun y8 => [(4, .int y8), (3, .int y7), (0, .ref (K.2.1 + a0)), (1, .int p1), (2, .int p2)]) 4 dX12_passes_53 rfl (by rfl) (by decide) (fun y8 => rfl) (fun y8 => ?_)
      refine rp_goto 5 dX12_passes_56 (by decide) ?_
      exact rp_sub [2, 3, 4, 1, 0] rfl (ih5 (y7, y8))
    refine rp_if_eq 50 dX12_passes_22 (by decide) ?_ ?_
    · refine rp_iconst (0 : Int32) dX12_passes_50 (by decide) ?_
      exact rp_sub [0, 1, 2, 4] rfl (rp_pu (hJ51 (0 : Int32)))
    · refine rp_aload_n 0 dX12_passes_25 rfl ?_
      refine rp_iload_n 1 dX12_passes_26 rfl ?_
      refine rp_iload 4 dX12_passes_27 rfl ?_
      refine rp_callVz [.int p1, .int s1.2] (SX12_isWet (hn := hn) a0 p1 s1.2 h0) cvX12_isWet (mw (i := 1603) (by decide +kernel)) (by omega) h0 (by decide) rfl rfl rfl (Nat.le_of_ble_eq_true rfl) dX12_passes_29 (fun x4 => ?_)
      refine rp_if_eq 50 dX12_passes_32 (by decide) ?_ ?_
      · refine rp_iconst (0 : Int32) dX12_passes_50 (by decide) ?_
        exact rp_sub [0, 1, 2, 4] rfl (rp_pu (hJ51 (0 : Int32)))
      · refine rp_aload_n 0 dX12_passes_35 rfl ?_
        refine rp_iload 4 dX12_passes_36 rfl ?_
        refine rp_iconst (0 : Int32) dX12_passes_38 (by decide) ?_
        refine rp_callVi [.int s1.2, .int (0 : Int32)] (SX12_clothOf (hn := hn) a0 s1.2 (0 : Int32) h0) cvX12_clothOf (mw (i := 1310) (by decide +kernel)) (by omega) h0 (by decide) rfl rfl rfl (Nat.le_of_ble_eq_true rfl) dX12_passes_39 (fun x5 => ?_)
        refine rp_iconst (1 : Int32) dX12_passes_42 (by decide) ?_
        refine rp_icmp_ne 50 dX12_passes_43 (by decide) ?_ ?_
        · refine rp_iconst (0 : Int32) dX12_passes_50 (by decide) ?_
          exact rp_sub [0, 1, 2, 4] rfl (rp_pu (hJ51 (0 : Int32)))
        · refine rp_iconst (1 : Int32) dX12_passes_46 (by decide) ?_
          refine rp_goto 51 dX12_passes_47 (by decide) ?_
          exact rp_sub [0, 1, 2, 4] rfl (rp_pu (hJ51 (1 : Int32)))

theorem dX12_mayHang_0 : decode cX12_mayHang 0 = .ok (.aload_n 0, 1) := by decide +kernel
theorem dX12_mayHang_1 : decode cX12_mayHang 1 = .ok (.iload_n 1, 1) := by decide +kernel
theorem dX12_mayHang_2 : decode cX12_mayHang 2 = .ok (.iload_n 2, 1) := by decide +kernel
theorem dX12_mayHang_3 : decode cX12_mayHang 3 = .ok (.invokevirtual 294, 3) := by decide +kernel
theorem dX12_mayHang_6 : decode cX12_mayHang 6 = .ok (.ifCond .ne 18, 3) := by decide +kernel
theorem dX12_mayHang_9 : decode cX12_mayHang 9 = .ok (.aload_n 0, 1) := by decide +kernel
theorem dX12_mayHang_10 : decode cX12_mayHang 10 = .ok (.iload_n 1, 1) := by decide +kernel
theorem dX12_mayHang_11 : decode cX12_mayHang 11 = .ok (.iload_n 3, 1) := by decide +kernel
theorem dX12_mayHang_12 : decode cX12_mayHang 12 = .ok (.invokevirtual 313, 3) := by decide +kernel
theorem dX12_mayHang_15 : decode cX12_mayHang 15 = .ok (.iload 4, 2) := by decide +kernel
theorem dX12_mayHang_17 : decode cX12_mayHang 17 = .ok (.if_icmp .lt 7, 3) := by decide +kernel
theorem dX12_mayHang_20 : decode cX12_mayHang 20 = .ok (.iconst 1, 1) := by decide +kernel
theorem dX12_mayHang_21 : decode cX12_mayHang 21 = .ok (.goto 4, 3) := by decide +kernel
theorem dX12_mayHang_24 : decode cX12_mayHang 24 = .ok (.iconst 0, 1) := by decide +kernel
theorem dX12_mayHang_25 : decode cX12_mayHang 25 = .ok (.ireturn, 1) := by decide +kernel
noncomputable def FX12_mayHang (a0 : Nat) (p1 : Int32) (p2 : Int32) (p3 : Int32) (p4 : Int32) : PP Bool := bd (FX12_doesHang a0 p1 p2) (fun x1 => bd (if ((b2i x1)) = 0 then bd (FX12_freeOf a0 p1 p3) (fun x2 => if x2 < p4 then pu (0 : Int32) else pu (1 : Int32)) else pu (0 : Int32) : PP (Int32)) (fun (v3 : Int32) => zb v3))
set_option maxHeartbeats 4000000 in
set_option maxRecDepth 100000 in
theorem SX12_mayHang {l : Launch} {K : KK} {n : Nat} {hn : 270 ≤ n} (a0 : Nat) (p1 : Int32) (p2 : Int32) (p3 : Int32) (p4 : Int32) (h0 : ob a0 11) : CT l K n 2 mX12_mayHang [.ref (K.2.1 + a0), .int p1, .int p2, .int p3, .int p4] enZ (FX12_mayHang a0 p1 p2 p3 p4) := by
  refine CT.of2 (lv2 := [(0, .ref (K.2.1 + a0)), (1, .int p1), (2, .int p2), (3, .int p3), (4, .int p4)]) (by decide) rfl hn (Nat.le_of_ble_eq_true rfl) rfl (rp_id ?_)
  unfold FX12_mayHang
  refine rp_aload_n 0 dX12_mayHang_0 rfl ?_
  refine rp_iload_n 1 dX12_mayHang_1 rfl ?_
  refine rp_iload_n 2 dX12_mayHang_2 rfl ?_
  refine rp_callVz [.int p1, .int p2] (SX12_doesHang (hn := hn) a0 p1 p2 h0) cvX12_doesHang (mw (i := 1599) (by decide +kernel)) (by omega) h0 (by decide) rfl rfl rfl (Nat.le_of_ble_eq_true rfl) dX12_mayHang_3 (fun x1 => ?_)
  refine rp_as ?_
  refine rp_join 25 (fun (v3 : Int32) => []) (fun v3 => [.int v3]) (fun v3 => ?_) (fun hJ25 => ?_)
  · exact rp_zretb rfl dX12_mayHang_25
  refine rp_if_ne 24 dX12_mayHang_6 (by decide) ?_ ?_
  · refine rp_iconst (0 : Int32) dX12_mayHang_24 (by decide) ?_
    exact rp_sub [] rfl (rp_pu (hJ25 (0 : Int32)))
  · refine rp_aload_n 0 dX12_mayHang_9 rfl ?_
    refine rp_iload_n 1 dX12_mayHang_10 rfl ?_
    refine rp_iload_n 3 dX12_mayHang_11 rfl ?_
    refine rp_callVi [.int p1, .int p3] (SX12_freeOf (hn := hn) a0 p1 p3 h0) cvX12_freeOf (mw (i := 1559) (by decide +kernel)) (by omega) h0 (by decide) rfl rfl rfl (Nat.le_of_ble_eq_true rfl) dX12_mayHang_12 (fun x2 => ?_)
    refine rp_iload 4 dX12_mayHang_15 rfl ?_
    refine rp_icmp_lt 24 dX12_mayHang_17 (by decide) ?_ ?_
    · refine rp_iconst (0 : Int32) dX12_mayHang_24 (by decide) ?_
      exact rp_sub [] rfl (rp_pu (hJ25 (0 : Int32)))
    · refine rp_iconst (1 : Int32) dX12_mayHang_20 (by decide) ?_
      refine rp_goto 25 dX12_mayHang_21 (by decide) ?_
      exact rp_sub [] rfl (rp_pu (hJ25 (1 : Int32)))

theorem dX12_hangs_0 : decode cX12_hangs 0 = .ok (.aload_n 0, 1) := by decide +kernel
theorem dX12_hangs_1 : decode cX12_hangs 1 = .ok (.getfield 113, 3) := by decide +kernel
theorem dX12_hangs_4 : decode cX12_hangs 4 = .ok (.iload_n 1, 1) := by decide +kernel
theorem dX12_hangs_5 : decode cX12_hangs 5 = .ok (.bipush 7, 2) := by decide +kernel
theorem dX12_hangs_7 : decode cX12_hangs 7 = .ok (.iadd, 1) := by decide +kernel
theorem dX12_hangs_8 : decode cX12_hangs 8 = .ok (.iload_n 2, 1) := by decide +kernel
theorem dX12_hangs_9 : decode cX12_hangs 9 = .ok (.iadd, 1) := by decide +kernel
theorem dX12_hangs_10 : decode cX12_hangs 10 = .ok (.iload_n 3, 1) := by decide +kernel
theorem dX12_hangs_11 : decode cX12_hangs 11 = .ok (.iastore, 1) := by decide +kernel
theorem dX12_hangs_12 : decode cX12_hangs 12 = .ok (.aload_n 0, 1) := by decide +kernel
theorem dX12_hangs_13 : decode cX12_hangs 13 = .ok (.getfield 113, 3) := by decide +kernel
theorem dX12_hangs_16 : decode cX12_hangs 16 = .ok (.iload_n 1, 1) := by decide +kernel
theorem dX12_hangs_17 : decode cX12_hangs 17 = .ok (.bipush 13, 2) := by decide +kernel
theorem dX12_hangs_19 : decode cX12_hangs 19 = .ok (.iadd, 1) := by decide +kernel
theorem dX12_hangs_20 : decode cX12_hangs 20 = .ok (.iload_n 2, 1) := by decide +kernel
theorem dX12_hangs_21 : decode cX12_hangs 21 = .ok (.iadd, 1) := by decide +kernel
theorem dX12_hangs_22 : decode cX12_hangs 22 = .ok (.iload 4, 2) := by decide +kernel
theorem dX12_hangs_24 : decode cX12_hangs 24 = .ok (.iastore, 1) := by decide +kernel
theorem dX12_hangs_25 : decode cX12_hangs 25 = .ok (.return_, 1) := by decide +kernel
noncomputable def FX12_hangs (a0 : Nat) (p1 : Int32) (p2 : Int32) (p3 : Int32) (p4 : Int32) : PP Unit := bd (uI (rf a0 23) 966 ((p1 + (7 : Int32)) + p2) p3) (fun (_ : Unit) => bd (uI (rf a0 23) 966 ((p1 + (13 : Int32)) + p2) p4) (fun (_ : Unit) => pu ()))
set_option maxHeartbeats 4000000 in
set_option maxRecDepth 100000 in
theorem SX12_hangs {l : Launch} {K : KK} {n : Nat} {hn : 270 ≤ n} (a0 : Nat) (p1 : Int32) (p2 : Int32) (p3 : Int32) (p4 : Int32) (h0 : ob a0 11) : CT l K n 0 mX12_hangs [.ref (K.2.1 + a0), .int p1, .int p2, .int p3, .int p4] enU (FX12_hangs a0 p1 p2 p3 p4) := by
  refine CT.of2 (lv2 := [(0, .ref (K.2.1 + a0)), (1, .int p1), (2, .int p2), (3, .int p3), (4, .int p4)]) (by decide) rfl hn (Nat.le_of_ble_eq_true rfl) rfl (rp_id ?_)
  unfold FX12_hangs
  refine rp_aload_n 0 dX12_hangs_0 rfl ?_
  refine rp_getR fi_X12_113 h0 rfl dX12_hangs_1 ?_
  refine rp_iload_n 1 dX12_hangs_4 rfl ?_
  refine rp_bipush (7 : Int32) dX12_hangs_5 (by decide) ?_
  refine rp_iadd dX12_hangs_7 ?_
  refine rp_iload_n 2 dX12_hangs_8 rfl ?_
  refine rp_iadd dX12_hangs_9 ?_
  refine rp_iload_n 3 dX12_hangs_10 rfl ?_
  refine rp_iast (tX12_23 h0) dX12_hangs_11 ?_
  refine rp_aload_n 0 dX12_hangs_12 rfl ?_
  refine rp_getR fi_X12_113 h0 rfl dX12_hangs_13 ?_
  refine rp_iload_n 1 dX12_hangs_16 rfl ?_
  refine rp_bipush (13 : Int32) dX12_hangs_17 (by decide) ?_
  refine rp_iadd dX12_hangs_19 ?_
  refine rp_iload_n 2 dX12_hangs_20 rfl ?_
  refine rp_iadd dX12_hangs_21 ?_
  refine rp_iload 4 dX12_hangs_22 rfl ?_
  refine rp_iast (tX12_23 h0) dX12_hangs_24 ?_
  exact rp_pu (rp_vret rfl dX12_hangs_25)

theorem dX12_comesDown_0 : decode cX12_comesDown 0 = .ok (.aload_n 0, 1) := by decide +kernel
theorem dX12_comesDown_1 : decode cX12_comesDown 1 = .ok (.getfield 113, 3) := by decide +kernel
theorem dX12_comesDown_4 : decode cX12_comesDown 4 = .ok (.iload_n 1, 1) := by decide +kernel
theorem dX12_comesDown_5 : decode cX12_comesDown 5 = .ok (.bipush 7, 2) := by decide +kernel
theorem dX12_comesDown_7 : decode cX12_comesDown 7 = .ok (.iadd, 1) := by decide +kernel
theorem dX12_comesDown_8 : decode cX12_comesDown 8 = .ok (.iload_n 2, 1) := by decide +kernel
theorem dX12_comesDown_9 : decode cX12_comesDown 9 = .ok (.iadd, 1) := by decide +kernel
theorem dX12_comesDown_10 : decode cX12_comesDown 10 = .ok (.iconst (-1), 1) := by decide +kernel
theorem dX12_comesDown_11 : decode cX12_comesDown 11 = .ok (.iastore, 1) := by decide +kernel
theorem dX12_comesDown_12 : decode cX12_comesDown 12 = .ok (.aload_n 0, 1) := by decide +kernel
theorem dX12_comesDown_13 : decode cX12_comesDown 13 = .ok (.getfield 113, 3) := by decide +kernel
theorem dX12_comesDown_16 : decode cX12_comesDown 16 = .ok (.iload_n 1, 1) := by decide +kernel
theorem dX12_comesDown_17 : decode cX12_comesDown 17 = .ok (.bipush 13, 2) := by decide +kernel
theorem dX12_comesDown_19 : decode cX12_comesDown 19 = .ok (.iadd, 1) := by decide +kernel
theorem dX12_comesDown_20 : decode cX12_comesDown 20 = .ok (.iload_n 2, 1) := by decide +kernel
theorem dX12_comesDown_21 : decode cX12_comesDown 21 = .ok (.iadd, 1) := by decide +kernel
theorem dX12_comesDown_22 : decode cX12_comesDown 22 = .ok (.iconst 0, 1) := by decide +kernel
theorem dX12_comesDown_23 : decode cX12_comesDown 23 = .ok (.iastore, 1) := by decide +kernel
theorem dX12_comesDown_24 : decode cX12_comesDown 24 = .ok (.return_, 1) := by decide +kernel
noncomputable def FX12_comesDown (a0 : Nat) (p1 : Int32) (p2 : Int32) : PP Unit := bd (uI (rf a0 23) 966 ((p1 + (7 : Int32)) + p2) (-1 : Int32)) (fun (_ : Unit) => bd (uI (rf a0 23) 966 ((p1 + (13 : Int32)) + p2) (0 : Int32)) (fun (_ : Unit) => pu ()))
set_option maxHeartbeats 4000000 in
set_option maxRecDepth 100000 in
theorem SX12_comesDown {l : Launch} {K : KK} {n : Nat} {hn : 270 ≤ n} (a0 : Nat) (p1 : Int32) (p2 : Int32) (h0 : ob a0 11) : CT l K n 0 mX12_comesDown [.ref (K.2.1 + a0), .int p1, .int p2] enU (FX12_comesDown a0 p1 p2) := by
  refine CT.of2 (lv2 := [(0, .ref (K.2.1 + a0)), (1, .int p1), (2, .int p2)]) (by decide) rfl hn (Nat.le_of_ble_eq_true rfl) rfl (rp_id ?_)
  unfold FX12_comesDown
  refine rp_aload_n 0 dX12_comesDown_0 rfl ?_
  refine rp_getR fi_X12_113 h0 rfl dX12_comesDown_1 ?_
  refine rp_iload_n 1 dX12_comesDown_4 rfl ?_
  refine rp_bipush (7 : Int32) dX12_comesDown_5 (by decide) ?_
  refine rp_iadd dX12_comesDown_7 ?_
  refine rp_iload_n 2 dX12_comesDown_8 rfl ?_
  refine rp_iadd dX12_comesDown_9 ?_
  refine rp_iconst (-1 : Int32) dX12_comesDown_10 (by decide) ?_
  refine rp_iast (tX12_23 h0) dX12_comesDown_11 ?_
  refine rp_aload_n 0 dX12_comesDown_12 rfl ?_
  refine rp_getR fi_X12_113 h0 rfl dX12_comesDown_13 ?_
  refine rp_iload_n 1 dX12_comesDown_16 rfl ?_
  refine rp_bipush (13 : Int32) dX12_comesDown_17 (by decide) ?_
  refine rp_iadd dX12_comesDown_19 ?_
  refine rp_iload_n 2 dX12_comesDown_20 rfl ?_
  refine rp_iadd dX12_comesDown_21 ?_
  refine rp_iconst (0 : Int32) dX12_comesDown_22 (by decide) ?_
  refine rp_iast (tX12_23 h0) dX12_comesDown_23 ?_
  exact rp_pu (rp_vret rfl dX12_comesDown_24)

theorem dX12_line_0 : decode cX12_line 0 = .ok (.aload_n 0, 1) := by decide +kernel
theorem dX12_line_1 : decode cX12_line 1 = .ok (.iconst 0, 1) := by decide +kernel
theorem dX12_line_2 : decode cX12_line 2 = .ok (.putfield 1, 3) := by decide +kernel
theorem dX12_line_5 : decode cX12_line 5 = .ok (.aload_n 0, 1) := by decide +kernel
theorem dX12_line_6 : decode cX12_line 6 = .ok (.iload_n 1, 1) := by decide +kernel
theorem dX12_line_7 : decode cX12_line 7 = .ok (.invokevirtual 316, 3) := by decide +kernel
theorem dX12_line_10 : decode cX12_line 10 = .ok (.ifCond .eq 12, 3) := by decide +kernel
theorem dX12_line_13 : decode cX12_line 13 = .ok (.iload_n 2, 1) := by decide +kernel
theorem dX12_line_14 : decode cX12_line 14 = .ok (.iconst 0, 1) := by decide +kernel
theorem dX12_line_15 : decode cX12_line 15 = .ok (.iconst 3, 1) := by decide +kernel
theorem dX12_line_16 : decode cX12_line 16 = .ok (.invokestatic 201, 3) := by decide +kernel
theorem dX12_line_19 : decode cX12_line 19 = .ok (.ifCond .ne 5, 3) := by decide +kernel
theorem dX12_line_22 : decode cX12_line 22 = .ok (.iconst (-1), 1) := by decide +kernel
theorem dX12_line_23 : decode cX12_line 23 = .ok (.ireturn, 1) := by decide +kernel
theorem dX12_line_24 : decode cX12_line 24 = .ok (.iload_n 2, 1) := by decide +kernel
theorem dX12_line_25 : decode cX12_line 25 = .ok (.ifCond .ne 12, 3) := by decide +kernel
theorem dX12_line_28 : decode cX12_line 28 = .ok (.aload_n 0, 1) := by decide +kernel
theorem dX12_line_29 : decode cX12_line 29 = .ok (.iload_n 1, 1) := by decide +kernel
theorem dX12_line_30 : decode cX12_line 30 = .ok (.iconst 0, 1) := by decide +kernel
theorem dX12_line_31 : decode cX12_line 31 = .ok (.invokevirtual 291, 3) := by decide +kernel
theorem dX12_line_34 : decode cX12_line 34 = .ok (.goto 37, 3) := by decide +kernel
theorem dX12_line_37 : decode cX12_line 37 = .ok (.iload_n 2, 1) := by decide +kernel
theorem dX12_line_38 : decode cX12_line 38 = .ok (.iconst 1, 1) := by decide +kernel
theorem dX12_line_39 : decode cX12_line 39 = .ok (.if_icmp .ne 12, 3) := by decide +kernel
theorem dX12_line_42 : decode cX12_line 42 = .ok (.aload_n 0, 1) := by decide +kernel
theorem dX12_line_43 : decode cX12_line 43 = .ok (.iconst 0, 1) := by decide +kernel
theorem dX12_line_44 : decode cX12_line 44 = .ok (.iload_n 1, 1) := by decide +kernel
theorem dX12_line_45 : decode cX12_line 45 = .ok (.invokevirtual 313, 3) := by decide +kernel
theorem dX12_line_48 : decode cX12_line 48 = .ok (.goto 23, 3) := by decide +kernel
theorem dX12_line_51 : decode cX12_line 51 = .ok (.iload_n 2, 1) := by decide +kernel
theorem dX12_line_52 : decode cX12_line 52 = .ok (.iconst 2, 1) := by decide +kernel
theorem dX12_line_53 : decode cX12_line 53 = .ok (.if_icmp .ne 12, 3) := by decide +kernel
theorem dX12_line_56 : decode cX12_line 56 = .ok (.aload_n 0, 1) := by decide +kernel
theorem dX12_line_57 : decode cX12_line 57 = .ok (.iconst 0, 1) := by decide +kernel
theorem dX12_line_58 : decode cX12_line 58 = .ok (.iload_n 1, 1) := by decide +kernel
theorem dX12_line_59 : decode cX12_line 59 = .ok (.invokevirtual 319, 3) := by decide +kernel
theorem dX12_line_62 : decode cX12_line 62 = .ok (.goto 9, 3) := by decide +kernel
theorem dX12_line_65 : decode cX12_line 65 = .ok (.aload_n 0, 1) := by decide +kernel
theorem dX12_line_66 : decode cX12_line 66 = .ok (.iload_n 1, 1) := by decide +kernel
theorem dX12_line_67 : decode cX12_line 67 = .ok (.iconst 1, 1) := by decide +kernel
theorem dX12_line_68 : decode cX12_line 68 = .ok (.invokevirtual 291, 3) := by decide +kernel
theorem dX12_line_71 : decode cX12_line 71 = .ok (.ireturn, 1) := by decide +kernel
noncomputable def FX12_line (a0 : Nat) (p1 : Int32) (p2 : Int32) : PP Int32 := bd (sI a0 0 (0 : Int32)) (fun (_ : Unit) => bd (FX12_isLine a0 p1) (fun x1 => if ((b2i x1)) = 0 then pu (-1 : Int32) else bd (FX12_within p2 (0 : Int32) (3 : Int32)) (fun x2 => if ((b2i x2)) = 0 then pu (-1 : Int32) else bd (if p2 = 0 then bd (FX12_lineOf a0 p1 (0 : Int32)) (fun x6 => pu x6) else if p2 = (1 : Int32) then bd (FX12_freeOf a0 (0 : Int32) p1) (fun x5 => pu x5) else if p2 = (2 : Int32) then bd (FX12_onLine a0 (0 : Int32) p1) (fun x4 => pu x4) else bd (FX12_lineOf a0 p1 (1 : Int32)) (fun x3 => pu x3) : PP (Int32)) (fun (v7 : Int32) => pu v7))))
set_option maxHeartbeats 4000000 in
set_option maxRecDepth 100000 in
theorem SX12_line {l : Launch} {K : KK} {n : Nat} {hn : 270 ≤ n} (a0 : Nat) (p1 : Int32) (p2 : Int32) (h0 : ob a0 11) : CT l K n 2 mX12_line [.ref (K.2.1 + a0), .int p1, .int p2] enI (FX12_line a0 p1 p2) := by
  refine CT.of2 (lv2 := [(0, .ref (K.2.1 + a0)), (1, .int p1), (2, .int p2)]) (by decide) rfl hn (Nat.le_of_ble_eq_true rfl) rfl (rp_id ?_)
  unfold FX12_line
  refine rp_aload_n 0 dX12_line_0 rfl ?_
  refine rp_iconst (0 : Int32) dX12_line_1 (by decide) ?_
  refine rp_putI fi_X12_1 fp_X12_0 h0 rfl dX12_line_2 ?_
  refine rp_aload_n 0 dX12_line_5 rfl ?_
  refine rp_iload_n 1 dX12_line_6 rfl ?_
  refine rp_callVz [.int p1] (SX12_isLine (hn := hn) a0 p1 h0) cvX12_isLine (mw (i := 1547) (by decide +kernel)) (by omega) h0 (by decide) rfl rfl rfl (Nat.le_of_ble_eq_true rfl) dX12_line_7 (fun x1 => ?_)
  refine rp_if_eq 22 dX12_line_10 (by decide) ?_ ?_
  · refine rp_iconst (-1 : Int32) dX12_line_22 (by decide) ?_
    exact rp_pu (rp_iret rfl dX12_line_23)
  · refine rp_iload_n 2 dX12_line_13 rfl ?_
    refine rp_iconst (0 : Int32) dX12_line_14 (by decide) ?_
    refine rp_iconst (3 : Int32) dX12_line_15 (by decide) ?_
    refine rp_callSz [.int p2, .int (0 : Int32), .int (3 : Int32)] (SX12_within (hn := hn) p2 (0 : Int32) (3 : Int32)) csX12_within (mw (i := 1484) (by decide +kernel)) (by omega) rfl rfl (Nat.le_of_ble_eq_true rfl) dX12_line_16 (fun x2 => ?_)
    refine rp_if_ne 24 dX12_line_19 (by decide) ?_ ?_
    · refine rp_iload_n 2 dX12_line_24 rfl ?_
      refine rp_as ?_
      refine rp_join 71 (fun (v7 : Int32) => []) (fun v7 => [.int v7]) (fun v7 => ?_) (fun hJ71 => ?_)
      · exact rp_pu (rp_iret rfl dX12_line_71)
      refine rp_if_ne 37 dX12_line_25 (by decide) ?_ ?_
      · refine rp_iload_n 2 dX12_line_37 rfl ?_
        refine rp_iconst (1 : Int32) dX12_line_38 (by decide) ?_
        refine rp_icmp_ne 51 dX12_line_39 (by decide) ?_ ?_
        · refine rp_iload_n 2 dX12_line_51 rfl ?_
          refine rp_iconst (2 : Int32) dX12_line_52 (by decide) ?_
          refine rp_icmp_ne 65 dX12_line_53 (by decide) ?_ ?_
          · refine rp_aload_n 0 dX12_line_65 rfl ?_
            refine rp_iload_n 1 dX12_line_66 rfl ?_
            refine rp_iconst (1 : Int32) dX12_line_67 (by decide) ?_
            refine rp_callVi [.int p1, .int (1 : Int32)] (SX12_lineOf (hn := hn) a0 p1 (1 : Int32) h0) cvX12_lineOf (mw (i := 1555) (by decide +kernel)) (by omega) h0 (by decide) rfl rfl rfl (Nat.le_of_ble_eq_true rfl) dX12_line_68 (fun x3 => ?_)
            exact rp_sub [] rfl (rp_pu (hJ71 x3))
          · refine rp_aload_n 0 dX12_line_56 rfl ?_
            refine rp_iconst (0 : Int32) dX12_line_57 (by decide) ?_
            refine rp_iload_n 1 dX12_line_58 rfl ?_
            refine rp_callVi [.int (0 : Int32), .int p1] (SX12_onLine (hn := hn) a0 (0 : Int32) p1 h0) cvX12_onLine (mw (i := 1563) (by decide +kernel)) (by omega) h0 (by decide) rfl rfl rfl (Nat.le_of_ble_eq_true rfl) dX12_line_59 (fun x4 => ?_)
            refine rp_goto 71 dX12_line_62 (by decide) ?_
            exact rp_sub [] rfl (rp_pu (hJ71 x4))
        · refine rp_aload_n 0 dX12_line_42 rfl ?_
          refine rp_iconst (0 : Int32) dX12_line_43 (by decide) ?_
          refine rp_iload_n 1 dX12_line_44 rfl ?_
          refine rp_callVi [.int (0 : Int32), .int p1] (SX12_freeOf (hn := hn) a0 (0 : Int32) p1 h0) cvX12_freeOf (mw (i := 1559) (by decide +kernel)) (by omega) h0 (by decide) rfl rfl rfl (Nat.le_of_ble_eq_true rfl) dX12_line_45 (fun x5 => ?_)
          refine rp_goto 71 dX12_line_48 (by decide) ?_
          exact rp_sub [] rfl (rp_pu (hJ71 x5))
      · refine rp_aload_n 0 dX12_line_28 rfl ?_
        refine rp_iload_n 1 dX12_line_29 rfl ?_
        refine rp_iconst (0 : Int32) dX12_line_30 (by decide) ?_
        refine rp_callVi [.int p1, .int (0 : Int32)] (SX12_lineOf (hn := hn) a0 p1 (0 : Int32) h0) cvX12_lineOf (mw (i := 1555) (by decide +kernel)) (by omega) h0 (by decide) rfl rfl rfl (Nat.le_of_ble_eq_true rfl) dX12_line_31 (fun x6 => ?_)
        refine rp_goto 71 dX12_line_34 (by decide) ?_
        exact rp_sub [] rfl (rp_pu (hJ71 x6))
    · refine rp_iconst (-1 : Int32) dX12_line_22 (by decide) ?_
      exact rp_pu (rp_iret rfl dX12_line_23)

theorem dX12_cloth_0 : decode cX12_cloth 0 = .ok (.aload_n 0, 1) := by decide +kernel
theorem dX12_cloth_1 : decode cX12_cloth 1 = .ok (.iconst 0, 1) := by decide +kernel
theorem dX12_cloth_2 : decode cX12_cloth 2 = .ok (.putfield 1, 3) := by decide +kernel
theorem dX12_cloth_5 : decode cX12_cloth 5 = .ok (.aload_n 0, 1) := by decide +kernel
theorem dX12_cloth_6 : decode cX12_cloth 6 = .ok (.iload_n 1, 1) := by decide +kernel
theorem dX12_cloth_7 : decode cX12_cloth 7 = .ok (.invokevirtual 322, 3) := by decide +kernel
theorem dX12_cloth_10 : decode cX12_cloth 10 = .ok (.ifCond .eq 12, 3) := by decide +kernel
theorem dX12_cloth_13 : decode cX12_cloth 13 = .ok (.iload_n 2, 1) := by decide +kernel
theorem dX12_cloth_14 : decode cX12_cloth 14 = .ok (.iconst 0, 1) := by decide +kernel
theorem dX12_cloth_15 : decode cX12_cloth 15 = .ok (.iconst 4, 1) := by decide +kernel
theorem dX12_cloth_16 : decode cX12_cloth 16 = .ok (.invokestatic 201, 3) := by decide +kernel
theorem dX12_cloth_19 : decode cX12_cloth 19 = .ok (.ifCond .ne 6, 3) := by decide +kernel
theorem dX12_cloth_22 : decode cX12_cloth 22 = .ok (.bipush (-2), 2) := by decide +kernel
theorem dX12_cloth_24 : decode cX12_cloth 24 = .ok (.ireturn, 1) := by decide +kernel
theorem dX12_cloth_25 : decode cX12_cloth 25 = .ok (.iload_n 2, 1) := by decide +kernel
theorem dX12_cloth_26 : decode cX12_cloth 26 = .ok (.tableswitch 66 0 3 #[30, 37, 46, 56], 30) := by decide +kernel
theorem dX12_cloth_56 : decode cX12_cloth 56 = .ok (.aload_n 0, 1) := by decide +kernel
theorem dX12_cloth_57 : decode cX12_cloth 57 = .ok (.iload_n 1, 1) := by decide +kernel
theorem dX12_cloth_58 : decode cX12_cloth 58 = .ok (.iconst 0, 1) := by decide +kernel
theorem dX12_cloth_59 : decode cX12_cloth 59 = .ok (.invokevirtual 273, 3) := by decide +kernel
theorem dX12_cloth_62 : decode cX12_cloth 62 = .ok (.ireturn, 1) := by decide +kernel
theorem dX12_cloth_63 : decode cX12_cloth 63 = .ok (.aload_n 0, 1) := by decide +kernel
theorem dX12_cloth_64 : decode cX12_cloth 64 = .ok (.getfield 113, 3) := by decide +kernel
theorem dX12_cloth_67 : decode cX12_cloth 67 = .ok (.iconst 1, 1) := by decide +kernel
theorem dX12_cloth_68 : decode cX12_cloth 68 = .ok (.iload_n 1, 1) := by decide +kernel
theorem dX12_cloth_69 : decode cX12_cloth 69 = .ok (.iadd, 1) := by decide +kernel
theorem dX12_cloth_70 : decode cX12_cloth 70 = .ok (.iaload, 1) := by decide +kernel
theorem dX12_cloth_71 : decode cX12_cloth 71 = .ok (.ireturn, 1) := by decide +kernel
theorem dX12_cloth_72 : decode cX12_cloth 72 = .ok (.aload_n 0, 1) := by decide +kernel
theorem dX12_cloth_73 : decode cX12_cloth 73 = .ok (.getfield 113, 3) := by decide +kernel
theorem dX12_cloth_76 : decode cX12_cloth 76 = .ok (.bipush 7, 2) := by decide +kernel
theorem dX12_cloth_78 : decode cX12_cloth 78 = .ok (.iload_n 1, 1) := by decide +kernel
theorem dX12_cloth_79 : decode cX12_cloth 79 = .ok (.iadd, 1) := by decide +kernel
theorem dX12_cloth_80 : decode cX12_cloth 80 = .ok (.iaload, 1) := by decide +kernel
theorem dX12_cloth_81 : decode cX12_cloth 81 = .ok (.ireturn, 1) := by decide +kernel
theorem dX12_cloth_82 : decode cX12_cloth 82 = .ok (.aload_n 0, 1) := by decide +kernel
theorem dX12_cloth_83 : decode cX12_cloth 83 = .ok (.getfield 113, 3) := by decide +kernel
theorem dX12_cloth_86 : decode cX12_cloth 86 = .ok (.bipush 13, 2) := by decide +kernel
theorem dX12_cloth_88 : decode cX12_cloth 88 = .ok (.iload_n 1, 1) := by decide +kernel
theorem dX12_cloth_89 : decode cX12_cloth 89 = .ok (.iadd, 1) := by decide +kernel
theorem dX12_cloth_90 : decode cX12_cloth 90 = .ok (.iaload, 1) := by decide +kernel
theorem dX12_cloth_91 : decode cX12_cloth 91 = .ok (.ireturn, 1) := by decide +kernel
theorem dX12_cloth_92 : decode cX12_cloth 92 = .ok (.aload_n 0, 1) := by decide +kernel
theorem dX12_cloth_93 : decode cX12_cloth 93 = .ok (.iload_n 1, 1) := by decide +kernel
theorem dX12_cloth_94 : decode cX12_cloth 94 = .ok (.iconst 1, 1) := by decide +kernel
theorem dX12_cloth_95 : decode cX12_cloth 95 = .ok (.invokevirtual 273, 3) := by decide +kernel
theorem dX12_cloth_98 : decode cX12_cloth 98 = .ok (.ireturn, 1) := by decide +kernel
noncomputable def FX12_cloth (a0 : Nat) (p1 : Int32) (p2 : Int32) : PP Int32 := bd (sI a0 0 (0 : Int32)) (fun (_ : Unit) => bd (FX12_isCloth a0 p1) (fun x1 => if ((b2i x1)) = 0 then pu (-2 : Int32) else bd (FX12_within p2 (0 : Int32) (4 : Int32)) (fun x2 => if ((b2i x2)) = 0 then pu (-2 : Int32) else tsw p2 [(0 : Int32), (1 : Int32), (2 : Int32), (3 : Int32)] [bd (FX12_clothOf a0 p1 (0 : Int32)) (fun x3 => pu x3), bd (aI (rf a0 23) 966 ((1 : Int32) + p1)) (fun x4 => pu x4), bd (aI (rf a0 23) 966 ((7 : Int32) + p1)) (fun x5 => pu x5), bd (aI (rf a0 23) 966 ((13 : Int32) + p1)) (fun x6 => pu x6)] (bd (FX12_clothOf a0 p1 (1 : Int32)) (fun x7 => pu x7)))))
set_option maxHeartbeats 4000000 in
set_option maxRecDepth 100000 in
theorem SX12_cloth {l : Launch} {K : KK} {n : Nat} {hn : 270 ≤ n} (a0 : Nat) (p1 : Int32) (p2 : Int32) (h0 : ob a0 11) : CT l K n 2 mX12_cloth [.ref (K.2.1 + a0), .int p1, .int p2] enI (FX12_cloth a0 p1 p2) := by
  refine CT.of2 (lv2 := [(0, .ref (K.2.1 + a0)), (1, .int p1), (2, .int p2)]) (by decide) rfl hn (Nat.le_of_ble_eq_true rfl) rfl (rp_id ?_)
  unfold FX12_cloth
  refine rp_aload_n 0 dX12_cloth_0 rfl ?_
  refine rp_iconst (0 : Int32) dX12_cloth_1 (by decide) ?_
  refine rp_putI fi_X12_1 fp_X12_0 h0 rfl dX12_cloth_2 ?_
  refine rp_aload_n 0 dX12_cloth_5 rfl ?_
  refine rp_iload_n 1 dX12_cloth_6 rfl ?_
  refine rp_callVz [.int p1] (SX12_isCloth (hn := hn) a0 p1 h0) cvX12_isCloth (mw (i := 1571) (by decide +kernel)) (by omega) h0 (by decide) rfl rfl rfl (Nat.le_of_ble_eq_true rfl) dX12_cloth_7 (fun x1 => ?_)
  refine rp_if_eq 22 dX12_cloth_10 (by decide) ?_ ?_
  · refine rp_bipush (-2 : Int32) dX12_cloth_22 (by decide) ?_
    exact rp_pu (rp_iret rfl dX12_cloth_24)
  · refine rp_iload_n 2 dX12_cloth_13 rfl ?_
    refine rp_iconst (0 : Int32) dX12_cloth_14 (by decide) ?_
    refine rp_iconst (4 : Int32) dX12_cloth_15 (by decide) ?_
    refine rp_callSz [.int p2, .int (0 : Int32), .int (4 : Int32)] (SX12_within (hn := hn) p2 (0 : Int32) (4 : Int32)) csX12_within (mw (i := 1484) (by decide +kernel)) (by omega) rfl rfl (Nat.le_of_ble_eq_true rfl) dX12_cloth_16 (fun x2 => ?_)
    refine rp_if_ne 25 dX12_cloth_19 (by decide) ?_ ?_
    · refine rp_iload_n 2 dX12_cloth_25 rfl ?_
      refine rp_tsw [56, 63, 72, 82] 92 dX12_cloth_26 rfl (by decide +kernel) ?_ ?_
      · refine ⟨?_, ?_, ?_, ?_, trivial⟩
        · refine rp_aload_n 0 dX12_cloth_56 rfl ?_
          refine rp_iload_n 1 dX12_cloth_57 rfl ?_
          refine rp_iconst (0 : Int32) dX12_cloth_58 (by decide) ?_
          refine rp_callVi [.int p1, .int (0 : Int32)] (SX12_clothOf (hn := hn) a0 p1 (0 : Int32) h0) cvX12_clothOf (mw (i := 1310) (by decide +kernel)) (by omega) h0 (by decide) rfl rfl rfl (Nat.le_of_ble_eq_true rfl) dX12_cloth_59 (fun x3 => ?_)
          exact rp_pu (rp_iret rfl dX12_cloth_62)
        · refine rp_aload_n 0 dX12_cloth_63 rfl ?_
          refine rp_getR fi_X12_113 h0 rfl dX12_cloth_64 ?_
          refine rp_iconst (1 : Int32) dX12_cloth_67 (by decide) ?_
          refine rp_iload_n 1 dX12_cloth_68 rfl ?_
          refine rp_iadd dX12_cloth_69 ?_
          refine rp_iald (tX12_23 h0) dX12_cloth_70 (fun x4 => ?_)
          exact rp_pu (rp_iret rfl dX12_cloth_71)
        · refine rp_aload_n 0 dX12_cloth_72 rfl ?_
          refine rp_getR fi_X12_113 h0 rfl dX12_cloth_73 ?_
          refine rp_bipush (7 : Int32) dX12_cloth_76 (by decide) ?_
          refine rp_iload_n 1 dX12_cloth_78 rfl ?_
          refine rp_iadd dX12_cloth_79 ?_
          refine rp_iald (tX12_23 h0) dX12_cloth_80 (fun x5 => ?_)
          exact rp_pu (rp_iret rfl dX12_cloth_81)
        · refine rp_aload_n 0 dX12_cloth_82 rfl ?_
          refine rp_getR fi_X12_113 h0 rfl dX12_cloth_83 ?_
          refine rp_bipush (13 : Int32) dX12_cloth_86 (by decide) ?_
          refine rp_iload_n 1 dX12_cloth_88 rfl ?_
          refine rp_iadd dX12_cloth_89 ?_
          refine rp_iald (tX12_23 h0) dX12_cloth_90 (fun x6 => ?_)
          exact rp_pu (rp_iret rfl dX12_cloth_91)
      · refine rp_aload_n 0 dX12_cloth_92 rfl ?_
        refine rp_iload_n 1 dX12_cloth_93 rfl ?_
        refine rp_iconst (1 : Int32) dX12_cloth_94 (by decide) ?_
        refine rp_callVi [.int p1, .int (1 : Int32)] (SX12_clothOf (hn := hn) a0 p1 (1 : Int32) h0) cvX12_clothOf (mw (i := 1310) (by decide +kernel)) (by omega) h0 (by decide) rfl rfl rfl (Nat.le_of_ble_eq_true rfl) dX12_cloth_95 (fun x7 => ?_)
        exact rp_pu (rp_iret rfl dX12_cloth_98)
    · refine rp_bipush (-2 : Int32) dX12_cloth_22 (by decide) ?_
      exact rp_pu (rp_iret rfl dX12_cloth_24)

theorem dX12_place_0 : decode cX12_place 0 = .ok (.aload_n 0, 1) := by decide +kernel
theorem dX12_place_1 : decode cX12_place 1 = .ok (.iconst 0, 1) := by decide +kernel
theorem dX12_place_2 : decode cX12_place 2 = .ok (.putfield 1, 3) := by decide +kernel
theorem dX12_place_5 : decode cX12_place 5 = .ok (.aload_n 0, 1) := by decide +kernel
theorem dX12_place_6 : decode cX12_place 6 = .ok (.iload_n 1, 1) := by decide +kernel
theorem dX12_place_7 : decode cX12_place 7 = .ok (.invokevirtual 325, 3) := by decide +kernel
theorem dX12_place_10 : decode cX12_place 10 = .ok (.ifCond .eq 12, 3) := by decide +kernel
theorem dX12_place_13 : decode cX12_place 13 = .ok (.iload_n 2, 1) := by decide +kernel
theorem dX12_place_14 : decode cX12_place 14 = .ok (.iconst 0, 1) := by decide +kernel
theorem dX12_place_15 : decode cX12_place 15 = .ok (.iconst 3, 1) := by decide +kernel
theorem dX12_place_16 : decode cX12_place 16 = .ok (.invokestatic 201, 3) := by decide +kernel
theorem dX12_place_19 : decode cX12_place 19 = .ok (.ifCond .ne 6, 3) := by decide +kernel
theorem dX12_place_22 : decode cX12_place 22 = .ok (.bipush (-2), 2) := by decide +kernel
theorem dX12_place_24 : decode cX12_place 24 = .ok (.ireturn, 1) := by decide +kernel
theorem dX12_place_25 : decode cX12_place 25 = .ok (.aload_n 0, 1) := by decide +kernel
theorem dX12_place_26 : decode cX12_place 26 = .ok (.iconst 0, 1) := by decide +kernel
theorem dX12_place_27 : decode cX12_place 27 = .ok (.iload_n 1, 1) := by decide +kernel
theorem dX12_place_28 : decode cX12_place 28 = .ok (.invokevirtual 307, 3) := by decide +kernel
theorem dX12_place_31 : decode cX12_place 31 = .ok (.istore_n 3, 1) := by decide +kernel
theorem dX12_place_32 : decode cX12_place 32 = .ok (.iload_n 2, 1) := by decide +kernel
theorem dX12_place_33 : decode cX12_place 33 = .ok (.ifCond .ne 7, 3) := by decide +kernel
theorem dX12_place_36 : decode cX12_place 36 = .ok (.iload_n 3, 1) := by decide +kernel
theorem dX12_place_37 : decode cX12_place 37 = .ok (.goto 48, 3) := by decide +kernel
theorem dX12_place_40 : decode cX12_place 40 = .ok (.iload_n 2, 1) := by decide +kernel
theorem dX12_place_41 : decode cX12_place 41 = .ok (.iconst 1, 1) := by decide +kernel
theorem dX12_place_42 : decode cX12_place 42 = .ok (.if_icmp .ne 21, 3) := by decide +kernel
theorem dX12_place_45 : decode cX12_place 45 = .ok (.iload_n 3, 1) := by decide +kernel
theorem dX12_place_46 : decode cX12_place 46 = .ok (.ifCond .ge 7, 3) := by decide +kernel
theorem dX12_place_49 : decode cX12_place 49 = .ok (.iconst 0, 1) := by decide +kernel
theorem dX12_place_50 : decode cX12_place 50 = .ok (.goto 35, 3) := by decide +kernel
theorem dX12_place_53 : decode cX12_place 53 = .ok (.aload_n 0, 1) := by decide +kernel
theorem dX12_place_54 : decode cX12_place 54 = .ok (.iconst 0, 1) := by decide +kernel
theorem dX12_place_55 : decode cX12_place 55 = .ok (.iload_n 1, 1) := by decide +kernel
theorem dX12_place_56 : decode cX12_place 56 = .ok (.iload_n 3, 1) := by decide +kernel
theorem dX12_place_57 : decode cX12_place 57 = .ok (.invokevirtual 304, 3) := by decide +kernel
theorem dX12_place_60 : decode cX12_place 60 = .ok (.goto 25, 3) := by decide +kernel
theorem dX12_place_63 : decode cX12_place 63 = .ok (.iload_n 2, 1) := by decide +kernel
theorem dX12_place_64 : decode cX12_place 64 = .ok (.iconst 2, 1) := by decide +kernel
theorem dX12_place_65 : decode cX12_place 65 = .ok (.if_icmp .ne 11, 3) := by decide +kernel
theorem dX12_place_68 : decode cX12_place 68 = .ok (.aload_n 0, 1) := by decide +kernel
theorem dX12_place_69 : decode cX12_place 69 = .ok (.iload_n 1, 1) := by decide +kernel
theorem dX12_place_70 : decode cX12_place 70 = .ok (.invokevirtual 328, 3) := by decide +kernel
theorem dX12_place_73 : decode cX12_place 73 = .ok (.goto 12, 3) := by decide +kernel
theorem dX12_place_76 : decode cX12_place 76 = .ok (.aload_n 0, 1) := by decide +kernel
theorem dX12_place_77 : decode cX12_place 77 = .ok (.getfield 83, 3) := by decide +kernel
theorem dX12_place_80 : decode cX12_place 80 = .ok (.bipush 14, 2) := by decide +kernel
theorem dX12_place_82 : decode cX12_place 82 = .ok (.iload_n 1, 1) := by decide +kernel
theorem dX12_place_83 : decode cX12_place 83 = .ok (.iadd, 1) := by decide +kernel
theorem dX12_place_84 : decode cX12_place 84 = .ok (.iaload, 1) := by decide +kernel
theorem dX12_place_85 : decode cX12_place 85 = .ok (.ireturn, 1) := by decide +kernel
noncomputable def FX12_place (a0 : Nat) (p1 : Int32) (p2 : Int32) : PP Int32 := bd (sI a0 0 (0 : Int32)) (fun (_ : Unit) => bd (FX12_isPlace a0 p1) (fun x1 => if ((b2i x1)) = 0 then pu (-2 : Int32) else bd (FX12_within p2 (0 : Int32) (3 : Int32)) (fun x2 => if ((b2i x2)) = 0 then pu (-2 : Int32) else bd (FX12_weatherOf a0 (0 : Int32) p1) (fun x3 => bd (if p2 = 0 then pu x3 else if p2 = (1 : Int32) then if 0 ≤ x3 then bd (FX12_howMany a0 (0 : Int32) p1 x3) (fun x6 => pu x6) else pu (0 : Int32) else if p2 = (2 : Int32) then bd (FX12_windOf a0 p1) (fun x5 => pu x5) else bd (aI (rf a0 10) 80 ((14 : Int32) + p1)) (fun x4 => pu x4) : PP (Int32)) (fun (v7 : Int32) => pu v7)))))
set_option maxHeartbeats 4000000 in
set_option maxRecDepth 100000 in
theorem SX12_place {l : Launch} {K : KK} {n : Nat} {hn : 270 ≤ n} (a0 : Nat) (p1 : Int32) (p2 : Int32) (h0 : ob a0 11) : CT l K n 4 mX12_place [.ref (K.2.1 + a0), .int p1, .int p2] enI (FX12_place a0 p1 p2) := by
  refine CT.of2 (lv2 := [(0, .ref (K.2.1 + a0)), (1, .int p1), (2, .int p2)]) (by decide) rfl hn (Nat.le_of_ble_eq_true rfl) rfl (rp_id ?_)
  unfold FX12_place
  refine rp_aload_n 0 dX12_place_0 rfl ?_
  refine rp_iconst (0 : Int32) dX12_place_1 (by decide) ?_
  refine rp_putI fi_X12_1 fp_X12_0 h0 rfl dX12_place_2 ?_
  refine rp_aload_n 0 dX12_place_5 rfl ?_
  refine rp_iload_n 1 dX12_place_6 rfl ?_
  refine rp_callVz [.int p1] (SX12_isPlace (hn := hn) a0 p1 h0) cvX12_isPlace (mw (i := 1579) (by decide +kernel)) (by omega) h0 (by decide) rfl rfl rfl (Nat.le_of_ble_eq_true rfl) dX12_place_7 (fun x1 => ?_)
  refine rp_if_eq 22 dX12_place_10 (by decide) ?_ ?_
  · refine rp_bipush (-2 : Int32) dX12_place_22 (by decide) ?_
    exact rp_pu (rp_iret rfl dX12_place_24)
  · refine rp_iload_n 2 dX12_place_13 rfl ?_
    refine rp_iconst (0 : Int32) dX12_place_14 (by decide) ?_
    refine rp_iconst (3 : Int32) dX12_place_15 (by decide) ?_
    refine rp_callSz [.int p2, .int (0 : Int32), .int (3 : Int32)] (SX12_within (hn := hn) p2 (0 : Int32) (3 : Int32)) csX12_within (mw (i := 1484) (by decide +kernel)) (by omega) rfl rfl (Nat.le_of_ble_eq_true rfl) dX12_place_16 (fun x2 => ?_)
    refine rp_if_ne 25 dX12_place_19 (by decide) ?_ ?_
    · refine rp_aload_n 0 dX12_place_25 rfl ?_
      refine rp_iconst (0 : Int32) dX12_place_26 (by decide) ?_
      refine rp_iload_n 1 dX12_place_27 rfl ?_
      refine rp_callVi [.int (0 : Int32), .int p1] (SX12_weatherOf (hn := hn) a0 (0 : Int32) p1 h0) cvX12_weatherOf (mw (i := 1587) (by decide +kernel)) (by omega) h0 (by decide) rfl rfl rfl (Nat.le_of_ble_eq_true rfl) dX12_place_28 (fun x3 => ?_)
      refine rp_istore_n [(3, .int x3), (0, .ref (K.2.1 + a0)), (1, .int p1), (2, .int p2)] dX12_place_31 (by decide) rfl ?_
      refine rp_iload_n 3 dX12_place_32 rfl ?_
      refine rp_as ?_
      refine rp_join 85 (fun (v7 : Int32) => []) (fun v7 => [.int v7]) (fun v7 => ?_) (fun hJ85 => ?_)
      · exact rp_pu (rp_iret rfl dX12_place_85)
      refine rp_if_ne 40 dX12_place_33 (by decide) ?_ ?_
      · refine rp_iload_n 3 dX12_place_40 rfl ?_
        refine rp_iconst (1 : Int32) dX12_place_41 (by decide) ?_
        refine rp_icmp_ne 63 dX12_place_42 (by decide) ?_ ?_
        · refine rp_iload_n 3 dX12_place_63 rfl ?_
          refine rp_iconst (2 : Int32) dX12_place_64 (by decide) ?_
          refine rp_icmp_ne 76 dX12_place_65 (by decide) ?_ ?_
          · refine rp_aload_n 1 dX12_place_76 rfl ?_
            refine rp_getR fi_X12_83 h0 rfl dX12_place_77 ?_
            refine rp_bipush (14 : Int32) dX12_place_80 (by decide) ?_
            refine rp_iload_n 2 dX12_place_82 rfl ?_
            refine rp_iadd dX12_place_83 ?_
            refine rp_iald (tX12_10 h0) dX12_place_84 (fun x4 => ?_)
            exact rp_sub [] rfl (rp_pu (hJ85 x4))
          · refine rp_aload_n 1 dX12_place_68 rfl ?_
            refine rp_iload_n 2 dX12_place_69 rfl ?_
            refine rp_callVi [.int p1] (SX12_windOf (hn := hn) a0 p1 h0) cvX12_windOf (mw (i := 1607) (by decide +kernel)) (by omega) h0 (by decide) rfl rfl rfl (Nat.le_of_ble_eq_true rfl) dX12_place_70 (fun x5 => ?_)
            refine rp_goto 85 dX12_place_73 (by decide) ?_
            exact rp_sub [] rfl (rp_pu (hJ85 x5))
        · refine rp_iload_n 0 dX12_place_45 rfl ?_
          refine rp_if_ge 53 dX12_place_46 (by decide) ?_ ?_
          · refine rp_aload_n 1 dX12_place_53 rfl ?_
            refine rp_iconst (0 : Int32) dX12_place_54 (by decide) ?_
            refine rp_iload_n 2 dX12_place_55 rfl ?_
            refine rp_iload_n 0 dX12_place_56 rfl ?_
            refine rp_callVi [.int (0 : Int32), .int p1, .int x3] (SX12_howMany (hn := hn) a0 (0 : Int32) p1 x3 h0) cvX12_howMany (mw (i := 1591) (by decide +kernel)) (by omega) h0 (by decide) rfl rfl rfl (Nat.le_of_ble_eq_true rfl) dX12_place_57 (fun x6 => ?_)
            refine rp_goto 85 dX12_place_60 (by decide) ?_
            exact rp_sub [] rfl (rp_pu (hJ85 x6))
          · refine rp_iconst (0 : Int32) dX12_place_49 (by decide) ?_
            refine rp_goto 85 dX12_place_50 (by decide) ?_
            exact rp_sub [] rfl (rp_pu (hJ85 (0 : Int32)))
      · refine rp_iload_n 0 dX12_place_36 rfl ?_
        refine rp_goto 85 dX12_place_37 (by decide) ?_
        exact rp_sub [] rfl (rp_pu (hJ85 x3))
    · refine rp_bipush (-2 : Int32) dX12_place_22 (by decide) ?_
      exact rp_pu (rp_iret rfl dX12_place_24)

theorem dX12_hang_0 : decode cX12_hang 0 = .ok (.aload_n 0, 1) := by decide +kernel
theorem dX12_hang_1 : decode cX12_hang 1 = .ok (.iconst 0, 1) := by decide +kernel
theorem dX12_hang_2 : decode cX12_hang 2 = .ok (.putfield 1, 3) := by decide +kernel
theorem dX12_hang_5 : decode cX12_hang 5 = .ok (.aload_n 0, 1) := by decide +kernel
theorem dX12_hang_6 : decode cX12_hang 6 = .ok (.iload_n 1, 1) := by decide +kernel
theorem dX12_hang_7 : decode cX12_hang 7 = .ok (.invokevirtual 322, 3) := by decide +kernel
theorem dX12_hang_10 : decode cX12_hang 10 = .ok (.ifCond .eq 31, 3) := by decide +kernel
theorem dX12_hang_13 : decode cX12_hang 13 = .ok (.aload_n 0, 1) := by decide +kernel
theorem dX12_hang_14 : decode cX12_hang 14 = .ok (.iload_n 2, 1) := by decide +kernel
theorem dX12_hang_15 : decode cX12_hang 15 = .ok (.invokevirtual 316, 3) := by decide +kernel
theorem dX12_hang_18 : decode cX12_hang 18 = .ok (.ifCond .eq 23, 3) := by decide +kernel
theorem dX12_hang_21 : decode cX12_hang 21 = .ok (.iload_n 3, 1) := by decide +kernel
theorem dX12_hang_22 : decode cX12_hang 22 = .ok (.iconst 1, 1) := by decide +kernel
theorem dX12_hang_23 : decode cX12_hang 23 = .ok (.iconst 3, 1) := by decide +kernel
theorem dX12_hang_24 : decode cX12_hang 24 = .ok (.invokestatic 201, 3) := by decide +kernel
theorem dX12_hang_27 : decode cX12_hang 27 = .ok (.ifCond .eq 14, 3) := by decide +kernel
theorem dX12_hang_30 : decode cX12_hang 30 = .ok (.aload_n 0, 1) := by decide +kernel
theorem dX12_hang_31 : decode cX12_hang 31 = .ok (.iconst 0, 1) := by decide +kernel
theorem dX12_hang_32 : decode cX12_hang 32 = .ok (.iload_n 1, 1) := by decide +kernel
theorem dX12_hang_33 : decode cX12_hang 33 = .ok (.iload_n 2, 1) := by decide +kernel
theorem dX12_hang_34 : decode cX12_hang 34 = .ok (.iload_n 3, 1) := by decide +kernel
theorem dX12_hang_35 : decode cX12_hang 35 = .ok (.invokevirtual 331, 3) := by decide +kernel
theorem dX12_hang_38 : decode cX12_hang 38 = .ok (.ifCond .ne 5, 3) := by decide +kernel
theorem dX12_hang_41 : decode cX12_hang 41 = .ok (.iconst (-1), 1) := by decide +kernel
theorem dX12_hang_42 : decode cX12_hang 42 = .ok (.ireturn, 1) := by decide +kernel
theorem dX12_hang_43 : decode cX12_hang 43 = .ok (.aload_n 0, 1) := by decide +kernel
theorem dX12_hang_44 : decode cX12_hang 44 = .ok (.invokevirtual 335, 3) := by decide +kernel
theorem dX12_hang_47 : decode cX12_hang 47 = .ok (.aload_n 0, 1) := by decide +kernel
theorem dX12_hang_48 : decode cX12_hang 48 = .ok (.iconst 0, 1) := by decide +kernel
theorem dX12_hang_49 : decode cX12_hang 49 = .ok (.iload_n 1, 1) := by decide +kernel
theorem dX12_hang_50 : decode cX12_hang 50 = .ok (.iload_n 2, 1) := by decide +kernel
theorem dX12_hang_51 : decode cX12_hang 51 = .ok (.iload_n 3, 1) := by decide +kernel
theorem dX12_hang_52 : decode cX12_hang 52 = .ok (.invokevirtual 338, 3) := by decide +kernel
theorem dX12_hang_55 : decode cX12_hang 55 = .ok (.aload_n 0, 1) := by decide +kernel
theorem dX12_hang_56 : decode cX12_hang 56 = .ok (.iconst 0, 1) := by decide +kernel
theorem dX12_hang_57 : decode cX12_hang 57 = .ok (.iload_n 2, 1) := by decide +kernel
theorem dX12_hang_58 : decode cX12_hang 58 = .ok (.invokevirtual 313, 3) := by decide +kernel
theorem dX12_hang_61 : decode cX12_hang 61 = .ok (.ireturn, 1) := by decide +kernel
noncomputable def FX12_hang (a0 : Nat) (p1 : Int32) (p2 : Int32) (p3 : Int32) : PP Int32 := bd (sI a0 0 (0 : Int32)) (fun (_ : Unit) => bd (FX12_isCloth a0 p1) (fun x1 => if ((b2i x1)) = 0 then pu (-1 : Int32) else bd (FX12_isLine a0 p2) (fun x2 => if ((b2i x2)) = 0 then pu (-1 : Int32) else bd (FX12_within p3 (1 : Int32) (3 : Int32)) (fun x3 => if ((b2i x3)) = 0 then pu (-1 : Int32) else bd (FX12_mayHang a0 (0 : Int32) p1 p2 p3) (fun x4 => if ((b2i x4)) = 0 then pu (-1 : Int32) else bd (FX12_keeps a0) (fun (_ : Unit) => bd (FX12_hangs a0 (0 : Int32) p1 p2 p3) (fun (_ : Unit) => bd (FX12_freeOf a0 (0 : Int32) p2) (fun x7 => pu x7))))))))
set_option maxHeartbeats 4000000 in
set_option maxRecDepth 100000 in
theorem SX12_hang {l : Launch} {K : KK} {n : Nat} {hn : 270 ≤ n} (a0 : Nat) (p1 : Int32) (p2 : Int32) (p3 : Int32) (h0 : ob a0 11) : CT l K n 3 mX12_hang [.ref (K.2.1 + a0), .int p1, .int p2, .int p3] enI (FX12_hang a0 p1 p2 p3) := by
  refine CT.of2 (lv2 := [(0, .ref (K.2.1 + a0)), (1, .int p1), (2, .int p2), (3, .int p3)]) (by decide) rfl hn (Nat.le_of_ble_eq_true rfl) rfl (rp_id ?_)
  unfold FX12_hang
  refine rp_aload_n 0 dX12_hang_0 rfl ?_
  refine rp_iconst (0 : Int32) dX12_hang_1 (by decide) ?_
  refine rp_putI fi_X12_1 fp_X12_0 h0 rfl dX12_hang_2 ?_
  refine rp_aload_n 0 dX12_hang_5 rfl ?_
  refine rp_iload_n 1 dX12_hang_6 rfl ?_
  refine rp_callVz [.int p1] (SX12_isCloth (hn := hn) a0 p1 h0) cvX12_isCloth (mw (i := 1571) (by decide +kernel)) (by omega) h0 (by decide) rfl rfl rfl (Nat.le_of_ble_eq_true rfl) dX12_hang_7 (fun x1 => ?_)
  refine rp_if_eq 41 dX12_hang_10 (by decide) ?_ ?_
  · refine rp_iconst (-1 : Int32) dX12_hang_41 (by decide) ?_
    exact rp_pu (rp_iret rfl dX12_hang_42)
  · refine rp_aload_n 0 dX12_hang_13 rfl ?_
    refine rp_iload_n 2 dX12_hang_14 rfl ?_
    refine rp_callVz [.int p2] (SX12_isLine (hn := hn) a0 p2 h0) cvX12_isLine (mw (i := 1547) (by decide +kernel)) (by omega) h0 (by decide) rfl rfl rfl (Nat.le_of_ble_eq_true rfl) dX12_hang_15 (fun x2 => ?_)
    refine rp_if_eq 41 dX12_hang_18 (by decide) ?_ ?_
    · refine rp_iconst (-1 : Int32) dX12_hang_41 (by decide) ?_
      exact rp_pu (rp_iret rfl dX12_hang_42)
    · refine rp_iload_n 3 dX12_hang_21 rfl ?_
      refine rp_iconst (1 : Int32) dX12_hang_22 (by decide) ?_
      refine rp_iconst (3 : Int32) dX12_hang_23 (by decide) ?_
      refine rp_callSz [.int p3, .int (1 : Int32), .int (3 : Int32)] (SX12_within (hn := hn) p3 (1 : Int32) (3 : Int32)) csX12_within (mw (i := 1484) (by decide +kernel)) (by omega) rfl rfl (Nat.le_of_ble_eq_true rfl) dX12_hang_24 (fun x3 => ?_)
      refine rp_if_eq 41 dX12_hang_27 (by decide) ?_ ?_
      · refine rp_iconst (-1 : Int32) dX12_hang_41 (by decide) ?_
        exact rp_pu (rp_iret rfl dX12_hang_42)
      · refine rp_aload_n 0 dX12_hang_30 rfl ?_
        refine rp_iconst (0 : Int32) dX12_hang_31 (by decide) ?_
        refine rp_iload_n 1 dX12_hang_32 rfl ?_
        refine rp_iload_n 2 dX12_hang_33 rfl ?_
        refine rp_iload_n 3 dX12_hang_34 rfl ?_
        refine rp_callVz [.int (0 : Int32), .int p1, .int p2, .int p3] (SX12_mayHang (hn := hn) a0 (0 : Int32) p1 p2 p3 h0) cvX12_mayHang (mw (i := 1615) (by decide +kernel)) (by omega) h0 (by decide) rfl rfl rfl (Nat.le_of_ble_eq_true rfl) dX12_hang_35 (fun x4 => ?_)
        refine rp_if_ne 43 dX12_hang_38 (by decide) ?_ ?_
        · refine rp_aload_n 0 dX12_hang_43 rfl ?_
          refine rp_callVv [] (SX12_keeps (hn := hn) a0 h0) cvX12_keeps (mw (i := 1619) (by decide +kernel)) (by omega) h0 (by decide) rfl rfl rfl (Nat.le_of_ble_eq_true rfl) dX12_hang_44 (fun x5 => ?_)
          refine rp_aload_n 0 dX12_hang_47 rfl ?_
          refine rp_iconst (0 : Int32) dX12_hang_48 (by decide) ?_
          refine rp_iload_n 1 dX12_hang_49 rfl ?_
          refine rp_iload_n 2 dX12_hang_50 rfl ?_
          refine rp_iload_n 3 dX12_hang_51 rfl ?_
          refine rp_callVv [.int (0 : Int32), .int p1, .int p2, .int p3] (SX12_hangs (hn := hn) a0 (0 : Int32) p1 p2 p3 h0) cvX12_hangs (mw (i := 1627) (by decide +kernel)) (by omega) h0 (by decide) rfl rfl rfl (Nat.le_of_ble_eq_true rfl) dX12_hang_52 (fun x6 => ?_)
          refine rp_aload_n 0 dX12_hang_55 rfl ?_
          refine rp_iconst (0 : Int32) dX12_hang_56 (by decide) ?_
          refine rp_iload_n 2 dX12_hang_57 rfl ?_
          refine rp_callVi [.int (0 : Int32), .int p2] (SX12_freeOf (hn := hn) a0 (0 : Int32) p2 h0) cvX12_freeOf (mw (i := 1559) (by decide +kernel)) (by omega) h0 (by decide) rfl rfl rfl (Nat.le_of_ble_eq_true rfl) dX12_hang_58 (fun x7 => ?_)
          exact rp_pu (rp_iret rfl dX12_hang_61)
        · refine rp_iconst (-1 : Int32) dX12_hang_41 (by decide) ?_
          exact rp_pu (rp_iret rfl dX12_hang_42)

theorem dX12_take_0 : decode cX12_take 0 = .ok (.aload_n 0, 1) := by decide +kernel
theorem dX12_take_1 : decode cX12_take 1 = .ok (.iconst 0, 1) := by decide +kernel
theorem dX12_take_2 : decode cX12_take 2 = .ok (.putfield 1, 3) := by decide +kernel
theorem dX12_take_5 : decode cX12_take 5 = .ok (.aload_n 0, 1) := by decide +kernel
theorem dX12_take_6 : decode cX12_take 6 = .ok (.iload_n 1, 1) := by decide +kernel
theorem dX12_take_7 : decode cX12_take 7 = .ok (.invokevirtual 322, 3) := by decide +kernel
theorem dX12_take_10 : decode cX12_take 10 = .ok (.ifCond .eq 12, 3) := by decide +kernel
theorem dX12_take_13 : decode cX12_take 13 = .ok (.aload_n 0, 1) := by decide +kernel
theorem dX12_take_14 : decode cX12_take 14 = .ok (.iconst 0, 1) := by decide +kernel
theorem dX12_take_15 : decode cX12_take 15 = .ok (.iload_n 1, 1) := by decide +kernel
theorem dX12_take_16 : decode cX12_take 16 = .ok (.invokevirtual 294, 3) := by decide +kernel
theorem dX12_take_19 : decode cX12_take 19 = .ok (.ifCond .ne 5, 3) := by decide +kernel
theorem dX12_take_22 : decode cX12_take 22 = .ok (.iconst (-1), 1) := by decide +kernel
theorem dX12_take_23 : decode cX12_take 23 = .ok (.ireturn, 1) := by decide +kernel
theorem dX12_take_24 : decode cX12_take 24 = .ok (.aload_n 0, 1) := by decide +kernel
theorem dX12_take_25 : decode cX12_take 25 = .ok (.invokevirtual 335, 3) := by decide +kernel
theorem dX12_take_28 : decode cX12_take 28 = .ok (.aload_n 0, 1) := by decide +kernel
theorem dX12_take_29 : decode cX12_take 29 = .ok (.iconst 0, 1) := by decide +kernel
theorem dX12_take_30 : decode cX12_take 30 = .ok (.iload_n 1, 1) := by decide +kernel
theorem dX12_take_31 : decode cX12_take 31 = .ok (.invokevirtual 342, 3) := by decide +kernel
theorem dX12_take_34 : decode cX12_take 34 = .ok (.aload_n 0, 1) := by decide +kernel
theorem dX12_take_35 : decode cX12_take 35 = .ok (.getfield 113, 3) := by decide +kernel
theorem dX12_take_38 : decode cX12_take 38 = .ok (.iconst 1, 1) := by decide +kernel
theorem dX12_take_39 : decode cX12_take 39 = .ok (.iload_n 1, 1) := by decide +kernel
theorem dX12_take_40 : decode cX12_take 40 = .ok (.iadd, 1) := by decide +kernel
theorem dX12_take_41 : decode cX12_take 41 = .ok (.iaload, 1) := by decide +kernel
theorem dX12_take_42 : decode cX12_take 42 = .ok (.ireturn, 1) := by decide +kernel
noncomputable def FX12_take (a0 : Nat) (p1 : Int32) : PP Int32 := bd (sI a0 0 (0 : Int32)) (fun (_ : Unit) => bd (FX12_isCloth a0 p1) (fun x1 => if ((b2i x1)) = 0 then pu (-1 : Int32) else bd (FX12_doesHang a0 (0 : Int32) p1) (fun x2 => if ((b2i x2)) = 0 then pu (-1 : Int32) else bd (FX12_keeps a0) (fun (_ : Unit) => bd (FX12_comesDown a0 (0 : Int32) p1) (fun (_ : Unit) => bd (aI (rf a0 23) 966 ((1 : Int32) + p1)) (fun x5 => pu x5))))))
set_option maxHeartbeats 4000000 in
set_option maxRecDepth 100000 in
theorem SX12_take {l : Launch} {K : KK} {n : Nat} {hn : 270 ≤ n} (a0 : Nat) (p1 : Int32) (h0 : ob a0 11) : CT l K n 2 mX12_take [.ref (K.2.1 + a0), .int p1] enI (FX12_take a0 p1) := by
  refine CT.of2 (lv2 := [(0, .ref (K.2.1 + a0)), (1, .int p1)]) (by decide) rfl hn (Nat.le_of_ble_eq_true rfl) rfl (rp_id ?_)
  unfold FX12_take
  refine rp_aload_n 0 dX12_take_0 rfl ?_
  refine rp_iconst (0 : Int32) dX12_take_1 (by decide) ?_
  refine rp_putI fi_X12_1 fp_X12_0 h0 rfl dX12_take_2 ?_
  refine rp_aload_n 0 dX12_take_5 rfl ?_
  refine rp_iload_n 1 dX12_take_6 rfl ?_
  refine rp_callVz [.int p1] (SX12_isCloth (hn := hn) a0 p1 h0) cvX12_isCloth (mw (i := 1571) (by decide +kernel)) (by omega) h0 (by decide) rfl rfl rfl (Nat.le_of_ble_eq_true rfl) dX12_take_7 (fun x1 => ?_)
  refine rp_if_eq 22 dX12_take_10 (by decide) ?_ ?_
  · refine rp_iconst (-1 : Int32) dX12_take_22 (by decide) ?_
    exact rp_pu (rp_iret rfl dX12_take_23)
  · refine rp_aload_n 0 dX12_take_13 rfl ?_
    refine rp_iconst (0 : Int32) dX12_take_14 (by decide) ?_
    refine rp_iload_n 1 dX12_take_15 rfl ?_
    refine rp_callVz [.int (0 : Int32), .int p1] (SX12_doesHang (hn := hn) a0 (0 : Int32) p1 h0) cvX12_doesHang (mw (i := 1599) (by decide +kernel)) (by omega) h0 (by decide) rfl rfl rfl (Nat.le_of_ble_eq_true rfl) dX12_take_16 (fun x2 => ?_)
    refine rp_if_ne 24 dX12_take_19 (by decide) ?_ ?_
    · refine rp_aload_n 0 dX12_take_24 rfl ?_
      refine rp_callVv [] (SX12_keeps (hn := hn) a0 h0) cvX12_keeps (mw (i := 1619) (by decide +kernel)) (by omega) h0 (by decide) rfl rfl rfl (Nat.le_of_ble_eq_true rfl) dX12_take_25 (fun x3 => ?_)
      refine rp_aload_n 0 dX12_take_28 rfl ?_
      refine rp_iconst (0 : Int32) dX12_take_29 (by decide) ?_
      refine rp_iload_n 1 dX12_take_30 rfl ?_
      refine rp_callVv [.int (0 : Int32), .int p1] (SX12_comesDown (hn := hn) a0 (0 : Int32) p1 h0) cvX12_comesDown (mw (i := 1635) (by decide +kernel)) (by omega) h0 (by decide) rfl rfl rfl (Nat.le_of_ble_eq_true rfl) dX12_take_31 (fun x4 => ?_)
      refine rp_aload_n 0 dX12_take_34 rfl ?_
      refine rp_getR fi_X12_113 h0 rfl dX12_take_35 ?_
      refine rp_iconst (1 : Int32) dX12_take_38 (by decide) ?_
      refine rp_iload_n 1 dX12_take_39 rfl ?_
      refine rp_iadd dX12_take_40 ?_
      refine rp_iald (tX12_23 h0) dX12_take_41 (fun x5 => ?_)
      exact rp_pu (rp_iret rfl dX12_take_42)
    · refine rp_iconst (-1 : Int32) dX12_take_22 (by decide) ?_
      exact rp_pu (rp_iret rfl dX12_take_23)

theorem dX12_wash_0 : decode cX12_wash 0 = .ok (.aload_n 0, 1) := by decide +kernel
theorem dX12_wash_1 : decode cX12_wash 1 = .ok (.iconst 0, 1) := by decide +kernel
theorem dX12_wash_2 : decode cX12_wash 2 = .ok (.putfield 1, 3) := by decide +kernel
theorem dX12_wash_5 : decode cX12_wash 5 = .ok (.aload_n 0, 1) := by decide +kernel
theorem dX12_wash_6 : decode cX12_wash 6 = .ok (.iload_n 1, 1) := by decide +kernel
theorem dX12_wash_7 : decode cX12_wash 7 = .ok (.invokevirtual 322, 3) := by decide +kernel
theorem dX12_wash_10 : decode cX12_wash 10 = .ok (.ifCond .eq 12, 3) := by decide +kernel
theorem dX12_wash_13 : decode cX12_wash 13 = .ok (.aload_n 0, 1) := by decide +kernel
theorem dX12_wash_14 : decode cX12_wash 14 = .ok (.iconst 0, 1) := by decide +kernel
theorem dX12_wash_15 : decode cX12_wash 15 = .ok (.iload_n 1, 1) := by decide +kernel
theorem dX12_wash_16 : decode cX12_wash 16 = .ok (.invokevirtual 294, 3) := by decide +kernel
theorem dX12_wash_19 : decode cX12_wash 19 = .ok (.ifCond .eq 5, 3) := by decide +kernel
theorem dX12_wash_22 : decode cX12_wash 22 = .ok (.iconst 0, 1) := by decide +kernel
theorem dX12_wash_23 : decode cX12_wash 23 = .ok (.ireturn, 1) := by decide +kernel
theorem dX12_wash_24 : decode cX12_wash 24 = .ok (.aload_n 0, 1) := by decide +kernel
theorem dX12_wash_25 : decode cX12_wash 25 = .ok (.invokevirtual 335, 3) := by decide +kernel
theorem dX12_wash_28 : decode cX12_wash 28 = .ok (.aload_n 0, 1) := by decide +kernel
theorem dX12_wash_29 : decode cX12_wash 29 = .ok (.getfield 113, 3) := by decide +kernel
theorem dX12_wash_32 : decode cX12_wash 32 = .ok (.iconst 1, 1) := by decide +kernel
theorem dX12_wash_33 : decode cX12_wash 33 = .ok (.iload_n 1, 1) := by decide +kernel
theorem dX12_wash_34 : decode cX12_wash 34 = .ok (.iadd, 1) := by decide +kernel
theorem dX12_wash_35 : decode cX12_wash 35 = .ok (.aload_n 0, 1) := by decide +kernel
theorem dX12_wash_36 : decode cX12_wash 36 = .ok (.iload_n 1, 1) := by decide +kernel
theorem dX12_wash_37 : decode cX12_wash 37 = .ok (.iconst 1, 1) := by decide +kernel
theorem dX12_wash_38 : decode cX12_wash 38 = .ok (.invokevirtual 273, 3) := by decide +kernel
theorem dX12_wash_41 : decode cX12_wash 41 = .ok (.iastore, 1) := by decide +kernel
theorem dX12_wash_42 : decode cX12_wash 42 = .ok (.iconst 1, 1) := by decide +kernel
theorem dX12_wash_43 : decode cX12_wash 43 = .ok (.ireturn, 1) := by decide +kernel
noncomputable def FX12_wash (a0 : Nat) (p1 : Int32) : PP Bool := bd (sI a0 0 (0 : Int32)) (fun (_ : Unit) => bd (FX12_isCloth a0 p1) (fun x1 => if ((b2i x1)) = 0 then zb (0 : Int32) else bd (FX12_doesHang a0 (0 : Int32) p1) (fun x2 => if ((b2i x2)) = 0 then bd (FX12_keeps a0) (fun (_ : Unit) => bd (FX12_clothOf a0 p1 (1 : Int32)) (fun x4 => bd (uI (rf a0 23) 966 ((1 : Int32) + p1) x4) (fun (_ : Unit) => zb (1 : Int32)))) else zb (0 : Int32))))
set_option maxHeartbeats 4000000 in
set_option maxRecDepth 100000 in
theorem SX12_wash {l : Launch} {K : KK} {n : Nat} {hn : 270 ≤ n} (a0 : Nat) (p1 : Int32) (h0 : ob a0 11) : CT l K n 2 mX12_wash [.ref (K.2.1 + a0), .int p1] enZ (FX12_wash a0 p1) := by
  refine CT.of2 (lv2 := [(0, .ref (K.2.1 + a0)), (1, .int p1)]) (by decide) rfl hn (Nat.le_of_ble_eq_true rfl) rfl (rp_id ?_)
  unfold FX12_wash
  refine rp_aload_n 0 dX12_wash_0 rfl ?_
  refine rp_iconst (0 : Int32) dX12_wash_1 (by decide) ?_
  refine rp_putI fi_X12_1 fp_X12_0 h0 rfl dX12_wash_2 ?_
  refine rp_aload_n 0 dX12_wash_5 rfl ?_
  refine rp_iload_n 1 dX12_wash_6 rfl ?_
  refine rp_callVz [.int p1] (SX12_isCloth (hn := hn) a0 p1 h0) cvX12_isCloth (mw (i := 1571) (by decide +kernel)) (by omega) h0 (by decide) rfl rfl rfl (Nat.le_of_ble_eq_true rfl) dX12_wash_7 (fun x1 => ?_)
  refine rp_if_eq 22 dX12_wash_10 (by decide) ?_ ?_
  · refine rp_iconst (0 : Int32) dX12_wash_22 (by decide) ?_
    exact rp_zretb rfl dX12_wash_23
  · refine rp_aload_n 0 dX12_wash_13 rfl ?_
    refine rp_iconst (0 : Int32) dX12_wash_14 (by decide) ?_
    refine rp_iload_n 1 dX12_wash_15 rfl ?_
    refine rp_callVz [.int (0 : Int32), .int p1] (SX12_doesHang (hn := hn) a0 (0 : Int32) p1 h0) cvX12_doesHang (mw (i := 1599) (by decide +kernel)) (by omega) h0 (by decide) rfl rfl rfl (Nat.le_of_ble_eq_true rfl) dX12_wash_16 (fun x2 => ?_)
    refine rp_if_eq 24 dX12_wash_19 (by decide) ?_ ?_
    · refine rp_aload_n 0 dX12_wash_24 rfl ?_
      refine rp_callVv [] (SX12_keeps (hn := hn) a0 h0) cvX12_keeps (mw (i := 1619) (by decide +kernel)) (by omega) h0 (by decide) rfl rfl rfl (Nat.le_of_ble_eq_true rfl) dX12_wash_25 (fun x3 => ?_)
      refine rp_aload_n 0 dX12_wash_28 rfl ?_
      refine rp_getR fi_X12_113 h0 rfl dX12_wash_29 ?_
      refine rp_iconst (1 : Int32) dX12_wash_32 (by decide) ?_
      refine rp_iload_n 1 dX12_wash_33 rfl ?_
      refine rp_iadd dX12_wash_34 ?_
      refine rp_aload_n 0 dX12_wash_35 rfl ?_
      refine rp_iload_n 1 dX12_wash_36 rfl ?_
      refine rp_iconst (1 : Int32) dX12_wash_37 (by decide) ?_
      refine rp_callVi [.int p1, .int (1 : Int32)] (SX12_clothOf (hn := hn) a0 p1 (1 : Int32) h0) cvX12_clothOf (mw (i := 1310) (by decide +kernel)) (by omega) h0 (by decide) rfl rfl rfl (Nat.le_of_ble_eq_true rfl) dX12_wash_38 (fun x4 => ?_)
      refine rp_iast (tX12_23 h0) dX12_wash_41 ?_
      refine rp_iconst (1 : Int32) dX12_wash_42 (by decide) ?_
      exact rp_zretb rfl dX12_wash_43
    · refine rp_iconst (0 : Int32) dX12_wash_22 (by decide) ?_
      exact rp_zretb rfl dX12_wash_23

theorem dX12_hour_0 : decode cX12_hour 0 = .ok (.aload_n 0, 1) := by decide +kernel
theorem dX12_hour_1 : decode cX12_hour 1 = .ok (.iconst 0, 1) := by decide +kernel
theorem dX12_hour_2 : decode cX12_hour 2 = .ok (.putfield 1, 3) := by decide +kernel
theorem dX12_hour_5 : decode cX12_hour 5 = .ok (.aload_n 0, 1) := by decide +kernel
theorem dX12_hour_6 : decode cX12_hour 6 = .ok (.invokevirtual 335, 3) := by decide +kernel
theorem dX12_hour_9 : decode cX12_hour 9 = .ok (.aload_n 0, 1) := by decide +kernel
theorem dX12_hour_10 : decode cX12_hour 10 = .ok (.iconst 0, 1) := by decide +kernel
theorem dX12_hour_11 : decode cX12_hour 11 = .ok (.iconst 1, 1) := by decide +kernel
theorem dX12_hour_12 : decode cX12_hour 12 = .ok (.invokevirtual 345, 3) := by decide +kernel
theorem dX12_hour_15 : decode cX12_hour 15 = .ok (.ireturn, 1) := by decide +kernel
noncomputable def FX12_hour (a0 : Nat) : PP Int32 := bd (sI a0 0 (0 : Int32)) (fun (_ : Unit) => bd (FX12_keeps a0) (fun (_ : Unit) => bd (FX12_passes a0 (0 : Int32) (1 : Int32)) (fun x2 => pu x2)))
set_option maxHeartbeats 4000000 in
set_option maxRecDepth 100000 in
theorem SX12_hour {l : Launch} {K : KK} {n : Nat} {hn : 270 ≤ n} (a0 : Nat) (h0 : ob a0 11) : CT l K n 3 mX12_hour [.ref (K.2.1 + a0)] enI (FX12_hour a0) := by
  refine CT.of2 (lv2 := [(0, .ref (K.2.1 + a0))]) (by decide) rfl hn (Nat.le_of_ble_eq_true rfl) rfl (rp_id ?_)
  unfold FX12_hour
  refine rp_aload_n 0 dX12_hour_0 rfl ?_
  refine rp_iconst (0 : Int32) dX12_hour_1 (by decide) ?_
  refine rp_putI fi_X12_1 fp_X12_0 h0 rfl dX12_hour_2 ?_
  refine rp_aload_n 0 dX12_hour_5 rfl ?_
  refine rp_callVv [] (SX12_keeps (hn := hn) a0 h0) cvX12_keeps (mw (i := 1619) (by decide +kernel)) (by omega) h0 (by decide) rfl rfl rfl (Nat.le_of_ble_eq_true rfl) dX12_hour_6 (fun x1 => ?_)
  refine rp_aload_n 0 dX12_hour_9 rfl ?_
  refine rp_iconst (0 : Int32) dX12_hour_10 (by decide) ?_
  refine rp_iconst (1 : Int32) dX12_hour_11 (by decide) ?_
  refine rp_callVi [.int (0 : Int32), .int (1 : Int32)] (SX12_passes (hn := hn) a0 (0 : Int32) (1 : Int32) h0) cvX12_passes (mw (i := 1647) (by decide +kernel)) (by omega) h0 (by decide) rfl rfl rfl (Nat.le_of_ble_eq_true rfl) dX12_hour_12 (fun x2 => ?_)
  exact rp_pu (rp_iret rfl dX12_hour_15)

theorem dX12_undo_0 : decode cX12_undo 0 = .ok (.aload_n 0, 1) := by decide +kernel
theorem dX12_undo_1 : decode cX12_undo 1 = .ok (.iconst 0, 1) := by decide +kernel
theorem dX12_undo_2 : decode cX12_undo 2 = .ok (.putfield 1, 3) := by decide +kernel
theorem dX12_undo_5 : decode cX12_undo 5 = .ok (.aload_n 0, 1) := by decide +kernel
theorem dX12_undo_6 : decode cX12_undo 6 = .ok (.getfield 279, 3) := by decide +kernel
theorem dX12_undo_9 : decode cX12_undo 9 = .ok (.ifCond .ne 5, 3) := by decide +kernel
theorem dX12_undo_12 : decode cX12_undo 12 = .ok (.iconst 0, 1) := by decide +kernel
theorem dX12_undo_13 : decode cX12_undo 13 = .ok (.ireturn, 1) := by decide +kernel
theorem dX12_undo_14 : decode cX12_undo 14 = .ok (.aload_n 0, 1) := by decide +kernel
theorem dX12_undo_15 : decode cX12_undo 15 = .ok (.dup, 1) := by decide +kernel
theorem dX12_undo_16 : decode cX12_undo 16 = .ok (.getfield 279, 3) := by decide +kernel
theorem dX12_undo_19 : decode cX12_undo 19 = .ok (.iconst 1, 1) := by decide +kernel
theorem dX12_undo_20 : decode cX12_undo 20 = .ok (.isub, 1) := by decide +kernel
theorem dX12_undo_21 : decode cX12_undo 21 = .ok (.putfield 279, 3) := by decide +kernel
theorem dX12_undo_24 : decode cX12_undo 24 = .ok (.aload_n 0, 1) := by decide +kernel
theorem dX12_undo_25 : decode cX12_undo 25 = .ok (.bipush 42, 2) := by decide +kernel
theorem dX12_undo_27 : decode cX12_undo 27 = .ok (.iconst 5, 1) := by decide +kernel
theorem dX12_undo_28 : decode cX12_undo 28 = .ok (.aload_n 0, 1) := by decide +kernel
theorem dX12_undo_29 : decode cX12_undo 29 = .ok (.getfield 279, 3) := by decide +kernel
theorem dX12_undo_32 : decode cX12_undo 32 = .ok (.iadd, 1) := by decide +kernel
theorem dX12_undo_33 : decode cX12_undo 33 = .ok (.imul, 1) := by decide +kernel
theorem dX12_undo_34 : decode cX12_undo 34 = .ok (.iconst 0, 1) := by decide +kernel
theorem dX12_undo_35 : decode cX12_undo 35 = .ok (.bipush 19, 2) := by decide +kernel
theorem dX12_undo_37 : decode cX12_undo 37 = .ok (.invokevirtual 282, 3) := by decide +kernel
theorem dX12_undo_40 : decode cX12_undo 40 = .ok (.iconst 1, 1) := by decide +kernel
theorem dX12_undo_41 : decode cX12_undo 41 = .ok (.ireturn, 1) := by decide +kernel
noncomputable def FX12_undo (a0 : Nat) : PP Bool := bd (sI a0 0 (0 : Int32)) (fun (_ : Unit) => bd (gI a0 24) (fun x1 => if x1 = 0 then zb (0 : Int32) else bd (gI a0 24) (fun x2 => bd (sI a0 24 (x2 - (1 : Int32))) (fun (_ : Unit) => bd (gI a0 24) (fun x3 => bd (FX12_copies a0 ((42 : Int32) * ((5 : Int32) + x3)) (0 : Int32) (19 : Int32)) (fun (_ : Unit) => zb (1 : Int32)))))))
set_option maxHeartbeats 4000000 in
set_option maxRecDepth 100000 in
theorem SX12_undo {l : Launch} {K : KK} {n : Nat} {hn : 270 ≤ n} (a0 : Nat) (h0 : ob a0 11) : CT l K n 1 mX12_undo [.ref (K.2.1 + a0)] enZ (FX12_undo a0) := by
  refine CT.of2 (lv2 := [(0, .ref (K.2.1 + a0))]) (by decide) rfl hn (Nat.le_of_ble_eq_true rfl) rfl (rp_id ?_)
  unfold FX12_undo
  refine rp_aload_n 0 dX12_undo_0 rfl ?_
  refine rp_iconst (0 : Int32) dX12_undo_1 (by decide) ?_
  refine rp_putI fi_X12_1 fp_X12_0 h0 rfl dX12_undo_2 ?_
  refine rp_aload_n 0 dX12_undo_5 rfl ?_
  refine rp_getI fi_X12_279 h0 rfl dX12_undo_6 (fun x1 => ?_)
  refine rp_if_ne 14 dX12_undo_9 (by decide) ?_ ?_
  · refine rp_aload_n 0 dX12_undo_14 rfl ?_
    refine rp_dup dX12_undo_15 rfl ?_
    refine rp_getI fi_X12_279 h0 rfl dX12_undo_16 (fun x2 => ?_)
    refine rp_iconst (1 : Int32) dX12_undo_19 (by decide) ?_
    refine rp_isub dX12_undo_20 ?_
    refine rp_putI fi_X12_279 fp_X12_24 h0 rfl dX12_undo_21 ?_
    refine rp_aload_n 0 dX12_undo_24 rfl ?_
    refine rp_bipush (42 : Int32) dX12_undo_25 (by decide) ?_
    refine rp_iconst (5 : Int32) dX12_undo_27 (by decide) ?_
    refine rp_aload_n 0 dX12_undo_28 rfl ?_
    refine rp_getI fi_X12_279 h0 rfl dX12_undo_29 (fun x3 => ?_)
    refine rp_iadd dX12_undo_32 ?_
    refine rp_imul dX12_undo_33 ?_
    refine rp_iconst (0 : Int32) dX12_undo_34 (by decide) ?_
    refine rp_bipush (19 : Int32) dX12_undo_35 (by decide) ?_
    refine rp_callVv [.int ((42 : Int32) * ((5 : Int32) + x3)), .int (0 : Int32), .int (19 : Int32)] (SX12_copies (hn := hn) a0 ((42 : Int32) * ((5 : Int32) + x3)) (0 : Int32) (19 : Int32) h0) cvX12_copies (mw (i := 1623) (by decide +kernel)) (by omega) h0 (by decide) rfl rfl rfl (Nat.le_of_ble_eq_true rfl) dX12_undo_37 (fun x4 => ?_)
    refine rp_iconst (1 : Int32) dX12_undo_40 (by decide) ?_
    exact rp_zretb rfl dX12_undo_41
  · refine rp_iconst (0 : Int32) dX12_undo_12 (by decide) ?_
    exact rp_zretb rfl dX12_undo_13

theorem dX12_driedOf_0 : decode cX12_driedOf 0 = .ok (.iconst 0, 1) := by decide +kernel
theorem dX12_driedOf_1 : decode cX12_driedOf 1 = .ok (.istore_n 2, 1) := by decide +kernel
theorem dX12_driedOf_2 : decode cX12_driedOf 2 = .ok (.iconst 0, 1) := by decide +kernel
theorem dX12_driedOf_3 : decode cX12_driedOf 3 = .ok (.istore_n 3, 1) := by decide +kernel
theorem dX12_driedOf_4 : decode cX12_driedOf 4 = .ok (.iload_n 3, 1) := by decide +kernel
theorem dX12_driedOf_5 : decode cX12_driedOf 5 = .ok (.aload_n 0, 1) := by decide +kernel
theorem dX12_driedOf_6 : decode cX12_driedOf 6 = .ok (.invokevirtual 269, 3) := by decide +kernel
theorem dX12_driedOf_9 : decode cX12_driedOf 9 = .ok (.if_icmp .ge 35, 3) := by decide +kernel
theorem dX12_driedOf_12 : decode cX12_driedOf 12 = .ok (.iload_n 2, 1) := by decide +kernel
theorem dX12_driedOf_13 : decode cX12_driedOf 13 = .ok (.aload_n 0, 1) := by decide +kernel
theorem dX12_driedOf_14 : decode cX12_driedOf 14 = .ok (.iload_n 1, 1) := by decide +kernel
theorem dX12_driedOf_15 : decode cX12_driedOf 15 = .ok (.iload_n 3, 1) := by decide +kernel
theorem dX12_driedOf_16 : decode cX12_driedOf 16 = .ok (.invokevirtual 294, 3) := by decide +kernel
theorem dX12_driedOf_19 : decode cX12_driedOf 19 = .ok (.ifCond .eq 16, 3) := by decide +kernel
theorem dX12_driedOf_22 : decode cX12_driedOf 22 = .ok (.aload_n 0, 1) := by decide +kernel
theorem dX12_driedOf_23 : decode cX12_driedOf 23 = .ok (.iload_n 1, 1) := by decide +kernel
theorem dX12_driedOf_24 : decode cX12_driedOf 24 = .ok (.iload_n 3, 1) := by decide +kernel
theorem dX12_driedOf_25 : decode cX12_driedOf 25 = .ok (.invokevirtual 301, 3) := by decide +kernel
theorem dX12_driedOf_28 : decode cX12_driedOf 28 = .ok (.ifCond .ne 7, 3) := by decide +kernel
theorem dX12_driedOf_31 : decode cX12_driedOf 31 = .ok (.iconst 1, 1) := by decide +kernel
theorem dX12_driedOf_32 : decode cX12_driedOf 32 = .ok (.goto 4, 3) := by decide +kernel
theorem dX12_driedOf_35 : decode cX12_driedOf 35 = .ok (.iconst 0, 1) := by decide +kernel
theorem dX12_driedOf_36 : decode cX12_driedOf 36 = .ok (.iadd, 1) := by decide +kernel
theorem dX12_driedOf_37 : decode cX12_driedOf 37 = .ok (.istore_n 2, 1) := by decide +kernel
theorem dX12_driedOf_38 : decode cX12_driedOf 38 = .ok (.iinc 3 1, 3) := by decide +kernel
theorem dX12_driedOf_41 : decode cX12_driedOf 41 = .ok (.goto (-37), 3) := by decide +kernel
theorem dX12_driedOf_44 : decode cX12_driedOf 44 = .ok (.iload_n 2, 1) := by decide +kernel
theorem dX12_driedOf_45 : decode cX12_driedOf 45 = .ok (.ireturn, 1) := by decide +kernel
noncomputable def FX12_driedOf (a0 : Nat) (p1 : Int32) : PP Int32 := bd (it (fun (s1 : Int32 × Int32) => (bd (FX12_cloths a0) (fun x2 => if x2 ≤ s1.2 then pu (Sum.inr s1.1) else bd (FX12_doesHang a0 p1 s1.2) (fun x3 => bd (if ((b2i x3)) = 0 then pu (0 : Int32) else bd (FX12_isWet a0 p1 s1.2) (fun x4 => if ((b2i x4)) = 0 then pu (1 : Int32) else pu (0 : Int32)) : PP (Int32)) (fun (v5 : Int32) => lt (s1.1 + v5) (fun y6 => lt (s1.2 + (1 : Int32)) (fun y7 => pu (Sum.inl (y6, y7))))))) : PP ((Int32 × Int32) ⊕ (Int32)))) FU ((0 : Int32), (0 : Int32))) (fun (v8 : Int32) => pu v8)
set_option maxHeartbeats 4000000 in
set_option maxRecDepth 100000 in
theorem SX12_driedOf {l : Launch} {K : KK} {n : Nat} {hn : 270 ≤ n} (a0 : Nat) (p1 : Int32) (h0 : ob a0 11) : CT l K n 1 mX12_driedOf [.ref (K.2.1 + a0), .int p1] enI (FX12_driedOf a0 p1) := by
  refine CT.of2 (lv2 := [(0, .ref (K.2.1 + a0)), (1, .int p1)]) (by decide) rfl hn (Nat.le_of_ble_eq_true rfl) rfl (rp_id ?_)
  unfold FX12_driedOf
  refine rp_iconst (0 : Int32) dX12_driedOf_0 (by decide) ?_
  refine rp_istore_n [(2, .int (0 : Int32)), (0, .ref (K.2.1 + a0)), (1, .int p1)] dX12_driedOf_1 (by decide) rfl ?_
  refine rp_iconst (0 : Int32) dX12_driedOf_2 (by decide) ?_
  refine rp_istore_n [(3, .int (0 : Int32)), (2, .int (0 : Int32)), (0, .ref (K.2.1 + a0)), (1, .int p1)] dX12_driedOf_3 (by decide) rfl ?_
  refine rp_as ?_
  refine rp_join 44 (fun v8 => [(2, .int v8)]) (fun _ => []) (fun v8 => ?_) (fun hX4_0 => ?_)
  · refine rp_iload_n 0 dX12_driedOf_44 rfl ?_
    exact rp_pu (rp_iret rfl dX12_driedOf_45)
  refine rp_sub [2, 3, 1, 0] rfl (rp_it (fun (s1 : Int32 × Int32) => [(0, .ref (K.2.1 + a0)), (1, .int p1), (2, .int s1.1), (3, .int s1.2)]) (fun N4 ih4 s1 => ?_) FU ((0 : Int32), (0 : Int32)))
  refine rp_iload_n 3 dX12_driedOf_4 rfl ?_
  refine rp_aload_n 0 dX12_driedOf_5 rfl ?_
  refine rp_callVi [] (SX12_cloths (hn := hn) a0 h0) cvX12_cloths (mw (i := 1306) (by decide +kernel)) (by omega) h0 (by decide) rfl rfl rfl (Nat.le_of_ble_eq_true rfl) dX12_driedOf_6 (fun x2 => ?_)
  refine rp_icmp_ge 44 dX12_driedOf_9 (by decide) ?_ ?_
  · exact rp_sub [2] rfl (rp_puR (hX4_0 s1.1))
  · refine rp_iload_n 2 dX12_driedOf_12 rfl ?_
    refine rp_aload_n 0 dX12_driedOf_13 rfl ?_
    refine rp_iload_n 1 dX12_driedOf_14 rfl ?_
    refine rp_iload_n 3 dX12_driedOf_15 rfl ?_
    refine rp_callVz [.int p1, .int s1.2] (SX12_doesHang (hn := hn) a0 p1 s1.2 h0) cvX12_doesHang (mw (i := 1599) (by decide +kernel)) (by omega) h0 (by decide) rfl rfl rfl (Nat.le_of_ble_eq_true rfl) dX12_driedOf_16 (fun x3 => ?_)
    refine rp_as ?_
    refine rp_join 36 (fun (v5 : Int32) => [(0, .ref (K.2.1 + a0)), (1, .int p1), (3, .int s1.2)]) (fun v5 => [.int v5, .int s1.1]) (fun v5 => ?_) (fun hJ36 => ?_)
    · refine rp_iadd dX12_driedOf_36 ?_
      refine rp_lti (fun y6 => ?_)
      refine rp_istore_n [(2, .int y6), (0, .ref (K.2.1 + a0)), (1, .int p1), (3, .int s1.2)] dX12_driedOf_37 (by decide) rfl ?_
      refine rp_iinc (fun y7 => [(3, .int y7), (2, .int y6), (0, .ref (K.2.1 + a0)), (1, .int p1)]) 3 dX12_driedOf_38 rfl (by rfl) (by decide) (fun y7 => rfl) (fun y7 => ?_)
      refine rp_goto 4 dX12_driedOf_41 (by decide) ?_
      exact rp_sub [2, 3, 1, 0] rfl (ih4 (y6, y7))
    refine rp_if_eq 35 dX12_driedOf_19 (by decide) ?_ ?_
    · refine rp_iconst (0 : Int32) dX12_driedOf_35 (by decide) ?_
      exact rp_sub [0, 1, 3] rfl (rp_pu (hJ36 (0 : Int32)))
    · refine rp_aload_n 0 dX12_driedOf_22 rfl ?_
      refine rp_iload_n 1 dX12_driedOf_23 rfl ?_
      refine rp_iload_n 3 dX12_driedOf_24 rfl ?_
      refine rp_callVz [.int p1, .int s1.2] (SX12_isWet (hn := hn) a0 p1 s1.2 h0) cvX12_isWet (mw (i := 1603) (by decide +kernel)) (by omega) h0 (by decide) rfl rfl rfl (Nat.le_of_ble_eq_true rfl) dX12_driedOf_25 (fun x4 => ?_)
      refine rp_if_ne 35 dX12_driedOf_28 (by decide) ?_ ?_
      · refine rp_iconst (0 : Int32) dX12_driedOf_35 (by decide) ?_
        exact rp_sub [0, 1, 3] rfl (rp_pu (hJ36 (0 : Int32)))
      · refine rp_iconst (1 : Int32) dX12_driedOf_31 (by decide) ?_
        refine rp_goto 36 dX12_driedOf_32 (by decide) ?_
        exact rp_sub [0, 1, 3] rfl (rp_pu (hJ36 (1 : Int32)))
