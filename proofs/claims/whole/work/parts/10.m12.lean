theorem dX12_judged_0 : decode cX12_judged 0 = .ok (.aload_n 0, 1) := by decide +kernel
theorem dX12_judged_1 : decode cX12_judged 1 = .ok (.iconst 0, 1) := by decide +kernel
theorem dX12_judged_2 : decode cX12_judged 2 = .ok (.putfield 1, 3) := by decide +kernel
theorem dX12_judged_5 : decode cX12_judged 5 = .ok (.iload_n 1, 1) := by decide +kernel
theorem dX12_judged_6 : decode cX12_judged 6 = .ok (.iconst 0, 1) := by decide +kernel
theorem dX12_judged_7 : decode cX12_judged 7 = .ok (.iconst 2, 1) := by decide +kernel
theorem dX12_judged_8 : decode cX12_judged 8 = .ok (.invokestatic 201, 3) := by decide +kernel
theorem dX12_judged_11 : decode cX12_judged 11 = .ok (.ifCond .ne 6, 3) := by decide +kernel
theorem dX12_judged_14 : decode cX12_judged 14 = .ok (.bipush (-2), 2) := by decide +kernel
theorem dX12_judged_16 : decode cX12_judged 16 = .ok (.ireturn, 1) := by decide +kernel
theorem dX12_judged_17 : decode cX12_judged 17 = .ok (.aload_n 0, 1) := by decide +kernel
theorem dX12_judged_18 : decode cX12_judged 18 = .ok (.sipush 882, 3) := by decide +kernel
theorem dX12_judged_21 : decode cX12_judged 21 = .ok (.invokevirtual 276, 3) := by decide +kernel
theorem dX12_judged_24 : decode cX12_judged 24 = .ok (.iconst (-1), 1) := by decide +kernel
theorem dX12_judged_25 : decode cX12_judged 25 = .ok (.istore_n 2, 1) := by decide +kernel
theorem dX12_judged_26 : decode cX12_judged 26 = .ok (.iconst (-1), 1) := by decide +kernel
theorem dX12_judged_27 : decode cX12_judged 27 = .ok (.istore_n 3, 1) := by decide +kernel
theorem dX12_judged_28 : decode cX12_judged 28 = .ok (.iconst 0, 1) := by decide +kernel
theorem dX12_judged_29 : decode cX12_judged 29 = .ok (.istore 4, 2) := by decide +kernel
theorem dX12_judged_31 : decode cX12_judged 31 = .ok (.iload 4, 2) := by decide +kernel
theorem dX12_judged_33 : decode cX12_judged 33 = .ok (.aload_n 0, 1) := by decide +kernel
theorem dX12_judged_34 : decode cX12_judged 34 = .ok (.getfield 104, 3) := by decide +kernel
theorem dX12_judged_37 : decode cX12_judged 37 = .ok (.iconst 0, 1) := by decide +kernel
theorem dX12_judged_38 : decode cX12_judged 38 = .ok (.iaload, 1) := by decide +kernel
theorem dX12_judged_39 : decode cX12_judged 39 = .ok (.if_icmp .ge 248, 3) := by decide +kernel
theorem dX12_judged_42 : decode cX12_judged 42 = .ok (.aload_n 0, 1) := by decide +kernel
theorem dX12_judged_43 : decode cX12_judged 43 = .ok (.getfield 104, 3) := by decide +kernel
theorem dX12_judged_46 : decode cX12_judged 46 = .ok (.iconst 1, 1) := by decide +kernel
theorem dX12_judged_47 : decode cX12_judged 47 = .ok (.iconst 4, 1) := by decide +kernel
theorem dX12_judged_48 : decode cX12_judged 48 = .ok (.iload 4, 2) := by decide +kernel
theorem dX12_judged_50 : decode cX12_judged 50 = .ok (.imul, 1) := by decide +kernel
theorem dX12_judged_51 : decode cX12_judged 51 = .ok (.iadd, 1) := by decide +kernel
theorem dX12_judged_52 : decode cX12_judged 52 = .ok (.iaload, 1) := by decide +kernel
theorem dX12_judged_53 : decode cX12_judged 53 = .ok (.istore 5, 2) := by decide +kernel
theorem dX12_judged_55 : decode cX12_judged 55 = .ok (.aload_n 0, 1) := by decide +kernel
theorem dX12_judged_56 : decode cX12_judged 56 = .ok (.getfield 104, 3) := by decide +kernel
theorem dX12_judged_59 : decode cX12_judged 59 = .ok (.iconst 2, 1) := by decide +kernel
theorem dX12_judged_60 : decode cX12_judged 60 = .ok (.iconst 4, 1) := by decide +kernel
theorem dX12_judged_61 : decode cX12_judged 61 = .ok (.iload 4, 2) := by decide +kernel
theorem dX12_judged_63 : decode cX12_judged 63 = .ok (.imul, 1) := by decide +kernel
theorem dX12_judged_64 : decode cX12_judged 64 = .ok (.iadd, 1) := by decide +kernel
theorem dX12_judged_65 : decode cX12_judged 65 = .ok (.iaload, 1) := by decide +kernel
theorem dX12_judged_66 : decode cX12_judged 66 = .ok (.istore 6, 2) := by decide +kernel
theorem dX12_judged_68 : decode cX12_judged 68 = .ok (.aload_n 0, 1) := by decide +kernel
theorem dX12_judged_69 : decode cX12_judged 69 = .ok (.getfield 104, 3) := by decide +kernel
theorem dX12_judged_72 : decode cX12_judged 72 = .ok (.iconst 3, 1) := by decide +kernel
theorem dX12_judged_73 : decode cX12_judged 73 = .ok (.iconst 4, 1) := by decide +kernel
theorem dX12_judged_74 : decode cX12_judged 74 = .ok (.iload 4, 2) := by decide +kernel
theorem dX12_judged_76 : decode cX12_judged 76 = .ok (.imul, 1) := by decide +kernel
theorem dX12_judged_77 : decode cX12_judged 77 = .ok (.iadd, 1) := by decide +kernel
theorem dX12_judged_78 : decode cX12_judged 78 = .ok (.iaload, 1) := by decide +kernel
theorem dX12_judged_79 : decode cX12_judged 79 = .ok (.istore 7, 2) := by decide +kernel
theorem dX12_judged_81 : decode cX12_judged 81 = .ok (.aload_n 0, 1) := by decide +kernel
theorem dX12_judged_82 : decode cX12_judged 82 = .ok (.getfield 104, 3) := by decide +kernel
theorem dX12_judged_85 : decode cX12_judged 85 = .ok (.iconst 4, 1) := by decide +kernel
theorem dX12_judged_86 : decode cX12_judged 86 = .ok (.iconst 4, 1) := by decide +kernel
theorem dX12_judged_87 : decode cX12_judged 87 = .ok (.iload 4, 2) := by decide +kernel
theorem dX12_judged_89 : decode cX12_judged 89 = .ok (.imul, 1) := by decide +kernel
theorem dX12_judged_90 : decode cX12_judged 90 = .ok (.iadd, 1) := by decide +kernel
theorem dX12_judged_91 : decode cX12_judged 91 = .ok (.iaload, 1) := by decide +kernel
theorem dX12_judged_92 : decode cX12_judged 92 = .ok (.istore 8, 2) := by decide +kernel
theorem dX12_judged_94 : decode cX12_judged 94 = .ok (.iload 5, 2) := by decide +kernel
theorem dX12_judged_96 : decode cX12_judged 96 = .ok (.iconst 3, 1) := by decide +kernel
theorem dX12_judged_97 : decode cX12_judged 97 = .ok (.if_icmp .eq 50, 3) := by decide +kernel
theorem dX12_judged_100 : decode cX12_judged 100 = .ok (.iload 5, 2) := by decide +kernel
theorem dX12_judged_102 : decode cX12_judged 102 = .ok (.ifCond .ne 22, 3) := by decide +kernel
theorem dX12_judged_105 : decode cX12_judged 105 = .ok (.aload_n 0, 1) := by decide +kernel
theorem dX12_judged_106 : decode cX12_judged 106 = .ok (.sipush 882, 3) := by decide +kernel
theorem dX12_judged_109 : decode cX12_judged 109 = .ok (.iload 6, 2) := by decide +kernel
theorem dX12_judged_111 : decode cX12_judged 111 = .ok (.iload 7, 2) := by decide +kernel
theorem dX12_judged_113 : decode cX12_judged 113 = .ok (.iload 8, 2) := by decide +kernel
theorem dX12_judged_115 : decode cX12_judged 115 = .ok (.invokevirtual 331, 3) := by decide +kernel
theorem dX12_judged_118 : decode cX12_judged 118 = .ok (.ifCond .eq 33, 3) := by decide +kernel
theorem dX12_judged_121 : decode cX12_judged 121 = .ok (.goto 26, 3) := by decide +kernel
theorem dX12_judged_124 : decode cX12_judged 124 = .ok (.iload 5, 2) := by decide +kernel
theorem dX12_judged_126 : decode cX12_judged 126 = .ok (.iconst 1, 1) := by decide +kernel
theorem dX12_judged_127 : decode cX12_judged 127 = .ok (.if_icmp .ne 7, 3) := by decide +kernel
theorem dX12_judged_130 : decode cX12_judged 130 = .ok (.iconst 1, 1) := by decide +kernel
theorem dX12_judged_131 : decode cX12_judged 131 = .ok (.goto 4, 3) := by decide +kernel
theorem dX12_judged_134 : decode cX12_judged 134 = .ok (.iconst 0, 1) := by decide +kernel
theorem dX12_judged_135 : decode cX12_judged 135 = .ok (.aload_n 0, 1) := by decide +kernel
theorem dX12_judged_136 : decode cX12_judged 136 = .ok (.sipush 882, 3) := by decide +kernel
theorem dX12_judged_139 : decode cX12_judged 139 = .ok (.iload 6, 2) := by decide +kernel
theorem dX12_judged_141 : decode cX12_judged 141 = .ok (.invokevirtual 294, 3) := by decide +kernel
theorem dX12_judged_144 : decode cX12_judged 144 = .ok (.if_icmp .ne 7, 3) := by decide +kernel
theorem dX12_judged_147 : decode cX12_judged 147 = .ok (.iconst 1, 1) := by decide +kernel
theorem dX12_judged_148 : decode cX12_judged 148 = .ok (.goto 4, 3) := by decide +kernel
theorem dX12_judged_151 : decode cX12_judged 151 = .ok (.iconst 0, 1) := by decide +kernel
theorem dX12_judged_152 : decode cX12_judged 152 = .ok (.istore 9, 2) := by decide +kernel
theorem dX12_judged_154 : decode cX12_judged 154 = .ok (.iload 9, 2) := by decide +kernel
theorem dX12_judged_156 : decode cX12_judged 156 = .ok (.ifCond .ne 12, 3) := by decide +kernel
theorem dX12_judged_159 : decode cX12_judged 159 = .ok (.iload_n 2, 1) := by decide +kernel
theorem dX12_judged_160 : decode cX12_judged 160 = .ok (.ifCond .ge 8, 3) := by decide +kernel
theorem dX12_judged_163 : decode cX12_judged 163 = .ok (.iload 4, 2) := by decide +kernel
theorem dX12_judged_165 : decode cX12_judged 165 = .ok (.goto 4, 3) := by decide +kernel
theorem dX12_judged_168 : decode cX12_judged 168 = .ok (.iload_n 2, 1) := by decide +kernel
theorem dX12_judged_169 : decode cX12_judged 169 = .ok (.istore_n 2, 1) := by decide +kernel
theorem dX12_judged_170 : decode cX12_judged 170 = .ok (.iload 5, 2) := by decide +kernel
theorem dX12_judged_172 : decode cX12_judged 172 = .ok (.iconst 3, 1) := by decide +kernel
theorem dX12_judged_173 : decode cX12_judged 173 = .ok (.if_icmp .ne 15, 3) := by decide +kernel
theorem dX12_judged_176 : decode cX12_judged 176 = .ok (.aload_n 0, 1) := by decide +kernel
theorem dX12_judged_177 : decode cX12_judged 177 = .ok (.sipush 882, 3) := by decide +kernel
theorem dX12_judged_180 : decode cX12_judged 180 = .ok (.iconst 1, 1) := by decide +kernel
theorem dX12_judged_181 : decode cX12_judged 181 = .ok (.invokevirtual 345, 3) := by decide +kernel
theorem dX12_judged_184 : decode cX12_judged 184 = .ok (.pop, 1) := by decide +kernel
theorem dX12_judged_185 : decode cX12_judged 185 = .ok (.goto 75, 3) := by decide +kernel
theorem dX12_judged_188 : decode cX12_judged 188 = .ok (.iload 9, 2) := by decide +kernel
theorem dX12_judged_190 : decode cX12_judged 190 = .ok (.ifCond .eq 24, 3) := by decide +kernel
theorem dX12_judged_193 : decode cX12_judged 193 = .ok (.iload 5, 2) := by decide +kernel
theorem dX12_judged_195 : decode cX12_judged 195 = .ok (.ifCond .ne 19, 3) := by decide +kernel
theorem dX12_judged_198 : decode cX12_judged 198 = .ok (.aload_n 0, 1) := by decide +kernel
theorem dX12_judged_199 : decode cX12_judged 199 = .ok (.sipush 882, 3) := by decide +kernel
theorem dX12_judged_202 : decode cX12_judged 202 = .ok (.iload 6, 2) := by decide +kernel
theorem dX12_judged_204 : decode cX12_judged 204 = .ok (.iload 7, 2) := by decide +kernel
theorem dX12_judged_206 : decode cX12_judged 206 = .ok (.iload 8, 2) := by decide +kernel
theorem dX12_judged_208 : decode cX12_judged 208 = .ok (.invokevirtual 338, 3) := by decide +kernel
theorem dX12_judged_211 : decode cX12_judged 211 = .ok (.goto 49, 3) := by decide +kernel
theorem dX12_judged_214 : decode cX12_judged 214 = .ok (.iload 9, 2) := by decide +kernel
theorem dX12_judged_216 : decode cX12_judged 216 = .ok (.ifCond .eq 21, 3) := by decide +kernel
theorem dX12_judged_219 : decode cX12_judged 219 = .ok (.iload 5, 2) := by decide +kernel
theorem dX12_judged_221 : decode cX12_judged 221 = .ok (.iconst 1, 1) := by decide +kernel
theorem dX12_judged_222 : decode cX12_judged 222 = .ok (.if_icmp .ne 15, 3) := by decide +kernel
theorem dX12_judged_225 : decode cX12_judged 225 = .ok (.aload_n 0, 1) := by decide +kernel
theorem dX12_judged_226 : decode cX12_judged 226 = .ok (.sipush 882, 3) := by decide +kernel
theorem dX12_judged_229 : decode cX12_judged 229 = .ok (.iload 6, 2) := by decide +kernel
theorem dX12_judged_231 : decode cX12_judged 231 = .ok (.invokevirtual 342, 3) := by decide +kernel
theorem dX12_judged_234 : decode cX12_judged 234 = .ok (.goto 26, 3) := by decide +kernel
theorem dX12_judged_237 : decode cX12_judged 237 = .ok (.iload 9, 2) := by decide +kernel
theorem dX12_judged_239 : decode cX12_judged 239 = .ok (.ifCond .eq 21, 3) := by decide +kernel
theorem dX12_judged_242 : decode cX12_judged 242 = .ok (.aload_n 0, 1) := by decide +kernel
theorem dX12_judged_243 : decode cX12_judged 243 = .ok (.getfield 113, 3) := by decide +kernel
theorem dX12_judged_246 : decode cX12_judged 246 = .ok (.sipush 883, 3) := by decide +kernel
theorem dX12_judged_249 : decode cX12_judged 249 = .ok (.iload 6, 2) := by decide +kernel
theorem dX12_judged_251 : decode cX12_judged 251 = .ok (.iadd, 1) := by decide +kernel
theorem dX12_judged_252 : decode cX12_judged 252 = .ok (.aload_n 0, 1) := by decide +kernel
theorem dX12_judged_253 : decode cX12_judged 253 = .ok (.iload 6, 2) := by decide +kernel
theorem dX12_judged_255 : decode cX12_judged 255 = .ok (.iconst 1, 1) := by decide +kernel
theorem dX12_judged_256 : decode cX12_judged 256 = .ok (.invokevirtual 273, 3) := by decide +kernel
theorem dX12_judged_259 : decode cX12_judged 259 = .ok (.iastore, 1) := by decide +kernel
theorem dX12_judged_260 : decode cX12_judged 260 = .ok (.iload_n 3, 1) := by decide +kernel
theorem dX12_judged_261 : decode cX12_judged 261 = .ok (.ifCond .ge 18, 3) := by decide +kernel
theorem dX12_judged_264 : decode cX12_judged 264 = .ok (.aload_n 0, 1) := by decide +kernel
theorem dX12_judged_265 : decode cX12_judged 265 = .ok (.sipush 882, 3) := by decide +kernel
theorem dX12_judged_268 : decode cX12_judged 268 = .ok (.invokevirtual 349, 3) := by decide +kernel
theorem dX12_judged_271 : decode cX12_judged 271 = .ok (.ifCond .eq 8, 3) := by decide +kernel
theorem dX12_judged_274 : decode cX12_judged 274 = .ok (.iload 4, 2) := by decide +kernel
theorem dX12_judged_276 : decode cX12_judged 276 = .ok (.goto 4, 3) := by decide +kernel
theorem dX12_judged_279 : decode cX12_judged 279 = .ok (.iload_n 3, 1) := by decide +kernel
theorem dX12_judged_280 : decode cX12_judged 280 = .ok (.istore_n 3, 1) := by decide +kernel
theorem dX12_judged_281 : decode cX12_judged 281 = .ok (.iinc 4 1, 3) := by decide +kernel
theorem dX12_judged_284 : decode cX12_judged 284 = .ok (.goto (-253), 3) := by decide +kernel
theorem dX12_judged_287 : decode cX12_judged 287 = .ok (.iload_n 1, 1) := by decide +kernel
theorem dX12_judged_288 : decode cX12_judged 288 = .ok (.ifCond .ne 7, 3) := by decide +kernel
theorem dX12_judged_291 : decode cX12_judged 291 = .ok (.iload_n 2, 1) := by decide +kernel
theorem dX12_judged_292 : decode cX12_judged 292 = .ok (.goto 19, 3) := by decide +kernel
theorem dX12_judged_295 : decode cX12_judged 295 = .ok (.iload_n 1, 1) := by decide +kernel
theorem dX12_judged_296 : decode cX12_judged 296 = .ok (.iconst 1, 1) := by decide +kernel
theorem dX12_judged_297 : decode cX12_judged 297 = .ok (.if_icmp .ne 7, 3) := by decide +kernel
theorem dX12_judged_300 : decode cX12_judged 300 = .ok (.iload_n 3, 1) := by decide +kernel
theorem dX12_judged_301 : decode cX12_judged 301 = .ok (.goto 10, 3) := by decide +kernel
theorem dX12_judged_304 : decode cX12_judged 304 = .ok (.aload_n 0, 1) := by decide +kernel
theorem dX12_judged_305 : decode cX12_judged 305 = .ok (.sipush 882, 3) := by decide +kernel
theorem dX12_judged_308 : decode cX12_judged 308 = .ok (.invokevirtual 352, 3) := by decide +kernel
theorem dX12_judged_311 : decode cX12_judged 311 = .ok (.ireturn, 1) := by decide +kernel
noncomputable def FX12_judged (a0 : Nat) (p1 : Int32) : PP Int32 := bd (sI a0 0 (0 : Int32)) (fun (_ : Unit) => bd (FX12_within p1 (0 : Int32) (2 : Int32)) (fun x1 => if ((b2i x1)) = 0 then pu (-2 : Int32) else bd (FX12_starts a0 (882 : Int32)) (fun (_ : Unit) => bd (it (fun (s3 : Int32 × Int32 × Int32) => (bd (aI (rf a0 20) 330 (0 : Int32)) (fun x4 => if x4 ≤ s3.2.2 then pu (Sum.inr (s3.1, s3.2.1)) else bd (aI (rf a0 20) 330 ((1 : Int32) + ((4 : Int32) * s3.2.2))) (fun x5 => bd (aI (rf a0 20) 330 ((2 : Int32) + ((4 : Int32) * s3.2.2))) (fun x6 => bd (aI (rf a0 20) 330 ((3 : Int32) + ((4 : Int32) * s3.2.2))) (fun x7 => bd (aI (rf a0 20) 330 ((4 : Int32) + ((4 : Int32) * s3.2.2))) (fun x8 => bd (if x5 = (3 : Int32) then pu (1 : Int32) else if x5 = 0 then bd (FX12_mayHang a0 (882 : Int32) x6 x7 x8) (fun x11 => if ((b2i x11)) = 0 then pu (0 : Int32) else pu (1 : Int32)) else bd (if x5 = (1 : Int32) then pu (1 : Int32) else pu (0 : Int32) : PP (Int32)) (fun (v9 : Int32) => bd (FX12_doesHang a0 (882 : Int32) x6) (fun x10 => if v9 = ((b2i x10)) then pu (1 : Int32) else pu (0 : Int32))) : PP (Int32)) (fun (v12 : Int32) => bd (if v12 = 0 then if 0 ≤ s3.1 then pu s3.1 else pu s3.2.2 else pu s3.1 : PP (Int32)) (fun (v13 : Int32) => bd (if x5 = (3 : Int32) then bd (FX12_passes a0 (882 : Int32) (1 : Int32)) (fun x21 => pu ()) else jn (fun (v16 : Unit) => jn (fun (v19 : Unit) => if v12 = 0 then pu () else bd (FX12_clothOf a0 x6 (1 : Int32)) (fun x20 => bd (uI (rf a0 23) 966 ((883 : Int32) + x6) x20) (fun (_ : Unit) => pu ()))) (fun j17 => if v12 = 0 then j17 () else if x5 = (1 : Int32) then bd (FX12_comesDown a0 (882 : Int32) x6) (fun (_ : Unit) => pu ()) else j17 ())) (fun j14 => if v12 = 0 then j14 () else if x5 = 0 then bd (FX12_hangs a0 (882 : Int32) x6 x7 x8) (fun (_ : Unit) => pu ()) else j14 ()) : PP (Unit)) (fun (v22 : Unit) => bd (if 0 ≤ s3.2.1 then pu s3.2.1 else bd (FX12_isThunder a0 (882 : Int32)) (fun x23 => if ((b2i x23)) = 0 then pu s3.2.1 else pu s3.2.2) : PP (Int32)) (fun (v24 : Int32) => lt (s3.2.2 + (1 : Int32)) (fun y25 => pu (Sum.inl (v13, v24, y25)))))))))))) : PP ((Int32 × Int32 × Int32) ⊕ (Int32 × Int32)))) FU ((-1 : Int32), (-1 : Int32), (0 : Int32))) (fun (v26 : Int32 × Int32) => bd (if p1 = 0 then pu v26.1 else if p1 = (1 : Int32) then pu v26.2 else bd (FX12_driedOf a0 (882 : Int32)) (fun x27 => pu x27) : PP (Int32)) (fun (v28 : Int32) => pu v28)))))
set_option maxHeartbeats 4000000 in
set_option maxRecDepth 100000 in
theorem SX12_judged {l : Launch} {K : KK} {n : Nat} {hn : 270 ≤ n} (a0 : Nat) (p1 : Int32) (h0 : ob a0 11) : CT l K n 5 mX12_judged [.ref (K.2.1 + a0), .int p1] enI (FX12_judged a0 p1) := by
  refine CT.of2 (lv2 := [(0, .ref (K.2.1 + a0)), (1, .int p1)]) (by decide) rfl hn (Nat.le_of_ble_eq_true rfl) rfl (rp_id ?_)
  unfold FX12_judged
  refine rp_aload_n 0 dX12_judged_0 rfl ?_
  refine rp_iconst (0 : Int32) dX12_judged_1 (by decide) ?_
  refine rp_putI fi_X12_1 fp_X12_0 h0 rfl dX12_judged_2 ?_
  refine rp_iload_n 1 dX12_judged_5 rfl ?_
  refine rp_iconst (0 : Int32) dX12_judged_6 (by decide) ?_
  refine rp_iconst (2 : Int32) dX12_judged_7 (by decide) ?_
  refine rp_callSz [.int p1, .int (0 : Int32), .int (2 : Int32)] (SX12_within (hn := hn) p1 (0 : Int32) (2 : Int32)) csX12_within (mw (i := 1484) (by decide +kernel)) (by omega) rfl rfl (Nat.le_of_ble_eq_true rfl) dX12_judged_8 (fun x1 => ?_)
  refine rp_if_ne 17 dX12_judged_11 (by decide) ?_ ?_
  · refine rp_aload_n 0 dX12_judged_17 rfl ?_
    refine rp_sipush (882 : Int32) dX12_judged_18 (by decide) ?_
    refine rp_callVv [.int (882 : Int32)] (SX12_starts (hn := hn) a0 (882 : Int32) h0) cvX12_starts (mw (i := 1302) (by decide +kernel)) (by omega) h0 (by decide) rfl rfl rfl (Nat.le_of_ble_eq_true rfl) dX12_judged_21 (fun x2 => ?_)
    refine rp_iconst (-1 : Int32) dX12_judged_24 (by decide) ?_
    refine rp_istore_n [(2, .int (-1 : Int32)), (0, .ref (K.2.1 + a0)), (1, .int p1)] dX12_judged_25 (by decide) rfl ?_
    refine rp_iconst (-1 : Int32) dX12_judged_26 (by decide) ?_
    refine rp_istore_n [(3, .int (-1 : Int32)), (2, .int (-1 : Int32)), (0, .ref (K.2.1 + a0)), (1, .int p1)] dX12_judged_27 (by decide) rfl ?_
    refine rp_iconst (0 : Int32) dX12_judged_28 (by decide) ?_
    refine rp_istore [(4, .int (0 : Int32)), (3, .int (-1 : Int32)), (2, .int (-1 : Int32)), (0, .ref (K.2.1 + a0)), (1, .int p1)] dX12_judged_29 (by decide) rfl ?_
    refine rp_as ?_
    refine rp_join 287 (fun v26 => [(0, .ref (K.2.1 + a0)), (1, .int p1), (2, .int v26.1), (3, .int v26.2)]) (fun _ => []) (fun v26 => ?_) (fun hX31_0 => ?_)
    · refine rp_iload_n 1 dX12_judged_287 rfl ?_
      refine rp_as ?_
      refine rp_join 311 (fun (v28 : Int32) => []) (fun v28 => [.int v28]) (fun v28 => ?_) (fun hJ311 => ?_)
      · exact rp_pu (rp_iret rfl dX12_judged_311)
      refine rp_if_ne 295 dX12_judged_288 (by decide) ?_ ?_
      · refine rp_iload_n 1 dX12_judged_295 rfl ?_
        refine rp_iconst (1 : Int32) dX12_judged_296 (by decide) ?_
        refine rp_icmp_ne 304 dX12_judged_297 (by decide) ?_ ?_
        · refine rp_aload_n 0 dX12_judged_304 rfl ?_
          refine rp_sipush (882 : Int32) dX12_judged_305 (by decide) ?_
          refine rp_callVi [.int (882 : Int32)] (SX12_driedOf (hn := hn) a0 (882 : Int32) h0) cvX12_driedOf (mw (i := 1670) (by decide +kernel)) (by omega) h0 (by decide) rfl rfl rfl (Nat.le_of_ble_eq_true rfl) dX12_judged_308 (fun x27 => ?_)
          exact rp_sub [] rfl (rp_pu (hJ311 x27))
        · refine rp_iload_n 3 dX12_judged_300 rfl ?_
          refine rp_goto 311 dX12_judged_301 (by decide) ?_
          exact rp_sub [] rfl (rp_pu (hJ311 v26.2))
      · refine rp_iload_n 2 dX12_judged_291 rfl ?_
        refine rp_goto 311 dX12_judged_292 (by decide) ?_
        exact rp_sub [] rfl (rp_pu (hJ311 v26.1))
    refine rp_sub [3, 4, 2, 1, 0] rfl (rp_it (fun (s3 : Int32 × Int32 × Int32) => [(0, .ref (K.2.1 + a0)), (1, .int p1), (2, .int s3.1), (3, .int s3.2.1), (4, .int s3.2.2)]) (fun N31 ih31 s3 => ?_) FU ((-1 : Int32), (-1 : Int32), (0 : Int32)))
    refine rp_iload 4 dX12_judged_31 rfl ?_
    refine rp_aload_n 0 dX12_judged_33 rfl ?_
    refine rp_getR fi_X12_104 h0 rfl dX12_judged_34 ?_
    refine rp_iconst (0 : Int32) dX12_judged_37 (by decide) ?_
    refine rp_iald (tX12_20 h0) dX12_judged_38 (fun x4 => ?_)
    refine rp_icmp_ge 287 dX12_judged_39 (by decide) ?_ ?_
    · exact rp_sub [0, 1, 2, 3] rfl (rp_puR (hX31_0 (s3.1, s3.2.1)))
    · refine rp_aload_n 0 dX12_judged_42 rfl ?_
      refine rp_getR fi_X12_104 h0 rfl dX12_judged_43 ?_
      refine rp_iconst (1 : Int32) dX12_judged_46 (by decide) ?_
      refine rp_iconst (4 : Int32) dX12_judged_47 (by decide) ?_
      refine rp_iload 4 dX12_judged_48 rfl ?_
      refine rp_imul dX12_judged_50 ?_
      refine rp_iadd dX12_judged_51 ?_
      refine rp_iald (tX12_20 h0) dX12_judged_52 (fun x5 => ?_)
      refine rp_istore [(5, .int x5), (0, .ref (K.2.1 + a0)), (1, .int p1), (2, .int s3.1), (3, .int s3.2.1), (4, .int s3.2.2)] dX12_judged_53 (by decide) rfl ?_
      refine rp_aload_n 1 dX12_judged_55 rfl ?_
      refine rp_getR fi_X12_104 h0 rfl dX12_judged_56 ?_
      refine rp_iconst (2 : Int32) dX12_judged_59 (by decide) ?_
      refine rp_iconst (4 : Int32) dX12_judged_60 (by decide) ?_
      refine rp_iload 5 dX12_judged_61 rfl ?_
      refine rp_imul dX12_judged_63 ?_
      refine rp_iadd dX12_judged_64 ?_
      refine rp_iald (tX12_20 h0) dX12_judged_65 (fun x6 => ?_)
      refine rp_istore [(6, .int x6), (5, .int x5), (0, .ref (K.2.1 + a0)), (1, .int p1), (2, .int s3.1), (3, .int s3.2.1), (4, .int s3.2.2)] dX12_judged_66 (by decide) rfl ?_
      refine rp_aload_n 2 dX12_judged_68 rfl ?_
      refine rp_getR fi_X12_104 h0 rfl dX12_judged_69 ?_
      refine rp_iconst (3 : Int32) dX12_judged_72 (by decide) ?_
      refine rp_iconst (4 : Int32) dX12_judged_73 (by decide) ?_
      refine rp_iload 6 dX12_judged_74 rfl ?_
      refine rp_imul dX12_judged_76 ?_
      refine rp_iadd dX12_judged_77 ?_
      refine rp_iald (tX12_20 h0) dX12_judged_78 (fun x7 => ?_)
      refine rp_istore [(7, .int x7), (6, .int x6), (5, .int x5), (0, .ref (K.2.1 + a0)), (1, .int p1), (2, .int s3.1), (3, .int s3.2.1), (4, .int s3.2.2)] dX12_judged_79 (by decide) rfl ?_
      refine rp_aload_n 3 dX12_judged_81 rfl ?_
      refine rp_getR fi_X12_104 h0 rfl dX12_judged_82 ?_
      refine rp_iconst (4 : Int32) dX12_judged_85 (by decide) ?_
      refine rp_iconst (4 : Int32) dX12_judged_86 (by decide) ?_
      refine rp_iload 7 dX12_judged_87 rfl ?_
      refine rp_imul dX12_judged_89 ?_
      refine rp_iadd dX12_judged_90 ?_
      refine rp_iald (tX12_20 h0) dX12_judged_91 (fun x8 => ?_)
      refine rp_istore [(8, .int x8), (7, .int x7), (6, .int x6), (5, .int x5), (0, .ref (K.2.1 + a0)), (1, .int p1), (2, .int s3.1), (3, .int s3.2.1), (4, .int s3.2.2)] dX12_judged_92 (by decide) rfl ?_
      refine rp_iload 3 dX12_judged_94 rfl ?_
      refine rp_iconst (3 : Int32) dX12_judged_96 (by decide) ?_
      refine rp_as ?_
      refine rp_join 152 (fun (v12 : Int32) => [(0, .ref (K.2.1 + a0)), (1, .int p1), (2, .int s3.1), (3, .int s3.2.1), (4, .int s3.2.2), (5, .int x5), (6, .int x6), (7, .int x7), (8, .int x8)]) (fun v12 => [.int v12]) (fun v12 => ?_) (fun hJ152 => ?_)
      · refine rp_istore [(9, .int v12), (0, .ref (K.2.1 + a0)), (1, .int p1), (2, .int s3.1), (3, .int s3.2.1), (4, .int s3.2.2), (5, .int x5), (6, .int x6), (7, .int x7), (8, .int x8)] dX12_judged_152 (by decide) rfl ?_
        refine rp_iload 0 dX12_judged_154 rfl ?_
        refine rp_as ?_
        refine rp_join 169 (fun (v13 : Int32) => [(0, .ref (K.2.1 + a0)), (1, .int p1), (3, .int s3.2.1), (4, .int s3.2.2), (5, .int x5), (6, .int x6), (7, .int x7), (8, .int x8), (9, .int v12)]) (fun v13 => [.int v13]) (fun v13 => ?_) (fun hJ169 => ?_)
        · refine rp_istore_n [(2, .int v13), (0, .ref (K.2.1 + a0)), (1, .int p1), (3, .int s3.2.1), (4, .int s3.2.2), (5, .int x5), (6, .int x6), (7, .int x7), (8, .int x8), (9, .int v12)] dX12_judged_169 (by decide) rfl ?_
          refine rp_iload 5 dX12_judged_170 rfl ?_
          refine rp_iconst (3 : Int32) dX12_judged_172 (by decide) ?_
          refine rp_as ?_
          refine rp_join 260 (fun (v22 : Unit) => [(0, .ref (K.2.1 + a0)), (1, .int p1), (2, .int v13), (3, .int s3.2.1), (4, .int s3.2.2)]) (fun v22 => []) (fun v22 => ?_) (fun hJ260 => ?_)
          · refine rp_iload_n 3 dX12_judged_260 rfl ?_
            refine rp_as ?_
            refine rp_join 280 (fun (v24 : Int32) => [(0, .ref (K.2.1 + a0)), (1, .int p1), (2, .int v13), (4, .int s3.2.2)]) (fun v24 => [.int v24]) (fun v24 => ?_) (fun hJ280 => ?_)
            · refine rp_istore_n [(3, .int v24), (0, .ref (K.2.1 + a0)), (1, .int p1), (2, .int v13), (4, .int s3.2.2)] dX12_judged_280 (by decide) rfl ?_
              refine rp_iinc (fun y25 => [(4, .int y25), (3, .int v24), (0, .ref (K.2.1 + a0)), (1, .int p1), (2, .int v13)]) 4 dX12_judged_281 rfl (by rfl) (by decide) (fun y25 => rfl) (fun y25 => ?_)
              refine rp_goto 31 dX12_judged_284 (by decide) ?_
              exact rp_sub [2, 3, 4, 1, 0] rfl (ih31 (v13, v24, y25))
            refine rp_if_ge 279 dX12_judged_261 (by decide) ?_ ?_
            · refine rp_iload_n 3 dX12_judged_279 rfl ?_
              exact rp_sub [0, 1, 2, 4] rfl (rp_pu (hJ280 s3.2.1))
            · refine rp_aload_n 0 dX12_judged_264 rfl ?_
              refine rp_sipush (882 : Int32) dX12_judged_265 (by decide) ?_
              refine rp_callVz [.int (882 : Int32)] (SX12_isThunder (hn := hn) a0 (882 : Int32) h0) cvX12_isThunder (mw (i := 1666) (by decide +kernel)) (by omega) h0 (by decide) rfl rfl rfl (Nat.le_of_ble_eq_true rfl) dX12_judged_268 (fun x23 => ?_)
              refine rp_if_eq 279 dX12_judged_271 (by decide) ?_ ?_
              · refine rp_iload_n 3 dX12_judged_279 rfl ?_
                exact rp_sub [0, 1, 2, 4] rfl (rp_pu (hJ280 s3.2.1))
              · refine rp_iload 4 dX12_judged_274 rfl ?_
                refine rp_goto 280 dX12_judged_276 (by decide) ?_
                exact rp_sub [0, 1, 2, 4] rfl (rp_pu (hJ280 s3.2.2))
          refine rp_icmp_ne 188 dX12_judged_173 (by decide) ?_ ?_
          · refine rp_iload 9 dX12_judged_188 rfl ?_
            refine rp_jn2 214 (fun (v16 : Unit) => [(0, .ref (K.2.1 + a0)), (1, .int p1), (2, .int v13), (3, .int s3.2.1), (4, .int s3.2.2), (5, .int x5), (6, .int x6), (9, .int v12)]) (fun v16 => []) (fun v16 => ?_) (fun hK214 => ?_)
            · refine rp_iload 7 dX12_judged_214 rfl ?_
              refine rp_jn2 237 (fun (v19 : Unit) => [(0, .ref (K.2.1 + a0)), (1, .int p1), (2, .int v13), (3, .int s3.2.1), (4, .int s3.2.2), (6, .int x6), (9, .int v12)]) (fun v19 => []) (fun v19 => ?_) (fun hK237 => ?_)
              · refine rp_iload 6 dX12_judged_237 rfl ?_
                refine rp_if_eq 260 dX12_judged_239 (by decide) ?_ ?_
                · exact rp_sub [0, 1, 2, 3, 4] rfl (rp_pu (hJ260 ()))
                · refine rp_aload_n 0 dX12_judged_242 rfl ?_
                  refine rp_getR fi_X12_113 h0 rfl dX12_judged_243 ?_
                  refine rp_sipush (883 : Int32) dX12_judged_246 (by decide) ?_
                  refine rp_iload 5 dX12_judged_249 rfl ?_
                  refine rp_iadd dX12_judged_251 ?_
                  refine rp_aload_n 0 dX12_judged_252 rfl ?_
                  refine rp_iload 5 dX12_judged_253 rfl ?_
                  refine rp_iconst (1 : Int32) dX12_judged_255 (by decide) ?_
                  refine rp_callVi [.int x6, .int (1 : Int32)] (SX12_clothOf (hn := hn) a0 x6 (1 : Int32) h0) cvX12_clothOf (mw (i := 1310) (by decide +kernel)) (by omega) h0 (by decide) rfl rfl rfl (Nat.le_of_ble_eq_true rfl) dX12_judged_256 (fun x20 => ?_)
                  refine rp_iast (tX12_23 h0) dX12_judged_259 ?_
                  exact rp_sub [0, 1, 2, 3, 4] rfl (rp_pu (hJ260 ()))
              refine rp_if_eq 237 dX12_judged_216 (by decide) ?_ ?_
              · exact rp_sub [0, 1, 2, 3, 4, 6, 7] rfl (hK237 ())
              · refine rp_iload 5 dX12_judged_219 rfl ?_
                refine rp_iconst (1 : Int32) dX12_judged_221 (by decide) ?_
                refine rp_icmp_ne 237 dX12_judged_222 (by decide) ?_ ?_
                · exact rp_sub [0, 1, 2, 3, 4, 6, 7] rfl (hK237 ())
                · refine rp_aload_n 0 dX12_judged_225 rfl ?_
                  refine rp_sipush (882 : Int32) dX12_judged_226 (by decide) ?_
                  refine rp_iload 6 dX12_judged_229 rfl ?_
                  refine rp_callVv [.int (882 : Int32), .int x6] (SX12_comesDown (hn := hn) a0 (882 : Int32) x6 h0) cvX12_comesDown (mw (i := 1635) (by decide +kernel)) (by omega) h0 (by decide) rfl rfl rfl (Nat.le_of_ble_eq_true rfl) dX12_judged_231 (fun x18 => ?_)
                  refine rp_goto 260 dX12_judged_234 (by decide) ?_
                  exact rp_sub [0, 1, 2, 3, 4] rfl (rp_pu (hJ260 ()))
            refine rp_if_eq 214 dX12_judged_190 (by decide) ?_ ?_
            · exact rp_sub [1, 2, 0, 3, 4, 5, 6, 9] rfl (hK214 ())
            · refine rp_iload 5 dX12_judged_193 rfl ?_
              refine rp_if_ne 214 dX12_judged_195 (by decide) ?_ ?_
              · exact rp_sub [1, 2, 0, 3, 4, 5, 6, 9] rfl (hK214 ())
              · refine rp_aload_n 1 dX12_judged_198 rfl ?_
                refine rp_sipush (882 : Int32) dX12_judged_199 (by decide) ?_
                refine rp_iload 6 dX12_judged_202 rfl ?_
                refine rp_iload 7 dX12_judged_204 rfl ?_
                refine rp_iload 8 dX12_judged_206 rfl ?_
                refine rp_callVv [.int (882 : Int32), .int x6, .int x7, .int x8] (SX12_hangs (hn := hn) a0 (882 : Int32) x6 x7 x8 h0) cvX12_hangs (mw (i := 1627) (by decide +kernel)) (by omega) h0 (by decide) rfl rfl rfl (Nat.le_of_ble_eq_true rfl) dX12_judged_208 (fun x15 => ?_)
                refine rp_goto 260 dX12_judged_211 (by decide) ?_
                exact rp_sub [1, 2, 0, 3, 4] rfl (rp_pu (hJ260 ()))
          · refine rp_aload_n 1 dX12_judged_176 rfl ?_
            refine rp_sipush (882 : Int32) dX12_judged_177 (by decide) ?_
            refine rp_iconst (1 : Int32) dX12_judged_180 (by decide) ?_
            refine rp_callVi [.int (882 : Int32), .int (1 : Int32)] (SX12_passes (hn := hn) a0 (882 : Int32) (1 : Int32) h0) cvX12_passes (mw (i := 1647) (by decide +kernel)) (by omega) h0 (by decide) rfl rfl rfl (Nat.le_of_ble_eq_true rfl) dX12_judged_181 (fun x21 => ?_)
            refine rp_pop dX12_judged_184 rfl ?_
            refine rp_goto 260 dX12_judged_185 (by decide) ?_
            exact rp_sub [1, 2, 0, 3, 4] rfl (rp_pu (hJ260 ()))
        refine rp_if_ne 168 dX12_judged_156 (by decide) ?_ ?_
        · refine rp_iload_n 3 dX12_judged_168 rfl ?_
          exact rp_sub [1, 2, 4, 5, 6, 7, 8, 9, 0] rfl (rp_pu (hJ169 s3.1))
        · refine rp_iload_n 3 dX12_judged_159 rfl ?_
          refine rp_if_ge 168 dX12_judged_160 (by decide) ?_ ?_
          · refine rp_iload_n 3 dX12_judged_168 rfl ?_
            exact rp_sub [1, 2, 4, 5, 6, 7, 8, 9, 0] rfl (rp_pu (hJ169 s3.1))
          · refine rp_iload 5 dX12_judged_163 rfl ?_
            refine rp_goto 169 dX12_judged_165 (by decide) ?_
            exact rp_sub [1, 2, 4, 5, 6, 7, 8, 9, 0] rfl (rp_pu (hJ169 s3.2.2))
      refine rp_icmp_eq 147 dX12_judged_97 (by decide) ?_ ?_
      · refine rp_iconst (1 : Int32) dX12_judged_147 (by decide) ?_
        refine rp_goto 152 dX12_judged_148 (by decide) ?_
        exact rp_sub [4, 5, 6, 7, 8, 3, 2, 1, 0] rfl (rp_pu (hJ152 (1 : Int32)))
      · refine rp_iload 3 dX12_judged_100 rfl ?_
        refine rp_if_ne 124 dX12_judged_102 (by decide) ?_ ?_
        · refine rp_iload 3 dX12_judged_124 rfl ?_
          refine rp_iconst (1 : Int32) dX12_judged_126 (by decide) ?_
          refine rp_as ?_
          refine rp_join 135 (fun (v9 : Int32) => [(0, .ref (K.2.1 + a0)), (1, .int p1), (2, .int s3.1), (3, .int s3.2.1), (4, .int s3.2.2), (5, .int x5), (6, .int x6), (7, .int x7), (8, .int x8)]) (fun v9 => [.int v9]) (fun v9 => ?_) (fun hJ135 => ?_)
          · refine rp_aload_n 0 dX12_judged_135 rfl ?_
            refine rp_sipush (882 : Int32) dX12_judged_136 (by decide) ?_
            refine rp_iload 6 dX12_judged_139 rfl ?_
            refine rp_callVz [.int (882 : Int32), .int x6] (SX12_doesHang (hn := hn) a0 (882 : Int32) x6 h0) cvX12_doesHang (mw (i := 1599) (by decide +kernel)) (by omega) h0 (by decide) rfl rfl rfl (Nat.le_of_ble_eq_true rfl) dX12_judged_141 (fun x10 => ?_)
            refine rp_icmp_ne 151 dX12_judged_144 (by decide) ?_ ?_
            · refine rp_iconst (0 : Int32) dX12_judged_151 (by decide) ?_
              exact rp_sub [0, 1, 2, 3, 4, 5, 6, 7, 8] rfl (rp_pu (hJ152 (0 : Int32)))
            · refine rp_iconst (1 : Int32) dX12_judged_147 (by decide) ?_
              refine rp_goto 152 dX12_judged_148 (by decide) ?_
              exact rp_sub [0, 1, 2, 3, 4, 5, 6, 7, 8] rfl (rp_pu (hJ152 (1 : Int32)))
          refine rp_icmp_ne 134 dX12_judged_127 (by decide) ?_ ?_
          · refine rp_iconst (0 : Int32) dX12_judged_134 (by decide) ?_
            exact rp_sub [4, 5, 6, 7, 8, 3, 2, 1, 0] rfl (rp_pu (hJ135 (0 : Int32)))
          · refine rp_iconst (1 : Int32) dX12_judged_130 (by decide) ?_
            refine rp_goto 135 dX12_judged_131 (by decide) ?_
            exact rp_sub [4, 5, 6, 7, 8, 3, 2, 1, 0] rfl (rp_pu (hJ135 (1 : Int32)))
        · refine rp_aload_n 4 dX12_judged_105 rfl ?_
          refine rp_sipush (882 : Int32) dX12_judged_106 (by decide) ?_
          refine rp_iload 2 dX12_judged_109 rfl ?_
          refine rp_iload 1 dX12_judged_111 rfl ?_
          refine rp_iload 0 dX12_judged_113 rfl ?_
          refine rp_callVz [.int (882 : Int32), .int x6, .int x7, .int x8] (SX12_mayHang (hn := hn) a0 (882 : Int32) x6 x7 x8 h0) cvX12_mayHang (mw (i := 1615) (by decide +kernel)) (by omega) h0 (by decide) rfl rfl rfl (Nat.le_of_ble_eq_true rfl) dX12_judged_115 (fun x11 => ?_)
          refine rp_if_eq 151 dX12_judged_118 (by decide) ?_ ?_
          · refine rp_iconst (0 : Int32) dX12_judged_151 (by decide) ?_
            exact rp_sub [4, 5, 6, 7, 8, 3, 2, 1, 0] rfl (rp_pu (hJ152 (0 : Int32)))
          · refine rp_goto 147 dX12_judged_121 (by decide) ?_
            refine rp_iconst (1 : Int32) dX12_judged_147 (by decide) ?_
            refine rp_goto 152 dX12_judged_148 (by decide) ?_
            exact rp_sub [4, 5, 6, 7, 8, 3, 2, 1, 0] rfl (rp_pu (hJ152 (1 : Int32)))
  · refine rp_bipush (-2 : Int32) dX12_judged_14 (by decide) ?_
    exact rp_pu (rp_iret rfl dX12_judged_16)

theorem dX12_triesNow_0 : decode cX12_triesNow 0 = .ok (.aload_n 0, 1) := by decide +kernel
theorem dX12_triesNow_1 : decode cX12_triesNow 1 = .ok (.iconst 0, 1) := by decide +kernel
theorem dX12_triesNow_2 : decode cX12_triesNow 2 = .ok (.sipush 882, 3) := by decide +kernel
theorem dX12_triesNow_5 : decode cX12_triesNow 5 = .ok (.bipush 19, 2) := by decide +kernel
theorem dX12_triesNow_7 : decode cX12_triesNow 7 = .ok (.invokevirtual 282, 3) := by decide +kernel
theorem dX12_triesNow_10 : decode cX12_triesNow 10 = .ok (.return_, 1) := by decide +kernel
noncomputable def FX12_triesNow (a0 : Nat) : PP Unit := bd (FX12_copies a0 (0 : Int32) (882 : Int32) (19 : Int32)) (fun (_ : Unit) => pu ())
set_option maxHeartbeats 4000000 in
set_option maxRecDepth 100000 in
theorem SX12_triesNow {l : Launch} {K : KK} {n : Nat} {hn : 270 ≤ n} (a0 : Nat) (h0 : ob a0 11) : CT l K n 1 mX12_triesNow [.ref (K.2.1 + a0)] enU (FX12_triesNow a0) := by
  refine CT.of2 (lv2 := [(0, .ref (K.2.1 + a0))]) (by decide) rfl hn (Nat.le_of_ble_eq_true rfl) rfl (rp_id ?_)
  unfold FX12_triesNow
  refine rp_aload_n 0 dX12_triesNow_0 rfl ?_
  refine rp_iconst (0 : Int32) dX12_triesNow_1 (by decide) ?_
  refine rp_sipush (882 : Int32) dX12_triesNow_2 (by decide) ?_
  refine rp_bipush (19 : Int32) dX12_triesNow_5 (by decide) ?_
  refine rp_callVv [.int (0 : Int32), .int (882 : Int32), .int (19 : Int32)] (SX12_copies (hn := hn) a0 (0 : Int32) (882 : Int32) (19 : Int32) h0) cvX12_copies (mw (i := 1623) (by decide +kernel)) (by omega) h0 (by decide) rfl rfl rfl (Nat.le_of_ble_eq_true rfl) dX12_triesNow_7 (fun x1 => ?_)
  exact rp_pu (rp_vret rfl dX12_triesNow_10)

theorem dX12_runs_0 : decode cX12_runs 0 = .ok (.iconst 0, 1) := by decide +kernel
theorem dX12_runs_1 : decode cX12_runs 1 = .ok (.istore_n 2, 1) := by decide +kernel
theorem dX12_runs_2 : decode cX12_runs 2 = .ok (.iload_n 2, 1) := by decide +kernel
theorem dX12_runs_3 : decode cX12_runs 3 = .ok (.iload_n 1, 1) := by decide +kernel
theorem dX12_runs_4 : decode cX12_runs 4 = .ok (.if_icmp .ge 18, 3) := by decide +kernel
theorem dX12_runs_7 : decode cX12_runs 7 = .ok (.aload_n 0, 1) := by decide +kernel
theorem dX12_runs_8 : decode cX12_runs 8 = .ok (.sipush 882, 3) := by decide +kernel
theorem dX12_runs_11 : decode cX12_runs 11 = .ok (.iconst 1, 1) := by decide +kernel
theorem dX12_runs_12 : decode cX12_runs 12 = .ok (.invokevirtual 345, 3) := by decide +kernel
theorem dX12_runs_15 : decode cX12_runs 15 = .ok (.pop, 1) := by decide +kernel
theorem dX12_runs_16 : decode cX12_runs 16 = .ok (.iinc 2 1, 3) := by decide +kernel
theorem dX12_runs_19 : decode cX12_runs 19 = .ok (.goto (-17), 3) := by decide +kernel
theorem dX12_runs_22 : decode cX12_runs 22 = .ok (.return_, 1) := by decide +kernel
noncomputable def FX12_runs (a0 : Nat) (p1 : Int32) : PP Unit := bd (it (fun (s1 : Int32) => (if p1 ≤ s1 then pu (Sum.inr ()) else bd (FX12_passes a0 (882 : Int32) (1 : Int32)) (fun x2 => lt (s1 + (1 : Int32)) (fun y3 => pu (Sum.inl y3))) : PP ((Int32) ⊕ (Unit)))) FU (0 : Int32)) (fun (v4 : Unit) => pu ())
set_option maxHeartbeats 4000000 in
set_option maxRecDepth 100000 in
theorem SX12_runs {l : Launch} {K : KK} {n : Nat} {hn : 270 ≤ n} (a0 : Nat) (p1 : Int32) (h0 : ob a0 11) : CT l K n 3 mX12_runs [.ref (K.2.1 + a0), .int p1] enU (FX12_runs a0 p1) := by
  refine CT.of2 (lv2 := [(0, .ref (K.2.1 + a0)), (1, .int p1)]) (by decide) rfl hn (Nat.le_of_ble_eq_true rfl) rfl (rp_id ?_)
  unfold FX12_runs
  refine rp_iconst (0 : Int32) dX12_runs_0 (by decide) ?_
  refine rp_istore_n [(2, .int (0 : Int32)), (0, .ref (K.2.1 + a0)), (1, .int p1)] dX12_runs_1 (by decide) rfl ?_
  refine rp_as ?_
  refine rp_join 22 (fun v4 => []) (fun _ => []) (fun v4 => ?_) (fun hX2_0 => ?_)
  · exact rp_pu (rp_vret rfl dX12_runs_22)
  refine rp_sub [1, 2, 0] rfl (rp_it (fun (s1 : Int32) => [(0, .ref (K.2.1 + a0)), (1, .int p1), (2, .int s1)]) (fun N2 ih2 s1 => ?_) FU (0 : Int32))
  refine rp_iload_n 2 dX12_runs_2 rfl ?_
  refine rp_iload_n 1 dX12_runs_3 rfl ?_
  refine rp_icmp_ge 22 dX12_runs_4 (by decide) ?_ ?_
  · exact rp_sub [] rfl (rp_puR (hX2_0 ()))
  · refine rp_aload_n 0 dX12_runs_7 rfl ?_
    refine rp_sipush (882 : Int32) dX12_runs_8 (by decide) ?_
    refine rp_iconst (1 : Int32) dX12_runs_11 (by decide) ?_
    refine rp_callVi [.int (882 : Int32), .int (1 : Int32)] (SX12_passes (hn := hn) a0 (882 : Int32) (1 : Int32) h0) cvX12_passes (mw (i := 1647) (by decide +kernel)) (by omega) h0 (by decide) rfl rfl rfl (Nat.le_of_ble_eq_true rfl) dX12_runs_12 (fun x2 => ?_)
    refine rp_pop dX12_runs_15 rfl ?_
    refine rp_iinc (fun y3 => [(2, .int y3), (0, .ref (K.2.1 + a0)), (1, .int p1)]) 2 dX12_runs_16 rfl (by rfl) (by decide) (fun y3 => rfl) (fun y3 => ?_)
    refine rp_goto 2 dX12_runs_19 (by decide) ?_
    exact rp_sub [1, 2, 0] rfl (ih2 y3)

theorem dX12_later_0 : decode cX12_later 0 = .ok (.aload_n 0, 1) := by decide +kernel
theorem dX12_later_1 : decode cX12_later 1 = .ok (.iconst 0, 1) := by decide +kernel
theorem dX12_later_2 : decode cX12_later 2 = .ok (.putfield 1, 3) := by decide +kernel
theorem dX12_later_5 : decode cX12_later 5 = .ok (.aload_n 0, 1) := by decide +kernel
theorem dX12_later_6 : decode cX12_later 6 = .ok (.iload_n 1, 1) := by decide +kernel
theorem dX12_later_7 : decode cX12_later 7 = .ok (.invokevirtual 325, 3) := by decide +kernel
theorem dX12_later_10 : decode cX12_later 10 = .ok (.ifCond .eq 13, 3) := by decide +kernel
theorem dX12_later_13 : decode cX12_later 13 = .ok (.iload_n 2, 1) := by decide +kernel
theorem dX12_later_14 : decode cX12_later 14 = .ok (.iconst 0, 1) := by decide +kernel
theorem dX12_later_15 : decode cX12_later 15 = .ok (.bipush 40, 2) := by decide +kernel
theorem dX12_later_17 : decode cX12_later 17 = .ok (.invokestatic 201, 3) := by decide +kernel
theorem dX12_later_20 : decode cX12_later 20 = .ok (.ifCond .ne 6, 3) := by decide +kernel
theorem dX12_later_23 : decode cX12_later 23 = .ok (.bipush (-2), 2) := by decide +kernel
theorem dX12_later_25 : decode cX12_later 25 = .ok (.ireturn, 1) := by decide +kernel
theorem dX12_later_26 : decode cX12_later 26 = .ok (.aload_n 0, 1) := by decide +kernel
theorem dX12_later_27 : decode cX12_later 27 = .ok (.invokevirtual 355, 3) := by decide +kernel
theorem dX12_later_30 : decode cX12_later 30 = .ok (.aload_n 0, 1) := by decide +kernel
theorem dX12_later_31 : decode cX12_later 31 = .ok (.iload_n 2, 1) := by decide +kernel
theorem dX12_later_32 : decode cX12_later 32 = .ok (.invokevirtual 358, 3) := by decide +kernel
theorem dX12_later_35 : decode cX12_later 35 = .ok (.aload_n 0, 1) := by decide +kernel
theorem dX12_later_36 : decode cX12_later 36 = .ok (.sipush 882, 3) := by decide +kernel
theorem dX12_later_39 : decode cX12_later 39 = .ok (.iload_n 1, 1) := by decide +kernel
theorem dX12_later_40 : decode cX12_later 40 = .ok (.invokevirtual 307, 3) := by decide +kernel
theorem dX12_later_43 : decode cX12_later 43 = .ok (.ireturn, 1) := by decide +kernel
noncomputable def FX12_later (a0 : Nat) (p1 : Int32) (p2 : Int32) : PP Int32 := bd (sI a0 0 (0 : Int32)) (fun (_ : Unit) => bd (FX12_isPlace a0 p1) (fun x1 => if ((b2i x1)) = 0 then pu (-2 : Int32) else bd (FX12_within p2 (0 : Int32) (40 : Int32)) (fun x2 => if ((b2i x2)) = 0 then pu (-2 : Int32) else bd (FX12_triesNow a0) (fun (_ : Unit) => bd (FX12_runs a0 p2) (fun (_ : Unit) => bd (FX12_weatherOf a0 (882 : Int32) p1) (fun x5 => pu x5))))))
set_option maxHeartbeats 4000000 in
set_option maxRecDepth 100000 in
theorem SX12_later {l : Launch} {K : KK} {n : Nat} {hn : 270 ≤ n} (a0 : Nat) (p1 : Int32) (p2 : Int32) (h0 : ob a0 11) : CT l K n 4 mX12_later [.ref (K.2.1 + a0), .int p1, .int p2] enI (FX12_later a0 p1 p2) := by
  refine CT.of2 (lv2 := [(0, .ref (K.2.1 + a0)), (1, .int p1), (2, .int p2)]) (by decide) rfl hn (Nat.le_of_ble_eq_true rfl) rfl (rp_id ?_)
  unfold FX12_later
  refine rp_aload_n 0 dX12_later_0 rfl ?_
  refine rp_iconst (0 : Int32) dX12_later_1 (by decide) ?_
  refine rp_putI fi_X12_1 fp_X12_0 h0 rfl dX12_later_2 ?_
  refine rp_aload_n 0 dX12_later_5 rfl ?_
  refine rp_iload_n 1 dX12_later_6 rfl ?_
  refine rp_callVz [.int p1] (SX12_isPlace (hn := hn) a0 p1 h0) cvX12_isPlace (mw (i := 1579) (by decide +kernel)) (by omega) h0 (by decide) rfl rfl rfl (Nat.le_of_ble_eq_true rfl) dX12_later_7 (fun x1 => ?_)
  refine rp_if_eq 23 dX12_later_10 (by decide) ?_ ?_
  · refine rp_bipush (-2 : Int32) dX12_later_23 (by decide) ?_
    exact rp_pu (rp_iret rfl dX12_later_25)
  · refine rp_iload_n 2 dX12_later_13 rfl ?_
    refine rp_iconst (0 : Int32) dX12_later_14 (by decide) ?_
    refine rp_bipush (40 : Int32) dX12_later_15 (by decide) ?_
    refine rp_callSz [.int p2, .int (0 : Int32), .int (40 : Int32)] (SX12_within (hn := hn) p2 (0 : Int32) (40 : Int32)) csX12_within (mw (i := 1484) (by decide +kernel)) (by omega) rfl rfl (Nat.le_of_ble_eq_true rfl) dX12_later_17 (fun x2 => ?_)
    refine rp_if_ne 26 dX12_later_20 (by decide) ?_ ?_
    · refine rp_aload_n 0 dX12_later_26 rfl ?_
      refine rp_callVv [] (SX12_triesNow (hn := hn) a0 h0) cvX12_triesNow (mw (i := 1678) (by decide +kernel)) (by omega) h0 (by decide) rfl rfl rfl (Nat.le_of_ble_eq_true rfl) dX12_later_27 (fun x3 => ?_)
      refine rp_aload_n 0 dX12_later_30 rfl ?_
      refine rp_iload_n 2 dX12_later_31 rfl ?_
      refine rp_callVv [.int p2] (SX12_runs (hn := hn) a0 p2 h0) cvX12_runs (mw (i := 1682) (by decide +kernel)) (by omega) h0 (by decide) rfl rfl rfl (Nat.le_of_ble_eq_true rfl) dX12_later_32 (fun x4 => ?_)
      refine rp_aload_n 0 dX12_later_35 rfl ?_
      refine rp_sipush (882 : Int32) dX12_later_36 (by decide) ?_
      refine rp_iload_n 1 dX12_later_39 rfl ?_
      refine rp_callVi [.int (882 : Int32), .int p1] (SX12_weatherOf (hn := hn) a0 (882 : Int32) p1 h0) cvX12_weatherOf (mw (i := 1587) (by decide +kernel)) (by omega) h0 (by decide) rfl rfl rfl (Nat.le_of_ble_eq_true rfl) dX12_later_40 (fun x5 => ?_)
      exact rp_pu (rp_iret rfl dX12_later_43)
    · refine rp_bipush (-2 : Int32) dX12_later_23 (by decide) ?_
      exact rp_pu (rp_iret rfl dX12_later_25)

theorem dX12_dryOf_0 : decode cX12_dryOf 0 = .ok (.aload_n 0, 1) := by decide +kernel
theorem dX12_dryOf_1 : decode cX12_dryOf 1 = .ok (.invokevirtual 355, 3) := by decide +kernel
theorem dX12_dryOf_4 : decode cX12_dryOf 4 = .ok (.iconst 0, 1) := by decide +kernel
theorem dX12_dryOf_5 : decode cX12_dryOf 5 = .ok (.istore_n 2, 1) := by decide +kernel
theorem dX12_dryOf_6 : decode cX12_dryOf 6 = .ok (.iload_n 2, 1) := by decide +kernel
theorem dX12_dryOf_7 : decode cX12_dryOf 7 = .ok (.bipush 40, 2) := by decide +kernel
theorem dX12_dryOf_9 : decode cX12_dryOf 9 = .ok (.if_icmp .gt 40, 3) := by decide +kernel
theorem dX12_dryOf_12 : decode cX12_dryOf 12 = .ok (.aload_n 0, 1) := by decide +kernel
theorem dX12_dryOf_13 : decode cX12_dryOf 13 = .ok (.iconst 0, 1) := by decide +kernel
theorem dX12_dryOf_14 : decode cX12_dryOf 14 = .ok (.iload_n 1, 1) := by decide +kernel
theorem dX12_dryOf_15 : decode cX12_dryOf 15 = .ok (.invokevirtual 294, 3) := by decide +kernel
theorem dX12_dryOf_18 : decode cX12_dryOf 18 = .ok (.ifCond .eq 31, 3) := by decide +kernel
theorem dX12_dryOf_21 : decode cX12_dryOf 21 = .ok (.aload_n 0, 1) := by decide +kernel
theorem dX12_dryOf_22 : decode cX12_dryOf 22 = .ok (.sipush 882, 3) := by decide +kernel
theorem dX12_dryOf_25 : decode cX12_dryOf 25 = .ok (.iload_n 1, 1) := by decide +kernel
theorem dX12_dryOf_26 : decode cX12_dryOf 26 = .ok (.invokevirtual 301, 3) := by decide +kernel
theorem dX12_dryOf_29 : decode cX12_dryOf 29 = .ok (.ifCond .ne 5, 3) := by decide +kernel
theorem dX12_dryOf_32 : decode cX12_dryOf 32 = .ok (.iload_n 2, 1) := by decide +kernel
theorem dX12_dryOf_33 : decode cX12_dryOf 33 = .ok (.ireturn, 1) := by decide +kernel
theorem dX12_dryOf_34 : decode cX12_dryOf 34 = .ok (.aload_n 0, 1) := by decide +kernel
theorem dX12_dryOf_35 : decode cX12_dryOf 35 = .ok (.sipush 882, 3) := by decide +kernel
theorem dX12_dryOf_38 : decode cX12_dryOf 38 = .ok (.iconst 1, 1) := by decide +kernel
theorem dX12_dryOf_39 : decode cX12_dryOf 39 = .ok (.invokevirtual 345, 3) := by decide +kernel
theorem dX12_dryOf_42 : decode cX12_dryOf 42 = .ok (.pop, 1) := by decide +kernel
theorem dX12_dryOf_43 : decode cX12_dryOf 43 = .ok (.iinc 2 1, 3) := by decide +kernel
theorem dX12_dryOf_46 : decode cX12_dryOf 46 = .ok (.goto (-40), 3) := by decide +kernel
theorem dX12_dryOf_49 : decode cX12_dryOf 49 = .ok (.iconst (-1), 1) := by decide +kernel
theorem dX12_dryOf_50 : decode cX12_dryOf 50 = .ok (.ireturn, 1) := by decide +kernel
noncomputable def FX12_dryOf (a0 : Nat) (p1 : Int32) : PP Int32 := bd (FX12_triesNow a0) (fun (_ : Unit) => bd (it (fun (s2 : Int32) => (if (40 : Int32) < s2 then pu (Sum.inr (Sum.inl ())) else bd (FX12_doesHang a0 (0 : Int32) p1) (fun x3 => if ((b2i x3)) = 0 then pu (Sum.inr (Sum.inl ())) else bd (FX12_isWet a0 (882 : Int32) p1) (fun x4 => if ((b2i x4)) = 0 then pu (Sum.inr (Sum.inr (s2))) else bd (FX12_passes a0 (882 : Int32) (1 : Int32)) (fun x5 => lt (s2 + (1 : Int32)) (fun y6 => pu (Sum.inl y6))))) : PP ((Int32) ⊕ ((Unit) ⊕ (Int32))))) FU (0 : Int32)) (Sum.elim (fun (v7 : Unit) => pu (-1 : Int32)) (fun (v8 : Int32) => pu v8)))
set_option maxHeartbeats 4000000 in
set_option maxRecDepth 100000 in
theorem SX12_dryOf {l : Launch} {K : KK} {n : Nat} {hn : 270 ≤ n} (a0 : Nat) (p1 : Int32) (h0 : ob a0 11) : CT l K n 3 mX12_dryOf [.ref (K.2.1 + a0), .int p1] enI (FX12_dryOf a0 p1) := by
  refine CT.of2 (lv2 := [(0, .ref (K.2.1 + a0)), (1, .int p1)]) (by decide) rfl hn (Nat.le_of_ble_eq_true rfl) rfl (rp_id ?_)
  unfold FX12_dryOf
  refine rp_aload_n 0 dX12_dryOf_0 rfl ?_
  refine rp_callVv [] (SX12_triesNow (hn := hn) a0 h0) cvX12_triesNow (mw (i := 1678) (by decide +kernel)) (by omega) h0 (by decide) rfl rfl rfl (Nat.le_of_ble_eq_true rfl) dX12_dryOf_1 (fun x1 => ?_)
  refine rp_iconst (0 : Int32) dX12_dryOf_4 (by decide) ?_
  refine rp_istore_n [(2, .int (0 : Int32)), (0, .ref (K.2.1 + a0)), (1, .int p1)] dX12_dryOf_5 (by decide) rfl ?_
  refine rp_as ?_
  refine rp_join2 49 (fun v7 => []) (fun _ => []) 32 (fun v8 => [(2, .int v8)]) (fun _ => []) (fun v7 => ?_) (fun v8 => ?_) (fun hX6_0 hX6_1 => ?_)
  · refine rp_iconst (-1 : Int32) dX12_dryOf_49 (by decide) ?_
    exact rp_pu (rp_iret rfl dX12_dryOf_50)
  · refine rp_iload_n 0 dX12_dryOf_32 rfl ?_
    exact rp_pu (rp_iret rfl dX12_dryOf_33)
  refine rp_sub [1, 2, 0] rfl (rp_it (fun (s2 : Int32) => [(0, .ref (K.2.1 + a0)), (1, .int p1), (2, .int s2)]) (fun N6 ih6 s2 => ?_) FU (0 : Int32))
  refine rp_iload_n 2 dX12_dryOf_6 rfl ?_
  refine rp_bipush (40 : Int32) dX12_dryOf_7 (by decide) ?_
  refine rp_icmp_gt 49 dX12_dryOf_9 (by decide) ?_ ?_
  · exact rp_sub [] rfl (rp_puRL (hX6_0 ()))
  · refine rp_aload_n 0 dX12_dryOf_12 rfl ?_
    refine rp_iconst (0 : Int32) dX12_dryOf_13 (by decide) ?_
    refine rp_iload_n 1 dX12_dryOf_14 rfl ?_
    refine rp_callVz [.int (0 : Int32), .int p1] (SX12_doesHang (hn := hn) a0 (0 : Int32) p1 h0) cvX12_doesHang (mw (i := 1599) (by decide +kernel)) (by omega) h0 (by decide) rfl rfl rfl (Nat.le_of_ble_eq_true rfl) dX12_dryOf_15 (fun x3 => ?_)
    refine rp_if_eq 49 dX12_dryOf_18 (by decide) ?_ ?_
    · exact rp_sub [] rfl (rp_puRL (hX6_0 ()))
    · refine rp_aload_n 0 dX12_dryOf_21 rfl ?_
      refine rp_sipush (882 : Int32) dX12_dryOf_22 (by decide) ?_
      refine rp_iload_n 1 dX12_dryOf_25 rfl ?_
      refine rp_callVz [.int (882 : Int32), .int p1] (SX12_isWet (hn := hn) a0 (882 : Int32) p1 h0) cvX12_isWet (mw (i := 1603) (by decide +kernel)) (by omega) h0 (by decide) rfl rfl rfl (Nat.le_of_ble_eq_true rfl) dX12_dryOf_26 (fun x4 => ?_)
      refine rp_if_ne 34 dX12_dryOf_29 (by decide) ?_ ?_
      · refine rp_aload_n 0 dX12_dryOf_34 rfl ?_
        refine rp_sipush (882 : Int32) dX12_dryOf_35 (by decide) ?_
        refine rp_iconst (1 : Int32) dX12_dryOf_38 (by decide) ?_
        refine rp_callVi [.int (882 : Int32), .int (1 : Int32)] (SX12_passes (hn := hn) a0 (882 : Int32) (1 : Int32) h0) cvX12_passes (mw (i := 1647) (by decide +kernel)) (by omega) h0 (by decide) rfl rfl rfl (Nat.le_of_ble_eq_true rfl) dX12_dryOf_39 (fun x5 => ?_)
        refine rp_pop dX12_dryOf_42 rfl ?_
        refine rp_iinc (fun y6 => [(2, .int y6), (0, .ref (K.2.1 + a0)), (1, .int p1)]) 2 dX12_dryOf_43 rfl (by rfl) (by decide) (fun y6 => rfl) (fun y6 => ?_)
        refine rp_goto 6 dX12_dryOf_46 (by decide) ?_
        exact rp_sub [1, 2, 0] rfl (ih6 y6)
      · exact rp_sub [2] rfl (rp_puRR (hX6_1 s2))

theorem dX12_dry_0 : decode cX12_dry 0 = .ok (.aload_n 0, 1) := by decide +kernel
theorem dX12_dry_1 : decode cX12_dry 1 = .ok (.iconst 0, 1) := by decide +kernel
theorem dX12_dry_2 : decode cX12_dry 2 = .ok (.putfield 1, 3) := by decide +kernel
theorem dX12_dry_5 : decode cX12_dry 5 = .ok (.aload_n 0, 1) := by decide +kernel
theorem dX12_dry_6 : decode cX12_dry 6 = .ok (.iload_n 1, 1) := by decide +kernel
theorem dX12_dry_7 : decode cX12_dry 7 = .ok (.invokevirtual 322, 3) := by decide +kernel
theorem dX12_dry_10 : decode cX12_dry 10 = .ok (.ifCond .eq 11, 3) := by decide +kernel
theorem dX12_dry_13 : decode cX12_dry 13 = .ok (.aload_n 0, 1) := by decide +kernel
theorem dX12_dry_14 : decode cX12_dry 14 = .ok (.iload_n 1, 1) := by decide +kernel
theorem dX12_dry_15 : decode cX12_dry 15 = .ok (.invokevirtual 361, 3) := by decide +kernel
theorem dX12_dry_18 : decode cX12_dry 18 = .ok (.goto 4, 3) := by decide +kernel
theorem dX12_dry_21 : decode cX12_dry 21 = .ok (.iconst (-1), 1) := by decide +kernel
theorem dX12_dry_22 : decode cX12_dry 22 = .ok (.ireturn, 1) := by decide +kernel
noncomputable def FX12_dry (a0 : Nat) (p1 : Int32) : PP Int32 := bd (sI a0 0 (0 : Int32)) (fun (_ : Unit) => bd (FX12_isCloth a0 p1) (fun x1 => bd (if ((b2i x1)) = 0 then pu (-1 : Int32) else bd (FX12_dryOf a0 p1) (fun x2 => pu x2) : PP (Int32)) (fun (v3 : Int32) => pu v3)))
set_option maxHeartbeats 4000000 in
set_option maxRecDepth 100000 in
theorem SX12_dry {l : Launch} {K : KK} {n : Nat} {hn : 270 ≤ n} (a0 : Nat) (p1 : Int32) (h0 : ob a0 11) : CT l K n 4 mX12_dry [.ref (K.2.1 + a0), .int p1] enI (FX12_dry a0 p1) := by
  refine CT.of2 (lv2 := [(0, .ref (K.2.1 + a0)), (1, .int p1)]) (by decide) rfl hn (Nat.le_of_ble_eq_true rfl) rfl (rp_id ?_)
  unfold FX12_dry
  refine rp_aload_n 0 dX12_dry_0 rfl ?_
  refine rp_iconst (0 : Int32) dX12_dry_1 (by decide) ?_
  refine rp_putI fi_X12_1 fp_X12_0 h0 rfl dX12_dry_2 ?_
  refine rp_aload_n 0 dX12_dry_5 rfl ?_
  refine rp_iload_n 1 dX12_dry_6 rfl ?_
  refine rp_callVz [.int p1] (SX12_isCloth (hn := hn) a0 p1 h0) cvX12_isCloth (mw (i := 1571) (by decide +kernel)) (by omega) h0 (by decide) rfl rfl rfl (Nat.le_of_ble_eq_true rfl) dX12_dry_7 (fun x1 => ?_)
  refine rp_as ?_
  refine rp_join 22 (fun (v3 : Int32) => []) (fun v3 => [.int v3]) (fun v3 => ?_) (fun hJ22 => ?_)
  · exact rp_pu (rp_iret rfl dX12_dry_22)
  refine rp_if_eq 21 dX12_dry_10 (by decide) ?_ ?_
  · refine rp_iconst (-1 : Int32) dX12_dry_21 (by decide) ?_
    exact rp_sub [] rfl (rp_pu (hJ22 (-1 : Int32)))
  · refine rp_aload_n 0 dX12_dry_13 rfl ?_
    refine rp_iload_n 1 dX12_dry_14 rfl ?_
    refine rp_callVi [.int p1] (SX12_dryOf (hn := hn) a0 p1 h0) cvX12_dryOf (mw (i := 1690) (by decide +kernel)) (by omega) h0 (by decide) rfl rfl rfl (Nat.le_of_ble_eq_true rfl) dX12_dry_15 (fun x2 => ?_)
    refine rp_goto 22 dX12_dry_18 (by decide) ?_
    exact rp_sub [] rfl (rp_pu (hJ22 x2))

theorem dX12_last_0 : decode cX12_last 0 = .ok (.aload_n 0, 1) := by decide +kernel
theorem dX12_last_1 : decode cX12_last 1 = .ok (.iconst 0, 1) := by decide +kernel
theorem dX12_last_2 : decode cX12_last 2 = .ok (.putfield 1, 3) := by decide +kernel
theorem dX12_last_5 : decode cX12_last 5 = .ok (.iconst (-1), 1) := by decide +kernel
theorem dX12_last_6 : decode cX12_last 6 = .ok (.istore_n 1, 1) := by decide +kernel
theorem dX12_last_7 : decode cX12_last 7 = .ok (.iconst (-1), 1) := by decide +kernel
theorem dX12_last_8 : decode cX12_last 8 = .ok (.istore_n 2, 1) := by decide +kernel
theorem dX12_last_9 : decode cX12_last 9 = .ok (.iconst 0, 1) := by decide +kernel
theorem dX12_last_10 : decode cX12_last 10 = .ok (.istore_n 3, 1) := by decide +kernel
theorem dX12_last_11 : decode cX12_last 11 = .ok (.iload_n 3, 1) := by decide +kernel
theorem dX12_last_12 : decode cX12_last 12 = .ok (.aload_n 0, 1) := by decide +kernel
theorem dX12_last_13 : decode cX12_last 13 = .ok (.invokevirtual 269, 3) := by decide +kernel
theorem dX12_last_16 : decode cX12_last 16 = .ok (.if_icmp .ge 41, 3) := by decide +kernel
theorem dX12_last_19 : decode cX12_last 19 = .ok (.aload_n 0, 1) := by decide +kernel
theorem dX12_last_20 : decode cX12_last 20 = .ok (.iload_n 3, 1) := by decide +kernel
theorem dX12_last_21 : decode cX12_last 21 = .ok (.invokevirtual 361, 3) := by decide +kernel
theorem dX12_last_24 : decode cX12_last 24 = .ok (.istore 4, 2) := by decide +kernel
theorem dX12_last_26 : decode cX12_last 26 = .ok (.iload 4, 2) := by decide +kernel
theorem dX12_last_28 : decode cX12_last 28 = .ok (.iload_n 2, 1) := by decide +kernel
theorem dX12_last_29 : decode cX12_last 29 = .ok (.if_icmp .le 7, 3) := by decide +kernel
theorem dX12_last_32 : decode cX12_last 32 = .ok (.iload_n 3, 1) := by decide +kernel
theorem dX12_last_33 : decode cX12_last 33 = .ok (.goto 4, 3) := by decide +kernel
theorem dX12_last_36 : decode cX12_last 36 = .ok (.iload_n 1, 1) := by decide +kernel
theorem dX12_last_37 : decode cX12_last 37 = .ok (.istore_n 1, 1) := by decide +kernel
theorem dX12_last_38 : decode cX12_last 38 = .ok (.iload 4, 2) := by decide +kernel
theorem dX12_last_40 : decode cX12_last 40 = .ok (.iload_n 2, 1) := by decide +kernel
theorem dX12_last_41 : decode cX12_last 41 = .ok (.if_icmp .le 8, 3) := by decide +kernel
theorem dX12_last_44 : decode cX12_last 44 = .ok (.iload 4, 2) := by decide +kernel
theorem dX12_last_46 : decode cX12_last 46 = .ok (.goto 4, 3) := by decide +kernel
theorem dX12_last_49 : decode cX12_last 49 = .ok (.iload_n 2, 1) := by decide +kernel
theorem dX12_last_50 : decode cX12_last 50 = .ok (.istore_n 2, 1) := by decide +kernel
theorem dX12_last_51 : decode cX12_last 51 = .ok (.iinc 3 1, 3) := by decide +kernel
theorem dX12_last_54 : decode cX12_last 54 = .ok (.goto (-43), 3) := by decide +kernel
theorem dX12_last_57 : decode cX12_last 57 = .ok (.iload_n 1, 1) := by decide +kernel
theorem dX12_last_58 : decode cX12_last 58 = .ok (.ireturn, 1) := by decide +kernel
noncomputable def FX12_last (a0 : Nat) : PP Int32 := bd (sI a0 0 (0 : Int32)) (fun (_ : Unit) => bd (it (fun (s1 : Int32 × Int32 × Int32) => (bd (FX12_cloths a0) (fun x2 => if x2 ≤ s1.2.2 then pu (Sum.inr s1.1) else bd (FX12_dryOf a0 s1.2.2) (fun x3 => bd (if x3 ≤ s1.2.1 then pu s1.1 else pu s1.2.2 : PP (Int32)) (fun (v4 : Int32) => bd (if x3 ≤ s1.2.1 then pu s1.2.1 else pu x3 : PP (Int32)) (fun (v5 : Int32) => lt (s1.2.2 + (1 : Int32)) (fun y6 => pu (Sum.inl (v4, v5, y6))))))) : PP ((Int32 × Int32 × Int32) ⊕ (Int32)))) FU ((-1 : Int32), (-1 : Int32), (0 : Int32))) (fun (v7 : Int32) => pu v7))
set_option maxHeartbeats 4000000 in
set_option maxRecDepth 100000 in
theorem SX12_last {l : Launch} {K : KK} {n : Nat} {hn : 270 ≤ n} (a0 : Nat) (h0 : ob a0 11) : CT l K n 4 mX12_last [.ref (K.2.1 + a0)] enI (FX12_last a0) := by
  refine CT.of2 (lv2 := [(0, .ref (K.2.1 + a0))]) (by decide) rfl hn (Nat.le_of_ble_eq_true rfl) rfl (rp_id ?_)
  unfold FX12_last
  refine rp_aload_n 0 dX12_last_0 rfl ?_
  refine rp_iconst (0 : Int32) dX12_last_1 (by decide) ?_
  refine rp_putI fi_X12_1 fp_X12_0 h0 rfl dX12_last_2 ?_
  refine rp_iconst (-1 : Int32) dX12_last_5 (by decide) ?_
  refine rp_istore_n [(1, .int (-1 : Int32)), (0, .ref (K.2.1 + a0))] dX12_last_6 (by decide) rfl ?_
  refine rp_iconst (-1 : Int32) dX12_last_7 (by decide) ?_
  refine rp_istore_n [(2, .int (-1 : Int32)), (1, .int (-1 : Int32)), (0, .ref (K.2.1 + a0))] dX12_last_8 (by decide) rfl ?_
  refine rp_iconst (0 : Int32) dX12_last_9 (by decide) ?_
  refine rp_istore_n [(3, .int (0 : Int32)), (2, .int (-1 : Int32)), (1, .int (-1 : Int32)), (0, .ref (K.2.1 + a0))] dX12_last_10 (by decide) rfl ?_
  refine rp_as ?_
  refine rp_join 57 (fun v7 => [(1, .int v7)]) (fun _ => []) (fun v7 => ?_) (fun hX11_0 => ?_)
  · refine rp_iload_n 0 dX12_last_57 rfl ?_
    exact rp_pu (rp_iret rfl dX12_last_58)
  refine rp_sub [3, 2, 1, 0] rfl (rp_it (fun (s1 : Int32 × Int32 × Int32) => [(0, .ref (K.2.1 + a0)), (1, .int s1.1), (2, .int s1.2.1), (3, .int s1.2.2)]) (fun N11 ih11 s1 => ?_) FU ((-1 : Int32), (-1 : Int32), (0 : Int32)))
  refine rp_iload_n 3 dX12_last_11 rfl ?_
  refine rp_aload_n 0 dX12_last_12 rfl ?_
  refine rp_callVi [] (SX12_cloths (hn := hn) a0 h0) cvX12_cloths (mw (i := 1306) (by decide +kernel)) (by omega) h0 (by decide) rfl rfl rfl (Nat.le_of_ble_eq_true rfl) dX12_last_13 (fun x2 => ?_)
  refine rp_icmp_ge 57 dX12_last_16 (by decide) ?_ ?_
  · exact rp_sub [1] rfl (rp_puR (hX11_0 s1.1))
  · refine rp_aload_n 0 dX12_last_19 rfl ?_
    refine rp_iload_n 3 dX12_last_20 rfl ?_
    refine rp_callVi [.int s1.2.2] (SX12_dryOf (hn := hn) a0 s1.2.2 h0) cvX12_dryOf (mw (i := 1690) (by decide +kernel)) (by omega) h0 (by decide) rfl rfl rfl (Nat.le_of_ble_eq_true rfl) dX12_last_21 (fun x3 => ?_)
    refine rp_istore [(4, .int x3), (0, .ref (K.2.1 + a0)), (1, .int s1.1), (2, .int s1.2.1), (3, .int s1.2.2)] dX12_last_24 (by decide) rfl ?_
    refine rp_iload 0 dX12_last_26 rfl ?_
    refine rp_iload_n 3 dX12_last_28 rfl ?_
    refine rp_as ?_
    refine rp_join 37 (fun (v4 : Int32) => [(0, .ref (K.2.1 + a0)), (2, .int s1.2.1), (3, .int s1.2.2), (4, .int x3)]) (fun v4 => [.int v4]) (fun v4 => ?_) (fun hJ37 => ?_)
    · refine rp_istore_n [(1, .int v4), (0, .ref (K.2.1 + a0)), (2, .int s1.2.1), (3, .int s1.2.2), (4, .int x3)] dX12_last_37 (by decide) rfl ?_
      refine rp_iload 4 dX12_last_38 rfl ?_
      refine rp_iload_n 2 dX12_last_40 rfl ?_
      refine rp_as ?_
      refine rp_join 50 (fun (v5 : Int32) => [(0, .ref (K.2.1 + a0)), (1, .int v4), (3, .int s1.2.2)]) (fun v5 => [.int v5]) (fun v5 => ?_) (fun hJ50 => ?_)
      · refine rp_istore_n [(2, .int v5), (0, .ref (K.2.1 + a0)), (1, .int v4), (3, .int s1.2.2)] dX12_last_50 (by decide) rfl ?_
        refine rp_iinc (fun y6 => [(3, .int y6), (2, .int v5), (0, .ref (K.2.1 + a0)), (1, .int v4)]) 3 dX12_last_51 rfl (by rfl) (by decide) (fun y6 => rfl) (fun y6 => ?_)
        refine rp_goto 11 dX12_last_54 (by decide) ?_
        exact rp_sub [2, 3, 1, 0] rfl (ih11 (v4, v5, y6))
      refine rp_icmp_le 49 dX12_last_41 (by decide) ?_ ?_
      · refine rp_iload_n 2 dX12_last_49 rfl ?_
        exact rp_sub [1, 0, 3] rfl (rp_pu (hJ50 s1.2.1))
      · refine rp_iload 4 dX12_last_44 rfl ?_
        refine rp_goto 50 dX12_last_46 (by decide) ?_
        exact rp_sub [1, 0, 3] rfl (rp_pu (hJ50 x3))
    refine rp_icmp_le 36 dX12_last_29 (by decide) ?_ ?_
    · refine rp_iload_n 2 dX12_last_36 rfl ?_
      exact rp_sub [1, 3, 4, 0] rfl (rp_pu (hJ37 s1.1))
    · refine rp_iload_n 4 dX12_last_32 rfl ?_
      refine rp_goto 37 dX12_last_33 (by decide) ?_
      exact rp_sub [1, 3, 4, 0] rfl (rp_pu (hJ37 s1.2.2))

theorem dX12_clears_0 : decode cX12_clears 0 = .ok (.aload_n 0, 1) := by decide +kernel
theorem dX12_clears_1 : decode cX12_clears 1 = .ok (.iconst 0, 1) := by decide +kernel
theorem dX12_clears_2 : decode cX12_clears 2 = .ok (.putfield 1, 3) := by decide +kernel
theorem dX12_clears_5 : decode cX12_clears 5 = .ok (.aload_n 0, 1) := by decide +kernel
theorem dX12_clears_6 : decode cX12_clears 6 = .ok (.invokevirtual 355, 3) := by decide +kernel
theorem dX12_clears_9 : decode cX12_clears 9 = .ok (.iconst 0, 1) := by decide +kernel
theorem dX12_clears_10 : decode cX12_clears 10 = .ok (.istore_n 2, 1) := by decide +kernel
theorem dX12_clears_11 : decode cX12_clears 11 = .ok (.iload_n 2, 1) := by decide +kernel
theorem dX12_clears_12 : decode cX12_clears 12 = .ok (.bipush 40, 2) := by decide +kernel
theorem dX12_clears_14 : decode cX12_clears 14 = .ok (.if_icmp .gt 39, 3) := by decide +kernel
theorem dX12_clears_17 : decode cX12_clears 17 = .ok (.aload_n 0, 1) := by decide +kernel
theorem dX12_clears_18 : decode cX12_clears 18 = .ok (.iload_n 1, 1) := by decide +kernel
theorem dX12_clears_19 : decode cX12_clears 19 = .ok (.invokevirtual 325, 3) := by decide +kernel
theorem dX12_clears_22 : decode cX12_clears 22 = .ok (.ifCond .eq 31, 3) := by decide +kernel
theorem dX12_clears_25 : decode cX12_clears 25 = .ok (.aload_n 0, 1) := by decide +kernel
theorem dX12_clears_26 : decode cX12_clears 26 = .ok (.sipush 882, 3) := by decide +kernel
theorem dX12_clears_29 : decode cX12_clears 29 = .ok (.iload_n 1, 1) := by decide +kernel
theorem dX12_clears_30 : decode cX12_clears 30 = .ok (.invokevirtual 307, 3) := by decide +kernel
theorem dX12_clears_33 : decode cX12_clears 33 = .ok (.ifCond .ge 5, 3) := by decide +kernel
theorem dX12_clears_36 : decode cX12_clears 36 = .ok (.iload_n 2, 1) := by decide +kernel
theorem dX12_clears_37 : decode cX12_clears 37 = .ok (.ireturn, 1) := by decide +kernel
theorem dX12_clears_38 : decode cX12_clears 38 = .ok (.aload_n 0, 1) := by decide +kernel
theorem dX12_clears_39 : decode cX12_clears 39 = .ok (.sipush 882, 3) := by decide +kernel
theorem dX12_clears_42 : decode cX12_clears 42 = .ok (.iconst 1, 1) := by decide +kernel
theorem dX12_clears_43 : decode cX12_clears 43 = .ok (.invokevirtual 345, 3) := by decide +kernel
theorem dX12_clears_46 : decode cX12_clears 46 = .ok (.pop, 1) := by decide +kernel
theorem dX12_clears_47 : decode cX12_clears 47 = .ok (.iinc 2 1, 3) := by decide +kernel
theorem dX12_clears_50 : decode cX12_clears 50 = .ok (.goto (-39), 3) := by decide +kernel
theorem dX12_clears_53 : decode cX12_clears 53 = .ok (.iconst (-1), 1) := by decide +kernel
theorem dX12_clears_54 : decode cX12_clears 54 = .ok (.ireturn, 1) := by decide +kernel
noncomputable def FX12_clears (a0 : Nat) (p1 : Int32) : PP Int32 := bd (sI a0 0 (0 : Int32)) (fun (_ : Unit) => bd (FX12_triesNow a0) (fun (_ : Unit) => bd (it (fun (s2 : Int32) => (if (40 : Int32) < s2 then pu (Sum.inr (Sum.inl ())) else bd (FX12_isPlace a0 p1) (fun x3 => if ((b2i x3)) = 0 then pu (Sum.inr (Sum.inl ())) else bd (FX12_weatherOf a0 (882 : Int32) p1) (fun x4 => if 0 ≤ x4 then bd (FX12_passes a0 (882 : Int32) (1 : Int32)) (fun x5 => lt (s2 + (1 : Int32)) (fun y6 => pu (Sum.inl y6))) else pu (Sum.inr (Sum.inr (s2))))) : PP ((Int32) ⊕ ((Unit) ⊕ (Int32))))) FU (0 : Int32)) (Sum.elim (fun (v7 : Unit) => pu (-1 : Int32)) (fun (v8 : Int32) => pu v8))))
set_option maxHeartbeats 4000000 in
set_option maxRecDepth 100000 in
theorem SX12_clears {l : Launch} {K : KK} {n : Nat} {hn : 270 ≤ n} (a0 : Nat) (p1 : Int32) (h0 : ob a0 11) : CT l K n 4 mX12_clears [.ref (K.2.1 + a0), .int p1] enI (FX12_clears a0 p1) := by
  refine CT.of2 (lv2 := [(0, .ref (K.2.1 + a0)), (1, .int p1)]) (by decide) rfl hn (Nat.le_of_ble_eq_true rfl) rfl (rp_id ?_)
  unfold FX12_clears
  refine rp_aload_n 0 dX12_clears_0 rfl ?_
  refine rp_iconst (0 : Int32) dX12_clears_1 (by decide) ?_
  refine rp_putI fi_X12_1 fp_X12_0 h0 rfl dX12_clears_2 ?_
  refine rp_aload_n 0 dX12_clears_5 rfl ?_
  refine rp_callVv [] (SX12_triesNow (hn := hn) a0 h0) cvX12_triesNow (mw (i := 1678) (by decide +kernel)) (by omega) h0 (by decide) rfl rfl rfl (Nat.le_of_ble_eq_true rfl) dX12_clears_6 (fun x1 => ?_)
  refine rp_iconst (0 : Int32) dX12_clears_9 (by decide) ?_
  refine rp_istore_n [(2, .int (0 : Int32)), (0, .ref (K.2.1 + a0)), (1, .int p1)] dX12_clears_10 (by decide) rfl ?_
  refine rp_as ?_
  refine rp_join2 53 (fun v7 => []) (fun _ => []) 36 (fun v8 => [(2, .int v8)]) (fun _ => []) (fun v7 => ?_) (fun v8 => ?_) (fun hX11_0 hX11_1 => ?_)
  · refine rp_iconst (-1 : Int32) dX12_clears_53 (by decide) ?_
    exact rp_pu (rp_iret rfl dX12_clears_54)
  · refine rp_iload_n 0 dX12_clears_36 rfl ?_
    exact rp_pu (rp_iret rfl dX12_clears_37)
  refine rp_sub [1, 2, 0] rfl (rp_it (fun (s2 : Int32) => [(0, .ref (K.2.1 + a0)), (1, .int p1), (2, .int s2)]) (fun N11 ih11 s2 => ?_) FU (0 : Int32))
  refine rp_iload_n 2 dX12_clears_11 rfl ?_
  refine rp_bipush (40 : Int32) dX12_clears_12 (by decide) ?_
  refine rp_icmp_gt 53 dX12_clears_14 (by decide) ?_ ?_
  · exact rp_sub [] rfl (rp_puRL (hX11_0 ()))
  · refine rp_aload_n 0 dX12_clears_17 rfl ?_
    refine rp_iload_n 1 dX12_clears_18 rfl ?_
    refine rp_callVz [.int p1] (SX12_isPlace (hn := hn) a0 p1 h0) cvX12_isPlace (mw (i := 1579) (by decide +kernel)) (by omega) h0 (by decide) rfl rfl rfl (Nat.le_of_ble_eq_true rfl) dX12_clears_19 (fun x3 => ?_)
    refine rp_if_eq 53 dX12_clears_22 (by decide) ?_ ?_
    · exact rp_sub [] rfl (rp_puRL (hX11_0 ()))
    · refine rp_aload_n 0 dX12_clears_25 rfl ?_
      refine rp_sipush (882 : Int32) dX12_clears_26 (by decide) ?_
      refine rp_iload_n 1 dX12_clears_29 rfl ?_
      refine rp_callVi [.int (882 : Int32), .int p1] (SX12_weatherOf (hn := hn) a0 (882 : Int32) p1 h0) cvX12_weatherOf (mw (i := 1587) (by decide +kernel)) (by omega) h0 (by decide) rfl rfl rfl (Nat.le_of_ble_eq_true rfl) dX12_clears_30 (fun x4 => ?_)
      refine rp_if_ge 38 dX12_clears_33 (by decide) ?_ ?_
      · refine rp_aload_n 0 dX12_clears_38 rfl ?_
        refine rp_sipush (882 : Int32) dX12_clears_39 (by decide) ?_
        refine rp_iconst (1 : Int32) dX12_clears_42 (by decide) ?_
        refine rp_callVi [.int (882 : Int32), .int (1 : Int32)] (SX12_passes (hn := hn) a0 (882 : Int32) (1 : Int32) h0) cvX12_passes (mw (i := 1647) (by decide +kernel)) (by omega) h0 (by decide) rfl rfl rfl (Nat.le_of_ble_eq_true rfl) dX12_clears_43 (fun x5 => ?_)
        refine rp_pop dX12_clears_46 rfl ?_
        refine rp_iinc (fun y6 => [(2, .int y6), (0, .ref (K.2.1 + a0)), (1, .int p1)]) 2 dX12_clears_47 rfl (by rfl) (by decide) (fun y6 => rfl) (fun y6 => ?_)
        refine rp_goto 11 dX12_clears_50 (by decide) ?_
        exact rp_sub [1, 2, 0] rfl (ih11 y6)
      · exact rp_sub [2] rfl (rp_puRR (hX11_1 s2))

theorem dX12_want_0 : decode cX12_want 0 = .ok (.aload_n 0, 1) := by decide +kernel
theorem dX12_want_1 : decode cX12_want 1 = .ok (.iconst 0, 1) := by decide +kernel
theorem dX12_want_2 : decode cX12_want 2 = .ok (.putfield 1, 3) := by decide +kernel
theorem dX12_want_5 : decode cX12_want 5 = .ok (.aload_n 0, 1) := by decide +kernel
theorem dX12_want_6 : decode cX12_want 6 = .ok (.iload_n 1, 1) := by decide +kernel
theorem dX12_want_7 : decode cX12_want 7 = .ok (.invokevirtual 325, 3) := by decide +kernel
theorem dX12_want_10 : decode cX12_want 10 = .ok (.ifCond .eq 12, 3) := by decide +kernel
theorem dX12_want_13 : decode cX12_want 13 = .ok (.iload_n 2, 1) := by decide +kernel
theorem dX12_want_14 : decode cX12_want 14 = .ok (.iconst (-1), 1) := by decide +kernel
theorem dX12_want_15 : decode cX12_want 15 = .ok (.iconst 3, 1) := by decide +kernel
theorem dX12_want_16 : decode cX12_want 16 = .ok (.invokestatic 201, 3) := by decide +kernel
theorem dX12_want_19 : decode cX12_want 19 = .ok (.ifCond .ne 5, 3) := by decide +kernel
theorem dX12_want_22 : decode cX12_want 22 = .ok (.iconst 0, 1) := by decide +kernel
theorem dX12_want_23 : decode cX12_want 23 = .ok (.ireturn, 1) := by decide +kernel
theorem dX12_want_24 : decode cX12_want 24 = .ok (.aload_n 0, 1) := by decide +kernel
theorem dX12_want_25 : decode cX12_want 25 = .ok (.getfield 113, 3) := by decide +kernel
theorem dX12_want_28 : decode cX12_want 28 = .ok (.bipush 19, 2) := by decide +kernel
theorem dX12_want_30 : decode cX12_want 30 = .ok (.iload_n 1, 1) := by decide +kernel
theorem dX12_want_31 : decode cX12_want 31 = .ok (.iadd, 1) := by decide +kernel
theorem dX12_want_32 : decode cX12_want 32 = .ok (.iload_n 2, 1) := by decide +kernel
theorem dX12_want_33 : decode cX12_want 33 = .ok (.iastore, 1) := by decide +kernel
theorem dX12_want_34 : decode cX12_want 34 = .ok (.iconst 1, 1) := by decide +kernel
theorem dX12_want_35 : decode cX12_want 35 = .ok (.ireturn, 1) := by decide +kernel
noncomputable def FX12_want (a0 : Nat) (p1 : Int32) (p2 : Int32) : PP Bool := bd (sI a0 0 (0 : Int32)) (fun (_ : Unit) => bd (FX12_isPlace a0 p1) (fun x1 => if ((b2i x1)) = 0 then zb (0 : Int32) else bd (FX12_within p2 (-1 : Int32) (3 : Int32)) (fun x2 => if ((b2i x2)) = 0 then zb (0 : Int32) else bd (uI (rf a0 23) 966 ((19 : Int32) + p1) p2) (fun (_ : Unit) => zb (1 : Int32)))))
set_option maxHeartbeats 4000000 in
set_option maxRecDepth 100000 in
theorem SX12_want {l : Launch} {K : KK} {n : Nat} {hn : 270 ≤ n} (a0 : Nat) (p1 : Int32) (p2 : Int32) (h0 : ob a0 11) : CT l K n 2 mX12_want [.ref (K.2.1 + a0), .int p1, .int p2] enZ (FX12_want a0 p1 p2) := by
  refine CT.of2 (lv2 := [(0, .ref (K.2.1 + a0)), (1, .int p1), (2, .int p2)]) (by decide) rfl hn (Nat.le_of_ble_eq_true rfl) rfl (rp_id ?_)
  unfold FX12_want
  refine rp_aload_n 0 dX12_want_0 rfl ?_
  refine rp_iconst (0 : Int32) dX12_want_1 (by decide) ?_
  refine rp_putI fi_X12_1 fp_X12_0 h0 rfl dX12_want_2 ?_
  refine rp_aload_n 0 dX12_want_5 rfl ?_
  refine rp_iload_n 1 dX12_want_6 rfl ?_
  refine rp_callVz [.int p1] (SX12_isPlace (hn := hn) a0 p1 h0) cvX12_isPlace (mw (i := 1579) (by decide +kernel)) (by omega) h0 (by decide) rfl rfl rfl (Nat.le_of_ble_eq_true rfl) dX12_want_7 (fun x1 => ?_)
  refine rp_if_eq 22 dX12_want_10 (by decide) ?_ ?_
  · refine rp_iconst (0 : Int32) dX12_want_22 (by decide) ?_
    exact rp_zretb rfl dX12_want_23
  · refine rp_iload_n 2 dX12_want_13 rfl ?_
    refine rp_iconst (-1 : Int32) dX12_want_14 (by decide) ?_
    refine rp_iconst (3 : Int32) dX12_want_15 (by decide) ?_
    refine rp_callSz [.int p2, .int (-1 : Int32), .int (3 : Int32)] (SX12_within (hn := hn) p2 (-1 : Int32) (3 : Int32)) csX12_within (mw (i := 1484) (by decide +kernel)) (by omega) rfl rfl (Nat.le_of_ble_eq_true rfl) dX12_want_16 (fun x2 => ?_)
    refine rp_if_ne 24 dX12_want_19 (by decide) ?_ ?_
    · refine rp_aload_n 0 dX12_want_24 rfl ?_
      refine rp_getR fi_X12_113 h0 rfl dX12_want_25 ?_
      refine rp_bipush (19 : Int32) dX12_want_28 (by decide) ?_
      refine rp_iload_n 1 dX12_want_30 rfl ?_
      refine rp_iadd dX12_want_31 ?_
      refine rp_iload_n 2 dX12_want_32 rfl ?_
      refine rp_iast (tX12_23 h0) dX12_want_33 ?_
      refine rp_iconst (1 : Int32) dX12_want_34 (by decide) ?_
      exact rp_zretb rfl dX12_want_35
    · refine rp_iconst (0 : Int32) dX12_want_22 (by decide) ?_
      exact rp_zretb rfl dX12_want_23

theorem dX12_isWanted_0 : decode cX12_isWanted 0 = .ok (.iconst 1, 1) := by decide +kernel
theorem dX12_isWanted_1 : decode cX12_isWanted 1 = .ok (.istore_n 2, 1) := by decide +kernel
theorem dX12_isWanted_2 : decode cX12_isWanted 2 = .ok (.iconst 0, 1) := by decide +kernel
theorem dX12_isWanted_3 : decode cX12_isWanted 3 = .ok (.istore_n 3, 1) := by decide +kernel
theorem dX12_isWanted_4 : decode cX12_isWanted 4 = .ok (.iload_n 3, 1) := by decide +kernel
theorem dX12_isWanted_5 : decode cX12_isWanted 5 = .ok (.aload_n 0, 1) := by decide +kernel
theorem dX12_isWanted_6 : decode cX12_isWanted 6 = .ok (.invokevirtual 288, 3) := by decide +kernel
theorem dX12_isWanted_9 : decode cX12_isWanted 9 = .ok (.if_icmp .ge 51, 3) := by decide +kernel
theorem dX12_isWanted_12 : decode cX12_isWanted 12 = .ok (.iload_n 2, 1) := by decide +kernel
theorem dX12_isWanted_13 : decode cX12_isWanted 13 = .ok (.ifCond .eq 39, 3) := by decide +kernel
theorem dX12_isWanted_16 : decode cX12_isWanted 16 = .ok (.aload_n 0, 1) := by decide +kernel
theorem dX12_isWanted_17 : decode cX12_isWanted 17 = .ok (.getfield 113, 3) := by decide +kernel
theorem dX12_isWanted_20 : decode cX12_isWanted 20 = .ok (.bipush 19, 2) := by decide +kernel
theorem dX12_isWanted_22 : decode cX12_isWanted 22 = .ok (.iload_n 3, 1) := by decide +kernel
theorem dX12_isWanted_23 : decode cX12_isWanted 23 = .ok (.iadd, 1) := by decide +kernel
theorem dX12_isWanted_24 : decode cX12_isWanted 24 = .ok (.iaload, 1) := by decide +kernel
theorem dX12_isWanted_25 : decode cX12_isWanted 25 = .ok (.bipush (-2), 2) := by decide +kernel
theorem dX12_isWanted_27 : decode cX12_isWanted 27 = .ok (.if_icmp .eq 21, 3) := by decide +kernel
theorem dX12_isWanted_30 : decode cX12_isWanted 30 = .ok (.aload_n 0, 1) := by decide +kernel
theorem dX12_isWanted_31 : decode cX12_isWanted 31 = .ok (.getfield 113, 3) := by decide +kernel
theorem dX12_isWanted_34 : decode cX12_isWanted 34 = .ok (.bipush 19, 2) := by decide +kernel
theorem dX12_isWanted_36 : decode cX12_isWanted 36 = .ok (.iload_n 3, 1) := by decide +kernel
theorem dX12_isWanted_37 : decode cX12_isWanted 37 = .ok (.iadd, 1) := by decide +kernel
theorem dX12_isWanted_38 : decode cX12_isWanted 38 = .ok (.iaload, 1) := by decide +kernel
theorem dX12_isWanted_39 : decode cX12_isWanted 39 = .ok (.aload_n 0, 1) := by decide +kernel
theorem dX12_isWanted_40 : decode cX12_isWanted 40 = .ok (.iload_n 1, 1) := by decide +kernel
theorem dX12_isWanted_41 : decode cX12_isWanted 41 = .ok (.iload_n 3, 1) := by decide +kernel
theorem dX12_isWanted_42 : decode cX12_isWanted 42 = .ok (.invokevirtual 307, 3) := by decide +kernel
theorem dX12_isWanted_45 : decode cX12_isWanted 45 = .ok (.if_icmp .ne 7, 3) := by decide +kernel
theorem dX12_isWanted_48 : decode cX12_isWanted 48 = .ok (.iconst 1, 1) := by decide +kernel
theorem dX12_isWanted_49 : decode cX12_isWanted 49 = .ok (.goto 4, 3) := by decide +kernel
theorem dX12_isWanted_52 : decode cX12_isWanted 52 = .ok (.iconst 0, 1) := by decide +kernel
theorem dX12_isWanted_53 : decode cX12_isWanted 53 = .ok (.istore_n 2, 1) := by decide +kernel
theorem dX12_isWanted_54 : decode cX12_isWanted 54 = .ok (.iinc 3 1, 3) := by decide +kernel
theorem dX12_isWanted_57 : decode cX12_isWanted 57 = .ok (.goto (-53), 3) := by decide +kernel
theorem dX12_isWanted_60 : decode cX12_isWanted 60 = .ok (.iload_n 2, 1) := by decide +kernel
theorem dX12_isWanted_61 : decode cX12_isWanted 61 = .ok (.ireturn, 1) := by decide +kernel
noncomputable def FX12_isWanted (a0 : Nat) (p1 : Int32) : PP Bool := bd (it (fun (s1 : Int32 × Int32) => (bd (FX12_places a0) (fun x2 => if x2 ≤ s1.2 then pu (Sum.inr s1.1) else bd (if s1.1 = 0 then pu (0 : Int32) else bd (aI (rf a0 23) 966 ((19 : Int32) + s1.2)) (fun x3 => if x3 = (-2 : Int32) then pu (1 : Int32) else bd (aI (rf a0 23) 966 ((19 : Int32) + s1.2)) (fun x4 => bd (FX12_weatherOf a0 p1 s1.2) (fun x5 => if x4 = x5 then pu (1 : Int32) else pu (0 : Int32)))) : PP (Int32)) (fun (v6 : Int32) => lt (s1.2 + (1 : Int32)) (fun y7 => pu (Sum.inl (v6, y7))))) : PP ((Int32 × Int32) ⊕ (Int32)))) FU ((1 : Int32), (0 : Int32))) (fun (v8 : Int32) => zb v8)
set_option maxHeartbeats 4000000 in
set_option maxRecDepth 100000 in
theorem SX12_isWanted {l : Launch} {K : KK} {n : Nat} {hn : 270 ≤ n} (a0 : Nat) (p1 : Int32) (h0 : ob a0 11) : CT l K n 4 mX12_isWanted [.ref (K.2.1 + a0), .int p1] enZ (FX12_isWanted a0 p1) := by
  refine CT.of2 (lv2 := [(0, .ref (K.2.1 + a0)), (1, .int p1)]) (by decide) rfl hn (Nat.le_of_ble_eq_true rfl) rfl (rp_id ?_)
  unfold FX12_isWanted
  refine rp_iconst (1 : Int32) dX12_isWanted_0 (by decide) ?_
  refine rp_istore_n [(2, .int (1 : Int32)), (0, .ref (K.2.1 + a0)), (1, .int p1)] dX12_isWanted_1 (by decide) rfl ?_
  refine rp_iconst (0 : Int32) dX12_isWanted_2 (by decide) ?_
  refine rp_istore_n [(3, .int (0 : Int32)), (2, .int (1 : Int32)), (0, .ref (K.2.1 + a0)), (1, .int p1)] dX12_isWanted_3 (by decide) rfl ?_
  refine rp_as ?_
  refine rp_join 60 (fun v8 => [(2, .int v8)]) (fun _ => []) (fun v8 => ?_) (fun hX4_0 => ?_)
  · refine rp_iload_n 0 dX12_isWanted_60 rfl ?_
    exact rp_zretb rfl dX12_isWanted_61
  refine rp_sub [2, 3, 1, 0] rfl (rp_it (fun (s1 : Int32 × Int32) => [(0, .ref (K.2.1 + a0)), (1, .int p1), (2, .int s1.1), (3, .int s1.2)]) (fun N4 ih4 s1 => ?_) FU ((1 : Int32), (0 : Int32)))
  refine rp_iload_n 3 dX12_isWanted_4 rfl ?_
  refine rp_aload_n 0 dX12_isWanted_5 rfl ?_
  refine rp_callVi [] (SX12_places (hn := hn) a0 h0) cvX12_places (mw (i := 1583) (by decide +kernel)) (by omega) h0 (by decide) rfl rfl rfl (Nat.le_of_ble_eq_true rfl) dX12_isWanted_6 (fun x2 => ?_)
  refine rp_icmp_ge 60 dX12_isWanted_9 (by decide) ?_ ?_
  · exact rp_sub [2] rfl (rp_puR (hX4_0 s1.1))
  · refine rp_iload_n 2 dX12_isWanted_12 rfl ?_
    refine rp_as ?_
    refine rp_join 53 (fun (v6 : Int32) => [(0, .ref (K.2.1 + a0)), (1, .int p1), (3, .int s1.2)]) (fun v6 => [.int v6]) (fun v6 => ?_) (fun hJ53 => ?_)
    · refine rp_istore_n [(2, .int v6), (0, .ref (K.2.1 + a0)), (1, .int p1), (3, .int s1.2)] dX12_isWanted_53 (by decide) rfl ?_
      refine rp_iinc (fun y7 => [(3, .int y7), (2, .int v6), (0, .ref (K.2.1 + a0)), (1, .int p1)]) 3 dX12_isWanted_54 rfl (by rfl) (by decide) (fun y7 => rfl) (fun y7 => ?_)
      refine rp_goto 4 dX12_isWanted_57 (by decide) ?_
      exact rp_sub [2, 3, 1, 0] rfl (ih4 (v6, y7))
    refine rp_if_eq 52 dX12_isWanted_13 (by decide) ?_ ?_
    · refine rp_iconst (0 : Int32) dX12_isWanted_52 (by decide) ?_
      exact rp_sub [0, 1, 3] rfl (rp_pu (hJ53 (0 : Int32)))
    · refine rp_aload_n 0 dX12_isWanted_16 rfl ?_
      refine rp_getR fi_X12_113 h0 rfl dX12_isWanted_17 ?_
      refine rp_bipush (19 : Int32) dX12_isWanted_20 (by decide) ?_
      refine rp_iload_n 3 dX12_isWanted_22 rfl ?_
      refine rp_iadd dX12_isWanted_23 ?_
      refine rp_iald (tX12_23 h0) dX12_isWanted_24 (fun x3 => ?_)
      refine rp_bipush (-2 : Int32) dX12_isWanted_25 (by decide) ?_
      refine rp_icmp_eq 48 dX12_isWanted_27 (by decide) ?_ ?_
      · refine rp_iconst (1 : Int32) dX12_isWanted_48 (by decide) ?_
        refine rp_goto 53 dX12_isWanted_49 (by decide) ?_
        exact rp_sub [0, 1, 3] rfl (rp_pu (hJ53 (1 : Int32)))
      · refine rp_aload_n 0 dX12_isWanted_30 rfl ?_
        refine rp_getR fi_X12_113 h0 rfl dX12_isWanted_31 ?_
        refine rp_bipush (19 : Int32) dX12_isWanted_34 (by decide) ?_
        refine rp_iload_n 3 dX12_isWanted_36 rfl ?_
        refine rp_iadd dX12_isWanted_37 ?_
        refine rp_iald (tX12_23 h0) dX12_isWanted_38 (fun x4 => ?_)
        refine rp_aload_n 0 dX12_isWanted_39 rfl ?_
        refine rp_iload_n 1 dX12_isWanted_40 rfl ?_
        refine rp_iload_n 3 dX12_isWanted_41 rfl ?_
        refine rp_callVi [.int p1, .int s1.2] (SX12_weatherOf (hn := hn) a0 p1 s1.2 h0) cvX12_weatherOf (mw (i := 1587) (by decide +kernel)) (by omega) h0 (by decide) rfl rfl rfl (Nat.le_of_ble_eq_true rfl) dX12_isWanted_42 (fun x5 => ?_)
        refine rp_icmp_ne 52 dX12_isWanted_45 (by decide) ?_ ?_
        · refine rp_iconst (0 : Int32) dX12_isWanted_52 (by decide) ?_
          exact rp_sub [0, 1, 3] rfl (rp_pu (hJ53 (0 : Int32)))
        · refine rp_iconst (1 : Int32) dX12_isWanted_48 (by decide) ?_
          refine rp_goto 53 dX12_isWanted_49 (by decide) ?_
          exact rp_sub [0, 1, 3] rfl (rp_pu (hJ53 (1 : Int32)))

theorem dX12_wishes_0 : decode cX12_wishes 0 = .ok (.aload_n 0, 1) := by decide +kernel
theorem dX12_wishes_1 : decode cX12_wishes 1 = .ok (.getfield 364, 3) := by decide +kernel
theorem dX12_wishes_4 : decode cX12_wishes 4 = .ok (.ifCond .lt 12, 3) := by decide +kernel
theorem dX12_wishes_7 : decode cX12_wishes 7 = .ok (.iload_n 2, 1) := by decide +kernel
theorem dX12_wishes_8 : decode cX12_wishes 8 = .ok (.aload_n 0, 1) := by decide +kernel
theorem dX12_wishes_9 : decode cX12_wishes 9 = .ok (.getfield 364, 3) := by decide +kernel
theorem dX12_wishes_12 : decode cX12_wishes 12 = .ok (.if_icmp .lt 4, 3) := by decide +kernel
theorem dX12_wishes_15 : decode cX12_wishes 15 = .ok (.return_, 1) := by decide +kernel
theorem dX12_wishes_16 : decode cX12_wishes 16 = .ok (.iload_n 1, 1) := by decide +kernel
theorem dX12_wishes_17 : decode cX12_wishes 17 = .ok (.aload_n 0, 1) := by decide +kernel
theorem dX12_wishes_18 : decode cX12_wishes 18 = .ok (.invokevirtual 269, 3) := by decide +kernel
theorem dX12_wishes_21 : decode cX12_wishes 21 = .ok (.if_icmp .ne 45, 3) := by decide +kernel
theorem dX12_wishes_24 : decode cX12_wishes 24 = .ok (.aload_n 0, 1) := by decide +kernel
theorem dX12_wishes_25 : decode cX12_wishes 25 = .ok (.sipush 882, 3) := by decide +kernel
theorem dX12_wishes_28 : decode cX12_wishes 28 = .ok (.invokevirtual 367, 3) := by decide +kernel
theorem dX12_wishes_31 : decode cX12_wishes 31 = .ok (.ifCond .eq 34, 3) := by decide +kernel
theorem dX12_wishes_34 : decode cX12_wishes 34 = .ok (.aload_n 0, 1) := by decide +kernel
theorem dX12_wishes_35 : decode cX12_wishes 35 = .ok (.iload_n 2, 1) := by decide +kernel
theorem dX12_wishes_36 : decode cX12_wishes 36 = .ok (.putfield 364, 3) := by decide +kernel
theorem dX12_wishes_39 : decode cX12_wishes 39 = .ok (.iconst 0, 1) := by decide +kernel
theorem dX12_wishes_40 : decode cX12_wishes 40 = .ok (.istore_n 3, 1) := by decide +kernel
theorem dX12_wishes_41 : decode cX12_wishes 41 = .ok (.iload_n 3, 1) := by decide +kernel
theorem dX12_wishes_42 : decode cX12_wishes 42 = .ok (.bipush 6, 2) := by decide +kernel
theorem dX12_wishes_44 : decode cX12_wishes 44 = .ok (.if_icmp .ge 21, 3) := by decide +kernel
theorem dX12_wishes_47 : decode cX12_wishes 47 = .ok (.aload_n 0, 1) := by decide +kernel
theorem dX12_wishes_48 : decode cX12_wishes 48 = .ok (.getfield 123, 3) := by decide +kernel
theorem dX12_wishes_51 : decode cX12_wishes 51 = .ok (.iload_n 3, 1) := by decide +kernel
theorem dX12_wishes_52 : decode cX12_wishes 52 = .ok (.aload_n 0, 1) := by decide +kernel
theorem dX12_wishes_53 : decode cX12_wishes 53 = .ok (.getfield 120, 3) := by decide +kernel
theorem dX12_wishes_56 : decode cX12_wishes 56 = .ok (.iload_n 3, 1) := by decide +kernel
theorem dX12_wishes_57 : decode cX12_wishes 57 = .ok (.iaload, 1) := by decide +kernel
theorem dX12_wishes_58 : decode cX12_wishes 58 = .ok (.iastore, 1) := by decide +kernel
theorem dX12_wishes_59 : decode cX12_wishes 59 = .ok (.iinc 3 1, 3) := by decide +kernel
theorem dX12_wishes_62 : decode cX12_wishes 62 = .ok (.goto (-21), 3) := by decide +kernel
theorem dX12_wishes_65 : decode cX12_wishes 65 = .ok (.return_, 1) := by decide +kernel
theorem dX12_wishes_66 : decode cX12_wishes 66 = .ok (.iconst 0, 1) := by decide +kernel
theorem dX12_wishes_67 : decode cX12_wishes 67 = .ok (.istore_n 3, 1) := by decide +kernel
theorem dX12_wishes_68 : decode cX12_wishes 68 = .ok (.iload_n 3, 1) := by decide +kernel
theorem dX12_wishes_69 : decode cX12_wishes 69 = .ok (.aload_n 0, 1) := by decide +kernel
theorem dX12_wishes_70 : decode cX12_wishes 70 = .ok (.invokevirtual 285, 3) := by decide +kernel
theorem dX12_wishes_73 : decode cX12_wishes 73 = .ok (.if_icmp .ge 64, 3) := by decide +kernel
theorem dX12_wishes_76 : decode cX12_wishes 76 = .ok (.aload_n 0, 1) := by decide +kernel
theorem dX12_wishes_77 : decode cX12_wishes 77 = .ok (.iconst 0, 1) := by decide +kernel
theorem dX12_wishes_78 : decode cX12_wishes 78 = .ok (.iload_n 1, 1) := by decide +kernel
theorem dX12_wishes_79 : decode cX12_wishes 79 = .ok (.invokevirtual 294, 3) := by decide +kernel
theorem dX12_wishes_82 : decode cX12_wishes 82 = .ok (.ifCond .ne 55, 3) := by decide +kernel
theorem dX12_wishes_85 : decode cX12_wishes 85 = .ok (.aload_n 0, 1) := by decide +kernel
theorem dX12_wishes_86 : decode cX12_wishes 86 = .ok (.sipush 882, 3) := by decide +kernel
theorem dX12_wishes_89 : decode cX12_wishes 89 = .ok (.iload_n 3, 1) := by decide +kernel
theorem dX12_wishes_90 : decode cX12_wishes 90 = .ok (.invokevirtual 313, 3) := by decide +kernel
theorem dX12_wishes_93 : decode cX12_wishes 93 = .ok (.ifCond .le 38, 3) := by decide +kernel
theorem dX12_wishes_96 : decode cX12_wishes 96 = .ok (.aload_n 0, 1) := by decide +kernel
theorem dX12_wishes_97 : decode cX12_wishes 97 = .ok (.sipush 882, 3) := by decide +kernel
theorem dX12_wishes_100 : decode cX12_wishes 100 = .ok (.iload_n 1, 1) := by decide +kernel
theorem dX12_wishes_101 : decode cX12_wishes 101 = .ok (.iload_n 3, 1) := by decide +kernel
theorem dX12_wishes_102 : decode cX12_wishes 102 = .ok (.iconst 1, 1) := by decide +kernel
theorem dX12_wishes_103 : decode cX12_wishes 103 = .ok (.invokevirtual 338, 3) := by decide +kernel
theorem dX12_wishes_106 : decode cX12_wishes 106 = .ok (.aload_n 0, 1) := by decide +kernel
theorem dX12_wishes_107 : decode cX12_wishes 107 = .ok (.getfield 120, 3) := by decide +kernel
theorem dX12_wishes_110 : decode cX12_wishes 110 = .ok (.iload_n 1, 1) := by decide +kernel
theorem dX12_wishes_111 : decode cX12_wishes 111 = .ok (.iload_n 3, 1) := by decide +kernel
theorem dX12_wishes_112 : decode cX12_wishes 112 = .ok (.iastore, 1) := by decide +kernel
theorem dX12_wishes_113 : decode cX12_wishes 113 = .ok (.aload_n 0, 1) := by decide +kernel
theorem dX12_wishes_114 : decode cX12_wishes 114 = .ok (.iload_n 1, 1) := by decide +kernel
theorem dX12_wishes_115 : decode cX12_wishes 115 = .ok (.iconst 1, 1) := by decide +kernel
theorem dX12_wishes_116 : decode cX12_wishes 116 = .ok (.iadd, 1) := by decide +kernel
theorem dX12_wishes_117 : decode cX12_wishes 117 = .ok (.iload_n 2, 1) := by decide +kernel
theorem dX12_wishes_118 : decode cX12_wishes 118 = .ok (.iconst 1, 1) := by decide +kernel
theorem dX12_wishes_119 : decode cX12_wishes 119 = .ok (.iadd, 1) := by decide +kernel
theorem dX12_wishes_120 : decode cX12_wishes 120 = .ok (.invokevirtual 370, 3) := by decide +kernel
theorem dX12_wishes_123 : decode cX12_wishes 123 = .ok (.aload_n 0, 1) := by decide +kernel
theorem dX12_wishes_124 : decode cX12_wishes 124 = .ok (.sipush 882, 3) := by decide +kernel
theorem dX12_wishes_127 : decode cX12_wishes 127 = .ok (.iload_n 1, 1) := by decide +kernel
theorem dX12_wishes_128 : decode cX12_wishes 128 = .ok (.invokevirtual 342, 3) := by decide +kernel
theorem dX12_wishes_131 : decode cX12_wishes 131 = .ok (.iinc 3 1, 3) := by decide +kernel
theorem dX12_wishes_134 : decode cX12_wishes 134 = .ok (.goto (-66), 3) := by decide +kernel
theorem dX12_wishes_137 : decode cX12_wishes 137 = .ok (.aload_n 0, 1) := by decide +kernel
theorem dX12_wishes_138 : decode cX12_wishes 138 = .ok (.getfield 120, 3) := by decide +kernel
theorem dX12_wishes_141 : decode cX12_wishes 141 = .ok (.iload_n 1, 1) := by decide +kernel
theorem dX12_wishes_142 : decode cX12_wishes 142 = .ok (.iconst (-1), 1) := by decide +kernel
theorem dX12_wishes_143 : decode cX12_wishes 143 = .ok (.iastore, 1) := by decide +kernel
theorem dX12_wishes_144 : decode cX12_wishes 144 = .ok (.aload_n 0, 1) := by decide +kernel
theorem dX12_wishes_145 : decode cX12_wishes 145 = .ok (.iload_n 1, 1) := by decide +kernel
theorem dX12_wishes_146 : decode cX12_wishes 146 = .ok (.iconst 1, 1) := by decide +kernel
theorem dX12_wishes_147 : decode cX12_wishes 147 = .ok (.iadd, 1) := by decide +kernel
theorem dX12_wishes_148 : decode cX12_wishes 148 = .ok (.iload_n 2, 1) := by decide +kernel
theorem dX12_wishes_149 : decode cX12_wishes 149 = .ok (.invokevirtual 370, 3) := by decide +kernel
theorem dX12_wishes_152 : decode cX12_wishes 152 = .ok (.return_, 1) := by decide +kernel
noncomputable def GX12_wishes (self : Nat → Int32 → Int32 → PP Unit) (a0 : Nat) (p1 : Int32) (p2 : Int32) : PP Unit := bd (gI a0 28) (fun x1 => jn (fun (v4 : Unit) => bd (FX12_cloths a0) (fun x5 => if p1 = x5 then bd (FX12_isWanted a0 (882 : Int32)) (fun x17 => bd (if ((b2i x17)) = 0 then pu () else bd (sI a0 28 p2) (fun (_ : Unit) => bd (it (fun (s18 : Int32) => (if (6 : Int32) ≤ s18 then pu (Sum.inr ()) else bd (aI (rf a0 26) 6 s18) (fun x19 => bd (uI (rf a0 27) 6 s18 x19) (fun (_ : Unit) => lt (s18 + (1 : Int32)) (fun y20 => pu (Sum.inl y20)))) : PP ((Int32) ⊕ (Unit)))) FU (0 : Int32)) (fun (v21 : Unit) => pu ())) : PP (Unit)) (fun (v22 : Unit) => pu ())) else bd (it (fun (s6 : Int32) => (bd (FX12_lines a0) (fun x7 => if x7 ≤ s6 then pu (Sum.inr ()) else bd (FX12_doesHang a0 (0 : Int32) p1) (fun x8 => if ((b2i x8)) = 0 then bd (FX12_freeOf a0 (882 : Int32) s6) (fun x9 => bd (if x9 ≤ 0 then pu () else bd (FX12_hangs a0 (882 : Int32) p1 s6 (1 : Int32)) (fun (_ : Unit) => bd (uI (rf a0 26) 6 p1 s6) (fun (_ : Unit) => bd (self a0 (p1 + (1 : Int32)) (p2 + (1 : Int32))) (fun (_ : Unit) => bd (FX12_comesDown a0 (882 : Int32) p1) (fun (_ : Unit) => pu ())))) : PP (Unit)) (fun (v13 : Unit) => lt (s6 + (1 : Int32)) (fun y14 => pu (Sum.inl y14)))) else pu (Sum.inr ()))) : PP ((Int32) ⊕ (Unit)))) FU (0 : Int32)) (fun (v15 : Unit) => bd (uI (rf a0 26) 6 p1 (-1 : Int32)) (fun (_ : Unit) => bd (self a0 (p1 + (1 : Int32)) p2) (fun (_ : Unit) => pu ()))))) (fun j2 => if x1 < 0 then j2 () else bd (gI a0 28) (fun x3 => if p2 < x3 then j2 () else pu ())))
set_option maxHeartbeats 4000000 in
set_option maxRecDepth 100000 in
theorem SGX12_wishes {l : Launch} {K : KK} {n : Nat} {dp : Nat} {self : Nat → Int32 → Int32 → PP Unit} {hn : 270 ≤ n} (hs : ∀ (a0 : Nat) (p1 : Int32) (p2 : Int32), ob a0 11 → CT l K n dp mX12_wishes [.ref (K.2.1 + a0), .int p1, .int p2] enU (self a0 p1 p2)) (a0 : Nat) (p1 : Int32) (p2 : Int32) (h0 : ob a0 11) : CT l K n (dp + 5) mX12_wishes [.ref (K.2.1 + a0), .int p1, .int p2] enU (GX12_wishes self a0 p1 p2) := by
  refine CT.of2 (lv2 := [(0, .ref (K.2.1 + a0)), (1, .int p1), (2, .int p2)]) (by decide) rfl hn (Nat.le_of_ble_eq_true rfl) rfl (rp_id ?_)
  unfold GX12_wishes
  refine rp_aload_n 0 dX12_wishes_0 rfl ?_
  refine rp_getI fi_X12_364 h0 rfl dX12_wishes_1 (fun x1 => ?_)
  refine rp_jn2 16 (fun (v4 : Unit) => [(0, .ref (K.2.1 + a0)), (1, .int p1), (2, .int p2)]) (fun v4 => []) (fun v4 => ?_) (fun hK16 => ?_)
  · refine rp_iload_n 1 dX12_wishes_16 rfl ?_
    refine rp_aload_n 0 dX12_wishes_17 rfl ?_
    refine rp_callVi [] (SX12_cloths (hn := hn) a0 h0) cvX12_cloths (mw (i := 1306) (by decide +kernel)) (by omega) h0 (by decide) rfl rfl rfl (Nat.le_of_ble_eq_true rfl) dX12_wishes_18 (fun x5 => ?_)
    refine rp_icmp_ne 66 dX12_wishes_21 (by decide) ?_ ?_
    · refine rp_iconst (0 : Int32) dX12_wishes_66 (by decide) ?_
      refine rp_istore_n [(3, .int (0 : Int32)), (0, .ref (K.2.1 + a0)), (1, .int p1), (2, .int p2)] dX12_wishes_67 (by decide) rfl ?_
      refine rp_as ?_
      refine rp_join 137 (fun v15 => [(0, .ref (K.2.1 + a0)), (1, .int p1), (2, .int p2)]) (fun _ => []) (fun v15 => ?_) (fun hX68_0 => ?_)
      · refine rp_aload_n 0 dX12_wishes_137 rfl ?_
        refine rp_getR fi_X12_120 h0 rfl dX12_wishes_138 ?_
        refine rp_iload_n 1 dX12_wishes_141 rfl ?_
        refine rp_iconst (-1 : Int32) dX12_wishes_142 (by decide) ?_
        refine rp_iast (tX12_26 h0) dX12_wishes_143 ?_
        refine rp_aload_n 0 dX12_wishes_144 rfl ?_
        refine rp_iload_n 1 dX12_wishes_145 rfl ?_
        refine rp_iconst (1 : Int32) dX12_wishes_146 (by decide) ?_
        refine rp_iadd dX12_wishes_147 ?_
        refine rp_iload_n 2 dX12_wishes_148 rfl ?_
        refine rp_callVv [.int (p1 + (1 : Int32)), .int p2] (hs a0 (p1 + (1 : Int32)) p2 h0) cvX12_wishes (mw (i := 1710) (by decide +kernel)) (by omega) h0 (by decide) rfl rfl rfl (Nat.le_of_ble_eq_true rfl) dX12_wishes_149 (fun x16 => ?_)
        exact rp_pu (rp_vret rfl dX12_wishes_152)
      refine rp_sub [1, 2, 3, 0] rfl (rp_it (fun (s6 : Int32) => [(0, .ref (K.2.1 + a0)), (1, .int p1), (2, .int p2), (3, .int s6)]) (fun N68 ih68 s6 => ?_) FU (0 : Int32))
      refine rp_iload_n 3 dX12_wishes_68 rfl ?_
      refine rp_aload_n 0 dX12_wishes_69 rfl ?_
      refine rp_callVi [] (SX12_lines (hn := hn) a0 h0) cvX12_lines (mw (i := 1551) (by decide +kernel)) (by omega) h0 (by decide) rfl rfl rfl (Nat.le_of_ble_eq_true rfl) dX12_wishes_70 (fun x7 => ?_)
      refine rp_icmp_ge 137 dX12_wishes_73 (by decide) ?_ ?_
      · exact rp_sub [0, 1, 2] rfl (rp_puR (hX68_0 ()))
      · refine rp_aload_n 0 dX12_wishes_76 rfl ?_
        refine rp_iconst (0 : Int32) dX12_wishes_77 (by decide) ?_
        refine rp_iload_n 1 dX12_wishes_78 rfl ?_
        refine rp_callVz [.int (0 : Int32), .int p1] (SX12_doesHang (hn := hn) a0 (0 : Int32) p1 h0) cvX12_doesHang (mw (i := 1599) (by decide +kernel)) (by omega) h0 (by decide) rfl rfl rfl (Nat.le_of_ble_eq_true rfl) dX12_wishes_79 (fun x8 => ?_)
        refine rp_if_ne 137 dX12_wishes_82 (by decide) ?_ ?_
        · exact rp_sub [0, 1, 2] rfl (rp_puR (hX68_0 ()))
        · refine rp_aload_n 0 dX12_wishes_85 rfl ?_
          refine rp_sipush (882 : Int32) dX12_wishes_86 (by decide) ?_
          refine rp_iload_n 3 dX12_wishes_89 rfl ?_
          refine rp_callVi [.int (882 : Int32), .int s6] (SX12_freeOf (hn := hn) a0 (882 : Int32) s6 h0) cvX12_freeOf (mw (i := 1559) (by decide +kernel)) (by omega) h0 (by decide) rfl rfl rfl (Nat.le_of_ble_eq_true rfl) dX12_wishes_90 (fun x9 => ?_)
          refine rp_as ?_
          refine rp_join 131 (fun (v13 : Unit) => [(0, .ref (K.2.1 + a0)), (1, .int p1), (2, .int p2), (3, .int s6)]) (fun v13 => []) (fun v13 => ?_) (fun hJ131 => ?_)
          · refine rp_iinc (fun y14 => [(3, .int y14), (0, .ref (K.2.1 + a0)), (1, .int p1), (2, .int p2)]) 3 dX12_wishes_131 rfl (by rfl) (by decide) (fun y14 => rfl) (fun y14 => ?_)
            refine rp_goto 68 dX12_wishes_134 (by decide) ?_
            exact rp_sub [1, 2, 3, 0] rfl (ih68 y14)
          refine rp_if_le 131 dX12_wishes_93 (by decide) ?_ ?_
          · exact rp_sub [0, 1, 2, 3] rfl (rp_pu (hJ131 ()))
          · refine rp_aload_n 0 dX12_wishes_96 rfl ?_
            refine rp_sipush (882 : Int32) dX12_wishes_97 (by decide) ?_
            refine rp_iload_n 1 dX12_wishes_100 rfl ?_
            refine rp_iload_n 3 dX12_wishes_101 rfl ?_
            refine rp_iconst (1 : Int32) dX12_wishes_102 (by decide) ?_
            refine rp_callVv [.int (882 : Int32), .int p1, .int s6, .int (1 : Int32)] (SX12_hangs (hn := hn) a0 (882 : Int32) p1 s6 (1 : Int32) h0) cvX12_hangs (mw (i := 1627) (by decide +kernel)) (by omega) h0 (by decide) rfl rfl rfl (Nat.le_of_ble_eq_true rfl) dX12_wishes_103 (fun x10 => ?_)
            refine rp_aload_n 0 dX12_wishes_106 rfl ?_
            refine rp_getR fi_X12_120 h0 rfl dX12_wishes_107 ?_
            refine rp_iload_n 1 dX12_wishes_110 rfl ?_
            refine rp_iload_n 3 dX12_wishes_111 rfl ?_
            refine rp_iast (tX12_26 h0) dX12_wishes_112 ?_
            refine rp_aload_n 0 dX12_wishes_113 rfl ?_
            refine rp_iload_n 1 dX12_wishes_114 rfl ?_
            refine rp_iconst (1 : Int32) dX12_wishes_115 (by decide) ?_
            refine rp_iadd dX12_wishes_116 ?_
            refine rp_iload_n 2 dX12_wishes_117 rfl ?_
            refine rp_iconst (1 : Int32) dX12_wishes_118 (by decide) ?_
            refine rp_iadd dX12_wishes_119 ?_
            refine rp_callVv [.int (p1 + (1 : Int32)), .int (p2 + (1 : Int32))] (hs a0 (p1 + (1 : Int32)) (p2 + (1 : Int32)) h0) cvX12_wishes (mw (i := 1710) (by decide +kernel)) (by omega) h0 (by decide) rfl rfl rfl (Nat.le_of_ble_eq_true rfl) dX12_wishes_120 (fun x11 => ?_)
            refine rp_aload_n 0 dX12_wishes_123 rfl ?_
            refine rp_sipush (882 : Int32) dX12_wishes_124 (by decide) ?_
            refine rp_iload_n 1 dX12_wishes_127 rfl ?_
            refine rp_callVv [.int (882 : Int32), .int p1] (SX12_comesDown (hn := hn) a0 (882 : Int32) p1 h0) cvX12_comesDown (mw (i := 1635) (by decide +kernel)) (by omega) h0 (by decide) rfl rfl rfl (Nat.le_of_ble_eq_true rfl) dX12_wishes_128 (fun x12 => ?_)
            exact rp_sub [0, 1, 2, 3] rfl (rp_pu (hJ131 ()))
    · refine rp_aload_n 0 dX12_wishes_24 rfl ?_
      refine rp_sipush (882 : Int32) dX12_wishes_25 (by decide) ?_
      refine rp_callVz [.int (882 : Int32)] (SX12_isWanted (hn := hn) a0 (882 : Int32) h0) cvX12_isWanted (mw (i := 1714) (by decide +kernel)) (by omega) h0 (by decide) rfl rfl rfl (Nat.le_of_ble_eq_true rfl) dX12_wishes_28 (fun x17 => ?_)
      refine rp_as ?_
      refine rp_join 65 (fun (v22 : Unit) => []) (fun v22 => []) (fun v22 => ?_) (fun hJ65 => ?_)
      · exact rp_pu (rp_vret rfl dX12_wishes_65)
      refine rp_if_eq 65 dX12_wishes_31 (by decide) ?_ ?_
      · exact rp_sub [] rfl (rp_pu (hJ65 ()))
      · refine rp_aload_n 0 dX12_wishes_34 rfl ?_
        refine rp_iload_n 2 dX12_wishes_35 rfl ?_
        refine rp_putI fi_X12_364 fp_X12_28 h0 rfl dX12_wishes_36 ?_
        refine rp_iconst (0 : Int32) dX12_wishes_39 (by decide) ?_
        refine rp_istore_n [(3, .int (0 : Int32)), (0, .ref (K.2.1 + a0)), (1, .int p1), (2, .int p2)] dX12_wishes_40 (by decide) rfl ?_
        refine rp_as ?_
        refine rp_join 65 (fun v21 => []) (fun _ => []) (fun v21 => ?_) (fun hX41_0 => ?_)
        · exact rp_sub [] rfl (rp_pu (hJ65 ()))
        refine rp_sub [1, 0] rfl (rp_it (fun (s18 : Int32) => [(0, .ref (K.2.1 + a0)), (3, .int s18)]) (fun N41 ih41 s18 => ?_) FU (0 : Int32))
        refine rp_iload_n 1 dX12_wishes_41 rfl ?_
        refine rp_bipush (6 : Int32) dX12_wishes_42 (by decide) ?_
        refine rp_icmp_ge 65 dX12_wishes_44 (by decide) ?_ ?_
        · exact rp_sub [] rfl (rp_puR (hX41_0 ()))
        · refine rp_aload_n 0 dX12_wishes_47 rfl ?_
          refine rp_getR fi_X12_123 h0 rfl dX12_wishes_48 ?_
          refine rp_iload_n 1 dX12_wishes_51 rfl ?_
          refine rp_aload_n 0 dX12_wishes_52 rfl ?_
          refine rp_getR fi_X12_120 h0 rfl dX12_wishes_53 ?_
          refine rp_iload_n 1 dX12_wishes_56 rfl ?_
          refine rp_iald (tX12_26 h0) dX12_wishes_57 (fun x19 => ?_)
          refine rp_iast (tX12_27 h0) dX12_wishes_58 ?_
          refine rp_iinc (fun y20 => [(3, .int y20), (0, .ref (K.2.1 + a0))]) 1 dX12_wishes_59 rfl (by rfl) (by decide) (fun y20 => rfl) (fun y20 => ?_)
          refine rp_goto 41 dX12_wishes_62 (by decide) ?_
          exact rp_sub [1, 0] rfl (ih41 y20)
  refine rp_if_lt 16 dX12_wishes_4 (by decide) ?_ ?_
  · exact rp_sub [0, 1, 2] rfl (hK16 ())
  · refine rp_iload_n 2 dX12_wishes_7 rfl ?_
    refine rp_aload_n 0 dX12_wishes_8 rfl ?_
    refine rp_getI fi_X12_364 h0 rfl dX12_wishes_9 (fun x3 => ?_)
    refine rp_icmp_lt 16 dX12_wishes_12 (by decide) ?_ ?_
    · exact rp_sub [0, 1, 2] rfl (hK16 ())
    · exact rp_pu (rp_vret rfl dX12_wishes_15)
noncomputable def FX12_wishes : Nat → Nat → Int32 → Int32 → PP Unit
  | 0, _, _, _ => fl
  | k + 1, a0, p1, p2 => GX12_wishes (FX12_wishes k) a0 p1 p2
theorem SX12_wishes {l : Launch} {K : KK} {n : Nat} {hn : 270 ≤ n} : ∀ (k : Nat) (a0 : Nat) (p1 : Int32) (p2 : Int32) (h0 : ob a0 11), CT l K n (5 * k) mX12_wishes [.ref (K.2.1 + a0), .int p1, .int p2] enU (FX12_wishes k a0 p1 p2)
  | 0, _, _, _, _ => fun σ r σ' q => by cases q
  | k + 1, a0, p1, p2, h0 => SGX12_wishes (hn := hn) (dp := 5 * k) (fun z0 z1 z2 z3 => SX12_wishes (hn := hn) k z0 z1 z2 z3) a0 p1 p2 h0

theorem dX12_wish_0 : decode cX12_wish 0 = .ok (.aload_n 0, 1) := by decide +kernel
theorem dX12_wish_1 : decode cX12_wish 1 = .ok (.iconst 0, 1) := by decide +kernel
theorem dX12_wish_2 : decode cX12_wish 2 = .ok (.putfield 1, 3) := by decide +kernel
theorem dX12_wish_5 : decode cX12_wish 5 = .ok (.iload_n 1, 1) := by decide +kernel
theorem dX12_wish_6 : decode cX12_wish 6 = .ok (.iconst (-1), 1) := by decide +kernel
theorem dX12_wish_7 : decode cX12_wish 7 = .ok (.if_icmp .eq 14, 3) := by decide +kernel
theorem dX12_wish_10 : decode cX12_wish 10 = .ok (.aload_n 0, 1) := by decide +kernel
theorem dX12_wish_11 : decode cX12_wish 11 = .ok (.iload_n 1, 1) := by decide +kernel
theorem dX12_wish_12 : decode cX12_wish 12 = .ok (.invokevirtual 322, 3) := by decide +kernel
theorem dX12_wish_15 : decode cX12_wish 15 = .ok (.ifCond .ne 6, 3) := by decide +kernel
theorem dX12_wish_18 : decode cX12_wish 18 = .ok (.bipush (-2), 2) := by decide +kernel
theorem dX12_wish_20 : decode cX12_wish 20 = .ok (.ireturn, 1) := by decide +kernel
theorem dX12_wish_21 : decode cX12_wish 21 = .ok (.aload_n 0, 1) := by decide +kernel
theorem dX12_wish_22 : decode cX12_wish 22 = .ok (.iconst (-1), 1) := by decide +kernel
theorem dX12_wish_23 : decode cX12_wish 23 = .ok (.putfield 364, 3) := by decide +kernel
theorem dX12_wish_26 : decode cX12_wish 26 = .ok (.aload_n 0, 1) := by decide +kernel
theorem dX12_wish_27 : decode cX12_wish 27 = .ok (.invokevirtual 355, 3) := by decide +kernel
theorem dX12_wish_30 : decode cX12_wish 30 = .ok (.aload_n 0, 1) := by decide +kernel
theorem dX12_wish_31 : decode cX12_wish 31 = .ok (.iconst 0, 1) := by decide +kernel
theorem dX12_wish_32 : decode cX12_wish 32 = .ok (.iconst 0, 1) := by decide +kernel
theorem dX12_wish_33 : decode cX12_wish 33 = .ok (.invokevirtual 370, 3) := by decide +kernel
theorem dX12_wish_36 : decode cX12_wish 36 = .ok (.aload_n 0, 1) := by decide +kernel
theorem dX12_wish_37 : decode cX12_wish 37 = .ok (.getfield 364, 3) := by decide +kernel
theorem dX12_wish_40 : decode cX12_wish 40 = .ok (.ifCond .ge 8, 3) := by decide +kernel
theorem dX12_wish_43 : decode cX12_wish 43 = .ok (.bipush (-2), 2) := by decide +kernel
theorem dX12_wish_45 : decode cX12_wish 45 = .ok (.goto 21, 3) := by decide +kernel
theorem dX12_wish_48 : decode cX12_wish 48 = .ok (.iload_n 1, 1) := by decide +kernel
theorem dX12_wish_49 : decode cX12_wish 49 = .ok (.iconst (-1), 1) := by decide +kernel
theorem dX12_wish_50 : decode cX12_wish 50 = .ok (.if_icmp .ne 10, 3) := by decide +kernel
theorem dX12_wish_53 : decode cX12_wish 53 = .ok (.aload_n 0, 1) := by decide +kernel
theorem dX12_wish_54 : decode cX12_wish 54 = .ok (.getfield 364, 3) := by decide +kernel
theorem dX12_wish_57 : decode cX12_wish 57 = .ok (.goto 9, 3) := by decide +kernel
theorem dX12_wish_60 : decode cX12_wish 60 = .ok (.aload_n 0, 1) := by decide +kernel
theorem dX12_wish_61 : decode cX12_wish 61 = .ok (.getfield 123, 3) := by decide +kernel
theorem dX12_wish_64 : decode cX12_wish 64 = .ok (.iload_n 1, 1) := by decide +kernel
theorem dX12_wish_65 : decode cX12_wish 65 = .ok (.iaload, 1) := by decide +kernel
theorem dX12_wish_66 : decode cX12_wish 66 = .ok (.ireturn, 1) := by decide +kernel
noncomputable def FX12_wish (a0 : Nat) (p1 : Int32) : PP Int32 := bd (sI a0 0 (0 : Int32)) (fun (_ : Unit) => jn (fun (v3 : Unit) => bd (sI a0 28 (-1 : Int32)) (fun (_ : Unit) => bd (FX12_triesNow a0) (fun (_ : Unit) => bd (FX12_wishes 10 a0 (0 : Int32) (0 : Int32)) (fun (_ : Unit) => bd (gI a0 28) (fun x6 => bd (if 0 ≤ x6 then if p1 = (-1 : Int32) then bd (gI a0 28) (fun x8 => pu x8) else bd (aI (rf a0 27) 6 p1) (fun x7 => pu x7) else pu (-2 : Int32) : PP (Int32)) (fun (v9 : Int32) => pu v9)))))) (fun j1 => if p1 = (-1 : Int32) then j1 () else bd (FX12_isCloth a0 p1) (fun x2 => if ((b2i x2)) = 0 then pu (-2 : Int32) else j1 ())))
set_option maxHeartbeats 4000000 in
set_option maxRecDepth 100000 in
theorem SX12_wish {l : Launch} {K : KK} {n : Nat} {hn : 270 ≤ n} (a0 : Nat) (p1 : Int32) (h0 : ob a0 11) : CT l K n 51 mX12_wish [.ref (K.2.1 + a0), .int p1] enI (FX12_wish a0 p1) := by
  refine CT.of2 (lv2 := [(0, .ref (K.2.1 + a0)), (1, .int p1)]) (by decide) rfl hn (Nat.le_of_ble_eq_true rfl) rfl (rp_id ?_)
  unfold FX12_wish
  refine rp_aload_n 0 dX12_wish_0 rfl ?_
  refine rp_iconst (0 : Int32) dX12_wish_1 (by decide) ?_
  refine rp_putI fi_X12_1 fp_X12_0 h0 rfl dX12_wish_2 ?_
  refine rp_iload_n 1 dX12_wish_5 rfl ?_
  refine rp_iconst (-1 : Int32) dX12_wish_6 (by decide) ?_
  refine rp_jn2 21 (fun (v3 : Unit) => [(0, .ref (K.2.1 + a0)), (1, .int p1)]) (fun v3 => []) (fun v3 => ?_) (fun hK21 => ?_)
  · refine rp_aload_n 0 dX12_wish_21 rfl ?_
    refine rp_iconst (-1 : Int32) dX12_wish_22 (by decide) ?_
    refine rp_putI fi_X12_364 fp_X12_28 h0 rfl dX12_wish_23 ?_
    refine rp_aload_n 0 dX12_wish_26 rfl ?_
    refine rp_callVv [] (SX12_triesNow (hn := hn) a0 h0) cvX12_triesNow (mw (i := 1678) (by decide +kernel)) (by omega) h0 (by decide) rfl rfl rfl (Nat.le_of_ble_eq_true rfl) dX12_wish_27 (fun x4 => ?_)
    refine rp_aload_n 0 dX12_wish_30 rfl ?_
    refine rp_iconst (0 : Int32) dX12_wish_31 (by decide) ?_
    refine rp_iconst (0 : Int32) dX12_wish_32 (by decide) ?_
    refine rp_callVv [.int (0 : Int32), .int (0 : Int32)] (SX12_wishes (hn := hn) 10 a0 (0 : Int32) (0 : Int32) h0) cvX12_wishes (mw (i := 1710) (by decide +kernel)) (by omega) h0 (by decide) rfl rfl rfl (Nat.le_of_ble_eq_true rfl) dX12_wish_33 (fun x5 => ?_)
    refine rp_aload_n 0 dX12_wish_36 rfl ?_
    refine rp_getI fi_X12_364 h0 rfl dX12_wish_37 (fun x6 => ?_)
    refine rp_as ?_
    refine rp_join 66 (fun (v9 : Int32) => []) (fun v9 => [.int v9]) (fun v9 => ?_) (fun hJ66 => ?_)
    · exact rp_pu (rp_iret rfl dX12_wish_66)
    refine rp_if_ge 48 dX12_wish_40 (by decide) ?_ ?_
    · refine rp_iload_n 1 dX12_wish_48 rfl ?_
      refine rp_iconst (-1 : Int32) dX12_wish_49 (by decide) ?_
      refine rp_icmp_ne 60 dX12_wish_50 (by decide) ?_ ?_
      · refine rp_aload_n 0 dX12_wish_60 rfl ?_
        refine rp_getR fi_X12_123 h0 rfl dX12_wish_61 ?_
        refine rp_iload_n 1 dX12_wish_64 rfl ?_
        refine rp_iald (tX12_27 h0) dX12_wish_65 (fun x7 => ?_)
        exact rp_sub [] rfl (rp_pu (hJ66 x7))
      · refine rp_aload_n 0 dX12_wish_53 rfl ?_
        refine rp_getI fi_X12_364 h0 rfl dX12_wish_54 (fun x8 => ?_)
        refine rp_goto 66 dX12_wish_57 (by decide) ?_
        exact rp_sub [] rfl (rp_pu (hJ66 x8))
    · refine rp_bipush (-2 : Int32) dX12_wish_43 (by decide) ?_
      refine rp_goto 66 dX12_wish_45 (by decide) ?_
      exact rp_sub [] rfl (rp_pu (hJ66 (-2 : Int32)))
  refine rp_icmp_eq 21 dX12_wish_7 (by decide) ?_ ?_
  · exact rp_sub [0, 1] rfl (hK21 ())
  · refine rp_aload_n 0 dX12_wish_10 rfl ?_
    refine rp_iload_n 1 dX12_wish_11 rfl ?_
    refine rp_callVz [.int p1] (SX12_isCloth (hn := hn) a0 p1 h0) cvX12_isCloth (mw (i := 1571) (by decide +kernel)) (by omega) h0 (by decide) rfl rfl rfl (Nat.le_of_ble_eq_true rfl) dX12_wish_12 (fun x2 => ?_)
    refine rp_if_ne 21 dX12_wish_15 (by decide) ?_ ?_
    · exact rp_sub [0, 1] rfl (hK21 ())
    · refine rp_bipush (-2 : Int32) dX12_wish_18 (by decide) ?_
      exact rp_pu (rp_iret rfl dX12_wish_20)

theorem dX12_lift_0 : decode cX12_lift 0 = .ok (.aload_n 0, 1) := by decide +kernel
theorem dX12_lift_1 : decode cX12_lift 1 = .ok (.iconst 0, 1) := by decide +kernel
theorem dX12_lift_2 : decode cX12_lift 2 = .ok (.putfield 1, 3) := by decide +kernel
theorem dX12_lift_5 : decode cX12_lift 5 = .ok (.aload_n 0, 1) := by decide +kernel
theorem dX12_lift_6 : decode cX12_lift 6 = .ok (.iload_n 1, 1) := by decide +kernel
theorem dX12_lift_7 : decode cX12_lift 7 = .ok (.invokevirtual 325, 3) := by decide +kernel
theorem dX12_lift_10 : decode cX12_lift 10 = .ok (.ifCond .eq 12, 3) := by decide +kernel
theorem dX12_lift_13 : decode cX12_lift 13 = .ok (.iload_n 2, 1) := by decide +kernel
theorem dX12_lift_14 : decode cX12_lift 14 = .ok (.iconst (-1), 1) := by decide +kernel
theorem dX12_lift_15 : decode cX12_lift 15 = .ok (.iconst 3, 1) := by decide +kernel
theorem dX12_lift_16 : decode cX12_lift 16 = .ok (.invokestatic 201, 3) := by decide +kernel
theorem dX12_lift_19 : decode cX12_lift 19 = .ok (.ifCond .ne 5, 3) := by decide +kernel
theorem dX12_lift_22 : decode cX12_lift 22 = .ok (.iconst (-1), 1) := by decide +kernel
theorem dX12_lift_23 : decode cX12_lift 23 = .ok (.ireturn, 1) := by decide +kernel
theorem dX12_lift_24 : decode cX12_lift 24 = .ok (.iconst (-1), 1) := by decide +kernel
theorem dX12_lift_25 : decode cX12_lift 25 = .ok (.istore_n 3, 1) := by decide +kernel
theorem dX12_lift_26 : decode cX12_lift 26 = .ok (.iconst 0, 1) := by decide +kernel
theorem dX12_lift_27 : decode cX12_lift 27 = .ok (.istore 4, 2) := by decide +kernel
theorem dX12_lift_29 : decode cX12_lift 29 = .ok (.iload 4, 2) := by decide +kernel
theorem dX12_lift_31 : decode cX12_lift 31 = .ok (.iconst 1, 1) := by decide +kernel
theorem dX12_lift_32 : decode cX12_lift 32 = .ok (.aload_n 0, 1) := by decide +kernel
theorem dX12_lift_33 : decode cX12_lift 33 = .ok (.invokevirtual 269, 3) := by decide +kernel
theorem dX12_lift_36 : decode cX12_lift 36 = .ok (.ishl, 1) := by decide +kernel
theorem dX12_lift_37 : decode cX12_lift 37 = .ok (.if_icmp .ge 99, 3) := by decide +kernel
theorem dX12_lift_40 : decode cX12_lift 40 = .ok (.iload 4, 2) := by decide +kernel
theorem dX12_lift_42 : decode cX12_lift 42 = .ok (.aload_n 0, 1) := by decide +kernel
theorem dX12_lift_43 : decode cX12_lift 43 = .ok (.iconst 0, 1) := by decide +kernel
theorem dX12_lift_44 : decode cX12_lift 44 = .ok (.invokevirtual 373, 3) := by decide +kernel
theorem dX12_lift_47 : decode cX12_lift 47 = .ok (.iconst (-1), 1) := by decide +kernel
theorem dX12_lift_48 : decode cX12_lift 48 = .ok (.ixor, 1) := by decide +kernel
theorem dX12_lift_49 : decode cX12_lift 49 = .ok (.iand, 1) := by decide +kernel
theorem dX12_lift_50 : decode cX12_lift 50 = .ok (.ifCond .ne 80, 3) := by decide +kernel
theorem dX12_lift_53 : decode cX12_lift 53 = .ok (.iload_n 3, 1) := by decide +kernel
theorem dX12_lift_54 : decode cX12_lift 54 = .ok (.ifCond .lt 15, 3) := by decide +kernel
theorem dX12_lift_57 : decode cX12_lift 57 = .ok (.iload 4, 2) := by decide +kernel
theorem dX12_lift_59 : decode cX12_lift 59 = .ok (.invokestatic 376, 3) := by decide +kernel
theorem dX12_lift_62 : decode cX12_lift 62 = .ok (.iload_n 3, 1) := by decide +kernel
theorem dX12_lift_63 : decode cX12_lift 63 = .ok (.invokestatic 376, 3) := by decide +kernel
theorem dX12_lift_66 : decode cX12_lift 66 = .ok (.if_icmp .ge 64, 3) := by decide +kernel
theorem dX12_lift_69 : decode cX12_lift 69 = .ok (.aload_n 0, 1) := by decide +kernel
theorem dX12_lift_70 : decode cX12_lift 70 = .ok (.invokevirtual 355, 3) := by decide +kernel
theorem dX12_lift_73 : decode cX12_lift 73 = .ok (.iconst 0, 1) := by decide +kernel
theorem dX12_lift_74 : decode cX12_lift 74 = .ok (.istore 5, 2) := by decide +kernel
theorem dX12_lift_76 : decode cX12_lift 76 = .ok (.iload 5, 2) := by decide +kernel
theorem dX12_lift_78 : decode cX12_lift 78 = .ok (.aload_n 0, 1) := by decide +kernel
theorem dX12_lift_79 : decode cX12_lift 79 = .ok (.invokevirtual 269, 3) := by decide +kernel
theorem dX12_lift_82 : decode cX12_lift 82 = .ok (.if_icmp .ge 29, 3) := by decide +kernel
theorem dX12_lift_85 : decode cX12_lift 85 = .ok (.iload 4, 2) := by decide +kernel
theorem dX12_lift_87 : decode cX12_lift 87 = .ok (.iload 5, 2) := by decide +kernel
theorem dX12_lift_89 : decode cX12_lift 89 = .ok (.ishr, 1) := by decide +kernel
theorem dX12_lift_90 : decode cX12_lift 90 = .ok (.iconst 1, 1) := by decide +kernel
theorem dX12_lift_91 : decode cX12_lift 91 = .ok (.iand, 1) := by decide +kernel
theorem dX12_lift_92 : decode cX12_lift 92 = .ok (.iconst 1, 1) := by decide +kernel
theorem dX12_lift_93 : decode cX12_lift 93 = .ok (.if_icmp .ne 12, 3) := by decide +kernel
theorem dX12_lift_96 : decode cX12_lift 96 = .ok (.aload_n 0, 1) := by decide +kernel
theorem dX12_lift_97 : decode cX12_lift 97 = .ok (.sipush 882, 3) := by decide +kernel
theorem dX12_lift_100 : decode cX12_lift 100 = .ok (.iload 5, 2) := by decide +kernel
theorem dX12_lift_102 : decode cX12_lift 102 = .ok (.invokevirtual 342, 3) := by decide +kernel
theorem dX12_lift_105 : decode cX12_lift 105 = .ok (.iinc 5 1, 3) := by decide +kernel
theorem dX12_lift_108 : decode cX12_lift 108 = .ok (.goto (-32), 3) := by decide +kernel
theorem dX12_lift_111 : decode cX12_lift 111 = .ok (.aload_n 0, 1) := by decide +kernel
theorem dX12_lift_112 : decode cX12_lift 112 = .ok (.sipush 882, 3) := by decide +kernel
theorem dX12_lift_115 : decode cX12_lift 115 = .ok (.iload_n 1, 1) := by decide +kernel
theorem dX12_lift_116 : decode cX12_lift 116 = .ok (.invokevirtual 307, 3) := by decide +kernel
theorem dX12_lift_119 : decode cX12_lift 119 = .ok (.iload_n 2, 1) := by decide +kernel
theorem dX12_lift_120 : decode cX12_lift 120 = .ok (.if_icmp .ne 8, 3) := by decide +kernel
theorem dX12_lift_123 : decode cX12_lift 123 = .ok (.iload 4, 2) := by decide +kernel
theorem dX12_lift_125 : decode cX12_lift 125 = .ok (.goto 4, 3) := by decide +kernel
theorem dX12_lift_128 : decode cX12_lift 128 = .ok (.iload_n 3, 1) := by decide +kernel
theorem dX12_lift_129 : decode cX12_lift 129 = .ok (.istore_n 3, 1) := by decide +kernel
theorem dX12_lift_130 : decode cX12_lift 130 = .ok (.iinc 4 1, 3) := by decide +kernel
theorem dX12_lift_133 : decode cX12_lift 133 = .ok (.goto (-104), 3) := by decide +kernel
theorem dX12_lift_136 : decode cX12_lift 136 = .ok (.iload_n 3, 1) := by decide +kernel
theorem dX12_lift_137 : decode cX12_lift 137 = .ok (.ireturn, 1) := by decide +kernel
noncomputable def FX12_lift (a0 : Nat) (p1 : Int32) (p2 : Int32) : PP Int32 := bd (sI a0 0 (0 : Int32)) (fun (_ : Unit) => bd (FX12_isPlace a0 p1) (fun x1 => if ((b2i x1)) = 0 then pu (-1 : Int32) else bd (FX12_within p2 (-1 : Int32) (3 : Int32)) (fun x2 => if ((b2i x2)) = 0 then pu (-1 : Int32) else bd (it (fun (s3 : Int32 × Int32) => (bd (FX12_cloths a0) (fun x4 => if ((1 : Int32) <<< (x4 &&& 31)) ≤ s3.2 then pu (Sum.inr s3.1) else bd (FX12_hanging a0 (0 : Int32)) (fun x5 => bd (if (s3.2 &&& (x5 ^^^ (-1 : Int32))) = 0 then jn (fun (v9 : Unit) => bd (FX12_triesNow a0) (fun (_ : Unit) => bd (it (fun (s11 : Int32) => (bd (FX12_cloths a0) (fun x12 => if x12 ≤ s11 then pu (Sum.inr ()) else bd (if ((s3.2 >>> (s11 &&& 31)) &&& (1 : Int32)) = (1 : Int32) then bd (FX12_comesDown a0 (882 : Int32) s11) (fun (_ : Unit) => pu ()) else pu () : PP (Unit)) (fun (v14 : Unit) => lt (s11 + (1 : Int32)) (fun y15 => pu (Sum.inl y15)))) : PP ((Int32) ⊕ (Unit)))) FU (0 : Int32)) (fun (v16 : Unit) => bd (FX12_weatherOf a0 (882 : Int32) p1) (fun x17 => bd (if x17 = p2 then pu s3.2 else pu s3.1 : PP (Int32)) (fun (v18 : Int32) => pu v18))))) (fun j6 => if s3.1 < 0 then j6 () else bd (FX12_bits s3.2) (fun x7 => bd (FX12_bits s3.1) (fun x8 => if x8 ≤ x7 then pu s3.1 else j6 ()))) else pu s3.1 : PP (Int32)) (fun (v19 : Int32) => lt (s3.2 + (1 : Int32)) (fun y20 => pu (Sum.inl (v19, y20)))))) : PP ((Int32 × Int32) ⊕ (Int32)))) FU ((-1 : Int32), (0 : Int32))) (fun (v21 : Int32) => pu v21))))
set_option maxHeartbeats 4000000 in
set_option maxRecDepth 100000 in
theorem SX12_lift {l : Launch} {K : KK} {n : Nat} {hn : 270 ≤ n} (a0 : Nat) (p1 : Int32) (p2 : Int32) (h0 : ob a0 11) : CT l K n 4 mX12_lift [.ref (K.2.1 + a0), .int p1, .int p2] enI (FX12_lift a0 p1 p2) := by
  refine CT.of2 (lv2 := [(0, .ref (K.2.1 + a0)), (1, .int p1), (2, .int p2)]) (by decide) rfl hn (Nat.le_of_ble_eq_true rfl) rfl (rp_id ?_)
  unfold FX12_lift
  refine rp_aload_n 0 dX12_lift_0 rfl ?_
  refine rp_iconst (0 : Int32) dX12_lift_1 (by decide) ?_
  refine rp_putI fi_X12_1 fp_X12_0 h0 rfl dX12_lift_2 ?_
  refine rp_aload_n 0 dX12_lift_5 rfl ?_
  refine rp_iload_n 1 dX12_lift_6 rfl ?_
  refine rp_callVz [.int p1] (SX12_isPlace (hn := hn) a0 p1 h0) cvX12_isPlace (mw (i := 1579) (by decide +kernel)) (by omega) h0 (by decide) rfl rfl rfl (Nat.le_of_ble_eq_true rfl) dX12_lift_7 (fun x1 => ?_)
  refine rp_if_eq 22 dX12_lift_10 (by decide) ?_ ?_
  · refine rp_iconst (-1 : Int32) dX12_lift_22 (by decide) ?_
    exact rp_pu (rp_iret rfl dX12_lift_23)
  · refine rp_iload_n 2 dX12_lift_13 rfl ?_
    refine rp_iconst (-1 : Int32) dX12_lift_14 (by decide) ?_
    refine rp_iconst (3 : Int32) dX12_lift_15 (by decide) ?_
    refine rp_callSz [.int p2, .int (-1 : Int32), .int (3 : Int32)] (SX12_within (hn := hn) p2 (-1 : Int32) (3 : Int32)) csX12_within (mw (i := 1484) (by decide +kernel)) (by omega) rfl rfl (Nat.le_of_ble_eq_true rfl) dX12_lift_16 (fun x2 => ?_)
    refine rp_if_ne 24 dX12_lift_19 (by decide) ?_ ?_
    · refine rp_iconst (-1 : Int32) dX12_lift_24 (by decide) ?_
      refine rp_istore_n [(3, .int (-1 : Int32)), (0, .ref (K.2.1 + a0)), (1, .int p1), (2, .int p2)] dX12_lift_25 (by decide) rfl ?_
      refine rp_iconst (0 : Int32) dX12_lift_26 (by decide) ?_
      refine rp_istore [(4, .int (0 : Int32)), (3, .int (-1 : Int32)), (0, .ref (K.2.1 + a0)), (1, .int p1), (2, .int p2)] dX12_lift_27 (by decide) rfl ?_
      refine rp_as ?_
      refine rp_join 136 (fun v21 => [(3, .int v21)]) (fun _ => []) (fun v21 => ?_) (fun hX29_0 => ?_)
      · refine rp_iload_n 0 dX12_lift_136 rfl ?_
        exact rp_pu (rp_iret rfl dX12_lift_137)
      refine rp_sub [2, 3, 4, 1, 0] rfl (rp_it (fun (s3 : Int32 × Int32) => [(0, .ref (K.2.1 + a0)), (1, .int p1), (2, .int p2), (3, .int s3.1), (4, .int s3.2)]) (fun N29 ih29 s3 => ?_) FU ((-1 : Int32), (0 : Int32)))
      refine rp_iload 4 dX12_lift_29 rfl ?_
      refine rp_iconst (1 : Int32) dX12_lift_31 (by decide) ?_
      refine rp_aload_n 0 dX12_lift_32 rfl ?_
      refine rp_callVi [] (SX12_cloths (hn := hn) a0 h0) cvX12_cloths (mw (i := 1306) (by decide +kernel)) (by omega) h0 (by decide) rfl rfl rfl (Nat.le_of_ble_eq_true rfl) dX12_lift_33 (fun x4 => ?_)
      refine rp_ishl dX12_lift_36 ?_
      refine rp_icmp_ge 136 dX12_lift_37 (by decide) ?_ ?_
      · exact rp_sub [3] rfl (rp_puR (hX29_0 s3.1))
      · refine rp_iload 4 dX12_lift_40 rfl ?_
        refine rp_aload_n 0 dX12_lift_42 rfl ?_
        refine rp_iconst (0 : Int32) dX12_lift_43 (by decide) ?_
        refine rp_callVi [.int (0 : Int32)] (SX12_hanging (hn := hn) a0 (0 : Int32) h0) cvX12_hanging (mw (i := 1722) (by decide +kernel)) (by omega) h0 (by decide) rfl rfl rfl (Nat.le_of_ble_eq_true rfl) dX12_lift_44 (fun x5 => ?_)
        refine rp_iconst (-1 : Int32) dX12_lift_47 (by decide) ?_
        refine rp_ixor dX12_lift_48 ?_
        refine rp_iand dX12_lift_49 ?_
        refine rp_as ?_
        refine rp_join 130 (fun (v19 : Int32) => [(0, .ref (K.2.1 + a0)), (1, .int p1), (2, .int p2), (3, .int v19), (4, .int s3.2)]) (fun v19 => []) (fun v19 => ?_) (fun hJ130 => ?_)
        · refine rp_iinc (fun y20 => [(4, .int y20), (0, .ref (K.2.1 + a0)), (1, .int p1), (2, .int p2), (3, .int v19)]) 4 dX12_lift_130 rfl (by rfl) (by decide) (fun y20 => rfl) (fun y20 => ?_)
          refine rp_goto 29 dX12_lift_133 (by decide) ?_
          exact rp_sub [1, 2, 3, 4, 0] rfl (ih29 (v19, y20))
        refine rp_if_ne 130 dX12_lift_50 (by decide) ?_ ?_
        · exact rp_sub [0, 1, 2, 3, 4] rfl (rp_pu (hJ130 s3.1))
        · refine rp_iload_n 3 dX12_lift_53 rfl ?_
          refine rp_jn2 69 (fun (v9 : Unit) => [(0, .ref (K.2.1 + a0)), (1, .int p1), (2, .int p2), (3, .int s3.1), (4, .int s3.2)]) (fun v9 => []) (fun v9 => ?_) (fun hK69 => ?_)
          · refine rp_aload_n 0 dX12_lift_69 rfl ?_
            refine rp_callVv [] (SX12_triesNow (hn := hn) a0 h0) cvX12_triesNow (mw (i := 1678) (by decide +kernel)) (by omega) h0 (by decide) rfl rfl rfl (Nat.le_of_ble_eq_true rfl) dX12_lift_70 (fun x10 => ?_)
            refine rp_iconst (0 : Int32) dX12_lift_73 (by decide) ?_
            refine rp_istore [(5, .int (0 : Int32)), (0, .ref (K.2.1 + a0)), (1, .int p1), (2, .int p2), (3, .int s3.1), (4, .int s3.2)] dX12_lift_74 (by decide) rfl ?_
            refine rp_as ?_
            refine rp_join 111 (fun v16 => [(0, .ref (K.2.1 + a0)), (1, .int p1), (2, .int p2), (3, .int s3.1), (4, .int s3.2)]) (fun _ => []) (fun v16 => ?_) (fun hX76_0 => ?_)
            · refine rp_aload_n 0 dX12_lift_111 rfl ?_
              refine rp_sipush (882 : Int32) dX12_lift_112 (by decide) ?_
              refine rp_iload_n 1 dX12_lift_115 rfl ?_
              refine rp_callVi [.int (882 : Int32), .int p1] (SX12_weatherOf (hn := hn) a0 (882 : Int32) p1 h0) cvX12_weatherOf (mw (i := 1587) (by decide +kernel)) (by omega) h0 (by decide) rfl rfl rfl (Nat.le_of_ble_eq_true rfl) dX12_lift_116 (fun x17 => ?_)
              refine rp_iload_n 2 dX12_lift_119 rfl ?_
              refine rp_as ?_
              refine rp_join 129 (fun (v18 : Int32) => [(0, .ref (K.2.1 + a0)), (1, .int p1), (2, .int p2), (4, .int s3.2)]) (fun v18 => [.int v18]) (fun v18 => ?_) (fun hJ129 => ?_)
              · refine rp_istore_n [(3, .int v18), (0, .ref (K.2.1 + a0)), (1, .int p1), (2, .int p2), (4, .int s3.2)] dX12_lift_129 (by decide) rfl ?_
                exact rp_sub [1, 2, 3, 0, 4] rfl (rp_pu (hJ130 v18))
              refine rp_icmp_ne 128 dX12_lift_120 (by decide) ?_ ?_
              · refine rp_iload_n 3 dX12_lift_128 rfl ?_
                exact rp_sub [0, 1, 2, 4] rfl (rp_pu (hJ129 s3.1))
              · refine rp_iload 4 dX12_lift_123 rfl ?_
                refine rp_goto 129 dX12_lift_125 (by decide) ?_
                exact rp_sub [0, 1, 2, 4] rfl (rp_pu (hJ129 s3.2))
            refine rp_sub [1, 2, 3, 4, 5, 0] rfl (rp_it (fun (s11 : Int32) => [(0, .ref (K.2.1 + a0)), (1, .int p1), (2, .int p2), (3, .int s3.1), (4, .int s3.2), (5, .int s11)]) (fun N76 ih76 s11 => ?_) FU (0 : Int32))
            refine rp_iload 5 dX12_lift_76 rfl ?_
            refine rp_aload_n 0 dX12_lift_78 rfl ?_
            refine rp_callVi [] (SX12_cloths (hn := hn) a0 h0) cvX12_cloths (mw (i := 1306) (by decide +kernel)) (by omega) h0 (by decide) rfl rfl rfl (Nat.le_of_ble_eq_true rfl) dX12_lift_79 (fun x12 => ?_)
            refine rp_icmp_ge 111 dX12_lift_82 (by decide) ?_ ?_
            · exact rp_sub [0, 1, 2, 3, 4] rfl (rp_puR (hX76_0 ()))
            · refine rp_iload 4 dX12_lift_85 rfl ?_
              refine rp_iload 5 dX12_lift_87 rfl ?_
              refine rp_ishr dX12_lift_89 ?_
              refine rp_iconst (1 : Int32) dX12_lift_90 (by decide) ?_
              refine rp_iand dX12_lift_91 ?_
              refine rp_iconst (1 : Int32) dX12_lift_92 (by decide) ?_
              refine rp_as ?_
              refine rp_join 105 (fun (v14 : Unit) => [(0, .ref (K.2.1 + a0)), (1, .int p1), (2, .int p2), (3, .int s3.1), (4, .int s3.2), (5, .int s11)]) (fun v14 => []) (fun v14 => ?_) (fun hJ105 => ?_)
              · refine rp_iinc (fun y15 => [(5, .int y15), (0, .ref (K.2.1 + a0)), (1, .int p1), (2, .int p2), (3, .int s3.1), (4, .int s3.2)]) 5 dX12_lift_105 rfl (by rfl) (by decide) (fun y15 => rfl) (fun y15 => ?_)
                refine rp_goto 76 dX12_lift_108 (by decide) ?_
                exact rp_sub [1, 2, 3, 4, 5, 0] rfl (ih76 y15)
              refine rp_icmp_ne 105 dX12_lift_93 (by decide) ?_ ?_
              · exact rp_sub [0, 1, 2, 3, 4, 5] rfl (rp_pu (hJ105 ()))
              · refine rp_aload_n 0 dX12_lift_96 rfl ?_
                refine rp_sipush (882 : Int32) dX12_lift_97 (by decide) ?_
                refine rp_iload 5 dX12_lift_100 rfl ?_
                refine rp_callVv [.int (882 : Int32), .int s11] (SX12_comesDown (hn := hn) a0 (882 : Int32) s11 h0) cvX12_comesDown (mw (i := 1635) (by decide +kernel)) (by omega) h0 (by decide) rfl rfl rfl (Nat.le_of_ble_eq_true rfl) dX12_lift_102 (fun x13 => ?_)
                exact rp_sub [0, 1, 2, 3, 4, 5] rfl (rp_pu (hJ105 ()))
          refine rp_if_lt 69 dX12_lift_54 (by decide) ?_ ?_
          · exact rp_sub [0, 1, 2, 3, 4] rfl (hK69 ())
          · refine rp_iload 4 dX12_lift_57 rfl ?_
            refine rp_callSi [.int s3.2] (SX12_bits (hn := hn) s3.2) csX12_bits (mw (i := 1726) (by decide +kernel)) (by omega) rfl rfl (Nat.le_of_ble_eq_true rfl) dX12_lift_59 (fun x7 => ?_)
            refine rp_iload_n 3 dX12_lift_62 rfl ?_
            refine rp_callSi [.int s3.1] (SX12_bits (hn := hn) s3.1) csX12_bits (mw (i := 1726) (by decide +kernel)) (by omega) rfl rfl (Nat.le_of_ble_eq_true rfl) dX12_lift_63 (fun x8 => ?_)
            refine rp_icmp_ge 130 dX12_lift_66 (by decide) ?_ ?_
            · exact rp_sub [0, 1, 2, 3, 4] rfl (rp_pu (hJ130 s3.1))
            · exact rp_sub [0, 1, 2, 3, 4] rfl (hK69 ())
    · refine rp_iconst (-1 : Int32) dX12_lift_22 (by decide) ?_
      exact rp_pu (rp_iret rfl dX12_lift_23)
