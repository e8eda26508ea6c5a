theorem dX12_morning_0 : decode cX12_morning 0 = .ok (.aload_n 0, 1) := by decide +kernel
theorem dX12_morning_1 : decode cX12_morning 1 = .ok (.iconst 0, 1) := by decide +kernel
theorem dX12_morning_2 : decode cX12_morning 2 = .ok (.putfield 1, 3) := by decide +kernel
theorem dX12_morning_5 : decode cX12_morning 5 = .ok (.aload_n 0, 1) := by decide +kernel
theorem dX12_morning_6 : decode cX12_morning 6 = .ok (.invokevirtual 209, 3) := by decide +kernel
theorem dX12_morning_9 : decode cX12_morning 9 = .ok (.iconst 0, 1) := by decide +kernel
theorem dX12_morning_10 : decode cX12_morning 10 = .ok (.istore_n 1, 1) := by decide +kernel
theorem dX12_morning_11 : decode cX12_morning 11 = .ok (.aload_n 0, 1) := by decide +kernel
theorem dX12_morning_12 : decode cX12_morning 12 = .ok (.getfield 162, 3) := by decide +kernel
theorem dX12_morning_15 : decode cX12_morning 15 = .ok (.ifCond .ne 154, 3) := by decide +kernel
theorem dX12_morning_18 : decode cX12_morning 18 = .ok (.aload_n 0, 1) := by decide +kernel
theorem dX12_morning_19 : decode cX12_morning 19 = .ok (.getfield 24, 3) := by decide +kernel
theorem dX12_morning_22 : decode cX12_morning 22 = .ok (.aload_n 0, 1) := by decide +kernel
theorem dX12_morning_23 : decode cX12_morning 23 = .ok (.getfield 159, 3) := by decide +kernel
theorem dX12_morning_26 : decode cX12_morning 26 = .ok (.iaload, 1) := by decide +kernel
theorem dX12_morning_27 : decode cX12_morning 27 = .ok (.ifCond .eq 142, 3) := by decide +kernel
theorem dX12_morning_30 : decode cX12_morning 30 = .ok (.aload_n 0, 1) := by decide +kernel
theorem dX12_morning_31 : decode cX12_morning 31 = .ok (.bipush 8, 2) := by decide +kernel
theorem dX12_morning_33 : decode cX12_morning 33 = .ok (.iconst 4, 1) := by decide +kernel
theorem dX12_morning_34 : decode cX12_morning 34 = .ok (.invokevirtual 184, 3) := by decide +kernel
theorem dX12_morning_37 : decode cX12_morning 37 = .ok (.istore_n 2, 1) := by decide +kernel
theorem dX12_morning_38 : decode cX12_morning 38 = .ok (.iload_n 2, 1) := by decide +kernel
theorem dX12_morning_39 : decode cX12_morning 39 = .ok (.ifCond .ge 11, 3) := by decide +kernel
theorem dX12_morning_42 : decode cX12_morning 42 = .ok (.aload_n 0, 1) := by decide +kernel
theorem dX12_morning_43 : decode cX12_morning 43 = .ok (.iconst 1, 1) := by decide +kernel
theorem dX12_morning_44 : decode cX12_morning 44 = .ok (.invokevirtual 168, 3) := by decide +kernel
theorem dX12_morning_47 : decode cX12_morning 47 = .ok (.goto 113, 3) := by decide +kernel
theorem dX12_morning_50 : decode cX12_morning 50 = .ok (.iload_n 1, 1) := by decide +kernel
theorem dX12_morning_51 : decode cX12_morning 51 = .ok (.bipush 40, 2) := by decide +kernel
theorem dX12_morning_53 : decode cX12_morning 53 = .ok (.if_icmp .ne 11, 3) := by decide +kernel
theorem dX12_morning_56 : decode cX12_morning 56 = .ok (.aload_n 0, 1) := by decide +kernel
theorem dX12_morning_57 : decode cX12_morning 57 = .ok (.iconst 5, 1) := by decide +kernel
theorem dX12_morning_58 : decode cX12_morning 58 = .ok (.invokevirtual 168, 3) := by decide +kernel
theorem dX12_morning_61 : decode cX12_morning 61 = .ok (.goto 99, 3) := by decide +kernel
theorem dX12_morning_64 : decode cX12_morning 64 = .ok (.aload_n 0, 1) := by decide +kernel
theorem dX12_morning_65 : decode cX12_morning 65 = .ok (.dup, 1) := by decide +kernel
theorem dX12_morning_66 : decode cX12_morning 66 = .ok (.getfield 159, 3) := by decide +kernel
theorem dX12_morning_69 : decode cX12_morning 69 = .ok (.iconst 1, 1) := by decide +kernel
theorem dX12_morning_70 : decode cX12_morning 70 = .ok (.iadd, 1) := by decide +kernel
theorem dX12_morning_71 : decode cX12_morning 71 = .ok (.putfield 159, 3) := by decide +kernel
theorem dX12_morning_74 : decode cX12_morning 74 = .ok (.sipush 165, 3) := by decide +kernel
theorem dX12_morning_77 : decode cX12_morning 77 = .ok (.iconst 4, 1) := by decide +kernel
theorem dX12_morning_78 : decode cX12_morning 78 = .ok (.iload_n 1, 1) := by decide +kernel
theorem dX12_morning_79 : decode cX12_morning 79 = .ok (.imul, 1) := by decide +kernel
theorem dX12_morning_80 : decode cX12_morning 80 = .ok (.iadd, 1) := by decide +kernel
theorem dX12_morning_81 : decode cX12_morning 81 = .ok (.istore_n 3, 1) := by decide +kernel
theorem dX12_morning_82 : decode cX12_morning 82 = .ok (.aload_n 0, 1) := by decide +kernel
theorem dX12_morning_83 : decode cX12_morning 83 = .ok (.getfield 104, 3) := by decide +kernel
theorem dX12_morning_86 : decode cX12_morning 86 = .ok (.iload_n 3, 1) := by decide +kernel
theorem dX12_morning_87 : decode cX12_morning 87 = .ok (.iload_n 2, 1) := by decide +kernel
theorem dX12_morning_88 : decode cX12_morning 88 = .ok (.iastore, 1) := by decide +kernel
theorem dX12_morning_89 : decode cX12_morning 89 = .ok (.aload_n 0, 1) := by decide +kernel
theorem dX12_morning_90 : decode cX12_morning 90 = .ok (.getfield 104, 3) := by decide +kernel
theorem dX12_morning_93 : decode cX12_morning 93 = .ok (.iload_n 3, 1) := by decide +kernel
theorem dX12_morning_94 : decode cX12_morning 94 = .ok (.iconst 1, 1) := by decide +kernel
theorem dX12_morning_95 : decode cX12_morning 95 = .ok (.iadd, 1) := by decide +kernel
theorem dX12_morning_96 : decode cX12_morning 96 = .ok (.iload_n 2, 1) := by decide +kernel
theorem dX12_morning_97 : decode cX12_morning 97 = .ok (.iconst 3, 1) := by decide +kernel
theorem dX12_morning_98 : decode cX12_morning 98 = .ok (.if_icmp .ge 13, 3) := by decide +kernel
theorem dX12_morning_101 : decode cX12_morning 101 = .ok (.aload_n 0, 1) := by decide +kernel
theorem dX12_morning_102 : decode cX12_morning 102 = .ok (.iconst 0, 1) := by decide +kernel
theorem dX12_morning_103 : decode cX12_morning 103 = .ok (.bipush 40, 2) := by decide +kernel
theorem dX12_morning_105 : decode cX12_morning 105 = .ok (.invokevirtual 241, 3) := by decide +kernel
theorem dX12_morning_108 : decode cX12_morning 108 = .ok (.goto 4, 3) := by decide +kernel
theorem dX12_morning_111 : decode cX12_morning 111 = .ok (.iconst 0, 1) := by decide +kernel
theorem dX12_morning_112 : decode cX12_morning 112 = .ok (.iastore, 1) := by decide +kernel
theorem dX12_morning_113 : decode cX12_morning 113 = .ok (.aload_n 0, 1) := by decide +kernel
theorem dX12_morning_114 : decode cX12_morning 114 = .ok (.getfield 104, 3) := by decide +kernel
theorem dX12_morning_117 : decode cX12_morning 117 = .ok (.iload_n 3, 1) := by decide +kernel
theorem dX12_morning_118 : decode cX12_morning 118 = .ok (.iconst 2, 1) := by decide +kernel
theorem dX12_morning_119 : decode cX12_morning 119 = .ok (.iadd, 1) := by decide +kernel
theorem dX12_morning_120 : decode cX12_morning 120 = .ok (.iload_n 2, 1) := by decide +kernel
theorem dX12_morning_121 : decode cX12_morning 121 = .ok (.ifCond .ne 12, 3) := by decide +kernel
theorem dX12_morning_124 : decode cX12_morning 124 = .ok (.aload_n 0, 1) := by decide +kernel
theorem dX12_morning_125 : decode cX12_morning 125 = .ok (.iconst 0, 1) := by decide +kernel
theorem dX12_morning_126 : decode cX12_morning 126 = .ok (.iconst 0, 1) := by decide +kernel
theorem dX12_morning_127 : decode cX12_morning 127 = .ok (.invokevirtual 241, 3) := by decide +kernel
theorem dX12_morning_130 : decode cX12_morning 130 = .ok (.goto 4, 3) := by decide +kernel
theorem dX12_morning_133 : decode cX12_morning 133 = .ok (.iconst 0, 1) := by decide +kernel
theorem dX12_morning_134 : decode cX12_morning 134 = .ok (.iastore, 1) := by decide +kernel
theorem dX12_morning_135 : decode cX12_morning 135 = .ok (.aload_n 0, 1) := by decide +kernel
theorem dX12_morning_136 : decode cX12_morning 136 = .ok (.getfield 104, 3) := by decide +kernel
theorem dX12_morning_139 : decode cX12_morning 139 = .ok (.iload_n 3, 1) := by decide +kernel
theorem dX12_morning_140 : decode cX12_morning 140 = .ok (.iconst 3, 1) := by decide +kernel
theorem dX12_morning_141 : decode cX12_morning 141 = .ok (.iadd, 1) := by decide +kernel
theorem dX12_morning_142 : decode cX12_morning 142 = .ok (.iload_n 2, 1) := by decide +kernel
theorem dX12_morning_143 : decode cX12_morning 143 = .ok (.ifCond .ne 12, 3) := by decide +kernel
theorem dX12_morning_146 : decode cX12_morning 146 = .ok (.aload_n 0, 1) := by decide +kernel
theorem dX12_morning_147 : decode cX12_morning 147 = .ok (.iconst 1, 1) := by decide +kernel
theorem dX12_morning_148 : decode cX12_morning 148 = .ok (.iconst 3, 1) := by decide +kernel
theorem dX12_morning_149 : decode cX12_morning 149 = .ok (.invokevirtual 180, 3) := by decide +kernel
theorem dX12_morning_152 : decode cX12_morning 152 = .ok (.goto 4, 3) := by decide +kernel
theorem dX12_morning_155 : decode cX12_morning 155 = .ok (.iconst 0, 1) := by decide +kernel
theorem dX12_morning_156 : decode cX12_morning 156 = .ok (.iastore, 1) := by decide +kernel
theorem dX12_morning_157 : decode cX12_morning 157 = .ok (.iinc 1 1, 3) := by decide +kernel
theorem dX12_morning_160 : decode cX12_morning 160 = .ok (.aload_n 0, 1) := by decide +kernel
theorem dX12_morning_161 : decode cX12_morning 161 = .ok (.bipush 59, 2) := by decide +kernel
theorem dX12_morning_163 : decode cX12_morning 163 = .ok (.invokevirtual 218, 3) := by decide +kernel
theorem dX12_morning_166 : decode cX12_morning 166 = .ok (.goto (-155), 3) := by decide +kernel
theorem dX12_morning_169 : decode cX12_morning 169 = .ok (.aload_n 0, 1) := by decide +kernel
theorem dX12_morning_170 : decode cX12_morning 170 = .ok (.getfield 162, 3) := by decide +kernel
theorem dX12_morning_173 : decode cX12_morning 173 = .ok (.ifCond .le 8, 3) := by decide +kernel
theorem dX12_morning_176 : decode cX12_morning 176 = .ok (.aload_n 0, 1) := by decide +kernel
theorem dX12_morning_177 : decode cX12_morning 177 = .ok (.getfield 162, 3) := by decide +kernel
theorem dX12_morning_180 : decode cX12_morning 180 = .ok (.ireturn, 1) := by decide +kernel
theorem dX12_morning_181 : decode cX12_morning 181 = .ok (.aload_n 0, 1) := by decide +kernel
theorem dX12_morning_182 : decode cX12_morning 182 = .ok (.getfield 104, 3) := by decide +kernel
theorem dX12_morning_185 : decode cX12_morning 185 = .ok (.iconst 0, 1) := by decide +kernel
theorem dX12_morning_186 : decode cX12_morning 186 = .ok (.iload_n 1, 1) := by decide +kernel
theorem dX12_morning_187 : decode cX12_morning 187 = .ok (.iastore, 1) := by decide +kernel
theorem dX12_morning_188 : decode cX12_morning 188 = .ok (.iconst 0, 1) := by decide +kernel
theorem dX12_morning_189 : decode cX12_morning 189 = .ok (.istore_n 2, 1) := by decide +kernel
theorem dX12_morning_190 : decode cX12_morning 190 = .ok (.iload_n 2, 1) := by decide +kernel
theorem dX12_morning_191 : decode cX12_morning 191 = .ok (.iconst 4, 1) := by decide +kernel
theorem dX12_morning_192 : decode cX12_morning 192 = .ok (.iload_n 1, 1) := by decide +kernel
theorem dX12_morning_193 : decode cX12_morning 193 = .ok (.imul, 1) := by decide +kernel
theorem dX12_morning_194 : decode cX12_morning 194 = .ok (.if_icmp .ge 27, 3) := by decide +kernel
theorem dX12_morning_197 : decode cX12_morning 197 = .ok (.aload_n 0, 1) := by decide +kernel
theorem dX12_morning_198 : decode cX12_morning 198 = .ok (.getfield 104, 3) := by decide +kernel
theorem dX12_morning_201 : decode cX12_morning 201 = .ok (.iconst 1, 1) := by decide +kernel
theorem dX12_morning_202 : decode cX12_morning 202 = .ok (.iload_n 2, 1) := by decide +kernel
theorem dX12_morning_203 : decode cX12_morning 203 = .ok (.iadd, 1) := by decide +kernel
theorem dX12_morning_204 : decode cX12_morning 204 = .ok (.aload_n 0, 1) := by decide +kernel
theorem dX12_morning_205 : decode cX12_morning 205 = .ok (.getfield 104, 3) := by decide +kernel
theorem dX12_morning_208 : decode cX12_morning 208 = .ok (.sipush 165, 3) := by decide +kernel
theorem dX12_morning_211 : decode cX12_morning 211 = .ok (.iload_n 2, 1) := by decide +kernel
theorem dX12_morning_212 : decode cX12_morning 212 = .ok (.iadd, 1) := by decide +kernel
theorem dX12_morning_213 : decode cX12_morning 213 = .ok (.iaload, 1) := by decide +kernel
theorem dX12_morning_214 : decode cX12_morning 214 = .ok (.iastore, 1) := by decide +kernel
theorem dX12_morning_215 : decode cX12_morning 215 = .ok (.iinc 2 1, 3) := by decide +kernel
theorem dX12_morning_218 : decode cX12_morning 218 = .ok (.goto (-28), 3) := by decide +kernel
theorem dX12_morning_221 : decode cX12_morning 221 = .ok (.iconst 0, 1) := by decide +kernel
theorem dX12_morning_222 : decode cX12_morning 222 = .ok (.ireturn, 1) := by decide +kernel
abbrev mX12_morning : MI := (RX12, yX12_morning, cX12_morning, 4, some .int)
theorem cvX12_morning : CV mX12_morning 0 := ⟨⟨mw (i := 1542) (by decide +kernel), mw (i := 12) (by decide +kernel), ⟨by decide +kernel, by decide +kernel, by decide +kernel⟩, by decide⟩, mw (i := 1540) (by decide +kernel), mw (i := 1541) (by decide +kernel)⟩
def FX12_morning (a0 : Nat) : PP Int32 := bd (sI a0 0 (0 : Int32)) (fun (_ : Unit) => bd (FX12_cutAll a0) (fun (_ : Unit) => bd (it (fun (s2 : Int32) => (bd (gI a0 8) (fun x3 => if x3 = 0 then bd (gI a0 7) (fun x4 => bd (aI (rf a0 4) 1002 x4) (fun x5 => if x5 = 0 then pu (Sum.inr s2) else bd (FX12_wordHere a0 (8 : Int32) (4 : Int32)) (fun x6 => bd (if 0 ≤ x6 then if s2 = (40 : Int32) then bd (FX12_wrong a0 (5 : Int32)) (fun (_ : Unit) => pu s2) else bd (gI a0 7) (fun x7 => bd (sI a0 7 (x7 + (1 : Int32))) (fun (_ : Unit) => lt ((165 : Int32) + ((4 : Int32) * s2)) (fun y8 => bd (uI (rf a0 20) 330 y8 x6) (fun (_ : Unit) => bd (if (3 : Int32) ≤ x6 then pu (0 : Int32) else bd (FX12_takeTold a0 (0 : Int32) (40 : Int32)) (fun x9 => pu x9) : PP (Int32)) (fun (v10 : Int32) => bd (uI (rf a0 20) 330 (y8 + (1 : Int32)) v10) (fun (_ : Unit) => bd (if x6 = 0 then bd (FX12_takeTold a0 (0 : Int32) (0 : Int32)) (fun x11 => pu x11) else pu (0 : Int32) : PP (Int32)) (fun (v12 : Int32) => bd (uI (rf a0 20) 330 (y8 + (2 : Int32)) v12) (fun (_ : Unit) => bd (if x6 = 0 then bd (FX12_takeNumber a0 (1 : Int32) (3 : Int32)) (fun x13 => pu x13) else pu (0 : Int32) : PP (Int32)) (fun (v14 : Int32) => bd (uI (rf a0 20) 330 (y8 + (3 : Int32)) v14) (fun (_ : Unit) => lt (s2 + (1 : Int32)) (fun y15 => pu y15))))))))))) else bd (FX12_wrong a0 (1 : Int32)) (fun (_ : Unit) => pu s2) : PP (Int32)) (fun (v18 : Int32) => bd (FX12_takeSign a0 (59 : Int32)) (fun (_ : Unit) => pu (Sum.inl v18)))))) else pu (Sum.inr s2)) : PP ((Int32) ⊕ (Int32)))) FU (0 : Int32)) (fun (v20 : Int32) => bd (gI a0 8) (fun x21 => if x21 ≤ 0 then bd (uI (rf a0 20) 330 (0 : Int32) v20) (fun (_ : Unit) => bd (it (fun (s22 : Int32) => (if ((4 : Int32) * v20) ≤ s22 then pu (Sum.inr ()) else bd (aI (rf a0 20) 330 ((165 : Int32) + s22)) (fun x23 => bd (uI (rf a0 20) 330 ((1 : Int32) + s22) x23) (fun (_ : Unit) => lt (s22 + (1 : Int32)) (fun y24 => pu (Sum.inl y24)))) : PP ((Int32) ⊕ (Unit)))) FU (0 : Int32)) (fun (v25 : Unit) => pu (0 : Int32))) else bd (gI a0 8) (fun x26 => pu x26)))))
set_option maxHeartbeats 4000000 in
set_option maxRecDepth 100000 in
theorem SX12_morning {l : Launch} {K : KK} {n : Nat} {hn : 270 ≤ n} (a0 : Nat) (h0 : ob a0 11) : CT l K n 5 mX12_morning [.ref (K.2.1 + a0)] enI (FX12_morning a0) := by
  refine CT.of2 (lv2 := [(0, .ref (K.2.1 + a0))]) (by decide) rfl hn (Nat.le_of_ble_eq_true rfl) rfl (rp_id ?_)
  unfold FX12_morning
  refine rp_aload_n 0 dX12_morning_0 rfl ?_
  refine rp_iconst (0 : Int32) dX12_morning_1 (by decide) ?_
  refine rp_putI fi_X12_1 fp_X12_0 h0 rfl dX12_morning_2 ?_
  refine rp_aload_n 0 dX12_morning_5 rfl ?_
  refine rp_callVv [] (SX12_cutAll (hn := hn) a0 h0) cvX12_cutAll (mw (i := 1413) (by decide +kernel)) (by omega) h0 (by decide) rfl rfl rfl (Nat.le_of_ble_eq_true rfl) dX12_morning_6 (fun x1 => ?_)
  refine rp_iconst (0 : Int32) dX12_morning_9 (by decide) ?_
  refine rp_istore_n [(1, .int (0 : Int32)), (0, .ref (K.2.1 + a0))] dX12_morning_10 (by decide) rfl ?_
  refine rp_as ?_
  refine rp_join 169 (fun v20 => [(0, .ref (K.2.1 + a0)), (1, .int v20)]) (fun _ => []) (fun v20 => ?_) (fun hX11_0 => ?_)
  · refine rp_aload_n 0 dX12_morning_169 rfl ?_
    refine rp_getI fi_X12_162 h0 rfl dX12_morning_170 (fun x21 => ?_)
    refine rp_if_le 181 dX12_morning_173 (by decide) ?_ ?_
    · refine rp_aload_n 0 dX12_morning_181 rfl ?_
      refine rp_getR fi_X12_104 h0 rfl dX12_morning_182 ?_
      refine rp_iconst (0 : Int32) dX12_morning_185 (by decide) ?_
      refine rp_iload_n 1 dX12_morning_186 rfl ?_
      refine rp_iast (tX12_20 h0) dX12_morning_187 ?_
      refine rp_iconst (0 : Int32) dX12_morning_188 (by decide) ?_
      refine rp_istore_n [(2, .int (0 : Int32)), (0, .ref (K.2.1 + a0)), (1, .int v20)] dX12_morning_189 (by decide) rfl ?_
      refine rp_as ?_
      refine rp_join 221 (fun v25 => []) (fun _ => []) (fun v25 => ?_) (fun hX190_0 => ?_)
      · refine rp_iconst (0 : Int32) dX12_morning_221 (by decide) ?_
        exact rp_pu (rp_iret rfl dX12_morning_222)
      refine rp_sub [1, 2, 0] rfl (rp_it (fun (s22 : Int32) => [(0, .ref (K.2.1 + a0)), (1, .int v20), (2, .int s22)]) (fun N190 ih190 s22 => ?_) FU (0 : Int32))
      refine rp_iload_n 2 dX12_morning_190 rfl ?_
      refine rp_iconst (4 : Int32) dX12_morning_191 (by decide) ?_
      refine rp_iload_n 1 dX12_morning_192 rfl ?_
      refine rp_imul dX12_morning_193 ?_
      refine rp_icmp_ge 221 dX12_morning_194 (by decide) ?_ ?_
      · exact rp_sub [] rfl (rp_pu (hX190_0 ()))
      · refine rp_aload_n 0 dX12_morning_197 rfl ?_
        refine rp_getR fi_X12_104 h0 rfl dX12_morning_198 ?_
        refine rp_iconst (1 : Int32) dX12_morning_201 (by decide) ?_
        refine rp_iload_n 2 dX12_morning_202 rfl ?_
        refine rp_iadd dX12_morning_203 ?_
        refine rp_aload_n 0 dX12_morning_204 rfl ?_
        refine rp_getR fi_X12_104 h0 rfl dX12_morning_205 ?_
        refine rp_sipush (165 : Int32) dX12_morning_208 (by decide) ?_
        refine rp_iload_n 2 dX12_morning_211 rfl ?_
        refine rp_iadd dX12_morning_212 ?_
        refine rp_iald (tX12_20 h0) dX12_morning_213 (fun x23 => ?_)
        refine rp_iast (tX12_20 h0) dX12_morning_214 ?_
        refine rp_iinc (fun y24 => [(2, .int y24), (0, .ref (K.2.1 + a0)), (1, .int v20)]) 2 dX12_morning_215 rfl (by rfl) (by decide) (fun y24 => rfl) (fun y24 => ?_)
        refine rp_goto 190 dX12_morning_218 (by decide) ?_
        exact rp_sub [1, 2, 0] rfl (ih190 y24)
    · refine rp_aload_n 0 dX12_morning_176 rfl ?_
      refine rp_getI fi_X12_162 h0 rfl dX12_morning_177 (fun x26 => ?_)
      exact rp_pu (rp_iret rfl dX12_morning_180)
  refine rp_sub [1, 0] rfl (rp_it (fun (s2 : Int32) => [(0, .ref (K.2.1 + a0)), (1, .int s2)]) (fun N11 ih11 s2 => ?_) FU (0 : Int32))
  refine rp_aload_n 0 dX12_morning_11 rfl ?_
  refine rp_getI fi_X12_162 h0 rfl dX12_morning_12 (fun x3 => ?_)
  refine rp_if_ne 169 dX12_morning_15 (by decide) ?_ ?_
  · exact rp_sub [0, 1] rfl (rp_pu (hX11_0 s2))
  · refine rp_aload_n 0 dX12_morning_18 rfl ?_
    refine rp_getR fi_X12_24 h0 rfl dX12_morning_19 ?_
    refine rp_aload_n 0 dX12_morning_22 rfl ?_
    refine rp_getI fi_X12_159 h0 rfl dX12_morning_23 (fun x4 => ?_)
    refine rp_iald (tX12_4 h0) dX12_morning_26 (fun x5 => ?_)
    refine rp_if_eq 169 dX12_morning_27 (by decide) ?_ ?_
    · exact rp_sub [0, 1] rfl (rp_pu (hX11_0 s2))
    · refine rp_aload_n 0 dX12_morning_30 rfl ?_
      refine rp_bipush (8 : Int32) dX12_morning_31 (by decide) ?_
      refine rp_iconst (4 : Int32) dX12_morning_33 (by decide) ?_
      refine rp_callVi [.int (8 : Int32), .int (4 : Int32)] (SX12_wordHere (hn := hn) a0 (8 : Int32) (4 : Int32) h0) cvX12_wordHere (mw (i := 1452) (by decide +kernel)) (by omega) h0 (by decide) rfl rfl rfl (Nat.le_of_ble_eq_true rfl) dX12_morning_34 (fun x6 => ?_)
      refine rp_istore_n [(2, .int x6), (0, .ref (K.2.1 + a0)), (1, .int s2)] dX12_morning_37 (by decide) rfl ?_
      refine rp_iload_n 0 dX12_morning_38 rfl ?_
      refine rp_as ?_
      refine rp_join 160 (fun (v18 : Int32) => [(0, .ref (K.2.1 + a0)), (1, .int v18)]) (fun v18 => []) (fun v18 => ?_) (fun hJ160 => ?_)
      · refine rp_aload_n 0 dX12_morning_160 rfl ?_
        refine rp_bipush (59 : Int32) dX12_morning_161 (by decide) ?_
        refine rp_callVv [.int (59 : Int32)] (SX12_takeSign (hn := hn) a0 (59 : Int32) h0) cvX12_takeSign (mw (i := 1535) (by decide +kernel)) (by omega) h0 (by decide) rfl rfl rfl (Nat.le_of_ble_eq_true rfl) dX12_morning_163 (fun x19 => ?_)
        refine rp_goto 11 dX12_morning_166 (by decide) ?_
        exact rp_sub [0, 1] rfl (ih11 v18)
      refine rp_if_ge 50 dX12_morning_39 (by decide) ?_ ?_
      · refine rp_iload_n 2 dX12_morning_50 rfl ?_
        refine rp_bipush (40 : Int32) dX12_morning_51 (by decide) ?_
        refine rp_icmp_ne 64 dX12_morning_53 (by decide) ?_ ?_
        · refine rp_aload_n 1 dX12_morning_64 rfl ?_
          refine rp_dup dX12_morning_65 rfl ?_
          refine rp_getI fi_X12_159 h0 rfl dX12_morning_66 (fun x7 => ?_)
          refine rp_iconst (1 : Int32) dX12_morning_69 (by decide) ?_
          refine rp_iadd dX12_morning_70 ?_
          refine rp_putI fi_X12_159 fp_X12_7 h0 rfl dX12_morning_71 ?_
          refine rp_sipush (165 : Int32) dX12_morning_74 (by decide) ?_
          refine rp_iconst (4 : Int32) dX12_morning_77 (by decide) ?_
          refine rp_iload_n 2 dX12_morning_78 rfl ?_
          refine rp_imul dX12_morning_79 ?_
          refine rp_iadd dX12_morning_80 ?_
          refine rp_lti (fun y8 => ?_)
          refine rp_istore_n [(3, .int y8), (2, .int x6), (0, .ref (K.2.1 + a0)), (1, .int s2)] dX12_morning_81 (by decide) rfl ?_
          refine rp_aload_n 2 dX12_morning_82 rfl ?_
          refine rp_getR fi_X12_104 h0 rfl dX12_morning_83 ?_
          refine rp_iload_n 0 dX12_morning_86 rfl ?_
          refine rp_iload_n 1 dX12_morning_87 rfl ?_
          refine rp_iast (tX12_20 h0) dX12_morning_88 ?_
          refine rp_aload_n 2 dX12_morning_89 rfl ?_
          refine rp_getR fi_X12_104 h0 rfl dX12_morning_90 ?_
          refine rp_iload_n 0 dX12_morning_93 rfl ?_
          refine rp_iconst (1 : Int32) dX12_morning_94 (by decide) ?_
          refine rp_iadd dX12_morning_95 ?_
          refine rp_iload_n 1 dX12_morning_96 rfl ?_
          refine rp_iconst (3 : Int32) dX12_morning_97 (by decide) ?_
          refine rp_as ?_
          refine rp_join 112 (fun (v10 : Int32) => [(0, .ref (K.2.1 + a0)), (1, .int s2), (2, .int x6), (3, .int y8)]) (fun v10 => [.int v10, .int (y8 + (1 : Int32)), .ref (K.2.1 + (rf a0 20))]) (fun v10 => ?_) (fun hJ112 => ?_)
          · refine rp_iast (tX12_20 h0) dX12_morning_112 ?_
            refine rp_aload_n 0 dX12_morning_113 rfl ?_
            refine rp_getR fi_X12_104 h0 rfl dX12_morning_114 ?_
            refine rp_iload_n 3 dX12_morning_117 rfl ?_
            refine rp_iconst (2 : Int32) dX12_morning_118 (by decide) ?_
            refine rp_iadd dX12_morning_119 ?_
            refine rp_iload_n 2 dX12_morning_120 rfl ?_
            refine rp_as ?_
            refine rp_join 134 (fun (v12 : Int32) => [(0, .ref (K.2.1 + a0)), (1, .int s2), (2, .int x6), (3, .int y8)]) (fun v12 => [.int v12, .int (y8 + (2 : Int32)), .ref (K.2.1 + (rf a0 20))]) (fun v12 => ?_) (fun hJ134 => ?_)
            · refine rp_iast (tX12_20 h0) dX12_morning_134 ?_
              refine rp_aload_n 0 dX12_morning_135 rfl ?_
              refine rp_getR fi_X12_104 h0 rfl dX12_morning_136 ?_
              refine rp_iload_n 3 dX12_morning_139 rfl ?_
              refine rp_iconst (3 : Int32) dX12_morning_140 (by decide) ?_
              refine rp_iadd dX12_morning_141 ?_
              refine rp_iload_n 2 dX12_morning_142 rfl ?_
              refine rp_as ?_
              refine rp_join 156 (fun (v14 : Int32) => [(0, .ref (K.2.1 + a0)), (1, .int s2)]) (fun v14 => [.int v14, .int (y8 + (3 : Int32)), .ref (K.2.1 + (rf a0 20))]) (fun v14 => ?_) (fun hJ156 => ?_)
              · refine rp_iast (tX12_20 h0) dX12_morning_156 ?_
                refine rp_iinc (fun y15 => [(1, .int y15), (0, .ref (K.2.1 + a0))]) 1 dX12_morning_157 rfl (by rfl) (by decide) (fun y15 => rfl) (fun y15 => ?_)
                exact rp_sub [1, 0] rfl (rp_pu (hJ160 y15))
              refine rp_if_ne 155 dX12_morning_143 (by decide) ?_ ?_
              · refine rp_iconst (0 : Int32) dX12_morning_155 (by decide) ?_
                exact rp_sub [0, 1] rfl (rp_pu (hJ156 (0 : Int32)))
              · refine rp_aload_n 0 dX12_morning_146 rfl ?_
                refine rp_iconst (1 : Int32) dX12_morning_147 (by decide) ?_
                refine rp_iconst (3 : Int32) dX12_morning_148 (by decide) ?_
                refine rp_callVi [.int (1 : Int32), .int (3 : Int32)] (SX12_takeNumber (hn := hn) a0 (1 : Int32) (3 : Int32) h0) cvX12_takeNumber (mw (i := 1472) (by decide +kernel)) (by omega) h0 (by decide) rfl rfl rfl (Nat.le_of_ble_eq_true rfl) dX12_morning_149 (fun x13 => ?_)
                refine rp_goto 156 dX12_morning_152 (by decide) ?_
                exact rp_sub [0, 1] rfl (rp_pu (hJ156 x13))
            refine rp_if_ne 133 dX12_morning_121 (by decide) ?_ ?_
            · refine rp_iconst (0 : Int32) dX12_morning_133 (by decide) ?_
              exact rp_sub [0, 1, 2, 3] rfl (rp_pu (hJ134 (0 : Int32)))
            · refine rp_aload_n 0 dX12_morning_124 rfl ?_
              refine rp_iconst (0 : Int32) dX12_morning_125 (by decide) ?_
              refine rp_iconst (0 : Int32) dX12_morning_126 (by decide) ?_
              refine rp_callVi [.int (0 : Int32), .int (0 : Int32)] (SX12_takeTold (hn := hn) a0 (0 : Int32) (0 : Int32) h0) cvX12_takeTold (mw (i := 1495) (by decide +kernel)) (by omega) h0 (by decide) rfl rfl rfl (Nat.le_of_ble_eq_true rfl) dX12_morning_127 (fun x11 => ?_)
              refine rp_goto 134 dX12_morning_130 (by decide) ?_
              exact rp_sub [0, 1, 2, 3] rfl (rp_pu (hJ134 x11))
          refine rp_icmp_ge 111 dX12_morning_98 (by decide) ?_ ?_
          · refine rp_iconst (0 : Int32) dX12_morning_111 (by decide) ?_
            exact rp_sub [2, 3, 1, 0] rfl (rp_pu (hJ112 (0 : Int32)))
          · refine rp_aload_n 2 dX12_morning_101 rfl ?_
            refine rp_iconst (0 : Int32) dX12_morning_102 (by decide) ?_
            refine rp_bipush (40 : Int32) dX12_morning_103 (by decide) ?_
            refine rp_callVi [.int (0 : Int32), .int (40 : Int32)] (SX12_takeTold (hn := hn) a0 (0 : Int32) (40 : Int32) h0) cvX12_takeTold (mw (i := 1495) (by decide +kernel)) (by omega) h0 (by decide) rfl rfl rfl (Nat.le_of_ble_eq_true rfl) dX12_morning_105 (fun x9 => ?_)
            refine rp_goto 112 dX12_morning_108 (by decide) ?_
            exact rp_sub [2, 3, 1, 0] rfl (rp_pu (hJ112 x9))
        · refine rp_aload_n 1 dX12_morning_56 rfl ?_
          refine rp_iconst (5 : Int32) dX12_morning_57 (by decide) ?_
          refine rp_callVv [.int (5 : Int32)] (SX12_wrong (hn := hn) a0 (5 : Int32) h0) cvX12_wrong (mw (i := 1444) (by decide +kernel)) (by omega) h0 (by decide) rfl rfl rfl (Nat.le_of_ble_eq_true rfl) dX12_morning_58 (fun x16 => ?_)
          refine rp_goto 160 dX12_morning_61 (by decide) ?_
          exact rp_sub [1, 2] rfl (rp_pu (hJ160 s2))
      · refine rp_aload_n 1 dX12_morning_42 rfl ?_
        refine rp_iconst (1 : Int32) dX12_morning_43 (by decide) ?_
        refine rp_callVv [.int (1 : Int32)] (SX12_wrong (hn := hn) a0 (1 : Int32) h0) cvX12_wrong (mw (i := 1444) (by decide +kernel)) (by omega) h0 (by decide) rfl rfl rfl (Nat.le_of_ble_eq_true rfl) dX12_morning_44 (fun x17 => ?_)
        refine rp_goto 160 dX12_morning_47 (by decide) ?_
        exact rp_sub [1, 2] rfl (rp_pu (hJ160 s2))

theorem dX12_both_0 : decode cX12_both 0 = .ok (.iload_n 0, 1) := by decide +kernel
theorem dX12_both_1 : decode cX12_both 1 = .ok (.tableswitch 87 4 9 #[39, 43, 47, 51, 62, 73], 39) := by decide +kernel
theorem dX12_both_40 : decode cX12_both 40 = .ok (.iload_n 1, 1) := by decide +kernel
theorem dX12_both_41 : decode cX12_both 41 = .ok (.iload_n 2, 1) := by decide +kernel
theorem dX12_both_42 : decode cX12_both 42 = .ok (.iadd, 1) := by decide +kernel
theorem dX12_both_43 : decode cX12_both 43 = .ok (.ireturn, 1) := by decide +kernel
theorem dX12_both_44 : decode cX12_both 44 = .ok (.iload_n 1, 1) := by decide +kernel
theorem dX12_both_45 : decode cX12_both 45 = .ok (.iload_n 2, 1) := by decide +kernel
theorem dX12_both_46 : decode cX12_both 46 = .ok (.isub, 1) := by decide +kernel
theorem dX12_both_47 : decode cX12_both 47 = .ok (.ireturn, 1) := by decide +kernel
theorem dX12_both_48 : decode cX12_both 48 = .ok (.iload_n 1, 1) := by decide +kernel
theorem dX12_both_49 : decode cX12_both 49 = .ok (.iload_n 2, 1) := by decide +kernel
theorem dX12_both_50 : decode cX12_both 50 = .ok (.imul, 1) := by decide +kernel
theorem dX12_both_51 : decode cX12_both 51 = .ok (.ireturn, 1) := by decide +kernel
theorem dX12_both_52 : decode cX12_both 52 = .ok (.iload_n 1, 1) := by decide +kernel
theorem dX12_both_53 : decode cX12_both 53 = .ok (.iload_n 2, 1) := by decide +kernel
theorem dX12_both_54 : decode cX12_both 54 = .ok (.if_icmp .ge 7, 3) := by decide +kernel
theorem dX12_both_57 : decode cX12_both 57 = .ok (.iconst 1, 1) := by decide +kernel
theorem dX12_both_58 : decode cX12_both 58 = .ok (.goto 4, 3) := by decide +kernel
theorem dX12_both_61 : decode cX12_both 61 = .ok (.iconst 0, 1) := by decide +kernel
theorem dX12_both_62 : decode cX12_both 62 = .ok (.ireturn, 1) := by decide +kernel
theorem dX12_both_63 : decode cX12_both 63 = .ok (.iload_n 1, 1) := by decide +kernel
theorem dX12_both_64 : decode cX12_both 64 = .ok (.iload_n 2, 1) := by decide +kernel
theorem dX12_both_65 : decode cX12_both 65 = .ok (.if_icmp .ne 7, 3) := by decide +kernel
theorem dX12_both_68 : decode cX12_both 68 = .ok (.iconst 1, 1) := by decide +kernel
theorem dX12_both_69 : decode cX12_both 69 = .ok (.goto 4, 3) := by decide +kernel
theorem dX12_both_72 : decode cX12_both 72 = .ok (.iconst 0, 1) := by decide +kernel
theorem dX12_both_73 : decode cX12_both 73 = .ok (.ireturn, 1) := by decide +kernel
theorem dX12_both_74 : decode cX12_both 74 = .ok (.iload_n 1, 1) := by decide +kernel
theorem dX12_both_75 : decode cX12_both 75 = .ok (.ifCond .eq 11, 3) := by decide +kernel
theorem dX12_both_78 : decode cX12_both 78 = .ok (.iload_n 2, 1) := by decide +kernel
theorem dX12_both_79 : decode cX12_both 79 = .ok (.ifCond .eq 7, 3) := by decide +kernel
theorem dX12_both_82 : decode cX12_both 82 = .ok (.iconst 1, 1) := by decide +kernel
theorem dX12_both_83 : decode cX12_both 83 = .ok (.goto 4, 3) := by decide +kernel
theorem dX12_both_86 : decode cX12_both 86 = .ok (.iconst 0, 1) := by decide +kernel
theorem dX12_both_87 : decode cX12_both 87 = .ok (.ireturn, 1) := by decide +kernel
theorem dX12_both_88 : decode cX12_both 88 = .ok (.iload_n 1, 1) := by decide +kernel
theorem dX12_both_89 : decode cX12_both 89 = .ok (.ifCond .ne 7, 3) := by decide +kernel
theorem dX12_both_92 : decode cX12_both 92 = .ok (.iload_n 2, 1) := by decide +kernel
theorem dX12_both_93 : decode cX12_both 93 = .ok (.ifCond .eq 7, 3) := by decide +kernel
theorem dX12_both_96 : decode cX12_both 96 = .ok (.iconst 1, 1) := by decide +kernel
theorem dX12_both_97 : decode cX12_both 97 = .ok (.goto 4, 3) := by decide +kernel
theorem dX12_both_100 : decode cX12_both 100 = .ok (.iconst 0, 1) := by decide +kernel
theorem dX12_both_101 : decode cX12_both 101 = .ok (.ireturn, 1) := by decide +kernel
abbrev mX12_both : MI := (RX12, yX12_both, cX12_both, 3, some .int)
theorem csX12_both : CS mX12_both 3 := ⟨⟨mw (i := 1657) (by decide +kernel), mw (i := 12) (by decide +kernel), ⟨by decide +kernel, by decide +kernel, by decide +kernel⟩, by decide⟩, mw (i := 1656) (by decide +kernel)⟩
def FX12_both (p1 : Int32) (p2 : Int32) (p3 : Int32) : PP Int32 := tsw p1 [(4 : Int32), (5 : Int32), (6 : Int32), (7 : Int32), (8 : Int32), (9 : Int32)] [pu (p2 + p3), pu (p2 - p3), pu (p2 * p3), bd (if p3 ≤ p2 then pu (0 : Int32) else pu (1 : Int32) : PP (Int32)) (fun (v1 : Int32) => pu v1), bd (if p2 = p3 then pu (1 : Int32) else pu (0 : Int32) : PP (Int32)) (fun (v2 : Int32) => pu v2), bd (if p2 = 0 then pu (0 : Int32) else if p3 = 0 then pu (0 : Int32) else pu (1 : Int32) : PP (Int32)) (fun (v3 : Int32) => pu v3)] (bd (if p2 = 0 then if p3 = 0 then pu (0 : Int32) else pu (1 : Int32) else pu (1 : Int32) : PP (Int32)) (fun (v4 : Int32) => pu v4))
set_option maxHeartbeats 4000000 in
set_option maxRecDepth 100000 in
theorem SX12_both {l : Launch} {K : KK} {n : Nat} {hn : 270 ≤ n} (p1 : Int32) (p2 : Int32) (p3 : Int32) : CT l K n 0 mX12_both [.int p1, .int p2, .int p3] enI (FX12_both p1 p2 p3) := by
  refine CT.of2 (lv2 := [(0, .int p1), (1, .int p2), (2, .int p3)]) (by decide) rfl hn (Nat.le_of_ble_eq_true rfl) rfl (rp_id ?_)
  unfold FX12_both
  refine rp_iload_n 0 dX12_both_0 rfl ?_
  refine rp_tsw [40, 44, 48, 52, 63, 74] 88 dX12_both_1 rfl (by decide +kernel) ?_ ?_
  · refine ⟨?_, ?_, ?_, ?_, ?_, ?_, trivial⟩
    · refine rp_iload_n 1 dX12_both_40 rfl ?_
      refine rp_iload_n 2 dX12_both_41 rfl ?_
      refine rp_iadd dX12_both_42 ?_
      exact rp_pu (rp_iret rfl dX12_both_43)
    · refine rp_iload_n 1 dX12_both_44 rfl ?_
      refine rp_iload_n 2 dX12_both_45 rfl ?_
      refine rp_isub dX12_both_46 ?_
      exact rp_pu (rp_iret rfl dX12_both_47)
    · refine rp_iload_n 1 dX12_both_48 rfl ?_
      refine rp_iload_n 2 dX12_both_49 rfl ?_
      refine rp_imul dX12_both_50 ?_
      exact rp_pu (rp_iret rfl dX12_both_51)
    · refine rp_iload_n 1 dX12_both_52 rfl ?_
      refine rp_iload_n 2 dX12_both_53 rfl ?_
      refine rp_as ?_
      refine rp_join 62 (fun (v1 : Int32) => []) (fun v1 => [.int v1]) (fun v1 => ?_) (fun hJ62 => ?_)
      · exact rp_pu (rp_iret rfl dX12_both_62)
      refine rp_icmp_ge 61 dX12_both_54 (by decide) ?_ ?_
      · refine rp_iconst (0 : Int32) dX12_both_61 (by decide) ?_
        exact rp_sub [] rfl (rp_pu (hJ62 (0 : Int32)))
      · refine rp_iconst (1 : Int32) dX12_both_57 (by decide) ?_
        refine rp_goto 62 dX12_both_58 (by decide) ?_
        exact rp_sub [] rfl (rp_pu (hJ62 (1 : Int32)))
    · refine rp_iload_n 1 dX12_both_63 rfl ?_
      refine rp_iload_n 2 dX12_both_64 rfl ?_
      refine rp_as ?_
      refine rp_join 73 (fun (v2 : Int32) => []) (fun v2 => [.int v2]) (fun v2 => ?_) (fun hJ73 => ?_)
      · exact rp_pu (rp_iret rfl dX12_both_73)
      refine rp_icmp_ne 72 dX12_both_65 (by decide) ?_ ?_
      · refine rp_iconst (0 : Int32) dX12_both_72 (by decide) ?_
        exact rp_sub [] rfl (rp_pu (hJ73 (0 : Int32)))
      · refine rp_iconst (1 : Int32) dX12_both_68 (by decide) ?_
        refine rp_goto 73 dX12_both_69 (by decide) ?_
        exact rp_sub [] rfl (rp_pu (hJ73 (1 : Int32)))
    · refine rp_iload_n 1 dX12_both_74 rfl ?_
      refine rp_as ?_
      refine rp_join 87 (fun (v3 : Int32) => []) (fun v3 => [.int v3]) (fun v3 => ?_) (fun hJ87 => ?_)
      · exact rp_pu (rp_iret rfl dX12_both_87)
      refine rp_if_eq 86 dX12_both_75 (by decide) ?_ ?_
      · refine rp_iconst (0 : Int32) dX12_both_86 (by decide) ?_
        exact rp_sub [] rfl (rp_pu (hJ87 (0 : Int32)))
      · refine rp_iload_n 2 dX12_both_78 rfl ?_
        refine rp_if_eq 86 dX12_both_79 (by decide) ?_ ?_
        · refine rp_iconst (0 : Int32) dX12_both_86 (by decide) ?_
          exact rp_sub [] rfl (rp_pu (hJ87 (0 : Int32)))
        · refine rp_iconst (1 : Int32) dX12_both_82 (by decide) ?_
          refine rp_goto 87 dX12_both_83 (by decide) ?_
          exact rp_sub [] rfl (rp_pu (hJ87 (1 : Int32)))
  · refine rp_iload_n 1 dX12_both_88 rfl ?_
    refine rp_as ?_
    refine rp_join 101 (fun (v4 : Int32) => []) (fun v4 => [.int v4]) (fun v4 => ?_) (fun hJ101 => ?_)
    · exact rp_pu (rp_iret rfl dX12_both_101)
    refine rp_if_ne 96 dX12_both_89 (by decide) ?_ ?_
    · refine rp_iconst (1 : Int32) dX12_both_96 (by decide) ?_
      refine rp_goto 101 dX12_both_97 (by decide) ?_
      exact rp_sub [] rfl (rp_pu (hJ101 (1 : Int32)))
    · refine rp_iload_n 2 dX12_both_92 rfl ?_
      refine rp_if_eq 100 dX12_both_93 (by decide) ?_ ?_
      · refine rp_iconst (0 : Int32) dX12_both_100 (by decide) ?_
        exact rp_sub [] rfl (rp_pu (hJ101 (0 : Int32)))
      · refine rp_iconst (1 : Int32) dX12_both_96 (by decide) ?_
        refine rp_goto 101 dX12_both_97 (by decide) ?_
        exact rp_sub [] rfl (rp_pu (hJ101 (1 : Int32)))

theorem dX12_worthAt_0 : decode cX12_worthAt 0 = .ok (.iconst 0, 1) := by decide +kernel
theorem dX12_worthAt_1 : decode cX12_worthAt 1 = .ok (.istore_n 2, 1) := by decide +kernel
theorem dX12_worthAt_2 : decode cX12_worthAt 2 = .ok (.iload_n 1, 1) := by decide +kernel
theorem dX12_worthAt_3 : decode cX12_worthAt 3 = .ok (.istore_n 3, 1) := by decide +kernel
theorem dX12_worthAt_4 : decode cX12_worthAt 4 = .ok (.aload_n 0, 1) := by decide +kernel
theorem dX12_worthAt_5 : decode cX12_worthAt 5 = .ok (.getfield 86, 3) := by decide +kernel
theorem dX12_worthAt_8 : decode cX12_worthAt 8 = .ok (.iload_n 3, 1) := by decide +kernel
theorem dX12_worthAt_9 : decode cX12_worthAt 9 = .ok (.iaload, 1) := by decide +kernel
theorem dX12_worthAt_10 : decode cX12_worthAt 10 = .ok (.ifCond .eq 130, 3) := by decide +kernel
theorem dX12_worthAt_13 : decode cX12_worthAt 13 = .ok (.aload_n 0, 1) := by decide +kernel
theorem dX12_worthAt_14 : decode cX12_worthAt 14 = .ok (.getfield 86, 3) := by decide +kernel
theorem dX12_worthAt_17 : decode cX12_worthAt 17 = .ok (.iload_n 3, 1) := by decide +kernel
theorem dX12_worthAt_18 : decode cX12_worthAt 18 = .ok (.iaload, 1) := by decide +kernel
theorem dX12_worthAt_19 : decode cX12_worthAt 19 = .ok (.istore 4, 2) := by decide +kernel
theorem dX12_worthAt_21 : decode cX12_worthAt 21 = .ok (.iload 4, 2) := by decide +kernel
theorem dX12_worthAt_23 : decode cX12_worthAt 23 = .ok (.iconst 1, 1) := by decide +kernel
theorem dX12_worthAt_24 : decode cX12_worthAt 24 = .ok (.if_icmp .eq 9, 3) := by decide +kernel
theorem dX12_worthAt_27 : decode cX12_worthAt 27 = .ok (.iload 4, 2) := by decide +kernel
theorem dX12_worthAt_29 : decode cX12_worthAt 29 = .ok (.iconst 2, 1) := by decide +kernel
theorem dX12_worthAt_30 : decode cX12_worthAt 30 = .ok (.if_icmp .ne 41, 3) := by decide +kernel
theorem dX12_worthAt_33 : decode cX12_worthAt 33 = .ok (.aload_n 0, 1) := by decide +kernel
theorem dX12_worthAt_34 : decode cX12_worthAt 34 = .ok (.getfield 110, 3) := by decide +kernel
theorem dX12_worthAt_37 : decode cX12_worthAt 37 = .ok (.iload_n 2, 1) := by decide +kernel
theorem dX12_worthAt_38 : decode cX12_worthAt 38 = .ok (.iload 4, 2) := by decide +kernel
theorem dX12_worthAt_40 : decode cX12_worthAt 40 = .ok (.iconst 1, 1) := by decide +kernel
theorem dX12_worthAt_41 : decode cX12_worthAt 41 = .ok (.if_icmp .ne 12, 3) := by decide +kernel
theorem dX12_worthAt_44 : decode cX12_worthAt 44 = .ok (.aload_n 0, 1) := by decide +kernel
theorem dX12_worthAt_45 : decode cX12_worthAt 45 = .ok (.getfield 89, 3) := by decide +kernel
theorem dX12_worthAt_48 : decode cX12_worthAt 48 = .ok (.iload_n 3, 1) := by decide +kernel
theorem dX12_worthAt_49 : decode cX12_worthAt 49 = .ok (.iaload, 1) := by decide +kernel
theorem dX12_worthAt_50 : decode cX12_worthAt 50 = .ok (.goto 14, 3) := by decide +kernel
theorem dX12_worthAt_53 : decode cX12_worthAt 53 = .ok (.aload_n 0, 1) := by decide +kernel
theorem dX12_worthAt_54 : decode cX12_worthAt 54 = .ok (.getfield 107, 3) := by decide +kernel
theorem dX12_worthAt_57 : decode cX12_worthAt 57 = .ok (.aload_n 0, 1) := by decide +kernel
theorem dX12_worthAt_58 : decode cX12_worthAt 58 = .ok (.getfield 89, 3) := by decide +kernel
theorem dX12_worthAt_61 : decode cX12_worthAt 61 = .ok (.iload_n 3, 1) := by decide +kernel
theorem dX12_worthAt_62 : decode cX12_worthAt 62 = .ok (.iaload, 1) := by decide +kernel
theorem dX12_worthAt_63 : decode cX12_worthAt 63 = .ok (.iaload, 1) := by decide +kernel
theorem dX12_worthAt_64 : decode cX12_worthAt 64 = .ok (.iastore, 1) := by decide +kernel
theorem dX12_worthAt_65 : decode cX12_worthAt 65 = .ok (.iinc 2 1, 3) := by decide +kernel
theorem dX12_worthAt_68 : decode cX12_worthAt 68 = .ok (.goto 66, 3) := by decide +kernel
theorem dX12_worthAt_71 : decode cX12_worthAt 71 = .ok (.iload 4, 2) := by decide +kernel
theorem dX12_worthAt_73 : decode cX12_worthAt 73 = .ok (.iconst 3, 1) := by decide +kernel
theorem dX12_worthAt_74 : decode cX12_worthAt 74 = .ok (.if_icmp .ne 30, 3) := by decide +kernel
theorem dX12_worthAt_77 : decode cX12_worthAt 77 = .ok (.aload_n 0, 1) := by decide +kernel
theorem dX12_worthAt_78 : decode cX12_worthAt 78 = .ok (.getfield 110, 3) := by decide +kernel
theorem dX12_worthAt_81 : decode cX12_worthAt 81 = .ok (.iload_n 2, 1) := by decide +kernel
theorem dX12_worthAt_82 : decode cX12_worthAt 82 = .ok (.iconst 1, 1) := by decide +kernel
theorem dX12_worthAt_83 : decode cX12_worthAt 83 = .ok (.isub, 1) := by decide +kernel
theorem dX12_worthAt_84 : decode cX12_worthAt 84 = .ok (.aload_n 0, 1) := by decide +kernel
theorem dX12_worthAt_85 : decode cX12_worthAt 85 = .ok (.getfield 110, 3) := by decide +kernel
theorem dX12_worthAt_88 : decode cX12_worthAt 88 = .ok (.iload_n 2, 1) := by decide +kernel
theorem dX12_worthAt_89 : decode cX12_worthAt 89 = .ok (.iconst 1, 1) := by decide +kernel
theorem dX12_worthAt_90 : decode cX12_worthAt 90 = .ok (.isub, 1) := by decide +kernel
theorem dX12_worthAt_91 : decode cX12_worthAt 91 = .ok (.iaload, 1) := by decide +kernel
theorem dX12_worthAt_92 : decode cX12_worthAt 92 = .ok (.ifCond .ne 7, 3) := by decide +kernel
theorem dX12_worthAt_95 : decode cX12_worthAt 95 = .ok (.iconst 1, 1) := by decide +kernel
theorem dX12_worthAt_96 : decode cX12_worthAt 96 = .ok (.goto 4, 3) := by decide +kernel
theorem dX12_worthAt_99 : decode cX12_worthAt 99 = .ok (.iconst 0, 1) := by decide +kernel
theorem dX12_worthAt_100 : decode cX12_worthAt 100 = .ok (.iastore, 1) := by decide +kernel
theorem dX12_worthAt_101 : decode cX12_worthAt 101 = .ok (.goto 33, 3) := by decide +kernel
theorem dX12_worthAt_104 : decode cX12_worthAt 104 = .ok (.iinc 2 (-1), 3) := by decide +kernel
theorem dX12_worthAt_107 : decode cX12_worthAt 107 = .ok (.aload_n 0, 1) := by decide +kernel
theorem dX12_worthAt_108 : decode cX12_worthAt 108 = .ok (.getfield 110, 3) := by decide +kernel
theorem dX12_worthAt_111 : decode cX12_worthAt 111 = .ok (.iload_n 2, 1) := by decide +kernel
theorem dX12_worthAt_112 : decode cX12_worthAt 112 = .ok (.iconst 1, 1) := by decide +kernel
theorem dX12_worthAt_113 : decode cX12_worthAt 113 = .ok (.isub, 1) := by decide +kernel
theorem dX12_worthAt_114 : decode cX12_worthAt 114 = .ok (.iload 4, 2) := by decide +kernel
theorem dX12_worthAt_116 : decode cX12_worthAt 116 = .ok (.aload_n 0, 1) := by decide +kernel
theorem dX12_worthAt_117 : decode cX12_worthAt 117 = .ok (.getfield 110, 3) := by decide +kernel
theorem dX12_worthAt_120 : decode cX12_worthAt 120 = .ok (.iload_n 2, 1) := by decide +kernel
theorem dX12_worthAt_121 : decode cX12_worthAt 121 = .ok (.iconst 1, 1) := by decide +kernel
theorem dX12_worthAt_122 : decode cX12_worthAt 122 = .ok (.isub, 1) := by decide +kernel
theorem dX12_worthAt_123 : decode cX12_worthAt 123 = .ok (.iaload, 1) := by decide +kernel
theorem dX12_worthAt_124 : decode cX12_worthAt 124 = .ok (.aload_n 0, 1) := by decide +kernel
theorem dX12_worthAt_125 : decode cX12_worthAt 125 = .ok (.getfield 110, 3) := by decide +kernel
theorem dX12_worthAt_128 : decode cX12_worthAt 128 = .ok (.iload_n 2, 1) := by decide +kernel
theorem dX12_worthAt_129 : decode cX12_worthAt 129 = .ok (.iaload, 1) := by decide +kernel
theorem dX12_worthAt_130 : decode cX12_worthAt 130 = .ok (.invokestatic 266, 3) := by decide +kernel
theorem dX12_worthAt_133 : decode cX12_worthAt 133 = .ok (.iastore, 1) := by decide +kernel
theorem dX12_worthAt_134 : decode cX12_worthAt 134 = .ok (.iinc 3 1, 3) := by decide +kernel
theorem dX12_worthAt_137 : decode cX12_worthAt 137 = .ok (.goto (-133), 3) := by decide +kernel
theorem dX12_worthAt_140 : decode cX12_worthAt 140 = .ok (.aload_n 0, 1) := by decide +kernel
theorem dX12_worthAt_141 : decode cX12_worthAt 141 = .ok (.getfield 110, 3) := by decide +kernel
theorem dX12_worthAt_144 : decode cX12_worthAt 144 = .ok (.iconst 0, 1) := by decide +kernel
theorem dX12_worthAt_145 : decode cX12_worthAt 145 = .ok (.iaload, 1) := by decide +kernel
theorem dX12_worthAt_146 : decode cX12_worthAt 146 = .ok (.ireturn, 1) := by decide +kernel
abbrev mX12_worthAt : MI := (RX12, yX12_worthAt, cX12_worthAt, 5, some .int)
theorem cvX12_worthAt : CV mX12_worthAt 1 := ⟨⟨mw (i := 1654) (by decide +kernel), mw (i := 12) (by decide +kernel), ⟨by decide +kernel, by decide +kernel, by decide +kernel⟩, by decide⟩, mw (i := 1653) (by decide +kernel), mp2 (i := 89) 31 (by decide +kernel)⟩
def FX12_worthAt (a0 : Nat) (p1 : Int32) : PP Int32 := bd (it (fun (s1 : Int32 × Int32) => (bd (aI (rf a0 11) 2200 s1.2) (fun x2 => if x2 = 0 then pu (Sum.inr ()) else bd (aI (rf a0 11) 2200 s1.2) (fun x3 => bd (jn (fun (v11 : Int32) => bd (if x3 = (1 : Int32) then bd (aI (rf a0 12) 2200 s1.2) (fun x14 => pu x14) else bd (aI (rf a0 12) 2200 s1.2) (fun x12 => bd (aI (rf a0 21) 4 x12) (fun x13 => pu x13)) : PP (Int32)) (fun (v15 : Int32) => bd (uI (rf a0 22) 1100 v11 v15) (fun (_ : Unit) => lt (v11 + (1 : Int32)) (fun y16 => pu y16)))) (fun j4 => if x3 = (1 : Int32) then j4 s1.1 else if x3 = (2 : Int32) then j4 s1.1 else if x3 = (3 : Int32) then bd (aI (rf a0 22) 1100 (s1.1 - (1 : Int32))) (fun x9 => bd (if x9 = 0 then pu (1 : Int32) else pu (0 : Int32) : PP (Int32)) (fun (v10 : Int32) => bd (uI (rf a0 22) 1100 (s1.1 - (1 : Int32)) v10) (fun (_ : Unit) => pu s1.1))) else lt (s1.1 + (-1 : Int32)) (fun y5 => bd (aI (rf a0 22) 1100 (y5 - (1 : Int32))) (fun x6 => bd (aI (rf a0 22) 1100 y5) (fun x7 => bd (FX12_both x3 x6 x7) (fun x8 => bd (uI (rf a0 22) 1100 (y5 - (1 : Int32)) x8) (fun (_ : Unit) => pu y5)))))) : PP (Int32)) (fun (v17 : Int32) => lt (s1.2 + (1 : Int32)) (fun y18 => pu (Sum.inl (v17, y18)))))) : PP ((Int32 × Int32) ⊕ (Unit)))) FU ((0 : Int32), p1)) (fun (v19 : Unit) => bd (aI (rf a0 22) 1100 (0 : Int32)) (fun x20 => pu x20))
set_option maxHeartbeats 4000000 in
set_option maxRecDepth 100000 in
theorem SX12_worthAt {l : Launch} {K : KK} {n : Nat} {hn : 270 ≤ n} (a0 : Nat) (p1 : Int32) (h0 : ob a0 11) : CT l K n 1 mX12_worthAt [.ref (K.2.1 + a0), .int p1] enI (FX12_worthAt a0 p1) := by
  refine CT.of2 (lv2 := [(0, .ref (K.2.1 + a0)), (1, .int p1)]) (by decide) rfl hn (Nat.le_of_ble_eq_true rfl) rfl (rp_id ?_)
  unfold FX12_worthAt
  refine rp_iconst (0 : Int32) dX12_worthAt_0 (by decide) ?_
  refine rp_istore_n [(2, .int (0 : Int32)), (0, .ref (K.2.1 + a0)), (1, .int p1)] dX12_worthAt_1 (by decide) rfl ?_
  refine rp_iload_n 2 dX12_worthAt_2 rfl ?_
  refine rp_istore_n [(3, .int p1), (2, .int (0 : Int32)), (0, .ref (K.2.1 + a0)), (1, .int p1)] dX12_worthAt_3 (by decide) rfl ?_
  refine rp_as ?_
  refine rp_join 140 (fun v19 => [(0, .ref (K.2.1 + a0))]) (fun _ => []) (fun v19 => ?_) (fun hX4_0 => ?_)
  · refine rp_aload_n 0 dX12_worthAt_140 rfl ?_
    refine rp_getR fi_X12_110 h0 rfl dX12_worthAt_141 ?_
    refine rp_iconst (0 : Int32) dX12_worthAt_144 (by decide) ?_
    refine rp_iald (tX12_22 h0) dX12_worthAt_145 (fun x20 => ?_)
    exact rp_pu (rp_iret rfl dX12_worthAt_146)
  refine rp_sub [2, 1, 0] rfl (rp_it (fun (s1 : Int32 × Int32) => [(0, .ref (K.2.1 + a0)), (2, .int s1.1), (3, .int s1.2)]) (fun N4 ih4 s1 => ?_) FU ((0 : Int32), p1))
  refine rp_aload_n 0 dX12_worthAt_4 rfl ?_
  refine rp_getR fi_X12_86 h0 rfl dX12_worthAt_5 ?_
  refine rp_iload_n 2 dX12_worthAt_8 rfl ?_
  refine rp_iald (tX12_11 h0) dX12_worthAt_9 (fun x2 => ?_)
  refine rp_if_eq 140 dX12_worthAt_10 (by decide) ?_ ?_
  · exact rp_sub [0] rfl (rp_pu (hX4_0 ()))
  · refine rp_aload_n 0 dX12_worthAt_13 rfl ?_
    refine rp_getR fi_X12_86 h0 rfl dX12_worthAt_14 ?_
    refine rp_iload_n 2 dX12_worthAt_17 rfl ?_
    refine rp_iald (tX12_11 h0) dX12_worthAt_18 (fun x3 => ?_)
    refine rp_istore [(4, .int x3), (0, .ref (K.2.1 + a0)), (2, .int s1.1), (3, .int s1.2)] dX12_worthAt_19 (by decide) rfl ?_
    refine rp_iload 0 dX12_worthAt_21 rfl ?_
    refine rp_iconst (1 : Int32) dX12_worthAt_23 (by decide) ?_
    refine rp_as ?_
    refine rp_join 134 (fun (v17 : Int32) => [(0, .ref (K.2.1 + a0)), (2, .int v17), (3, .int s1.2)]) (fun v17 => []) (fun v17 => ?_) (fun hJ134 => ?_)
    · refine rp_iinc (fun y18 => [(3, .int y18), (0, .ref (K.2.1 + a0)), (2, .int v17)]) 2 dX12_worthAt_134 rfl (by rfl) (by decide) (fun y18 => rfl) (fun y18 => ?_)
      refine rp_goto 4 dX12_worthAt_137 (by decide) ?_
      exact rp_sub [1, 2, 0] rfl (ih4 (v17, y18))
    refine rp_jn2 33 (fun (v11 : Int32) => [(0, .ref (K.2.1 + a0)), (2, .int v11), (3, .int s1.2), (4, .int x3)]) (fun v11 => []) (fun v11 => ?_) (fun hK33 => ?_)
    · refine rp_aload_n 0 dX12_worthAt_33 rfl ?_
      refine rp_getR fi_X12_110 h0 rfl dX12_worthAt_34 ?_
      refine rp_iload_n 1 dX12_worthAt_37 rfl ?_
      refine rp_iload 3 dX12_worthAt_38 rfl ?_
      refine rp_iconst (1 : Int32) dX12_worthAt_40 (by decide) ?_
      refine rp_as ?_
      refine rp_join 64 (fun (v15 : Int32) => [(0, .ref (K.2.1 + a0)), (2, .int v11), (3, .int s1.2)]) (fun v15 => [.int v15, .int v11, .ref (K.2.1 + (rf a0 22))]) (fun v15 => ?_) (fun hJ64 => ?_)
      · refine rp_iast (tX12_22 h0) dX12_worthAt_64 ?_
        refine rp_iinc (fun y16 => [(2, .int y16), (0, .ref (K.2.1 + a0)), (3, .int s1.2)]) 1 dX12_worthAt_65 rfl (by rfl) (by decide) (fun y16 => rfl) (fun y16 => ?_)
        refine rp_goto 134 dX12_worthAt_68 (by decide) ?_
        exact rp_sub [1, 0, 2] rfl (rp_pu (hJ134 y16))
      refine rp_icmp_ne 53 dX12_worthAt_41 (by decide) ?_ ?_
      · refine rp_aload_n 0 dX12_worthAt_53 rfl ?_
        refine rp_getR fi_X12_107 h0 rfl dX12_worthAt_54 ?_
        refine rp_aload_n 0 dX12_worthAt_57 rfl ?_
        refine rp_getR fi_X12_89 h0 rfl dX12_worthAt_58 ?_
        refine rp_iload_n 2 dX12_worthAt_61 rfl ?_
        refine rp_iald (tX12_12 h0) dX12_worthAt_62 (fun x12 => ?_)
        refine rp_iald (tX12_21 h0) dX12_worthAt_63 (fun x13 => ?_)
        exact rp_sub [0, 1, 2] rfl (rp_pu (hJ64 x13))
      · refine rp_aload_n 0 dX12_worthAt_44 rfl ?_
        refine rp_getR fi_X12_89 h0 rfl dX12_worthAt_45 ?_
        refine rp_iload_n 2 dX12_worthAt_48 rfl ?_
        refine rp_iald (tX12_12 h0) dX12_worthAt_49 (fun x14 => ?_)
        refine rp_goto 64 dX12_worthAt_50 (by decide) ?_
        exact rp_sub [0, 1, 2] rfl (rp_pu (hJ64 x14))
    refine rp_icmp_eq 33 dX12_worthAt_24 (by decide) ?_ ?_
    · exact rp_sub [1, 2, 3, 0] rfl (hK33 s1.1)
    · refine rp_iload 0 dX12_worthAt_27 rfl ?_
      refine rp_iconst (2 : Int32) dX12_worthAt_29 (by decide) ?_
      refine rp_icmp_ne 71 dX12_worthAt_30 (by decide) ?_ ?_
      · refine rp_iload 0 dX12_worthAt_71 rfl ?_
        refine rp_iconst (3 : Int32) dX12_worthAt_73 (by decide) ?_
        refine rp_icmp_ne 104 dX12_worthAt_74 (by decide) ?_ ?_
        · refine rp_iinc (fun y5 => [(2, .int y5), (4, .int x3), (0, .ref (K.2.1 + a0)), (3, .int s1.2)]) 2 dX12_worthAt_104 rfl (by rfl) (by decide) (fun y5 => rfl) (fun y5 => ?_)
          refine rp_aload_n 2 dX12_worthAt_107 rfl ?_
          refine rp_getR fi_X12_110 h0 rfl dX12_worthAt_108 ?_
          refine rp_iload_n 0 dX12_worthAt_111 rfl ?_
          refine rp_iconst (1 : Int32) dX12_worthAt_112 (by decide) ?_
          refine rp_isub dX12_worthAt_113 ?_
          refine rp_iload 1 dX12_worthAt_114 rfl ?_
          refine rp_aload_n 2 dX12_worthAt_116 rfl ?_
          refine rp_getR fi_X12_110 h0 rfl dX12_worthAt_117 ?_
          refine rp_iload_n 0 dX12_worthAt_120 rfl ?_
          refine rp_iconst (1 : Int32) dX12_worthAt_121 (by decide) ?_
          refine rp_isub dX12_worthAt_122 ?_
          refine rp_iald (tX12_22 h0) dX12_worthAt_123 (fun x6 => ?_)
          refine rp_aload_n 2 dX12_worthAt_124 rfl ?_
          refine rp_getR fi_X12_110 h0 rfl dX12_worthAt_125 ?_
          refine rp_iload_n 0 dX12_worthAt_128 rfl ?_
          refine rp_iald (tX12_22 h0) dX12_worthAt_129 (fun x7 => ?_)
          refine rp_callSi [.int x3, .int x6, .int x7] (SX12_both (hn := hn) x3 x6 x7) csX12_both (mw (i := 1655) (by decide +kernel)) (by omega) rfl rfl (Nat.le_of_ble_eq_true rfl) dX12_worthAt_130 (fun x8 => ?_)
          refine rp_iast (tX12_22 h0) dX12_worthAt_133 ?_
          exact rp_sub [2, 0, 3] rfl (rp_pu (hJ134 y5))
        · refine rp_aload_n 1 dX12_worthAt_77 rfl ?_
          refine rp_getR fi_X12_110 h0 rfl dX12_worthAt_78 ?_
          refine rp_iload_n 2 dX12_worthAt_81 rfl ?_
          refine rp_iconst (1 : Int32) dX12_worthAt_82 (by decide) ?_
          refine rp_isub dX12_worthAt_83 ?_
          refine rp_aload_n 1 dX12_worthAt_84 rfl ?_
          refine rp_getR fi_X12_110 h0 rfl dX12_worthAt_85 ?_
          refine rp_iload_n 2 dX12_worthAt_88 rfl ?_
          refine rp_iconst (1 : Int32) dX12_worthAt_89 (by decide) ?_
          refine rp_isub dX12_worthAt_90 ?_
          refine rp_iald (tX12_22 h0) dX12_worthAt_91 (fun x9 => ?_)
          refine rp_as ?_
          refine rp_join 100 (fun (v10 : Int32) => [(0, .ref (K.2.1 + a0)), (2, .int s1.1), (3, .int s1.2)]) (fun v10 => [.int v10, .int (s1.1 - (1 : Int32)), .ref (K.2.1 + (rf a0 22))]) (fun v10 => ?_) (fun hJ100 => ?_)
          · refine rp_iast (tX12_22 h0) dX12_worthAt_100 ?_
            refine rp_goto 134 dX12_worthAt_101 (by decide) ?_
            exact rp_sub [0, 1, 2] rfl (rp_pu (hJ134 s1.1))
          refine rp_if_ne 99 dX12_worthAt_92 (by decide) ?_ ?_
          · refine rp_iconst (0 : Int32) dX12_worthAt_99 (by decide) ?_
            exact rp_sub [1, 2, 3] rfl (rp_pu (hJ100 (0 : Int32)))
          · refine rp_iconst (1 : Int32) dX12_worthAt_95 (by decide) ?_
            refine rp_goto 100 dX12_worthAt_96 (by decide) ?_
            exact rp_sub [1, 2, 3] rfl (rp_pu (hJ100 (1 : Int32)))
      · exact rp_sub [1, 2, 3, 0] rfl (hK33 s1.1)

theorem dX12_copies_0 : decode cX12_copies 0 = .ok (.iconst 0, 1) := by decide +kernel
theorem dX12_copies_1 : decode cX12_copies 1 = .ok (.istore 4, 2) := by decide +kernel
theorem dX12_copies_3 : decode cX12_copies 3 = .ok (.iload 4, 2) := by decide +kernel
theorem dX12_copies_5 : decode cX12_copies 5 = .ok (.iload_n 3, 1) := by decide +kernel
theorem dX12_copies_6 : decode cX12_copies 6 = .ok (.if_icmp .ge 27, 3) := by decide +kernel
theorem dX12_copies_9 : decode cX12_copies 9 = .ok (.aload_n 0, 1) := by decide +kernel
theorem dX12_copies_10 : decode cX12_copies 10 = .ok (.getfield 113, 3) := by decide +kernel
theorem dX12_copies_13 : decode cX12_copies 13 = .ok (.iload_n 2, 1) := by decide +kernel
theorem dX12_copies_14 : decode cX12_copies 14 = .ok (.iload 4, 2) := by decide +kernel
theorem dX12_copies_16 : decode cX12_copies 16 = .ok (.iadd, 1) := by decide +kernel
theorem dX12_copies_17 : decode cX12_copies 17 = .ok (.aload_n 0, 1) := by decide +kernel
theorem dX12_copies_18 : decode cX12_copies 18 = .ok (.getfield 113, 3) := by decide +kernel
theorem dX12_copies_21 : decode cX12_copies 21 = .ok (.iload_n 1, 1) := by decide +kernel
theorem dX12_copies_22 : decode cX12_copies 22 = .ok (.iload 4, 2) := by decide +kernel
theorem dX12_copies_24 : decode cX12_copies 24 = .ok (.iadd, 1) := by decide +kernel
theorem dX12_copies_25 : decode cX12_copies 25 = .ok (.iaload, 1) := by decide +kernel
theorem dX12_copies_26 : decode cX12_copies 26 = .ok (.iastore, 1) := by decide +kernel
theorem dX12_copies_27 : decode cX12_copies 27 = .ok (.iinc 4 1, 3) := by decide +kernel
theorem dX12_copies_30 : decode cX12_copies 30 = .ok (.goto (-27), 3) := by decide +kernel
theorem dX12_copies_33 : decode cX12_copies 33 = .ok (.return_, 1) := by decide +kernel
abbrev mX12_copies : MI := (RX12, yX12_copies, cX12_copies, 5, none)
theorem cvX12_copies : CV mX12_copies 3 := ⟨⟨mw (i := 1626) (by decide +kernel), mw (i := 12) (by decide +kernel), ⟨by decide +kernel, by decide +kernel, by decide +kernel⟩, by decide⟩, mw (i := 1625) (by decide +kernel), mp2 (i := 85) 31 (by decide +kernel)⟩
def FX12_copies (a0 : Nat) (p1 : Int32) (p2 : Int32) (p3 : Int32) : PP Unit := bd (it (fun (s1 : Int32) => (if p3 ≤ s1 then pu (Sum.inr ()) else bd (aI (rf a0 23) 966 (p1 + s1)) (fun x2 => bd (uI (rf a0 23) 966 (p2 + s1) x2) (fun (_ : Unit) => lt (s1 + (1 : Int32)) (fun y3 => pu (Sum.inl y3)))) : PP ((Int32) ⊕ (Unit)))) FU (0 : Int32)) (fun (v4 : Unit) => pu ())
set_option maxHeartbeats 4000000 in
set_option maxRecDepth 100000 in
theorem SX12_copies {l : Launch} {K : KK} {n : Nat} {hn : 270 ≤ n} (a0 : Nat) (p1 : Int32) (p2 : Int32) (p3 : Int32) (h0 : ob a0 11) : CT l K n 0 mX12_copies [.ref (K.2.1 + a0), .int p1, .int p2, .int p3] enU (FX12_copies a0 p1 p2 p3) := by
  refine CT.of2 (lv2 := [(0, .ref (K.2.1 + a0)), (1, .int p1), (2, .int p2), (3, .int p3)]) (by decide) rfl hn (Nat.le_of_ble_eq_true rfl) rfl (rp_id ?_)
  unfold FX12_copies
  refine rp_iconst (0 : Int32) dX12_copies_0 (by decide) ?_
  refine rp_istore [(4, .int (0 : Int32)), (0, .ref (K.2.1 + a0)), (1, .int p1), (2, .int p2), (3, .int p3)] dX12_copies_1 (by decide) rfl ?_
  refine rp_as ?_
  refine rp_join 33 (fun v4 => []) (fun _ => []) (fun v4 => ?_) (fun hX3_0 => ?_)
  · exact rp_pu (rp_vret rfl dX12_copies_33)
  refine rp_sub [1, 2, 3, 4, 0] rfl (rp_it (fun (s1 : Int32) => [(0, .ref (K.2.1 + a0)), (1, .int p1), (2, .int p2), (3, .int p3), (4, .int s1)]) (fun N3 ih3 s1 => ?_) FU (0 : Int32))
  refine rp_iload 4 dX12_copies_3 rfl ?_
  refine rp_iload_n 3 dX12_copies_5 rfl ?_
  refine rp_icmp_ge 33 dX12_copies_6 (by decide) ?_ ?_
  · exact rp_sub [] rfl (rp_pu (hX3_0 ()))
  · refine rp_aload_n 0 dX12_copies_9 rfl ?_
    refine rp_getR fi_X12_113 h0 rfl dX12_copies_10 ?_
    refine rp_iload_n 2 dX12_copies_13 rfl ?_
    refine rp_iload 4 dX12_copies_14 rfl ?_
    refine rp_iadd dX12_copies_16 ?_
    refine rp_aload_n 0 dX12_copies_17 rfl ?_
    refine rp_getR fi_X12_113 h0 rfl dX12_copies_18 ?_
    refine rp_iload_n 1 dX12_copies_21 rfl ?_
    refine rp_iload 4 dX12_copies_22 rfl ?_
    refine rp_iadd dX12_copies_24 ?_
    refine rp_iald (tX12_23 h0) dX12_copies_25 (fun x2 => ?_)
    refine rp_iast (tX12_23 h0) dX12_copies_26 ?_
    refine rp_iinc (fun y3 => [(4, .int y3), (0, .ref (K.2.1 + a0)), (1, .int p1), (2, .int p2), (3, .int p3)]) 4 dX12_copies_27 rfl (by rfl) (by decide) (fun y3 => rfl) (fun y3 => ?_)
    refine rp_goto 3 dX12_copies_30 (by decide) ?_
    exact rp_sub [1, 2, 3, 4, 0] rfl (ih3 y3)

theorem dX12_keeps_0 : decode cX12_keeps 0 = .ok (.aload_n 0, 1) := by decide +kernel
theorem dX12_keeps_1 : decode cX12_keeps 1 = .ok (.getfield 279, 3) := by decide +kernel
theorem dX12_keeps_4 : decode cX12_keeps 4 = .ok (.bipush 16, 2) := by decide +kernel
theorem dX12_keeps_6 : decode cX12_keeps 6 = .ok (.if_icmp .ne 47, 3) := by decide +kernel
theorem dX12_keeps_9 : decode cX12_keeps 9 = .ok (.iconst 1, 1) := by decide +kernel
theorem dX12_keeps_10 : decode cX12_keeps 10 = .ok (.istore_n 1, 1) := by decide +kernel
theorem dX12_keeps_11 : decode cX12_keeps 11 = .ok (.iload_n 1, 1) := by decide +kernel
theorem dX12_keeps_12 : decode cX12_keeps 12 = .ok (.bipush 16, 2) := by decide +kernel
theorem dX12_keeps_14 : decode cX12_keeps 14 = .ok (.if_icmp .ge 29, 3) := by decide +kernel
theorem dX12_keeps_17 : decode cX12_keeps 17 = .ok (.aload_n 0, 1) := by decide +kernel
theorem dX12_keeps_18 : decode cX12_keeps 18 = .ok (.bipush 42, 2) := by decide +kernel
theorem dX12_keeps_20 : decode cX12_keeps 20 = .ok (.iconst 5, 1) := by decide +kernel
theorem dX12_keeps_21 : decode cX12_keeps 21 = .ok (.iload_n 1, 1) := by decide +kernel
theorem dX12_keeps_22 : decode cX12_keeps 22 = .ok (.iadd, 1) := by decide +kernel
theorem dX12_keeps_23 : decode cX12_keeps 23 = .ok (.imul, 1) := by decide +kernel
theorem dX12_keeps_24 : decode cX12_keeps 24 = .ok (.bipush 42, 2) := by decide +kernel
theorem dX12_keeps_26 : decode cX12_keeps 26 = .ok (.iconst 5, 1) := by decide +kernel
theorem dX12_keeps_27 : decode cX12_keeps 27 = .ok (.iload_n 1, 1) := by decide +kernel
theorem dX12_keeps_28 : decode cX12_keeps 28 = .ok (.iadd, 1) := by decide +kernel
theorem dX12_keeps_29 : decode cX12_keeps 29 = .ok (.iconst 1, 1) := by decide +kernel
theorem dX12_keeps_30 : decode cX12_keeps 30 = .ok (.isub, 1) := by decide +kernel
theorem dX12_keeps_31 : decode cX12_keeps 31 = .ok (.imul, 1) := by decide +kernel
theorem dX12_keeps_32 : decode cX12_keeps 32 = .ok (.bipush 19, 2) := by decide +kernel
theorem dX12_keeps_34 : decode cX12_keeps 34 = .ok (.invokevirtual 282, 3) := by decide +kernel
theorem dX12_keeps_37 : decode cX12_keeps 37 = .ok (.iinc 1 1, 3) := by decide +kernel
theorem dX12_keeps_40 : decode cX12_keeps 40 = .ok (.goto (-29), 3) := by decide +kernel
theorem dX12_keeps_43 : decode cX12_keeps 43 = .ok (.aload_n 0, 1) := by decide +kernel
theorem dX12_keeps_44 : decode cX12_keeps 44 = .ok (.dup, 1) := by decide +kernel
theorem dX12_keeps_45 : decode cX12_keeps 45 = .ok (.getfield 279, 3) := by decide +kernel
theorem dX12_keeps_48 : decode cX12_keeps 48 = .ok (.iconst 1, 1) := by decide +kernel
theorem dX12_keeps_49 : decode cX12_keeps 49 = .ok (.isub, 1) := by decide +kernel
theorem dX12_keeps_50 : decode cX12_keeps 50 = .ok (.putfield 279, 3) := by decide +kernel
theorem dX12_keeps_53 : decode cX12_keeps 53 = .ok (.aload_n 0, 1) := by decide +kernel
theorem dX12_keeps_54 : decode cX12_keeps 54 = .ok (.iconst 0, 1) := by decide +kernel
theorem dX12_keeps_55 : decode cX12_keeps 55 = .ok (.bipush 42, 2) := by decide +kernel
theorem dX12_keeps_57 : decode cX12_keeps 57 = .ok (.iconst 5, 1) := by decide +kernel
theorem dX12_keeps_58 : decode cX12_keeps 58 = .ok (.aload_n 0, 1) := by decide +kernel
theorem dX12_keeps_59 : decode cX12_keeps 59 = .ok (.getfield 279, 3) := by decide +kernel
theorem dX12_keeps_62 : decode cX12_keeps 62 = .ok (.iadd, 1) := by decide +kernel
theorem dX12_keeps_63 : decode cX12_keeps 63 = .ok (.imul, 1) := by decide +kernel
theorem dX12_keeps_64 : decode cX12_keeps 64 = .ok (.bipush 19, 2) := by decide +kernel
theorem dX12_keeps_66 : decode cX12_keeps 66 = .ok (.invokevirtual 282, 3) := by decide +kernel
theorem dX12_keeps_69 : decode cX12_keeps 69 = .ok (.aload_n 0, 1) := by decide +kernel
theorem dX12_keeps_70 : decode cX12_keeps 70 = .ok (.dup, 1) := by decide +kernel
theorem dX12_keeps_71 : decode cX12_keeps 71 = .ok (.getfield 279, 3) := by decide +kernel
theorem dX12_keeps_74 : decode cX12_keeps 74 = .ok (.iconst 1, 1) := by decide +kernel
theorem dX12_keeps_75 : decode cX12_keeps 75 = .ok (.iadd, 1) := by decide +kernel
theorem dX12_keeps_76 : decode cX12_keeps 76 = .ok (.putfield 279, 3) := by decide +kernel
theorem dX12_keeps_79 : decode cX12_keeps 79 = .ok (.return_, 1) := by decide +kernel
abbrev mX12_keeps : MI := (RX12, yX12_keeps, cX12_keeps, 2, none)
theorem cvX12_keeps : CV mX12_keeps 0 := ⟨⟨mw (i := 1622) (by decide +kernel), mw (i := 12) (by decide +kernel), ⟨by decide +kernel, by decide +kernel, by decide +kernel⟩, by decide⟩, mw (i := 1621) (by decide +kernel), mp2 (i := 84) 31 (by decide +kernel)⟩
def FX12_keeps (a0 : Nat) : PP Unit := bd (gI a0 24) (fun x1 => bd (if x1 = (16 : Int32) then bd (it (fun (s2 : Int32) => (if (16 : Int32) ≤ s2 then pu (Sum.inr ()) else bd (FX12_copies a0 ((42 : Int32) * ((5 : Int32) + s2)) ((42 : Int32) * (((5 : Int32) + s2) - (1 : Int32))) (19 : Int32)) (fun (_ : Unit) => lt (s2 + (1 : Int32)) (fun y4 => pu (Sum.inl y4))) : PP ((Int32) ⊕ (Unit)))) FU (1 : Int32)) (fun (v5 : Unit) => bd (gI a0 24) (fun x6 => bd (sI a0 24 (x6 - (1 : Int32))) (fun (_ : Unit) => pu ()))) else pu () : PP (Unit)) (fun (v7 : Unit) => bd (gI a0 24) (fun x8 => bd (FX12_copies a0 (0 : Int32) ((42 : Int32) * ((5 : Int32) + x8)) (19 : Int32)) (fun (_ : Unit) => bd (gI a0 24) (fun x10 => bd (sI a0 24 (x10 + (1 : Int32))) (fun (_ : Unit) => pu ()))))))
set_option maxHeartbeats 4000000 in
set_option maxRecDepth 100000 in
theorem SX12_keeps {l : Launch} {K : KK} {n : Nat} {hn : 270 ≤ n} (a0 : Nat) (h0 : ob a0 11) : CT l K n 1 mX12_keeps [.ref (K.2.1 + a0)] enU (FX12_keeps a0) := by
  refine CT.of2 (lv2 := [(0, .ref (K.2.1 + a0))]) (by decide) rfl hn (Nat.le_of_ble_eq_true rfl) rfl (rp_id ?_)
  unfold FX12_keeps
  refine rp_aload_n 0 dX12_keeps_0 rfl ?_
  refine rp_getI fi_X12_279 h0 rfl dX12_keeps_1 (fun x1 => ?_)
  refine rp_bipush (16 : Int32) dX12_keeps_4 (by decide) ?_
  refine rp_as ?_
  refine rp_join 53 (fun (v7 : Unit) => [(0, .ref (K.2.1 + a0))]) (fun v7 => []) (fun v7 => ?_) (fun hJ53 => ?_)
  · refine rp_aload_n 0 dX12_keeps_53 rfl ?_
    refine rp_iconst (0 : Int32) dX12_keeps_54 (by decide) ?_
    refine rp_bipush (42 : Int32) dX12_keeps_55 (by decide) ?_
    refine rp_iconst (5 : Int32) dX12_keeps_57 (by decide) ?_
    refine rp_aload_n 0 dX12_keeps_58 rfl ?_
    refine rp_getI fi_X12_279 h0 rfl dX12_keeps_59 (fun x8 => ?_)
    refine rp_iadd dX12_keeps_62 ?_
    refine rp_imul dX12_keeps_63 ?_
    refine rp_bipush (19 : Int32) dX12_keeps_64 (by decide) ?_
    refine rp_callVv [.int (0 : Int32), .int ((42 : Int32) * ((5 : Int32) + x8)), .int (19 : Int32)] (SX12_copies (hn := hn) a0 (0 : Int32) ((42 : Int32) * ((5 : Int32) + x8)) (19 : Int32) h0) cvX12_copies (mw (i := 1623) (by decide +kernel)) (by omega) h0 (by decide) rfl rfl rfl (Nat.le_of_ble_eq_true rfl) dX12_keeps_66 (fun x9 => ?_)
    refine rp_aload_n 0 dX12_keeps_69 rfl ?_
    refine rp_dup dX12_keeps_70 rfl ?_
    refine rp_getI fi_X12_279 h0 rfl dX12_keeps_71 (fun x10 => ?_)
    refine rp_iconst (1 : Int32) dX12_keeps_74 (by decide) ?_
    refine rp_iadd dX12_keeps_75 ?_
    refine rp_putI fi_X12_279 fp_X12_24 h0 rfl dX12_keeps_76 ?_
    exact rp_pu (rp_vret rfl dX12_keeps_79)
  refine rp_icmp_ne 53 dX12_keeps_6 (by decide) ?_ ?_
  · exact rp_sub [0] rfl (rp_pu (hJ53 ()))
  · refine rp_iconst (1 : Int32) dX12_keeps_9 (by decide) ?_
    refine rp_istore_n [(1, .int (1 : Int32)), (0, .ref (K.2.1 + a0))] dX12_keeps_10 (by decide) rfl ?_
    refine rp_as ?_
    refine rp_join 43 (fun v5 => [(0, .ref (K.2.1 + a0))]) (fun _ => []) (fun v5 => ?_) (fun hX11_0 => ?_)
    · refine rp_aload_n 0 dX12_keeps_43 rfl ?_
      refine rp_dup dX12_keeps_44 rfl ?_
      refine rp_getI fi_X12_279 h0 rfl dX12_keeps_45 (fun x6 => ?_)
      refine rp_iconst (1 : Int32) dX12_keeps_48 (by decide) ?_
      refine rp_isub dX12_keeps_49 ?_
      refine rp_putI fi_X12_279 fp_X12_24 h0 rfl dX12_keeps_50 ?_
      exact rp_sub [0] rfl (rp_pu (hJ53 ()))
    refine rp_sub [1, 0] rfl (rp_it (fun (s2 : Int32) => [(0, .ref (K.2.1 + a0)), (1, .int s2)]) (fun N11 ih11 s2 => ?_) FU (1 : Int32))
    refine rp_iload_n 1 dX12_keeps_11 rfl ?_
    refine rp_bipush (16 : Int32) dX12_keeps_12 (by decide) ?_
    refine rp_icmp_ge 43 dX12_keeps_14 (by decide) ?_ ?_
    · exact rp_sub [0] rfl (rp_pu (hX11_0 ()))
    · refine rp_aload_n 0 dX12_keeps_17 rfl ?_
      refine rp_bipush (42 : Int32) dX12_keeps_18 (by decide) ?_
      refine rp_iconst (5 : Int32) dX12_keeps_20 (by decide) ?_
      refine rp_iload_n 1 dX12_keeps_21 rfl ?_
      refine rp_iadd dX12_keeps_22 ?_
      refine rp_imul dX12_keeps_23 ?_
      refine rp_bipush (42 : Int32) dX12_keeps_24 (by decide) ?_
      refine rp_iconst (5 : Int32) dX12_keeps_26 (by decide) ?_
      refine rp_iload_n 1 dX12_keeps_27 rfl ?_
      refine rp_iadd dX12_keeps_28 ?_
      refine rp_iconst (1 : Int32) dX12_keeps_29 (by decide) ?_
      refine rp_isub dX12_keeps_30 ?_
      refine rp_imul dX12_keeps_31 ?_
      refine rp_bipush (19 : Int32) dX12_keeps_32 (by decide) ?_
      refine rp_callVv [.int ((42 : Int32) * ((5 : Int32) + s2)), .int ((42 : Int32) * (((5 : Int32) + s2) - (1 : Int32))), .int (19 : Int32)] (SX12_copies (hn := hn) a0 ((42 : Int32) * ((5 : Int32) + s2)) ((42 : Int32) * (((5 : Int32) + s2) - (1 : Int32))) (19 : Int32) h0) cvX12_copies (mw (i := 1623) (by decide +kernel)) (by omega) h0 (by decide) rfl rfl rfl (Nat.le_of_ble_eq_true rfl) dX12_keeps_34 (fun x3 => ?_)
      refine rp_iinc (fun y4 => [(1, .int y4), (0, .ref (K.2.1 + a0))]) 1 dX12_keeps_37 rfl (by rfl) (by decide) (fun y4 => rfl) (fun y4 => ?_)
      refine rp_goto 11 dX12_keeps_40 (by decide) ?_
      exact rp_sub [1, 0] rfl (ih11 y4)

theorem dX12_lines_0 : decode cX12_lines 0 = .ok (.aload_n 0, 1) := by decide +kernel
theorem dX12_lines_1 : decode cX12_lines 1 = .ok (.getfield 83, 3) := by decide +kernel
theorem dX12_lines_4 : decode cX12_lines 4 = .ok (.iconst 0, 1) := by decide +kernel
theorem dX12_lines_5 : decode cX12_lines 5 = .ok (.iaload, 1) := by decide +kernel
theorem dX12_lines_6 : decode cX12_lines 6 = .ok (.ireturn, 1) := by decide +kernel
abbrev mX12_lines : MI := (RX12, yX12_lines, cX12_lines, 1, some .int)
theorem cvX12_lines : CV mX12_lines 0 := ⟨⟨mw (i := 1554) (by decide +kernel), mw (i := 12) (by decide +kernel), ⟨by decide +kernel, by decide +kernel, by decide +kernel⟩, by decide⟩, mw (i := 1553) (by decide +kernel), mp2 (i := 70) 31 (by decide +kernel)⟩
def FX12_lines (a0 : Nat) : PP Int32 := bd (aI (rf a0 10) 80 (0 : Int32)) (fun x1 => pu x1)
set_option maxHeartbeats 4000000 in
set_option maxRecDepth 100000 in
theorem SX12_lines {l : Launch} {K : KK} {n : Nat} {hn : 270 ≤ n} (a0 : Nat) (h0 : ob a0 11) : CT l K n 0 mX12_lines [.ref (K.2.1 + a0)] enI (FX12_lines a0) := by
  refine CT.of2 (lv2 := [(0, .ref (K.2.1 + a0))]) (by decide) rfl hn (Nat.le_of_ble_eq_true rfl) rfl (rp_id ?_)
  unfold FX12_lines
  refine rp_aload_n 0 dX12_lines_0 rfl ?_
  refine rp_getR fi_X12_83 h0 rfl dX12_lines_1 ?_
  refine rp_iconst (0 : Int32) dX12_lines_4 (by decide) ?_
  refine rp_iald (tX12_10 h0) dX12_lines_5 (fun x1 => ?_)
  exact rp_pu (rp_iret rfl dX12_lines_6)

theorem dX12_places_0 : decode cX12_places 0 = .ok (.aload_n 0, 1) := by decide +kernel
theorem dX12_places_1 : decode cX12_places 1 = .ok (.getfield 83, 3) := by decide +kernel
theorem dX12_places_4 : decode cX12_places 4 = .ok (.iconst 1, 1) := by decide +kernel
theorem dX12_places_5 : decode cX12_places 5 = .ok (.iaload, 1) := by decide +kernel
theorem dX12_places_6 : decode cX12_places 6 = .ok (.ireturn, 1) := by decide +kernel
abbrev mX12_places : MI := (RX12, yX12_places, cX12_places, 1, some .int)
theorem cvX12_places : CV mX12_places 0 := ⟨⟨mw (i := 1586) (by decide +kernel), mw (i := 12) (by decide +kernel), ⟨by decide +kernel, by decide +kernel, by decide +kernel⟩, by decide⟩, mw (i := 1585) (by decide +kernel), mp2 (i := 76) 31 (by decide +kernel)⟩
def FX12_places (a0 : Nat) : PP Int32 := bd (aI (rf a0 10) 80 (1 : Int32)) (fun x1 => pu x1)
set_option maxHeartbeats 4000000 in
set_option maxRecDepth 100000 in
theorem SX12_places {l : Launch} {K : KK} {n : Nat} {hn : 270 ≤ n} (a0 : Nat) (h0 : ob a0 11) : CT l K n 0 mX12_places [.ref (K.2.1 + a0)] enI (FX12_places a0) := by
  refine CT.of2 (lv2 := [(0, .ref (K.2.1 + a0))]) (by decide) rfl hn (Nat.le_of_ble_eq_true rfl) rfl (rp_id ?_)
  unfold FX12_places
  refine rp_aload_n 0 dX12_places_0 rfl ?_
  refine rp_getR fi_X12_83 h0 rfl dX12_places_1 ?_
  refine rp_iconst (1 : Int32) dX12_places_4 (by decide) ?_
  refine rp_iald (tX12_10 h0) dX12_places_5 (fun x1 => ?_)
  exact rp_pu (rp_iret rfl dX12_places_6)

theorem dX12_lineOf_0 : decode cX12_lineOf 0 = .ok (.aload_n 0, 1) := by decide +kernel
theorem dX12_lineOf_1 : decode cX12_lineOf 1 = .ok (.getfield 83, 3) := by decide +kernel
theorem dX12_lineOf_4 : decode cX12_lineOf 4 = .ok (.iconst 4, 1) := by decide +kernel
theorem dX12_lineOf_5 : decode cX12_lineOf 5 = .ok (.iconst 2, 1) := by decide +kernel
theorem dX12_lineOf_6 : decode cX12_lineOf 6 = .ok (.iload_n 1, 1) := by decide +kernel
theorem dX12_lineOf_7 : decode cX12_lineOf 7 = .ok (.imul, 1) := by decide +kernel
theorem dX12_lineOf_8 : decode cX12_lineOf 8 = .ok (.iadd, 1) := by decide +kernel
theorem dX12_lineOf_9 : decode cX12_lineOf 9 = .ok (.iload_n 2, 1) := by decide +kernel
theorem dX12_lineOf_10 : decode cX12_lineOf 10 = .ok (.iadd, 1) := by decide +kernel
theorem dX12_lineOf_11 : decode cX12_lineOf 11 = .ok (.iaload, 1) := by decide +kernel
theorem dX12_lineOf_12 : decode cX12_lineOf 12 = .ok (.ireturn, 1) := by decide +kernel
abbrev mX12_lineOf : MI := (RX12, yX12_lineOf, cX12_lineOf, 3, some .int)
theorem cvX12_lineOf : CV mX12_lineOf 2 := ⟨⟨mw (i := 1558) (by decide +kernel), mw (i := 12) (by decide +kernel), ⟨by decide +kernel, by decide +kernel, by decide +kernel⟩, by decide⟩, mw (i := 1557) (by decide +kernel), mp2 (i := 71) 31 (by decide +kernel)⟩
def FX12_lineOf (a0 : Nat) (p1 : Int32) (p2 : Int32) : PP Int32 := bd (aI (rf a0 10) 80 (((4 : Int32) + ((2 : Int32) * p1)) + p2)) (fun x1 => pu x1)
set_option maxHeartbeats 4000000 in
set_option maxRecDepth 100000 in
theorem SX12_lineOf {l : Launch} {K : KK} {n : Nat} {hn : 270 ≤ n} (a0 : Nat) (p1 : Int32) (p2 : Int32) (h0 : ob a0 11) : CT l K n 0 mX12_lineOf [.ref (K.2.1 + a0), .int p1, .int p2] enI (FX12_lineOf a0 p1 p2) := by
  refine CT.of2 (lv2 := [(0, .ref (K.2.1 + a0)), (1, .int p1), (2, .int p2)]) (by decide) rfl hn (Nat.le_of_ble_eq_true rfl) rfl (rp_id ?_)
  unfold FX12_lineOf
  refine rp_aload_n 0 dX12_lineOf_0 rfl ?_
  refine rp_getR fi_X12_83 h0 rfl dX12_lineOf_1 ?_
  refine rp_iconst (4 : Int32) dX12_lineOf_4 (by decide) ?_
  refine rp_iconst (2 : Int32) dX12_lineOf_5 (by decide) ?_
  refine rp_iload_n 1 dX12_lineOf_6 rfl ?_
  refine rp_imul dX12_lineOf_7 ?_
  refine rp_iadd dX12_lineOf_8 ?_
  refine rp_iload_n 2 dX12_lineOf_9 rfl ?_
  refine rp_iadd dX12_lineOf_10 ?_
  refine rp_iald (tX12_10 h0) dX12_lineOf_11 (fun x1 => ?_)
  exact rp_pu (rp_iret rfl dX12_lineOf_12)

theorem dX12_isLine_0 : decode cX12_isLine 0 = .ok (.iload_n 1, 1) := by decide +kernel
theorem dX12_isLine_1 : decode cX12_isLine 1 = .ok (.ifCond .lt 15, 3) := by decide +kernel
theorem dX12_isLine_4 : decode cX12_isLine 4 = .ok (.iload_n 1, 1) := by decide +kernel
theorem dX12_isLine_5 : decode cX12_isLine 5 = .ok (.aload_n 0, 1) := by decide +kernel
theorem dX12_isLine_6 : decode cX12_isLine 6 = .ok (.invokevirtual 285, 3) := by decide +kernel
theorem dX12_isLine_9 : decode cX12_isLine 9 = .ok (.if_icmp .ge 7, 3) := by decide +kernel
theorem dX12_isLine_12 : decode cX12_isLine 12 = .ok (.iconst 1, 1) := by decide +kernel
theorem dX12_isLine_13 : decode cX12_isLine 13 = .ok (.goto 4, 3) := by decide +kernel
theorem dX12_isLine_16 : decode cX12_isLine 16 = .ok (.iconst 0, 1) := by decide +kernel
theorem dX12_isLine_17 : decode cX12_isLine 17 = .ok (.ireturn, 1) := by decide +kernel
abbrev mX12_isLine : MI := (RX12, yX12_isLine, cX12_isLine, 2, some .boolean)
theorem cvX12_isLine : CV mX12_isLine 1 := ⟨⟨mw (i := 1550) (by decide +kernel), mw (i := 12) (by decide +kernel), ⟨by decide +kernel, by decide +kernel, by decide +kernel⟩, by decide⟩, mw (i := 1549) (by decide +kernel), mp2 (i := 69) 31 (by decide +kernel)⟩
def FX12_isLine (a0 : Nat) (p1 : Int32) : PP Bool := bd (if p1 < 0 then pu (0 : Int32) else bd (FX12_lines a0) (fun x1 => if x1 ≤ p1 then pu (0 : Int32) else pu (1 : Int32)) : PP (Int32)) (fun (v2 : Int32) => zb v2)
set_option maxHeartbeats 4000000 in
set_option maxRecDepth 100000 in
theorem SX12_isLine {l : Launch} {K : KK} {n : Nat} {hn : 270 ≤ n} (a0 : Nat) (p1 : Int32) (h0 : ob a0 11) : CT l K n 1 mX12_isLine [.ref (K.2.1 + a0), .int p1] enZ (FX12_isLine a0 p1) := by
  refine CT.of2 (lv2 := [(0, .ref (K.2.1 + a0)), (1, .int p1)]) (by decide) rfl hn (Nat.le_of_ble_eq_true rfl) rfl (rp_id ?_)
  unfold FX12_isLine
  refine rp_iload_n 1 dX12_isLine_0 rfl ?_
  refine rp_as ?_
  refine rp_join 17 (fun (v2 : Int32) => []) (fun v2 => [.int v2]) (fun v2 => ?_) (fun hJ17 => ?_)
  · exact rp_zretb rfl dX12_isLine_17
  refine rp_if_lt 16 dX12_isLine_1 (by decide) ?_ ?_
  · refine rp_iconst (0 : Int32) dX12_isLine_16 (by decide) ?_
    exact rp_sub [] rfl (rp_pu (hJ17 (0 : Int32)))
  · refine rp_iload_n 1 dX12_isLine_4 rfl ?_
    refine rp_aload_n 0 dX12_isLine_5 rfl ?_
    refine rp_callVi [] (SX12_lines (hn := hn) a0 h0) cvX12_lines (mw (i := 1551) (by decide +kernel)) (by omega) h0 (by decide) rfl rfl rfl (Nat.le_of_ble_eq_true rfl) dX12_isLine_6 (fun x1 => ?_)
    refine rp_icmp_ge 16 dX12_isLine_9 (by decide) ?_ ?_
    · refine rp_iconst (0 : Int32) dX12_isLine_16 (by decide) ?_
      exact rp_sub [] rfl (rp_pu (hJ17 (0 : Int32)))
    · refine rp_iconst (1 : Int32) dX12_isLine_12 (by decide) ?_
      refine rp_goto 17 dX12_isLine_13 (by decide) ?_
      exact rp_sub [] rfl (rp_pu (hJ17 (1 : Int32)))

theorem dX12_isPlace_0 : decode cX12_isPlace 0 = .ok (.iload_n 1, 1) := by decide +kernel
theorem dX12_isPlace_1 : decode cX12_isPlace 1 = .ok (.ifCond .lt 15, 3) := by decide +kernel
theorem dX12_isPlace_4 : decode cX12_isPlace 4 = .ok (.iload_n 1, 1) := by decide +kernel
theorem dX12_isPlace_5 : decode cX12_isPlace 5 = .ok (.aload_n 0, 1) := by decide +kernel
theorem dX12_isPlace_6 : decode cX12_isPlace 6 = .ok (.invokevirtual 288, 3) := by decide +kernel
theorem dX12_isPlace_9 : decode cX12_isPlace 9 = .ok (.if_icmp .ge 7, 3) := by decide +kernel
theorem dX12_isPlace_12 : decode cX12_isPlace 12 = .ok (.iconst 1, 1) := by decide +kernel
theorem dX12_isPlace_13 : decode cX12_isPlace 13 = .ok (.goto 4, 3) := by decide +kernel
theorem dX12_isPlace_16 : decode cX12_isPlace 16 = .ok (.iconst 0, 1) := by decide +kernel
theorem dX12_isPlace_17 : decode cX12_isPlace 17 = .ok (.ireturn, 1) := by decide +kernel
abbrev mX12_isPlace : MI := (RX12, yX12_isPlace, cX12_isPlace, 2, some .boolean)
theorem cvX12_isPlace : CV mX12_isPlace 1 := ⟨⟨mw (i := 1582) (by decide +kernel), mw (i := 12) (by decide +kernel), ⟨by decide +kernel, by decide +kernel, by decide +kernel⟩, by decide⟩, mw (i := 1581) (by decide +kernel), mp2 (i := 75) 31 (by decide +kernel)⟩
def FX12_isPlace (a0 : Nat) (p1 : Int32) : PP Bool := bd (if p1 < 0 then pu (0 : Int32) else bd (FX12_places a0) (fun x1 => if x1 ≤ p1 then pu (0 : Int32) else pu (1 : Int32)) : PP (Int32)) (fun (v2 : Int32) => zb v2)
set_option maxHeartbeats 4000000 in
set_option maxRecDepth 100000 in
theorem SX12_isPlace {l : Launch} {K : KK} {n : Nat} {hn : 270 ≤ n} (a0 : Nat) (p1 : Int32) (h0 : ob a0 11) : CT l K n 1 mX12_isPlace [.ref (K.2.1 + a0), .int p1] enZ (FX12_isPlace a0 p1) := by
  refine CT.of2 (lv2 := [(0, .ref (K.2.1 + a0)), (1, .int p1)]) (by decide) rfl hn (Nat.le_of_ble_eq_true rfl) rfl (rp_id ?_)
  unfold FX12_isPlace
  refine rp_iload_n 1 dX12_isPlace_0 rfl ?_
  refine rp_as ?_
  refine rp_join 17 (fun (v2 : Int32) => []) (fun v2 => [.int v2]) (fun v2 => ?_) (fun hJ17 => ?_)
  · exact rp_zretb rfl dX12_isPlace_17
  refine rp_if_lt 16 dX12_isPlace_1 (by decide) ?_ ?_
  · refine rp_iconst (0 : Int32) dX12_isPlace_16 (by decide) ?_
    exact rp_sub [] rfl (rp_pu (hJ17 (0 : Int32)))
  · refine rp_iload_n 1 dX12_isPlace_4 rfl ?_
    refine rp_aload_n 0 dX12_isPlace_5 rfl ?_
    refine rp_callVi [] (SX12_places (hn := hn) a0 h0) cvX12_places (mw (i := 1583) (by decide +kernel)) (by omega) h0 (by decide) rfl rfl rfl (Nat.le_of_ble_eq_true rfl) dX12_isPlace_6 (fun x1 => ?_)
    refine rp_icmp_ge 16 dX12_isPlace_9 (by decide) ?_ ?_
    · refine rp_iconst (0 : Int32) dX12_isPlace_16 (by decide) ?_
      exact rp_sub [] rfl (rp_pu (hJ17 (0 : Int32)))
    · refine rp_iconst (1 : Int32) dX12_isPlace_12 (by decide) ?_
      refine rp_goto 17 dX12_isPlace_13 (by decide) ?_
      exact rp_sub [] rfl (rp_pu (hJ17 (1 : Int32)))

theorem dX12_isCloth_0 : decode cX12_isCloth 0 = .ok (.iload_n 1, 1) := by decide +kernel
theorem dX12_isCloth_1 : decode cX12_isCloth 1 = .ok (.ifCond .lt 15, 3) := by decide +kernel
theorem dX12_isCloth_4 : decode cX12_isCloth 4 = .ok (.iload_n 1, 1) := by decide +kernel
theorem dX12_isCloth_5 : decode cX12_isCloth 5 = .ok (.aload_n 0, 1) := by decide +kernel
theorem dX12_isCloth_6 : decode cX12_isCloth 6 = .ok (.invokevirtual 269, 3) := by decide +kernel
theorem dX12_isCloth_9 : decode cX12_isCloth 9 = .ok (.if_icmp .ge 7, 3) := by decide +kernel
theorem dX12_isCloth_12 : decode cX12_isCloth 12 = .ok (.iconst 1, 1) := by decide +kernel
theorem dX12_isCloth_13 : decode cX12_isCloth 13 = .ok (.goto 4, 3) := by decide +kernel
theorem dX12_isCloth_16 : decode cX12_isCloth 16 = .ok (.iconst 0, 1) := by decide +kernel
theorem dX12_isCloth_17 : decode cX12_isCloth 17 = .ok (.ireturn, 1) := by decide +kernel
abbrev mX12_isCloth : MI := (RX12, yX12_isCloth, cX12_isCloth, 2, some .boolean)
theorem cvX12_isCloth : CV mX12_isCloth 1 := ⟨⟨mw (i := 1574) (by decide +kernel), mw (i := 12) (by decide +kernel), ⟨by decide +kernel, by decide +kernel, by decide +kernel⟩, by decide⟩, mw (i := 1573) (by decide +kernel), mp2 (i := 74) 31 (by decide +kernel)⟩
def FX12_isCloth (a0 : Nat) (p1 : Int32) : PP Bool := bd (if p1 < 0 then pu (0 : Int32) else bd (FX12_cloths a0) (fun x1 => if x1 ≤ p1 then pu (0 : Int32) else pu (1 : Int32)) : PP (Int32)) (fun (v2 : Int32) => zb v2)
set_option maxHeartbeats 4000000 in
set_option maxRecDepth 100000 in
theorem SX12_isCloth {l : Launch} {K : KK} {n : Nat} {hn : 270 ≤ n} (a0 : Nat) (p1 : Int32) (h0 : ob a0 11) : CT l K n 1 mX12_isCloth [.ref (K.2.1 + a0), .int p1] enZ (FX12_isCloth a0 p1) := by
  refine CT.of2 (lv2 := [(0, .ref (K.2.1 + a0)), (1, .int p1)]) (by decide) rfl hn (Nat.le_of_ble_eq_true rfl) rfl (rp_id ?_)
  unfold FX12_isCloth
  refine rp_iload_n 1 dX12_isCloth_0 rfl ?_
  refine rp_as ?_
  refine rp_join 17 (fun (v2 : Int32) => []) (fun v2 => [.int v2]) (fun v2 => ?_) (fun hJ17 => ?_)
  · exact rp_zretb rfl dX12_isCloth_17
  refine rp_if_lt 16 dX12_isCloth_1 (by decide) ?_ ?_
  · refine rp_iconst (0 : Int32) dX12_isCloth_16 (by decide) ?_
    exact rp_sub [] rfl (rp_pu (hJ17 (0 : Int32)))
  · refine rp_iload_n 1 dX12_isCloth_4 rfl ?_
    refine rp_aload_n 0 dX12_isCloth_5 rfl ?_
    refine rp_callVi [] (SX12_cloths (hn := hn) a0 h0) cvX12_cloths (mw (i := 1306) (by decide +kernel)) (by omega) h0 (by decide) rfl rfl rfl (Nat.le_of_ble_eq_true rfl) dX12_isCloth_6 (fun x1 => ?_)
    refine rp_icmp_ge 16 dX12_isCloth_9 (by decide) ?_ ?_
    · refine rp_iconst (0 : Int32) dX12_isCloth_16 (by decide) ?_
      exact rp_sub [] rfl (rp_pu (hJ17 (0 : Int32)))
    · refine rp_iconst (1 : Int32) dX12_isCloth_12 (by decide) ?_
      refine rp_goto 17 dX12_isCloth_13 (by decide) ?_
      exact rp_sub [] rfl (rp_pu (hJ17 (1 : Int32)))

theorem dX12_doesHang_0 : decode cX12_doesHang 0 = .ok (.aload_n 0, 1) := by decide +kernel
theorem dX12_doesHang_1 : decode cX12_doesHang 1 = .ok (.getfield 113, 3) := by decide +kernel
theorem dX12_doesHang_4 : decode cX12_doesHang 4 = .ok (.iload_n 1, 1) := by decide +kernel
theorem dX12_doesHang_5 : decode cX12_doesHang 5 = .ok (.bipush 7, 2) := by decide +kernel
theorem dX12_doesHang_7 : decode cX12_doesHang 7 = .ok (.iadd, 1) := by decide +kernel
theorem dX12_doesHang_8 : decode cX12_doesHang 8 = .ok (.iload_n 2, 1) := by decide +kernel
theorem dX12_doesHang_9 : decode cX12_doesHang 9 = .ok (.iadd, 1) := by decide +kernel
theorem dX12_doesHang_10 : decode cX12_doesHang 10 = .ok (.iaload, 1) := by decide +kernel
theorem dX12_doesHang_11 : decode cX12_doesHang 11 = .ok (.ifCond .lt 7, 3) := by decide +kernel
theorem dX12_doesHang_14 : decode cX12_doesHang 14 = .ok (.iconst 1, 1) := by decide +kernel
theorem dX12_doesHang_15 : decode cX12_doesHang 15 = .ok (.goto 4, 3) := by decide +kernel
theorem dX12_doesHang_18 : decode cX12_doesHang 18 = .ok (.iconst 0, 1) := by decide +kernel
theorem dX12_doesHang_19 : decode cX12_doesHang 19 = .ok (.ireturn, 1) := by decide +kernel
abbrev mX12_doesHang : MI := (RX12, yX12_doesHang, cX12_doesHang, 3, some .boolean)
theorem cvX12_doesHang : CV mX12_doesHang 2 := ⟨⟨mw (i := 1602) (by decide +kernel), mw (i := 12) (by decide +kernel), ⟨by decide +kernel, by decide +kernel, by decide +kernel⟩, by decide⟩, mw (i := 1601) (by decide +kernel), mp2 (i := 80) 31 (by decide +kernel)⟩
def FX12_doesHang (a0 : Nat) (p1 : Int32) (p2 : Int32) : PP Bool := bd (aI (rf a0 23) 966 ((p1 + (7 : Int32)) + p2)) (fun x1 => bd (if x1 < 0 then pu (0 : Int32) else pu (1 : Int32) : PP (Int32)) (fun (v2 : Int32) => zb v2))
set_option maxHeartbeats 4000000 in
set_option maxRecDepth 100000 in
theorem SX12_doesHang {l : Launch} {K : KK} {n : Nat} {hn : 270 ≤ n} (a0 : Nat) (p1 : Int32) (p2 : Int32) (h0 : ob a0 11) : CT l K n 0 mX12_doesHang [.ref (K.2.1 + a0), .int p1, .int p2] enZ (FX12_doesHang a0 p1 p2) := by
  refine CT.of2 (lv2 := [(0, .ref (K.2.1 + a0)), (1, .int p1), (2, .int p2)]) (by decide) rfl hn (Nat.le_of_ble_eq_true rfl) rfl (rp_id ?_)
  unfold FX12_doesHang
  refine rp_aload_n 0 dX12_doesHang_0 rfl ?_
  refine rp_getR fi_X12_113 h0 rfl dX12_doesHang_1 ?_
  refine rp_iload_n 1 dX12_doesHang_4 rfl ?_
  refine rp_bipush (7 : Int32) dX12_doesHang_5 (by decide) ?_
  refine rp_iadd dX12_doesHang_7 ?_
  refine rp_iload_n 2 dX12_doesHang_8 rfl ?_
  refine rp_iadd dX12_doesHang_9 ?_
  refine rp_iald (tX12_23 h0) dX12_doesHang_10 (fun x1 => ?_)
  refine rp_as ?_
  refine rp_join 19 (fun (v2 : Int32) => []) (fun v2 => [.int v2]) (fun v2 => ?_) (fun hJ19 => ?_)
  · exact rp_zretb rfl dX12_doesHang_19
  refine rp_if_lt 18 dX12_doesHang_11 (by decide) ?_ ?_
  · refine rp_iconst (0 : Int32) dX12_doesHang_18 (by decide) ?_
    exact rp_sub [] rfl (rp_pu (hJ19 (0 : Int32)))
  · refine rp_iconst (1 : Int32) dX12_doesHang_14 (by decide) ?_
    refine rp_goto 19 dX12_doesHang_15 (by decide) ?_
    exact rp_sub [] rfl (rp_pu (hJ19 (1 : Int32)))

theorem dX12_isWet_0 : decode cX12_isWet 0 = .ok (.aload_n 0, 1) := by decide +kernel
theorem dX12_isWet_1 : decode cX12_isWet 1 = .ok (.getfield 113, 3) := by decide +kernel
theorem dX12_isWet_4 : decode cX12_isWet 4 = .ok (.iload_n 1, 1) := by decide +kernel
theorem dX12_isWet_5 : decode cX12_isWet 5 = .ok (.iconst 1, 1) := by decide +kernel
theorem dX12_isWet_6 : decode cX12_isWet 6 = .ok (.iadd, 1) := by decide +kernel
theorem dX12_isWet_7 : decode cX12_isWet 7 = .ok (.iload_n 2, 1) := by decide +kernel
theorem dX12_isWet_8 : decode cX12_isWet 8 = .ok (.iadd, 1) := by decide +kernel
theorem dX12_isWet_9 : decode cX12_isWet 9 = .ok (.iaload, 1) := by decide +kernel
theorem dX12_isWet_10 : decode cX12_isWet 10 = .ok (.ifCond .le 7, 3) := by decide +kernel
theorem dX12_isWet_13 : decode cX12_isWet 13 = .ok (.iconst 1, 1) := by decide +kernel
theorem dX12_isWet_14 : decode cX12_isWet 14 = .ok (.goto 4, 3) := by decide +kernel
theorem dX12_isWet_17 : decode cX12_isWet 17 = .ok (.iconst 0, 1) := by decide +kernel
theorem dX12_isWet_18 : decode cX12_isWet 18 = .ok (.ireturn, 1) := by decide +kernel
abbrev mX12_isWet : MI := (RX12, yX12_isWet, cX12_isWet, 3, some .boolean)
theorem cvX12_isWet : CV mX12_isWet 2 := ⟨⟨mw (i := 1606) (by decide +kernel), mw (i := 12) (by decide +kernel), ⟨by decide +kernel, by decide +kernel, by decide +kernel⟩, by decide⟩, mw (i := 1605) (by decide +kernel), mp2 (i := 81) 31 (by decide +kernel)⟩
def FX12_isWet (a0 : Nat) (p1 : Int32) (p2 : Int32) : PP Bool := bd (aI (rf a0 23) 966 ((p1 + (1 : Int32)) + p2)) (fun x1 => bd (if x1 ≤ 0 then pu (0 : Int32) else pu (1 : Int32) : PP (Int32)) (fun (v2 : Int32) => zb v2))
set_option maxHeartbeats 4000000 in
set_option maxRecDepth 100000 in
theorem SX12_isWet {l : Launch} {K : KK} {n : Nat} {hn : 270 ≤ n} (a0 : Nat) (p1 : Int32) (p2 : Int32) (h0 : ob a0 11) : CT l K n 0 mX12_isWet [.ref (K.2.1 + a0), .int p1, .int p2] enZ (FX12_isWet a0 p1 p2) := by
  refine CT.of2 (lv2 := [(0, .ref (K.2.1 + a0)), (1, .int p1), (2, .int p2)]) (by decide) rfl hn (Nat.le_of_ble_eq_true rfl) rfl (rp_id ?_)
  unfold FX12_isWet
  refine rp_aload_n 0 dX12_isWet_0 rfl ?_
  refine rp_getR fi_X12_113 h0 rfl dX12_isWet_1 ?_
  refine rp_iload_n 1 dX12_isWet_4 rfl ?_
  refine rp_iconst (1 : Int32) dX12_isWet_5 (by decide) ?_
  refine rp_iadd dX12_isWet_6 ?_
  refine rp_iload_n 2 dX12_isWet_7 rfl ?_
  refine rp_iadd dX12_isWet_8 ?_
  refine rp_iald (tX12_23 h0) dX12_isWet_9 (fun x1 => ?_)
  refine rp_as ?_
  refine rp_join 18 (fun (v2 : Int32) => []) (fun v2 => [.int v2]) (fun v2 => ?_) (fun hJ18 => ?_)
  · exact rp_zretb rfl dX12_isWet_18
  refine rp_if_le 17 dX12_isWet_10 (by decide) ?_ ?_
  · refine rp_iconst (0 : Int32) dX12_isWet_17 (by decide) ?_
    exact rp_sub [] rfl (rp_pu (hJ18 (0 : Int32)))
  · refine rp_iconst (1 : Int32) dX12_isWet_13 (by decide) ?_
    refine rp_goto 18 dX12_isWet_14 (by decide) ?_
    exact rp_sub [] rfl (rp_pu (hJ18 (1 : Int32)))

theorem dX12_freeOf_0 : decode cX12_freeOf 0 = .ok (.aload_n 0, 1) := by decide +kernel
theorem dX12_freeOf_1 : decode cX12_freeOf 1 = .ok (.iload_n 2, 1) := by decide +kernel
theorem dX12_freeOf_2 : decode cX12_freeOf 2 = .ok (.iconst 0, 1) := by decide +kernel
theorem dX12_freeOf_3 : decode cX12_freeOf 3 = .ok (.invokevirtual 291, 3) := by decide +kernel
theorem dX12_freeOf_6 : decode cX12_freeOf 6 = .ok (.istore_n 3, 1) := by decide +kernel
theorem dX12_freeOf_7 : decode cX12_freeOf 7 = .ok (.iconst 0, 1) := by decide +kernel
theorem dX12_freeOf_8 : decode cX12_freeOf 8 = .ok (.istore 4, 2) := by decide +kernel
theorem dX12_freeOf_10 : decode cX12_freeOf 10 = .ok (.iload 4, 2) := by decide +kernel
theorem dX12_freeOf_12 : decode cX12_freeOf 12 = .ok (.aload_n 0, 1) := by decide +kernel
theorem dX12_freeOf_13 : decode cX12_freeOf 13 = .ok (.invokevirtual 269, 3) := by decide +kernel
theorem dX12_freeOf_16 : decode cX12_freeOf 16 = .ok (.if_icmp .ge 44, 3) := by decide +kernel
theorem dX12_freeOf_19 : decode cX12_freeOf 19 = .ok (.iload_n 3, 1) := by decide +kernel
theorem dX12_freeOf_20 : decode cX12_freeOf 20 = .ok (.aload_n 0, 1) := by decide +kernel
theorem dX12_freeOf_21 : decode cX12_freeOf 21 = .ok (.getfield 113, 3) := by decide +kernel
theorem dX12_freeOf_24 : decode cX12_freeOf 24 = .ok (.iload_n 1, 1) := by decide +kernel
theorem dX12_freeOf_25 : decode cX12_freeOf 25 = .ok (.bipush 7, 2) := by decide +kernel
theorem dX12_freeOf_27 : decode cX12_freeOf 27 = .ok (.iadd, 1) := by decide +kernel
theorem dX12_freeOf_28 : decode cX12_freeOf 28 = .ok (.iload 4, 2) := by decide +kernel
theorem dX12_freeOf_30 : decode cX12_freeOf 30 = .ok (.iadd, 1) := by decide +kernel
theorem dX12_freeOf_31 : decode cX12_freeOf 31 = .ok (.iaload, 1) := by decide +kernel
theorem dX12_freeOf_32 : decode cX12_freeOf 32 = .ok (.iload_n 2, 1) := by decide +kernel
theorem dX12_freeOf_33 : decode cX12_freeOf 33 = .ok (.if_icmp .ne 18, 3) := by decide +kernel
theorem dX12_freeOf_36 : decode cX12_freeOf 36 = .ok (.aload_n 0, 1) := by decide +kernel
theorem dX12_freeOf_37 : decode cX12_freeOf 37 = .ok (.getfield 113, 3) := by decide +kernel
theorem dX12_freeOf_40 : decode cX12_freeOf 40 = .ok (.iload_n 1, 1) := by decide +kernel
theorem dX12_freeOf_41 : decode cX12_freeOf 41 = .ok (.bipush 13, 2) := by decide +kernel
theorem dX12_freeOf_43 : decode cX12_freeOf 43 = .ok (.iadd, 1) := by decide +kernel
theorem dX12_freeOf_44 : decode cX12_freeOf 44 = .ok (.iload 4, 2) := by decide +kernel
theorem dX12_freeOf_46 : decode cX12_freeOf 46 = .ok (.iadd, 1) := by decide +kernel
theorem dX12_freeOf_47 : decode cX12_freeOf 47 = .ok (.iaload, 1) := by decide +kernel
theorem dX12_freeOf_48 : decode cX12_freeOf 48 = .ok (.goto 4, 3) := by decide +kernel
theorem dX12_freeOf_51 : decode cX12_freeOf 51 = .ok (.iconst 0, 1) := by decide +kernel
theorem dX12_freeOf_52 : decode cX12_freeOf 52 = .ok (.isub, 1) := by decide +kernel
theorem dX12_freeOf_53 : decode cX12_freeOf 53 = .ok (.istore_n 3, 1) := by decide +kernel
theorem dX12_freeOf_54 : decode cX12_freeOf 54 = .ok (.iinc 4 1, 3) := by decide +kernel
theorem dX12_freeOf_57 : decode cX12_freeOf 57 = .ok (.goto (-47), 3) := by decide +kernel
theorem dX12_freeOf_60 : decode cX12_freeOf 60 = .ok (.iload_n 3, 1) := by decide +kernel
theorem dX12_freeOf_61 : decode cX12_freeOf 61 = .ok (.ireturn, 1) := by decide +kernel
abbrev mX12_freeOf : MI := (RX12, yX12_freeOf, cX12_freeOf, 5, some .int)
theorem cvX12_freeOf : CV mX12_freeOf 2 := ⟨⟨mw (i := 1562) (by decide +kernel), mw (i := 12) (by decide +kernel), ⟨by decide +kernel, by decide +kernel, by decide +kernel⟩, by decide⟩, mw (i := 1561) (by decide +kernel), mp2 (i := 72) 31 (by decide +kernel)⟩
def FX12_freeOf (a0 : Nat) (p1 : Int32) (p2 : Int32) : PP Int32 := bd (FX12_lineOf a0 p2 (0 : Int32)) (fun x1 => bd (it (fun (s2 : Int32 × Int32) => (bd (FX12_cloths a0) (fun x3 => if x3 ≤ s2.2 then pu (Sum.inr s2.1) else bd (aI (rf a0 23) 966 ((p1 + (7 : Int32)) + s2.2)) (fun x4 => bd (if x4 = p2 then bd (aI (rf a0 23) 966 ((p1 + (13 : Int32)) + s2.2)) (fun x5 => pu x5) else pu (0 : Int32) : PP (Int32)) (fun (v6 : Int32) => lt (s2.1 - v6) (fun y7 => lt (s2.2 + (1 : Int32)) (fun y8 => pu (Sum.inl (y7, y8))))))) : PP ((Int32 × Int32) ⊕ (Int32)))) FU (x1, (0 : Int32))) (fun (v9 : Int32) => pu v9))
set_option maxHeartbeats 4000000 in
set_option maxRecDepth 100000 in
theorem SX12_freeOf {l : Launch} {K : KK} {n : Nat} {hn : 270 ≤ n} (a0 : Nat) (p1 : Int32) (p2 : Int32) (h0 : ob a0 11) : CT l K n 1 mX12_freeOf [.ref (K.2.1 + a0), .int p1, .int p2] enI (FX12_freeOf a0 p1 p2) := by
  refine CT.of2 (lv2 := [(0, .ref (K.2.1 + a0)), (1, .int p1), (2, .int p2)]) (by decide) rfl hn (Nat.le_of_ble_eq_true rfl) rfl (rp_id ?_)
  unfold FX12_freeOf
  refine rp_aload_n 0 dX12_freeOf_0 rfl ?_
  refine rp_iload_n 2 dX12_freeOf_1 rfl ?_
  refine rp_iconst (0 : Int32) dX12_freeOf_2 (by decide) ?_
  refine rp_callVi [.int p2, .int (0 : Int32)] (SX12_lineOf (hn := hn) a0 p2 (0 : Int32) h0) cvX12_lineOf (mw (i := 1555) (by decide +kernel)) (by omega) h0 (by decide) rfl rfl rfl (Nat.le_of_ble_eq_true rfl) dX12_freeOf_3 (fun x1 => ?_)
  refine rp_istore_n [(3, .int x1), (0, .ref (K.2.1 + a0)), (1, .int p1), (2, .int p2)] dX12_freeOf_6 (by decide) rfl ?_
  refine rp_iconst (0 : Int32) dX12_freeOf_7 (by decide) ?_
  refine rp_istore [(4, .int (0 : Int32)), (3, .int x1), (0, .ref (K.2.1 + a0)), (1, .int p1), (2, .int p2)] dX12_freeOf_8 (by decide) rfl ?_
  refine rp_as ?_
  refine rp_join 60 (fun v9 => [(3, .int v9)]) (fun _ => []) (fun v9 => ?_) (fun hX10_0 => ?_)
  · refine rp_iload_n 0 dX12_freeOf_60 rfl ?_
    exact rp_pu (rp_iret rfl dX12_freeOf_61)
  refine rp_sub [2, 3, 4, 1, 0] rfl (rp_it (fun (s2 : Int32 × Int32) => [(0, .ref (K.2.1 + a0)), (1, .int p1), (2, .int p2), (3, .int s2.1), (4, .int s2.2)]) (fun N10 ih10 s2 => ?_) FU (x1, (0 : Int32)))
  refine rp_iload 4 dX12_freeOf_10 rfl ?_
  refine rp_aload_n 0 dX12_freeOf_12 rfl ?_
  refine rp_callVi [] (SX12_cloths (hn := hn) a0 h0) cvX12_cloths (mw (i := 1306) (by decide +kernel)) (by omega) h0 (by decide) rfl rfl rfl (Nat.le_of_ble_eq_true rfl) dX12_freeOf_13 (fun x3 => ?_)
  refine rp_icmp_ge 60 dX12_freeOf_16 (by decide) ?_ ?_
  · exact rp_sub [3] rfl (rp_pu (hX10_0 s2.1))
  · refine rp_iload_n 3 dX12_freeOf_19 rfl ?_
    refine rp_aload_n 0 dX12_freeOf_20 rfl ?_
    refine rp_getR fi_X12_113 h0 rfl dX12_freeOf_21 ?_
    refine rp_iload_n 1 dX12_freeOf_24 rfl ?_
    refine rp_bipush (7 : Int32) dX12_freeOf_25 (by decide) ?_
    refine rp_iadd dX12_freeOf_27 ?_
    refine rp_iload 4 dX12_freeOf_28 rfl ?_
    refine rp_iadd dX12_freeOf_30 ?_
    refine rp_iald (tX12_23 h0) dX12_freeOf_31 (fun x4 => ?_)
    refine rp_iload_n 2 dX12_freeOf_32 rfl ?_
    refine rp_as ?_
    refine rp_join 52 (fun (v6 : Int32) => [(0, .ref (K.2.1 + a0)), (1, .int p1), (2, .int p2), (4, .int s2.2)]) (fun v6 => [.int v6, .int s2.1]) (fun v6 => ?_) (fun hJ52 => ?_)
    · refine rp_isub dX12_freeOf_52 ?_
      refine rp_lti (fun y7 => ?_)
      refine rp_istore_n [(3, .int y7), (0, .ref (K.2.1 + a0)), (1, .int p1), (2, .int p2), (4, .int s2.2)] dX12_freeOf_53 (by decide) rfl ?_
      refine rp_iinc (fun y8 => [(4, .int y8), (3, .int y7), (0, .ref (K.2.1 + a0)), (1, .int p1), (2, .int p2)]) 4 dX12_freeOf_54 rfl (by rfl) (by decide) (fun y8 => rfl) (fun y8 => ?_)
      refine rp_goto 10 dX12_freeOf_57 (by decide) ?_
      exact rp_sub [2, 3, 4, 1, 0] rfl (ih10 (y7, y8))
    refine rp_icmp_ne 51 dX12_freeOf_33 (by decide) ?_ ?_
    · refine rp_iconst (0 : Int32) dX12_freeOf_51 (by decide) ?_
      exact rp_sub [0, 1, 2, 4] rfl (rp_pu (hJ52 (0 : Int32)))
    · refine rp_aload_n 0 dX12_freeOf_36 rfl ?_
      refine rp_getR fi_X12_113 h0 rfl dX12_freeOf_37 ?_
      refine rp_iload_n 1 dX12_freeOf_40 rfl ?_
      refine rp_bipush (13 : Int32) dX12_freeOf_41 (by decide) ?_
      refine rp_iadd dX12_freeOf_43 ?_
      refine rp_iload 4 dX12_freeOf_44 rfl ?_
      refine rp_iadd dX12_freeOf_46 ?_
      refine rp_iald (tX12_23 h0) dX12_freeOf_47 (fun x5 => ?_)
      refine rp_goto 52 dX12_freeOf_48 (by decide) ?_
      exact rp_sub [0, 1, 2, 4] rfl (rp_pu (hJ52 x5))

theorem dX12_onLine_0 : decode cX12_onLine 0 = .ok (.iconst 0, 1) := by decide +kernel
theorem dX12_onLine_1 : decode cX12_onLine 1 = .ok (.istore_n 3, 1) := by decide +kernel
theorem dX12_onLine_2 : decode cX12_onLine 2 = .ok (.iconst 0, 1) := by decide +kernel
theorem dX12_onLine_3 : decode cX12_onLine 3 = .ok (.istore 4, 2) := by decide +kernel
theorem dX12_onLine_5 : decode cX12_onLine 5 = .ok (.iload 4, 2) := by decide +kernel
theorem dX12_onLine_7 : decode cX12_onLine 7 = .ok (.aload_n 0, 1) := by decide +kernel
theorem dX12_onLine_8 : decode cX12_onLine 8 = .ok (.invokevirtual 269, 3) := by decide +kernel
theorem dX12_onLine_11 : decode cX12_onLine 11 = .ok (.if_icmp .ge 36, 3) := by decide +kernel
theorem dX12_onLine_14 : decode cX12_onLine 14 = .ok (.iload_n 3, 1) := by decide +kernel
theorem dX12_onLine_15 : decode cX12_onLine 15 = .ok (.aload_n 0, 1) := by decide +kernel
theorem dX12_onLine_16 : decode cX12_onLine 16 = .ok (.getfield 113, 3) := by decide +kernel
theorem dX12_onLine_19 : decode cX12_onLine 19 = .ok (.iload_n 1, 1) := by decide +kernel
theorem dX12_onLine_20 : decode cX12_onLine 20 = .ok (.bipush 7, 2) := by decide +kernel
theorem dX12_onLine_22 : decode cX12_onLine 22 = .ok (.iadd, 1) := by decide +kernel
theorem dX12_onLine_23 : decode cX12_onLine 23 = .ok (.iload 4, 2) := by decide +kernel
theorem dX12_onLine_25 : decode cX12_onLine 25 = .ok (.iadd, 1) := by decide +kernel
theorem dX12_onLine_26 : decode cX12_onLine 26 = .ok (.iaload, 1) := by decide +kernel
theorem dX12_onLine_27 : decode cX12_onLine 27 = .ok (.iload_n 2, 1) := by decide +kernel
theorem dX12_onLine_28 : decode cX12_onLine 28 = .ok (.if_icmp .ne 10, 3) := by decide +kernel
theorem dX12_onLine_31 : decode cX12_onLine 31 = .ok (.iconst 1, 1) := by decide +kernel
theorem dX12_onLine_32 : decode cX12_onLine 32 = .ok (.iload 4, 2) := by decide +kernel
theorem dX12_onLine_34 : decode cX12_onLine 34 = .ok (.ishl, 1) := by decide +kernel
theorem dX12_onLine_35 : decode cX12_onLine 35 = .ok (.goto 4, 3) := by decide +kernel
theorem dX12_onLine_38 : decode cX12_onLine 38 = .ok (.iconst 0, 1) := by decide +kernel
theorem dX12_onLine_39 : decode cX12_onLine 39 = .ok (.ior, 1) := by decide +kernel
theorem dX12_onLine_40 : decode cX12_onLine 40 = .ok (.istore_n 3, 1) := by decide +kernel
theorem dX12_onLine_41 : decode cX12_onLine 41 = .ok (.iinc 4 1, 3) := by decide +kernel
theorem dX12_onLine_44 : decode cX12_onLine 44 = .ok (.goto (-39), 3) := by decide +kernel
theorem dX12_onLine_47 : decode cX12_onLine 47 = .ok (.iload_n 3, 1) := by decide +kernel
theorem dX12_onLine_48 : decode cX12_onLine 48 = .ok (.ireturn, 1) := by decide +kernel
abbrev mX12_onLine : MI := (RX12, yX12_onLine, cX12_onLine, 5, some .int)
theorem cvX12_onLine : CV mX12_onLine 2 := ⟨⟨mw (i := 1566) (by decide +kernel), mw (i := 12) (by decide +kernel), ⟨by decide +kernel, by decide +kernel, by decide +kernel⟩, by decide⟩, mw (i := 1565) (by decide +kernel), mp2 (i := 73) 31 (by decide +kernel)⟩
def FX12_onLine (a0 : Nat) (p1 : Int32) (p2 : Int32) : PP Int32 := bd (it (fun (s1 : Int32 × Int32) => (bd (FX12_cloths a0) (fun x2 => if x2 ≤ s1.2 then pu (Sum.inr s1.1) else bd (aI (rf a0 23) 966 ((p1 + (7 : Int32)) + s1.2)) (fun x3 => bd (if x3 = p2 then pu ((1 : Int32) <<< (s1.2 &&& 31)) else pu (0 : Int32) : PP (Int32)) (fun (v4 : Int32) => lt (s1.1 ||| v4) (fun y5 => lt (s1.2 + (1 : Int32)) (fun y6 => pu (Sum.inl (y5, y6))))))) : PP ((Int32 × Int32) ⊕ (Int32)))) FU ((0 : Int32), (0 : Int32))) (fun (v7 : Int32) => pu v7)
set_option maxHeartbeats 4000000 in
set_option maxRecDepth 100000 in
theorem SX12_onLine {l : Launch} {K : KK} {n : Nat} {hn : 270 ≤ n} (a0 : Nat) (p1 : Int32) (p2 : Int32) (h0 : ob a0 11) : CT l K n 1 mX12_onLine [.ref (K.2.1 + a0), .int p1, .int p2] enI (FX12_onLine a0 p1 p2) := by
  refine CT.of2 (lv2 := [(0, .ref (K.2.1 + a0)), (1, .int p1), (2, .int p2)]) (by decide) rfl hn (Nat.le_of_ble_eq_true rfl) rfl (rp_id ?_)
  unfold FX12_onLine
  refine rp_iconst (0 : Int32) dX12_onLine_0 (by decide) ?_
  refine rp_istore_n [(3, .int (0 : Int32)), (0, .ref (K.2.1 + a0)), (1, .int p1), (2, .int p2)] dX12_onLine_1 (by decide) rfl ?_
  refine rp_iconst (0 : Int32) dX12_onLine_2 (by decide) ?_
  refine rp_istore [(4, .int (0 : Int32)), (3, .int (0 : Int32)), (0, .ref (K.2.1 + a0)), (1, .int p1), (2, .int p2)] dX12_onLine_3 (by decide) rfl ?_
  refine rp_as ?_
  refine rp_join 47 (fun v7 => [(3, .int v7)]) (fun _ => []) (fun v7 => ?_) (fun hX5_0 => ?_)
  · refine rp_iload_n 0 dX12_onLine_47 rfl ?_
    exact rp_pu (rp_iret rfl dX12_onLine_48)
  refine rp_sub [2, 3, 4, 1, 0] rfl (rp_it (fun (s1 : Int32 × Int32) => [(0, .ref (K.2.1 + a0)), (1, .int p1), (2, .int p2), (3, .int s1.1), (4, .int s1.2)]) (fun N5 ih5 s1 => ?_) FU ((0 : Int32), (0 : Int32)))
  refine rp_iload 4 dX12_onLine_5 rfl ?_
  refine rp_aload_n 0 dX12_onLine_7 rfl ?_
  refine rp_callVi [] (SX12_cloths (hn := hn) a0 h0) cvX12_cloths (mw (i := 1306) (by decide +kernel)) (by omega) h0 (by decide) rfl rfl rfl (Nat.le_of_ble_eq_true rfl) dX12_onLine_8 (fun x2 => ?_)
  refine rp_icmp_ge 47 dX12_onLine_11 (by decide) ?_ ?_
  · exact rp_sub [3] rfl (rp_pu (hX5_0 s1.1))
  · refine rp_iload_n 3 dX12_onLine_14 rfl ?_
    refine rp_aload_n 0 dX12_onLine_15 rfl ?_
    refine rp_getR fi_X12_113 h0 rfl dX12_onLine_16 ?_
    refine rp_iload_n 1 dX12_onLine_19 rfl ?_
    refine rp_bipush (7 : Int32) dX12_onLine_20 (by decide) ?_
    refine rp_iadd dX12_onLine_22 ?_
    refine rp_iload 4 dX12_onLine_23 rfl ?_
    refine rp_iadd dX12_onLine_25 ?_
    refine rp_iald (tX12_23 h0) dX12_onLine_26 (fun x3 => ?_)
    refine rp_iload_n 2 dX12_onLine_27 rfl ?_
    refine rp_as ?_
    refine rp_join 39 (fun (v4 : Int32) => [(0, .ref (K.2.1 + a0)), (1, .int p1), (2, .int p2), (4, .int s1.2)]) (fun v4 => [.int v4, .int s1.1]) (fun v4 => ?_) (fun hJ39 => ?_)
    · refine rp_ior dX12_onLine_39 ?_
      refine rp_lti (fun y5 => ?_)
      refine rp_istore_n [(3, .int y5), (0, .ref (K.2.1 + a0)), (1, .int p1), (2, .int p2), (4, .int s1.2)] dX12_onLine_40 (by decide) rfl ?_
      refine rp_iinc (fun y6 => [(4, .int y6), (3, .int y5), (0, .ref (K.2.1 + a0)), (1, .int p1), (2, .int p2)]) 4 dX12_onLine_41 rfl (by rfl) (by decide) (fun y6 => rfl) (fun y6 => ?_)
      refine rp_goto 5 dX12_onLine_44 (by decide) ?_
      exact rp_sub [2, 3, 4, 1, 0] rfl (ih5 (y5, y6))
    refine rp_icmp_ne 38 dX12_onLine_28 (by decide) ?_ ?_
    · refine rp_iconst (0 : Int32) dX12_onLine_38 (by decide) ?_
      exact rp_sub [0, 1, 2, 4] rfl (rp_pu (hJ39 (0 : Int32)))
    · refine rp_iconst (1 : Int32) dX12_onLine_31 (by decide) ?_
      refine rp_iload 4 dX12_onLine_32 rfl ?_
      refine rp_ishl dX12_onLine_34 ?_
      refine rp_goto 39 dX12_onLine_35 (by decide) ?_
      exact rp_sub [0, 1, 2, 4] rfl (rp_pu (hJ39 ((1 : Int32) <<< (s1.2 &&& 31))))

theorem dX12_hanging_0 : decode cX12_hanging 0 = .ok (.iconst 0, 1) := by decide +kernel
theorem dX12_hanging_1 : decode cX12_hanging 1 = .ok (.istore_n 2, 1) := by decide +kernel
theorem dX12_hanging_2 : decode cX12_hanging 2 = .ok (.iconst 0, 1) := by decide +kernel
theorem dX12_hanging_3 : decode cX12_hanging 3 = .ok (.istore_n 3, 1) := by decide +kernel
theorem dX12_hanging_4 : decode cX12_hanging 4 = .ok (.iload_n 3, 1) := by decide +kernel
theorem dX12_hanging_5 : decode cX12_hanging 5 = .ok (.aload_n 0, 1) := by decide +kernel
theorem dX12_hanging_6 : decode cX12_hanging 6 = .ok (.invokevirtual 269, 3) := by decide +kernel
theorem dX12_hanging_9 : decode cX12_hanging 9 = .ok (.if_icmp .ge 28, 3) := by decide +kernel
theorem dX12_hanging_12 : decode cX12_hanging 12 = .ok (.iload_n 2, 1) := by decide +kernel
theorem dX12_hanging_13 : decode cX12_hanging 13 = .ok (.aload_n 0, 1) := by decide +kernel
theorem dX12_hanging_14 : decode cX12_hanging 14 = .ok (.iload_n 1, 1) := by decide +kernel
theorem dX12_hanging_15 : decode cX12_hanging 15 = .ok (.iload_n 3, 1) := by decide +kernel
theorem dX12_hanging_16 : decode cX12_hanging 16 = .ok (.invokevirtual 294, 3) := by decide +kernel
theorem dX12_hanging_19 : decode cX12_hanging 19 = .ok (.ifCond .eq 9, 3) := by decide +kernel
theorem dX12_hanging_22 : decode cX12_hanging 22 = .ok (.iconst 1, 1) := by decide +kernel
theorem dX12_hanging_23 : decode cX12_hanging 23 = .ok (.iload_n 3, 1) := by decide +kernel
theorem dX12_hanging_24 : decode cX12_hanging 24 = .ok (.ishl, 1) := by decide +kernel
theorem dX12_hanging_25 : decode cX12_hanging 25 = .ok (.goto 4, 3) := by decide +kernel
theorem dX12_hanging_28 : decode cX12_hanging 28 = .ok (.iconst 0, 1) := by decide +kernel
theorem dX12_hanging_29 : decode cX12_hanging 29 = .ok (.ior, 1) := by decide +kernel
theorem dX12_hanging_30 : decode cX12_hanging 30 = .ok (.istore_n 2, 1) := by decide +kernel
theorem dX12_hanging_31 : decode cX12_hanging 31 = .ok (.iinc 3 1, 3) := by decide +kernel
theorem dX12_hanging_34 : decode cX12_hanging 34 = .ok (.goto (-30), 3) := by decide +kernel
theorem dX12_hanging_37 : decode cX12_hanging 37 = .ok (.iload_n 2, 1) := by decide +kernel
theorem dX12_hanging_38 : decode cX12_hanging 38 = .ok (.ireturn, 1) := by decide +kernel
abbrev mX12_hanging : MI := (RX12, yX12_hanging, cX12_hanging, 4, some .int)
theorem cvX12_hanging : CV mX12_hanging 1 := ⟨⟨mw (i := 1725) (by decide +kernel), mw (i := 12) (by decide +kernel), ⟨by decide +kernel, by decide +kernel, by decide +kernel⟩, by decide⟩, mw (i := 1724) (by decide +kernel), mp2 (i := 97) 31 (by decide +kernel)⟩
def FX12_hanging (a0 : Nat) (p1 : Int32) : PP Int32 := bd (it (fun (s1 : Int32 × Int32) => (bd (FX12_cloths a0) (fun x2 => if x2 ≤ s1.2 then pu (Sum.inr s1.1) else bd (FX12_doesHang a0 p1 s1.2) (fun x3 => bd (if ((b2i x3)) = 0 then pu (0 : Int32) else pu ((1 : Int32) <<< (s1.2 &&& 31)) : PP (Int32)) (fun (v4 : Int32) => lt (s1.1 ||| v4) (fun y5 => lt (s1.2 + (1 : Int32)) (fun y6 => pu (Sum.inl (y5, y6))))))) : PP ((Int32 × Int32) ⊕ (Int32)))) FU ((0 : Int32), (0 : Int32))) (fun (v7 : Int32) => pu v7)
set_option maxHeartbeats 4000000 in
set_option maxRecDepth 100000 in
theorem SX12_hanging {l : Launch} {K : KK} {n : Nat} {hn : 270 ≤ n} (a0 : Nat) (p1 : Int32) (h0 : ob a0 11) : CT l K n 1 mX12_hanging [.ref (K.2.1 + a0), .int p1] enI (FX12_hanging a0 p1) := by
  refine CT.of2 (lv2 := [(0, .ref (K.2.1 + a0)), (1, .int p1)]) (by decide) rfl hn (Nat.le_of_ble_eq_true rfl) rfl (rp_id ?_)
  unfold FX12_hanging
  refine rp_iconst (0 : Int32) dX12_hanging_0 (by decide) ?_
  refine rp_istore_n [(2, .int (0 : Int32)), (0, .ref (K.2.1 + a0)), (1, .int p1)] dX12_hanging_1 (by decide) rfl ?_
  refine rp_iconst (0 : Int32) dX12_hanging_2 (by decide) ?_
  refine rp_istore_n [(3, .int (0 : Int32)), (2, .int (0 : Int32)), (0, .ref (K.2.1 + a0)), (1, .int p1)] dX12_hanging_3 (by decide) rfl ?_
  refine rp_as ?_
  refine rp_join 37 (fun v7 => [(2, .int v7)]) (fun _ => []) (fun v7 => ?_) (fun hX4_0 => ?_)
  · refine rp_iload_n 0 dX12_hanging_37 rfl ?_
    exact rp_pu (rp_iret rfl dX12_hanging_38)
  refine rp_sub [2, 3, 1, 0] rfl (rp_it (fun (s1 : Int32 × Int32) => [(0, .ref (K.2.1 + a0)), (1, .int p1), (2, .int s1.1), (3, .int s1.2)]) (fun N4 ih4 s1 => ?_) FU ((0 : Int32), (0 : Int32)))
  refine rp_iload_n 3 dX12_hanging_4 rfl ?_
  refine rp_aload_n 0 dX12_hanging_5 rfl ?_
  refine rp_callVi [] (SX12_cloths (hn := hn) a0 h0) cvX12_cloths (mw (i := 1306) (by decide +kernel)) (by omega) h0 (by decide) rfl rfl rfl (Nat.le_of_ble_eq_true rfl) dX12_hanging_6 (fun x2 => ?_)
  refine rp_icmp_ge 37 dX12_hanging_9 (by decide) ?_ ?_
  · exact rp_sub [2] rfl (rp_pu (hX4_0 s1.1))
  · refine rp_iload_n 2 dX12_hanging_12 rfl ?_
    refine rp_aload_n 0 dX12_hanging_13 rfl ?_
    refine rp_iload_n 1 dX12_hanging_14 rfl ?_
    refine rp_iload_n 3 dX12_hanging_15 rfl ?_
    refine rp_callVz [.int p1, .int s1.2] (SX12_doesHang (hn := hn) a0 p1 s1.2 h0) cvX12_doesHang (mw (i := 1599) (by decide +kernel)) (by omega) h0 (by decide) rfl rfl rfl (Nat.le_of_ble_eq_true rfl) dX12_hanging_16 (fun x3 => ?_)
    refine rp_as ?_
    refine rp_join 29 (fun (v4 : Int32) => [(0, .ref (K.2.1 + a0)), (1, .int p1), (3, .int s1.2)]) (fun v4 => [.int v4, .int s1.1]) (fun v4 => ?_) (fun hJ29 => ?_)
    · refine rp_ior dX12_hanging_29 ?_
      refine rp_lti (fun y5 => ?_)
      refine rp_istore_n [(2, .int y5), (0, .ref (K.2.1 + a0)), (1, .int p1), (3, .int s1.2)] dX12_hanging_30 (by decide) rfl ?_
      refine rp_iinc (fun y6 => [(3, .int y6), (2, .int y5), (0, .ref (K.2.1 + a0)), (1, .int p1)]) 3 dX12_hanging_31 rfl (by rfl) (by decide) (fun y6 => rfl) (fun y6 => ?_)
      refine rp_goto 4 dX12_hanging_34 (by decide) ?_
      exact rp_sub [2, 3, 1, 0] rfl (ih4 (y5, y6))
    refine rp_if_eq 28 dX12_hanging_19 (by decide) ?_ ?_
    · refine rp_iconst (0 : Int32) dX12_hanging_28 (by decide) ?_
      exact rp_sub [0, 1, 3] rfl (rp_pu (hJ29 (0 : Int32)))
    · refine rp_iconst (1 : Int32) dX12_hanging_22 (by decide) ?_
      refine rp_iload_n 3 dX12_hanging_23 rfl ?_
      refine rp_ishl dX12_hanging_24 ?_
      refine rp_goto 29 dX12_hanging_25 (by decide) ?_
      exact rp_sub [0, 1, 3] rfl (rp_pu (hJ29 ((1 : Int32) <<< (s1.2 &&& 31))))

theorem dX12_bits_0 : decode cX12_bits 0 = .ok (.iconst 0, 1) := by decide +kernel
theorem dX12_bits_1 : decode cX12_bits 1 = .ok (.istore_n 1, 1) := by decide +kernel
theorem dX12_bits_2 : decode cX12_bits 2 = .ok (.iconst 0, 1) := by decide +kernel
theorem dX12_bits_3 : decode cX12_bits 3 = .ok (.istore_n 2, 1) := by decide +kernel
theorem dX12_bits_4 : decode cX12_bits 4 = .ok (.iload_n 2, 1) := by decide +kernel
theorem dX12_bits_5 : decode cX12_bits 5 = .ok (.bipush 30, 2) := by decide +kernel
theorem dX12_bits_7 : decode cX12_bits 7 = .ok (.if_icmp .ge 17, 3) := by decide +kernel
theorem dX12_bits_10 : decode cX12_bits 10 = .ok (.iload_n 1, 1) := by decide +kernel
theorem dX12_bits_11 : decode cX12_bits 11 = .ok (.iload_n 0, 1) := by decide +kernel
theorem dX12_bits_12 : decode cX12_bits 12 = .ok (.iload_n 2, 1) := by decide +kernel
theorem dX12_bits_13 : decode cX12_bits 13 = .ok (.ishr, 1) := by decide +kernel
theorem dX12_bits_14 : decode cX12_bits 14 = .ok (.iconst 1, 1) := by decide +kernel
theorem dX12_bits_15 : decode cX12_bits 15 = .ok (.iand, 1) := by decide +kernel
theorem dX12_bits_16 : decode cX12_bits 16 = .ok (.iadd, 1) := by decide +kernel
theorem dX12_bits_17 : decode cX12_bits 17 = .ok (.istore_n 1, 1) := by decide +kernel
theorem dX12_bits_18 : decode cX12_bits 18 = .ok (.iinc 2 1, 3) := by decide +kernel
theorem dX12_bits_21 : decode cX12_bits 21 = .ok (.goto (-17), 3) := by decide +kernel
theorem dX12_bits_24 : decode cX12_bits 24 = .ok (.iload_n 1, 1) := by decide +kernel
theorem dX12_bits_25 : decode cX12_bits 25 = .ok (.ireturn, 1) := by decide +kernel
abbrev mX12_bits : MI := (RX12, yX12_bits, cX12_bits, 3, some .int)
theorem csX12_bits : CS mX12_bits 1 := ⟨⟨mw (i := 1728) (by decide +kernel), mw (i := 12) (by decide +kernel), ⟨by decide +kernel, by decide +kernel, by decide +kernel⟩, by decide⟩, mw (i := 1727) (by decide +kernel)⟩
def FX12_bits (p1 : Int32) : PP Int32 := bd (it (fun (s1 : Int32 × Int32) => (if (30 : Int32) ≤ s1.2 then pu (Sum.inr s1.1) else lt (s1.1 + ((p1 >>> (s1.2 &&& 31)) &&& (1 : Int32))) (fun y2 => lt (s1.2 + (1 : Int32)) (fun y3 => pu (Sum.inl (y2, y3)))) : PP ((Int32 × Int32) ⊕ (Int32)))) FU ((0 : Int32), (0 : Int32))) (fun (v4 : Int32) => pu v4)
set_option maxHeartbeats 4000000 in
set_option maxRecDepth 100000 in
theorem SX12_bits {l : Launch} {K : KK} {n : Nat} {hn : 270 ≤ n} (p1 : Int32) : CT l K n 0 mX12_bits [.int p1] enI (FX12_bits p1) := by
  refine CT.of2 (lv2 := [(0, .int p1)]) (by decide) rfl hn (Nat.le_of_ble_eq_true rfl) rfl (rp_id ?_)
  unfold FX12_bits
  refine rp_iconst (0 : Int32) dX12_bits_0 (by decide) ?_
  refine rp_istore_n [(1, .int (0 : Int32)), (0, .int p1)] dX12_bits_1 (by decide) rfl ?_
  refine rp_iconst (0 : Int32) dX12_bits_2 (by decide) ?_
  refine rp_istore_n [(2, .int (0 : Int32)), (1, .int (0 : Int32)), (0, .int p1)] dX12_bits_3 (by decide) rfl ?_
  refine rp_as ?_
  refine rp_join 24 (fun v4 => [(1, .int v4)]) (fun _ => []) (fun v4 => ?_) (fun hX4_0 => ?_)
  · refine rp_iload_n 0 dX12_bits_24 rfl ?_
    exact rp_pu (rp_iret rfl dX12_bits_25)
  refine rp_sub [2, 1, 0] rfl (rp_it (fun (s1 : Int32 × Int32) => [(0, .int p1), (1, .int s1.1), (2, .int s1.2)]) (fun N4 ih4 s1 => ?_) FU ((0 : Int32), (0 : Int32)))
  refine rp_iload_n 2 dX12_bits_4 rfl ?_
  refine rp_bipush (30 : Int32) dX12_bits_5 (by decide) ?_
  refine rp_icmp_ge 24 dX12_bits_7 (by decide) ?_ ?_
  · exact rp_sub [1] rfl (rp_pu (hX4_0 s1.1))
  · refine rp_iload_n 1 dX12_bits_10 rfl ?_
    refine rp_iload_n 0 dX12_bits_11 rfl ?_
    refine rp_iload_n 2 dX12_bits_12 rfl ?_
    refine rp_ishr dX12_bits_13 ?_
    refine rp_iconst (1 : Int32) dX12_bits_14 (by decide) ?_
    refine rp_iand dX12_bits_15 ?_
    refine rp_iadd dX12_bits_16 ?_
    refine rp_lti (fun y2 => ?_)
    refine rp_istore_n [(1, .int y2), (0, .int p1), (2, .int s1.2)] dX12_bits_17 (by decide) rfl ?_
    refine rp_iinc (fun y3 => [(2, .int y3), (1, .int y2), (0, .int p1)]) 2 dX12_bits_18 rfl (by rfl) (by decide) (fun y3 => rfl) (fun y3 => ?_)
    refine rp_goto 4 dX12_bits_21 (by decide) ?_
    exact rp_sub [2, 1, 0] rfl (ih4 (y2, y3))

theorem dX12_isAbove_0 : decode cX12_isAbove 0 = .ok (.aload_n 0, 1) := by decide +kernel
theorem dX12_isAbove_1 : decode cX12_isAbove 1 = .ok (.iload_n 1, 1) := by decide +kernel
theorem dX12_isAbove_2 : decode cX12_isAbove 2 = .ok (.iload_n 3, 1) := by decide +kernel
theorem dX12_isAbove_3 : decode cX12_isAbove 3 = .ok (.invokevirtual 294, 3) := by decide +kernel
theorem dX12_isAbove_6 : decode cX12_isAbove 6 = .ok (.ifCond .eq 34, 3) := by decide +kernel
theorem dX12_isAbove_9 : decode cX12_isAbove 9 = .ok (.aload_n 0, 1) := by decide +kernel
theorem dX12_isAbove_10 : decode cX12_isAbove 10 = .ok (.getfield 83, 3) := by decide +kernel
theorem dX12_isAbove_13 : decode cX12_isAbove 13 = .ok (.bipush 14, 2) := by decide +kernel
theorem dX12_isAbove_15 : decode cX12_isAbove 15 = .ok (.iload_n 2, 1) := by decide +kernel
theorem dX12_isAbove_16 : decode cX12_isAbove 16 = .ok (.iadd, 1) := by decide +kernel
theorem dX12_isAbove_17 : decode cX12_isAbove 17 = .ok (.iaload, 1) := by decide +kernel
theorem dX12_isAbove_18 : decode cX12_isAbove 18 = .ok (.aload_n 0, 1) := by decide +kernel
theorem dX12_isAbove_19 : decode cX12_isAbove 19 = .ok (.getfield 113, 3) := by decide +kernel
theorem dX12_isAbove_22 : decode cX12_isAbove 22 = .ok (.iload_n 1, 1) := by decide +kernel
theorem dX12_isAbove_23 : decode cX12_isAbove 23 = .ok (.bipush 7, 2) := by decide +kernel
theorem dX12_isAbove_25 : decode cX12_isAbove 25 = .ok (.iadd, 1) := by decide +kernel
theorem dX12_isAbove_26 : decode cX12_isAbove 26 = .ok (.iload_n 3, 1) := by decide +kernel
theorem dX12_isAbove_27 : decode cX12_isAbove 27 = .ok (.iadd, 1) := by decide +kernel
theorem dX12_isAbove_28 : decode cX12_isAbove 28 = .ok (.iaload, 1) := by decide +kernel
theorem dX12_isAbove_29 : decode cX12_isAbove 29 = .ok (.ishr, 1) := by decide +kernel
theorem dX12_isAbove_30 : decode cX12_isAbove 30 = .ok (.iconst 1, 1) := by decide +kernel
theorem dX12_isAbove_31 : decode cX12_isAbove 31 = .ok (.iand, 1) := by decide +kernel
theorem dX12_isAbove_32 : decode cX12_isAbove 32 = .ok (.iconst 1, 1) := by decide +kernel
theorem dX12_isAbove_33 : decode cX12_isAbove 33 = .ok (.if_icmp .ne 7, 3) := by decide +kernel
theorem dX12_isAbove_36 : decode cX12_isAbove 36 = .ok (.iconst 1, 1) := by decide +kernel
theorem dX12_isAbove_37 : decode cX12_isAbove 37 = .ok (.goto 4, 3) := by decide +kernel
theorem dX12_isAbove_40 : decode cX12_isAbove 40 = .ok (.iconst 0, 1) := by decide +kernel
theorem dX12_isAbove_41 : decode cX12_isAbove 41 = .ok (.ireturn, 1) := by decide +kernel
abbrev mX12_isAbove : MI := (RX12, yX12_isAbove, cX12_isAbove, 4, some .boolean)
theorem cvX12_isAbove : CV mX12_isAbove 3 := ⟨⟨mw (i := 1598) (by decide +kernel), mw (i := 12) (by decide +kernel), ⟨by decide +kernel, by decide +kernel, by decide +kernel⟩, by decide⟩, mw (i := 1597) (by decide +kernel), mp2 (i := 79) 31 (by decide +kernel)⟩
def FX12_isAbove (a0 : Nat) (p1 : Int32) (p2 : Int32) (p3 : Int32) : PP Bool := bd (FX12_doesHang a0 p1 p3) (fun x1 => bd (if ((b2i x1)) = 0 then pu (0 : Int32) else bd (aI (rf a0 10) 80 ((14 : Int32) + p2)) (fun x2 => bd (aI (rf a0 23) 966 ((p1 + (7 : Int32)) + p3)) (fun x3 => if ((x2 >>> (x3 &&& 31)) &&& (1 : Int32)) = (1 : Int32) then pu (1 : Int32) else pu (0 : Int32))) : PP (Int32)) (fun (v4 : Int32) => zb v4))
set_option maxHeartbeats 4000000 in
set_option maxRecDepth 100000 in
theorem SX12_isAbove {l : Launch} {K : KK} {n : Nat} {hn : 270 ≤ n} (a0 : Nat) (p1 : Int32) (p2 : Int32) (p3 : Int32) (h0 : ob a0 11) : CT l K n 1 mX12_isAbove [.ref (K.2.1 + a0), .int p1, .int p2, .int p3] enZ (FX12_isAbove a0 p1 p2 p3) := by
  refine CT.of2 (lv2 := [(0, .ref (K.2.1 + a0)), (1, .int p1), (2, .int p2), (3, .int p3)]) (by decide) rfl hn (Nat.le_of_ble_eq_true rfl) rfl (rp_id ?_)
  unfold FX12_isAbove
  refine rp_aload_n 0 dX12_isAbove_0 rfl ?_
  refine rp_iload_n 1 dX12_isAbove_1 rfl ?_
  refine rp_iload_n 3 dX12_isAbove_2 rfl ?_
  refine rp_callVz [.int p1, .int p3] (SX12_doesHang (hn := hn) a0 p1 p3 h0) cvX12_doesHang (mw (i := 1599) (by decide +kernel)) (by omega) h0 (by decide) rfl rfl rfl (Nat.le_of_ble_eq_true rfl) dX12_isAbove_3 (fun x1 => ?_)
  refine rp_as ?_
  refine rp_join 41 (fun (v4 : Int32) => []) (fun v4 => [.int v4]) (fun v4 => ?_) (fun hJ41 => ?_)
  · exact rp_zretb rfl dX12_isAbove_41
  refine rp_if_eq 40 dX12_isAbove_6 (by decide) ?_ ?_
  · refine rp_iconst (0 : Int32) dX12_isAbove_40 (by decide) ?_
    exact rp_sub [] rfl (rp_pu (hJ41 (0 : Int32)))
  · refine rp_aload_n 0 dX12_isAbove_9 rfl ?_
    refine rp_getR fi_X12_83 h0 rfl dX12_isAbove_10 ?_
    refine rp_bipush (14 : Int32) dX12_isAbove_13 (by decide) ?_
    refine rp_iload_n 2 dX12_isAbove_15 rfl ?_
    refine rp_iadd dX12_isAbove_16 ?_
    refine rp_iald (tX12_10 h0) dX12_isAbove_17 (fun x2 => ?_)
    refine rp_aload_n 0 dX12_isAbove_18 rfl ?_
    refine rp_getR fi_X12_113 h0 rfl dX12_isAbove_19 ?_
    refine rp_iload_n 1 dX12_isAbove_22 rfl ?_
    refine rp_bipush (7 : Int32) dX12_isAbove_23 (by decide) ?_
    refine rp_iadd dX12_isAbove_25 ?_
    refine rp_iload_n 3 dX12_isAbove_26 rfl ?_
    refine rp_iadd dX12_isAbove_27 ?_
    refine rp_iald (tX12_23 h0) dX12_isAbove_28 (fun x3 => ?_)
    refine rp_ishr dX12_isAbove_29 ?_
    refine rp_iconst (1 : Int32) dX12_isAbove_30 (by decide) ?_
    refine rp_iand dX12_isAbove_31 ?_
    refine rp_iconst (1 : Int32) dX12_isAbove_32 (by decide) ?_
    refine rp_icmp_ne 40 dX12_isAbove_33 (by decide) ?_ ?_
    · refine rp_iconst (0 : Int32) dX12_isAbove_40 (by decide) ?_
      exact rp_sub [] rfl (rp_pu (hJ41 (0 : Int32)))
    · refine rp_iconst (1 : Int32) dX12_isAbove_36 (by decide) ?_
      refine rp_goto 41 dX12_isAbove_37 (by decide) ?_
      exact rp_sub [] rfl (rp_pu (hJ41 (1 : Int32)))

theorem dX12_howMany_0 : decode cX12_howMany 0 = .ok (.iconst 0, 1) := by decide +kernel
theorem dX12_howMany_1 : decode cX12_howMany 1 = .ok (.istore 4, 2) := by decide +kernel
theorem dX12_howMany_3 : decode cX12_howMany 3 = .ok (.iconst 0, 1) := by decide +kernel
theorem dX12_howMany_4 : decode cX12_howMany 4 = .ok (.istore 5, 2) := by decide +kernel
theorem dX12_howMany_6 : decode cX12_howMany 6 = .ok (.iload 5, 2) := by decide +kernel
theorem dX12_howMany_8 : decode cX12_howMany 8 = .ok (.aload_n 0, 1) := by decide +kernel
theorem dX12_howMany_9 : decode cX12_howMany 9 = .ok (.invokevirtual 269, 3) := by decide +kernel
theorem dX12_howMany_12 : decode cX12_howMany 12 = .ok (.if_icmp .ge 51, 3) := by decide +kernel
theorem dX12_howMany_15 : decode cX12_howMany 15 = .ok (.iload 4, 2) := by decide +kernel
theorem dX12_howMany_17 : decode cX12_howMany 17 = .ok (.aload_n 0, 1) := by decide +kernel
theorem dX12_howMany_18 : decode cX12_howMany 18 = .ok (.iload_n 1, 1) := by decide +kernel
theorem dX12_howMany_19 : decode cX12_howMany 19 = .ok (.iload_n 2, 1) := by decide +kernel
theorem dX12_howMany_20 : decode cX12_howMany 20 = .ok (.iload 5, 2) := by decide +kernel
theorem dX12_howMany_22 : decode cX12_howMany 22 = .ok (.invokevirtual 298, 3) := by decide +kernel
theorem dX12_howMany_25 : decode cX12_howMany 25 = .ok (.ifCond .eq 28, 3) := by decide +kernel
theorem dX12_howMany_28 : decode cX12_howMany 28 = .ok (.aload_n 0, 1) := by decide +kernel
theorem dX12_howMany_29 : decode cX12_howMany 29 = .ok (.iload_n 1, 1) := by decide +kernel
theorem dX12_howMany_30 : decode cX12_howMany 30 = .ok (.iload 5, 2) := by decide +kernel
theorem dX12_howMany_32 : decode cX12_howMany 32 = .ok (.invokevirtual 301, 3) := by decide +kernel
theorem dX12_howMany_35 : decode cX12_howMany 35 = .ok (.ifCond .eq 18, 3) := by decide +kernel
theorem dX12_howMany_38 : decode cX12_howMany 38 = .ok (.aload_n 0, 1) := by decide +kernel
theorem dX12_howMany_39 : decode cX12_howMany 39 = .ok (.iload 5, 2) := by decide +kernel
theorem dX12_howMany_41 : decode cX12_howMany 41 = .ok (.iconst 0, 1) := by decide +kernel
theorem dX12_howMany_42 : decode cX12_howMany 42 = .ok (.invokevirtual 273, 3) := by decide +kernel
theorem dX12_howMany_45 : decode cX12_howMany 45 = .ok (.iload_n 3, 1) := by decide +kernel
theorem dX12_howMany_46 : decode cX12_howMany 46 = .ok (.if_icmp .ne 7, 3) := by decide +kernel
theorem dX12_howMany_49 : decode cX12_howMany 49 = .ok (.iconst 1, 1) := by decide +kernel
theorem dX12_howMany_50 : decode cX12_howMany 50 = .ok (.goto 4, 3) := by decide +kernel
theorem dX12_howMany_53 : decode cX12_howMany 53 = .ok (.iconst 0, 1) := by decide +kernel
theorem dX12_howMany_54 : decode cX12_howMany 54 = .ok (.iadd, 1) := by decide +kernel
theorem dX12_howMany_55 : decode cX12_howMany 55 = .ok (.istore 4, 2) := by decide +kernel
theorem dX12_howMany_57 : decode cX12_howMany 57 = .ok (.iinc 5 1, 3) := by decide +kernel
theorem dX12_howMany_60 : decode cX12_howMany 60 = .ok (.goto (-54), 3) := by decide +kernel
theorem dX12_howMany_63 : decode cX12_howMany 63 = .ok (.iload 4, 2) := by decide +kernel
theorem dX12_howMany_65 : decode cX12_howMany 65 = .ok (.ireturn, 1) := by decide +kernel
abbrev mX12_howMany : MI := (RX12, yX12_howMany, cX12_howMany, 6, some .int)
theorem cvX12_howMany : CV mX12_howMany 3 := ⟨⟨mw (i := 1594) (by decide +kernel), mw (i := 12) (by decide +kernel), ⟨by decide +kernel, by decide +kernel, by decide +kernel⟩, by decide⟩, mw (i := 1593) (by decide +kernel), mp2 (i := 78) 31 (by decide +kernel)⟩
def FX12_howMany (a0 : Nat) (p1 : Int32) (p2 : Int32) (p3 : Int32) : PP Int32 := bd (it (fun (s1 : Int32 × Int32) => (bd (FX12_cloths a0) (fun x2 => if x2 ≤ s1.2 then pu (Sum.inr s1.1) else bd (FX12_isAbove a0 p1 p2 s1.2) (fun x3 => bd (if ((b2i x3)) = 0 then pu (0 : Int32) else bd (FX12_isWet a0 p1 s1.2) (fun x4 => if ((b2i x4)) = 0 then pu (0 : Int32) else bd (FX12_clothOf a0 s1.2 (0 : Int32)) (fun x5 => if x5 = p3 then pu (1 : Int32) else pu (0 : Int32))) : PP (Int32)) (fun (v6 : Int32) => lt (s1.1 + v6) (fun y7 => lt (s1.2 + (1 : Int32)) (fun y8 => pu (Sum.inl (y7, y8))))))) : PP ((Int32 × Int32) ⊕ (Int32)))) FU ((0 : Int32), (0 : Int32))) (fun (v9 : Int32) => pu v9)
set_option maxHeartbeats 4000000 in
set_option maxRecDepth 100000 in
theorem SX12_howMany {l : Launch} {K : KK} {n : Nat} {hn : 270 ≤ n} (a0 : Nat) (p1 : Int32) (p2 : Int32) (p3 : Int32) (h0 : ob a0 11) : CT l K n 2 mX12_howMany [.ref (K.2.1 + a0), .int p1, .int p2, .int p3] enI (FX12_howMany a0 p1 p2 p3) := by
  refine CT.of2 (lv2 := [(0, .ref (K.2.1 + a0)), (1, .int p1), (2, .int p2), (3, .int p3)]) (by decide) rfl hn (Nat.le_of_ble_eq_true rfl) rfl (rp_id ?_)
  unfold FX12_howMany
  refine rp_iconst (0 : Int32) dX12_howMany_0 (by decide) ?_
  refine rp_istore [(4, .int (0 : Int32)), (0, .ref (K.2.1 + a0)), (1, .int p1), (2, .int p2), (3, .int p3)] dX12_howMany_1 (by decide) rfl ?_
  refine rp_iconst (0 : Int32) dX12_howMany_3 (by decide) ?_
  refine rp_istore [(5, .int (0 : Int32)), (4, .int (0 : Int32)), (0, .ref (K.2.1 + a0)), (1, .int p1), (2, .int p2), (3, .int p3)] dX12_howMany_4 (by decide) rfl ?_
  refine rp_as ?_
  refine rp_join 63 (fun v9 => [(4, .int v9)]) (fun _ => []) (fun v9 => ?_) (fun hX6_0 => ?_)
  · refine rp_iload 0 dX12_howMany_63 rfl ?_
    exact rp_pu (rp_iret rfl dX12_howMany_65)
  refine rp_sub [2, 3, 4, 5, 1, 0] rfl (rp_it (fun (s1 : Int32 × Int32) => [(0, .ref (K.2.1 + a0)), (1, .int p1), (2, .int p2), (3, .int p3), (4, .int s1.1), (5, .int s1.2)]) (fun N6 ih6 s1 => ?_) FU ((0 : Int32), (0 : Int32)))
  refine rp_iload 5 dX12_howMany_6 rfl ?_
  refine rp_aload_n 0 dX12_howMany_8 rfl ?_
  refine rp_callVi [] (SX12_cloths (hn := hn) a0 h0) cvX12_cloths (mw (i := 1306) (by decide +kernel)) (by omega) h0 (by decide) rfl rfl rfl (Nat.le_of_ble_eq_true rfl) dX12_howMany_9 (fun x2 => ?_)
  refine rp_icmp_ge 63 dX12_howMany_12 (by decide) ?_ ?_
  · exact rp_sub [4] rfl (rp_pu (hX6_0 s1.1))
  · refine rp_iload 4 dX12_howMany_15 rfl ?_
    refine rp_aload_n 0 dX12_howMany_17 rfl ?_
    refine rp_iload_n 1 dX12_howMany_18 rfl ?_
    refine rp_iload_n 2 dX12_howMany_19 rfl ?_
    refine rp_iload 5 dX12_howMany_20 rfl ?_
    refine rp_callVz [.int p1, .int p2, .int s1.2] (SX12_isAbove (hn := hn) a0 p1 p2 s1.2 h0) cvX12_isAbove (mw (i := 1595) (by decide +kernel)) (by omega) h0 (by decide) rfl rfl rfl (Nat.le_of_ble_eq_true rfl) dX12_howMany_22 (fun x3 => ?_)
    refine rp_as ?_
    refine rp_join 54 (fun (v6 : Int32) => [(0, .ref (K.2.1 + a0)), (1, .int p1), (2, .int p2), (3, .int p3), (5, .int s1.2)]) (fun v6 => [.int v6, .int s1.1]) (fun v6 => ?_) (fun hJ54 => ?_)
    · refine rp_iadd dX12_howMany_54 ?_
      refine rp_lti (fun y7 => ?_)
      refine rp_istore [(4, .int y7), (0, .ref (K.2.1 + a0)), (1, .int p1), (2, .int p2), (3, .int p3), (5, .int s1.2)] dX12_howMany_55 (by decide) rfl ?_
      refine rp_iinc (fun y8 => [(5, .int y8), (4, .int y7), (0, .ref (K.2.1 + a0)), (1, .int p1), (2, .int p2), (3, .int p3)]) 5 dX12_howMany_57 rfl (by rfl) (by decide) (fun y8 => rfl) (fun y8 => ?_)
      refine rp_goto 6 dX12_howMany_60 (by decide) ?_
      exact rp_sub [2, 3, 4, 5, 1, 0] rfl (ih6 (y7, y8))
    refine rp_if_eq 53 dX12_howMany_25 (by decide) ?_ ?_
    · refine rp_iconst (0 : Int32) dX12_howMany_53 (by decide) ?_
      exact rp_sub [0, 1, 2, 3, 5] rfl (rp_pu (hJ54 (0 : Int32)))
    · refine rp_aload_n 0 dX12_howMany_28 rfl ?_
      refine rp_iload_n 1 dX12_howMany_29 rfl ?_
      refine rp_iload 5 dX12_howMany_30 rfl ?_
      refine rp_callVz [.int p1, .int s1.2] (SX12_isWet (hn := hn) a0 p1 s1.2 h0) cvX12_isWet (mw (i := 1603) (by decide +kernel)) (by omega) h0 (by decide) rfl rfl rfl (Nat.le_of_ble_eq_true rfl) dX12_howMany_32 (fun x4 => ?_)
      refine rp_if_eq 53 dX12_howMany_35 (by decide) ?_ ?_
      · refine rp_iconst (0 : Int32) dX12_howMany_53 (by decide) ?_
        exact rp_sub [0, 1, 2, 3, 5] rfl (rp_pu (hJ54 (0 : Int32)))
      · refine rp_aload_n 0 dX12_howMany_38 rfl ?_
        refine rp_iload 5 dX12_howMany_39 rfl ?_
        refine rp_iconst (0 : Int32) dX12_howMany_41 (by decide) ?_
        refine rp_callVi [.int s1.2, .int (0 : Int32)] (SX12_clothOf (hn := hn) a0 s1.2 (0 : Int32) h0) cvX12_clothOf (mw (i := 1310) (by decide +kernel)) (by omega) h0 (by decide) rfl rfl rfl (Nat.le_of_ble_eq_true rfl) dX12_howMany_42 (fun x5 => ?_)
        refine rp_iload_n 3 dX12_howMany_45 rfl ?_
        refine rp_icmp_ne 53 dX12_howMany_46 (by decide) ?_ ?_
        · refine rp_iconst (0 : Int32) dX12_howMany_53 (by decide) ?_
          exact rp_sub [0, 1, 2, 3, 5] rfl (rp_pu (hJ54 (0 : Int32)))
        · refine rp_iconst (1 : Int32) dX12_howMany_49 (by decide) ?_
          refine rp_goto 54 dX12_howMany_50 (by decide) ?_
          exact rp_sub [0, 1, 2, 3, 5] rfl (rp_pu (hJ54 (1 : Int32)))

theorem dX12_weatherOf_0 : decode cX12_weatherOf 0 = .ok (.iconst (-1), 1) := by decide +kernel
theorem dX12_weatherOf_1 : decode cX12_weatherOf 1 = .ok (.istore_n 3, 1) := by decide +kernel
theorem dX12_weatherOf_2 : decode cX12_weatherOf 2 = .ok (.iconst 0, 1) := by decide +kernel
theorem dX12_weatherOf_3 : decode cX12_weatherOf 3 = .ok (.istore 4, 2) := by decide +kernel
theorem dX12_weatherOf_5 : decode cX12_weatherOf 5 = .ok (.iconst 0, 1) := by decide +kernel
theorem dX12_weatherOf_6 : decode cX12_weatherOf 6 = .ok (.istore 5, 2) := by decide +kernel
theorem dX12_weatherOf_8 : decode cX12_weatherOf 8 = .ok (.iload 5, 2) := by decide +kernel
theorem dX12_weatherOf_10 : decode cX12_weatherOf 10 = .ok (.iconst 4, 1) := by decide +kernel
theorem dX12_weatherOf_11 : decode cX12_weatherOf 11 = .ok (.if_icmp .ge 81, 3) := by decide +kernel
theorem dX12_weatherOf_14 : decode cX12_weatherOf 14 = .ok (.iload 5, 2) := by decide +kernel
theorem dX12_weatherOf_16 : decode cX12_weatherOf 16 = .ok (.ifCond .ne 7, 3) := by decide +kernel
theorem dX12_weatherOf_19 : decode cX12_weatherOf 19 = .ok (.iconst 2, 1) := by decide +kernel
theorem dX12_weatherOf_20 : decode cX12_weatherOf 20 = .ok (.goto 24, 3) := by decide +kernel
theorem dX12_weatherOf_23 : decode cX12_weatherOf 23 = .ok (.iload 5, 2) := by decide +kernel
theorem dX12_weatherOf_25 : decode cX12_weatherOf 25 = .ok (.iconst 1, 1) := by decide +kernel
theorem dX12_weatherOf_26 : decode cX12_weatherOf 26 = .ok (.if_icmp .ne 7, 3) := by decide +kernel
theorem dX12_weatherOf_29 : decode cX12_weatherOf 29 = .ok (.iconst 3, 1) := by decide +kernel
theorem dX12_weatherOf_30 : decode cX12_weatherOf 30 = .ok (.goto 14, 3) := by decide +kernel
theorem dX12_weatherOf_33 : decode cX12_weatherOf 33 = .ok (.iload 5, 2) := by decide +kernel
theorem dX12_weatherOf_35 : decode cX12_weatherOf 35 = .ok (.iconst 2, 1) := by decide +kernel
theorem dX12_weatherOf_36 : decode cX12_weatherOf 36 = .ok (.if_icmp .ne 7, 3) := by decide +kernel
theorem dX12_weatherOf_39 : decode cX12_weatherOf 39 = .ok (.iconst 0, 1) := by decide +kernel
theorem dX12_weatherOf_40 : decode cX12_weatherOf 40 = .ok (.goto 4, 3) := by decide +kernel
theorem dX12_weatherOf_43 : decode cX12_weatherOf 43 = .ok (.iconst 1, 1) := by decide +kernel
theorem dX12_weatherOf_44 : decode cX12_weatherOf 44 = .ok (.istore 6, 2) := by decide +kernel
theorem dX12_weatherOf_46 : decode cX12_weatherOf 46 = .ok (.aload_n 0, 1) := by decide +kernel
theorem dX12_weatherOf_47 : decode cX12_weatherOf 47 = .ok (.iload_n 1, 1) := by decide +kernel
theorem dX12_weatherOf_48 : decode cX12_weatherOf 48 = .ok (.iload_n 2, 1) := by decide +kernel
theorem dX12_weatherOf_49 : decode cX12_weatherOf 49 = .ok (.iload 6, 2) := by decide +kernel
theorem dX12_weatherOf_51 : decode cX12_weatherOf 51 = .ok (.invokevirtual 304, 3) := by decide +kernel
theorem dX12_weatherOf_54 : decode cX12_weatherOf 54 = .ok (.istore 7, 2) := by decide +kernel
theorem dX12_weatherOf_56 : decode cX12_weatherOf 56 = .ok (.iload 7, 2) := by decide +kernel
theorem dX12_weatherOf_58 : decode cX12_weatherOf 58 = .ok (.iload 4, 2) := by decide +kernel
theorem dX12_weatherOf_60 : decode cX12_weatherOf 60 = .ok (.if_icmp .le 8, 3) := by decide +kernel
theorem dX12_weatherOf_63 : decode cX12_weatherOf 63 = .ok (.iload 6, 2) := by decide +kernel
theorem dX12_weatherOf_65 : decode cX12_weatherOf 65 = .ok (.goto 4, 3) := by decide +kernel
theorem dX12_weatherOf_68 : decode cX12_weatherOf 68 = .ok (.iload_n 3, 1) := by decide +kernel
theorem dX12_weatherOf_69 : decode cX12_weatherOf 69 = .ok (.istore_n 3, 1) := by decide +kernel
theorem dX12_weatherOf_70 : decode cX12_weatherOf 70 = .ok (.iload 7, 2) := by decide +kernel
theorem dX12_weatherOf_72 : decode cX12_weatherOf 72 = .ok (.iload 4, 2) := by decide +kernel
theorem dX12_weatherOf_74 : decode cX12_weatherOf 74 = .ok (.if_icmp .le 8, 3) := by decide +kernel
theorem dX12_weatherOf_77 : decode cX12_weatherOf 77 = .ok (.iload 7, 2) := by decide +kernel
theorem dX12_weatherOf_79 : decode cX12_weatherOf 79 = .ok (.goto 5, 3) := by decide +kernel
theorem dX12_weatherOf_82 : decode cX12_weatherOf 82 = .ok (.iload 4, 2) := by decide +kernel
theorem dX12_weatherOf_84 : decode cX12_weatherOf 84 = .ok (.istore 4, 2) := by decide +kernel
theorem dX12_weatherOf_86 : decode cX12_weatherOf 86 = .ok (.iinc 5 1, 3) := by decide +kernel
theorem dX12_weatherOf_89 : decode cX12_weatherOf 89 = .ok (.goto (-81), 3) := by decide +kernel
theorem dX12_weatherOf_92 : decode cX12_weatherOf 92 = .ok (.iload_n 3, 1) := by decide +kernel
theorem dX12_weatherOf_93 : decode cX12_weatherOf 93 = .ok (.ireturn, 1) := by decide +kernel
abbrev mX12_weatherOf : MI := (RX12, yX12_weatherOf, cX12_weatherOf, 8, some .int)
theorem cvX12_weatherOf : CV mX12_weatherOf 2 := ⟨⟨mw (i := 1590) (by decide +kernel), mw (i := 12) (by decide +kernel), ⟨by decide +kernel, by decide +kernel, by decide +kernel⟩, by decide⟩, mw (i := 1589) (by decide +kernel), mp2 (i := 77) 31 (by decide +kernel)⟩
def FX12_weatherOf (a0 : Nat) (p1 : Int32) (p2 : Int32) : PP Int32 := bd (it (fun (s1 : Int32 × Int32 × Int32) => (if (4 : Int32) ≤ s1.2.2 then pu (Sum.inr s1.1) else bd (if s1.2.2 = 0 then pu (2 : Int32) else if s1.2.2 = (1 : Int32) then pu (3 : Int32) else if s1.2.2 = (2 : Int32) then pu (0 : Int32) else pu (1 : Int32) : PP (Int32)) (fun (v2 : Int32) => bd (FX12_howMany a0 p1 p2 v2) (fun x3 => bd (if x3 ≤ s1.2.1 then pu s1.1 else pu v2 : PP (Int32)) (fun (v4 : Int32) => bd (if x3 ≤ s1.2.1 then pu s1.2.1 else pu x3 : PP (Int32)) (fun (v5 : Int32) => lt (s1.2.2 + (1 : Int32)) (fun y6 => pu (Sum.inl (v4, v5, y6))))))) : PP ((Int32 × Int32 × Int32) ⊕ (Int32)))) FU ((-1 : Int32), (0 : Int32), (0 : Int32))) (fun (v7 : Int32) => pu v7)
set_option maxHeartbeats 4000000 in
set_option maxRecDepth 100000 in
theorem SX12_weatherOf {l : Launch} {K : KK} {n : Nat} {hn : 270 ≤ n} (a0 : Nat) (p1 : Int32) (p2 : Int32) (h0 : ob a0 11) : CT l K n 3 mX12_weatherOf [.ref (K.2.1 + a0), .int p1, .int p2] enI (FX12_weatherOf a0 p1 p2) := by
  refine CT.of2 (lv2 := [(0, .ref (K.2.1 + a0)), (1, .int p1), (2, .int p2)]) (by decide) rfl hn (Nat.le_of_ble_eq_true rfl) rfl (rp_id ?_)
  unfold FX12_weatherOf
  refine rp_iconst (-1 : Int32) dX12_weatherOf_0 (by decide) ?_
  refine rp_istore_n [(3, .int (-1 : Int32)), (0, .ref (K.2.1 + a0)), (1, .int p1), (2, .int p2)] dX12_weatherOf_1 (by decide) rfl ?_
  refine rp_iconst (0 : Int32) dX12_weatherOf_2 (by decide) ?_
  refine rp_istore [(4, .int (0 : Int32)), (3, .int (-1 : Int32)), (0, .ref (K.2.1 + a0)), (1, .int p1), (2, .int p2)] dX12_weatherOf_3 (by decide) rfl ?_
  refine rp_iconst (0 : Int32) dX12_weatherOf_5 (by decide) ?_
  refine rp_istore [(5, .int (0 : Int32)), (4, .int (0 : Int32)), (3, .int (-1 : Int32)), (0, .ref (K.2.1 + a0)), (1, .int p1), (2, .int p2)] dX12_weatherOf_6 (by decide) rfl ?_
  refine rp_as ?_
  refine rp_join 92 (fun v7 => [(3, .int v7)]) (fun _ => []) (fun v7 => ?_) (fun hX8_0 => ?_)
  · refine rp_iload_n 0 dX12_weatherOf_92 rfl ?_
    exact rp_pu (rp_iret rfl dX12_weatherOf_93)
  refine rp_sub [3, 4, 5, 2, 1, 0] rfl (rp_it (fun (s1 : Int32 × Int32 × Int32) => [(0, .ref (K.2.1 + a0)), (1, .int p1), (2, .int p2), (3, .int s1.1), (4, .int s1.2.1), (5, .int s1.2.2)]) (fun N8 ih8 s1 => ?_) FU ((-1 : Int32), (0 : Int32), (0 : Int32)))
  refine rp_iload 5 dX12_weatherOf_8 rfl ?_
  refine rp_iconst (4 : Int32) dX12_weatherOf_10 (by decide) ?_
  refine rp_icmp_ge 92 dX12_weatherOf_11 (by decide) ?_ ?_
  · exact rp_sub [3] rfl (rp_pu (hX8_0 s1.1))
  · refine rp_iload 5 dX12_weatherOf_14 rfl ?_
    refine rp_as ?_
    refine rp_join 44 (fun (v2 : Int32) => [(0, .ref (K.2.1 + a0)), (1, .int p1), (2, .int p2), (3, .int s1.1), (4, .int s1.2.1), (5, .int s1.2.2)]) (fun v2 => [.int v2]) (fun v2 => ?_) (fun hJ44 => ?_)
    · refine rp_istore [(6, .int v2), (0, .ref (K.2.1 + a0)), (1, .int p1), (2, .int p2), (3, .int s1.1), (4, .int s1.2.1), (5, .int s1.2.2)] dX12_weatherOf_44 (by decide) rfl ?_
      refine rp_aload_n 1 dX12_weatherOf_46 rfl ?_
      refine rp_iload_n 2 dX12_weatherOf_47 rfl ?_
      refine rp_iload_n 3 dX12_weatherOf_48 rfl ?_
      refine rp_iload 0 dX12_weatherOf_49 rfl ?_
      refine rp_callVi [.int p1, .int p2, .int v2] (SX12_howMany (hn := hn) a0 p1 p2 v2 h0) cvX12_howMany (mw (i := 1591) (by decide +kernel)) (by omega) h0 (by decide) rfl rfl rfl (Nat.le_of_ble_eq_true rfl) dX12_weatherOf_51 (fun x3 => ?_)
      refine rp_istore [(7, .int x3), (6, .int v2), (0, .ref (K.2.1 + a0)), (1, .int p1), (2, .int p2), (3, .int s1.1), (4, .int s1.2.1), (5, .int s1.2.2)] dX12_weatherOf_54 (by decide) rfl ?_
      refine rp_iload 0 dX12_weatherOf_56 rfl ?_
      refine rp_iload 6 dX12_weatherOf_58 rfl ?_
      refine rp_as ?_
      refine rp_join 69 (fun (v4 : Int32) => [(0, .ref (K.2.1 + a0)), (1, .int p1), (2, .int p2), (4, .int s1.2.1), (5, .int s1.2.2), (7, .int x3)]) (fun v4 => [.int v4]) (fun v4 => ?_) (fun hJ69 => ?_)
      · refine rp_istore_n [(3, .int v4), (0, .ref (K.2.1 + a0)), (1, .int p1), (2, .int p2), (4, .int s1.2.1), (5, .int s1.2.2), (7, .int x3)] dX12_weatherOf_69 (by decide) rfl ?_
        refine rp_iload 6 dX12_weatherOf_70 rfl ?_
        refine rp_iload 4 dX12_weatherOf_72 rfl ?_
        refine rp_as ?_
        refine rp_join 84 (fun (v5 : Int32) => [(0, .ref (K.2.1 + a0)), (1, .int p1), (2, .int p2), (3, .int v4), (5, .int s1.2.2)]) (fun v5 => [.int v5]) (fun v5 => ?_) (fun hJ84 => ?_)
        · refine rp_istore [(4, .int v5), (0, .ref (K.2.1 + a0)), (1, .int p1), (2, .int p2), (3, .int v4), (5, .int s1.2.2)] dX12_weatherOf_84 (by decide) rfl ?_
          refine rp_iinc (fun y6 => [(5, .int y6), (4, .int v5), (0, .ref (K.2.1 + a0)), (1, .int p1), (2, .int p2), (3, .int v4)]) 5 dX12_weatherOf_86 rfl (by rfl) (by decide) (fun y6 => rfl) (fun y6 => ?_)
          refine rp_goto 8 dX12_weatherOf_89 (by decide) ?_
          exact rp_sub [2, 3, 4, 5, 1, 0] rfl (ih8 (v4, v5, y6))
        refine rp_icmp_le 82 dX12_weatherOf_74 (by decide) ?_ ?_
        · refine rp_iload 4 dX12_weatherOf_82 rfl ?_
          exact rp_sub [1, 2, 3, 0, 5] rfl (rp_pu (hJ84 s1.2.1))
        · refine rp_iload 6 dX12_weatherOf_77 rfl ?_
          refine rp_goto 84 dX12_weatherOf_79 (by decide) ?_
          exact rp_sub [1, 2, 3, 0, 5] rfl (rp_pu (hJ84 x3))
      refine rp_icmp_le 68 dX12_weatherOf_60 (by decide) ?_ ?_
      · refine rp_iload_n 5 dX12_weatherOf_68 rfl ?_
        exact rp_sub [2, 3, 4, 6, 7, 0] rfl (rp_pu (hJ69 s1.1))
      · refine rp_iload 1 dX12_weatherOf_63 rfl ?_
        refine rp_goto 69 dX12_weatherOf_65 (by decide) ?_
        exact rp_sub [2, 3, 4, 6, 7, 0] rfl (rp_pu (hJ69 v2))
    refine rp_if_ne 23 dX12_weatherOf_16 (by decide) ?_ ?_
    · refine rp_iload 5 dX12_weatherOf_23 rfl ?_
      refine rp_iconst (1 : Int32) dX12_weatherOf_25 (by decide) ?_
      refine rp_icmp_ne 33 dX12_weatherOf_26 (by decide) ?_ ?_
      · refine rp_iload 5 dX12_weatherOf_33 rfl ?_
        refine rp_iconst (2 : Int32) dX12_weatherOf_35 (by decide) ?_
        refine rp_icmp_ne 43 dX12_weatherOf_36 (by decide) ?_ ?_
        · refine rp_iconst (1 : Int32) dX12_weatherOf_43 (by decide) ?_
          exact rp_sub [0, 1, 2, 3, 4, 5] rfl (rp_pu (hJ44 (1 : Int32)))
        · refine rp_iconst (0 : Int32) dX12_weatherOf_39 (by decide) ?_
          refine rp_goto 44 dX12_weatherOf_40 (by decide) ?_
          exact rp_sub [0, 1, 2, 3, 4, 5] rfl (rp_pu (hJ44 (0 : Int32)))
      · refine rp_iconst (3 : Int32) dX12_weatherOf_29 (by decide) ?_
        refine rp_goto 44 dX12_weatherOf_30 (by decide) ?_
        exact rp_sub [0, 1, 2, 3, 4, 5] rfl (rp_pu (hJ44 (3 : Int32)))
    · refine rp_iconst (2 : Int32) dX12_weatherOf_19 (by decide) ?_
      refine rp_goto 44 dX12_weatherOf_20 (by decide) ?_
      exact rp_sub [0, 1, 2, 3, 4, 5] rfl (rp_pu (hJ44 (2 : Int32)))

theorem dX12_windOf_0 : decode cX12_windOf 0 = .ok (.iconst 0, 1) := by decide +kernel
theorem dX12_windOf_1 : decode cX12_windOf 1 = .ok (.istore_n 2, 1) := by decide +kernel
theorem dX12_windOf_2 : decode cX12_windOf 2 = .ok (.iconst 0, 1) := by decide +kernel
theorem dX12_windOf_3 : decode cX12_windOf 3 = .ok (.istore_n 3, 1) := by decide +kernel
theorem dX12_windOf_4 : decode cX12_windOf 4 = .ok (.iload_n 3, 1) := by decide +kernel
theorem dX12_windOf_5 : decode cX12_windOf 5 = .ok (.aload_n 0, 1) := by decide +kernel
theorem dX12_windOf_6 : decode cX12_windOf 6 = .ok (.invokevirtual 269, 3) := by decide +kernel
theorem dX12_windOf_9 : decode cX12_windOf 9 = .ok (.if_icmp .ge 37, 3) := by decide +kernel
theorem dX12_windOf_12 : decode cX12_windOf 12 = .ok (.iload_n 2, 1) := by decide +kernel
theorem dX12_windOf_13 : decode cX12_windOf 13 = .ok (.aload_n 0, 1) := by decide +kernel
theorem dX12_windOf_14 : decode cX12_windOf 14 = .ok (.iconst 0, 1) := by decide +kernel
theorem dX12_windOf_15 : decode cX12_windOf 15 = .ok (.iload_n 1, 1) := by decide +kernel
theorem dX12_windOf_16 : decode cX12_windOf 16 = .ok (.iload_n 3, 1) := by decide +kernel
theorem dX12_windOf_17 : decode cX12_windOf 17 = .ok (.invokevirtual 298, 3) := by decide +kernel
theorem dX12_windOf_20 : decode cX12_windOf 20 = .ok (.ifCond .eq 17, 3) := by decide +kernel
theorem dX12_windOf_23 : decode cX12_windOf 23 = .ok (.iconst 3, 1) := by decide +kernel
theorem dX12_windOf_24 : decode cX12_windOf 24 = .ok (.aload_n 0, 1) := by decide +kernel
theorem dX12_windOf_25 : decode cX12_windOf 25 = .ok (.getfield 113, 3) := by decide +kernel
theorem dX12_windOf_28 : decode cX12_windOf 28 = .ok (.bipush 13, 2) := by decide +kernel
theorem dX12_windOf_30 : decode cX12_windOf 30 = .ok (.iload_n 3, 1) := by decide +kernel
theorem dX12_windOf_31 : decode cX12_windOf 31 = .ok (.iadd, 1) := by decide +kernel
theorem dX12_windOf_32 : decode cX12_windOf 32 = .ok (.iaload, 1) := by decide +kernel
theorem dX12_windOf_33 : decode cX12_windOf 33 = .ok (.isub, 1) := by decide +kernel
theorem dX12_windOf_34 : decode cX12_windOf 34 = .ok (.goto 4, 3) := by decide +kernel
theorem dX12_windOf_37 : decode cX12_windOf 37 = .ok (.iconst 0, 1) := by decide +kernel
theorem dX12_windOf_38 : decode cX12_windOf 38 = .ok (.iadd, 1) := by decide +kernel
theorem dX12_windOf_39 : decode cX12_windOf 39 = .ok (.istore_n 2, 1) := by decide +kernel
theorem dX12_windOf_40 : decode cX12_windOf 40 = .ok (.iinc 3 1, 3) := by decide +kernel
theorem dX12_windOf_43 : decode cX12_windOf 43 = .ok (.goto (-39), 3) := by decide +kernel
theorem dX12_windOf_46 : decode cX12_windOf 46 = .ok (.iload_n 2, 1) := by decide +kernel
theorem dX12_windOf_47 : decode cX12_windOf 47 = .ok (.ireturn, 1) := by decide +kernel
abbrev mX12_windOf : MI := (RX12, yX12_windOf, cX12_windOf, 4, some .int)
theorem cvX12_windOf : CV mX12_windOf 1 := ⟨⟨mw (i := 1610) (by decide +kernel), mw (i := 12) (by decide +kernel), ⟨by decide +kernel, by decide +kernel, by decide +kernel⟩, by decide⟩, mw (i := 1609) (by decide +kernel), mp2 (i := 82) 31 (by decide +kernel)⟩
def FX12_windOf (a0 : Nat) (p1 : Int32) : PP Int32 := bd (it (fun (s1 : Int32 × Int32) => (bd (FX12_cloths a0) (fun x2 => if x2 ≤ s1.2 then pu (Sum.inr s1.1) else bd (FX12_isAbove a0 (0 : Int32) p1 s1.2) (fun x3 => bd (if ((b2i x3)) = 0 then pu (0 : Int32) else bd (aI (rf a0 23) 966 ((13 : Int32) + s1.2)) (fun x4 => pu ((3 : Int32) - x4)) : PP (Int32)) (fun (v5 : Int32) => lt (s1.1 + v5) (fun y6 => lt (s1.2 + (1 : Int32)) (fun y7 => pu (Sum.inl (y6, y7))))))) : PP ((Int32 × Int32) ⊕ (Int32)))) FU ((0 : Int32), (0 : Int32))) (fun (v8 : Int32) => pu v8)
set_option maxHeartbeats 4000000 in
set_option maxRecDepth 100000 in
theorem SX12_windOf {l : Launch} {K : KK} {n : Nat} {hn : 270 ≤ n} (a0 : Nat) (p1 : Int32) (h0 : ob a0 11) : CT l K n 2 mX12_windOf [.ref (K.2.1 + a0), .int p1] enI (FX12_windOf a0 p1) := by
  refine CT.of2 (lv2 := [(0, .ref (K.2.1 + a0)), (1, .int p1)]) (by decide) rfl hn (Nat.le_of_ble_eq_true rfl) rfl (rp_id ?_)
  unfold FX12_windOf
  refine rp_iconst (0 : Int32) dX12_windOf_0 (by decide) ?_
  refine rp_istore_n [(2, .int (0 : Int32)), (0, .ref (K.2.1 + a0)), (1, .int p1)] dX12_windOf_1 (by decide) rfl ?_
  refine rp_iconst (0 : Int32) dX12_windOf_2 (by decide) ?_
  refine rp_istore_n [(3, .int (0 : Int32)), (2, .int (0 : Int32)), (0, .ref (K.2.1 + a0)), (1, .int p1)] dX12_windOf_3 (by decide) rfl ?_
  refine rp_as ?_
  refine rp_join 46 (fun v8 => [(2, .int v8)]) (fun _ => []) (fun v8 => ?_) (fun hX4_0 => ?_)
  · refine rp_iload_n 0 dX12_windOf_46 rfl ?_
    exact rp_pu (rp_iret rfl dX12_windOf_47)
  refine rp_sub [2, 3, 1, 0] rfl (rp_it (fun (s1 : Int32 × Int32) => [(0, .ref (K.2.1 + a0)), (1, .int p1), (2, .int s1.1), (3, .int s1.2)]) (fun N4 ih4 s1 => ?_) FU ((0 : Int32), (0 : Int32)))
  refine rp_iload_n 3 dX12_windOf_4 rfl ?_
  refine rp_aload_n 0 dX12_windOf_5 rfl ?_
  refine rp_callVi [] (SX12_cloths (hn := hn) a0 h0) cvX12_cloths (mw (i := 1306) (by decide +kernel)) (by omega) h0 (by decide) rfl rfl rfl (Nat.le_of_ble_eq_true rfl) dX12_windOf_6 (fun x2 => ?_)
  refine rp_icmp_ge 46 dX12_windOf_9 (by decide) ?_ ?_
  · exact rp_sub [2] rfl (rp_pu (hX4_0 s1.1))
  · refine rp_iload_n 2 dX12_windOf_12 rfl ?_
    refine rp_aload_n 0 dX12_windOf_13 rfl ?_
    refine rp_iconst (0 : Int32) dX12_windOf_14 (by decide) ?_
    refine rp_iload_n 1 dX12_windOf_15 rfl ?_
    refine rp_iload_n 3 dX12_windOf_16 rfl ?_
    refine rp_callVz [.int (0 : Int32), .int p1, .int s1.2] (SX12_isAbove (hn := hn) a0 (0 : Int32) p1 s1.2 h0) cvX12_isAbove (mw (i := 1595) (by decide +kernel)) (by omega) h0 (by decide) rfl rfl rfl (Nat.le_of_ble_eq_true rfl) dX12_windOf_17 (fun x3 => ?_)
    refine rp_as ?_
    refine rp_join 38 (fun (v5 : Int32) => [(0, .ref (K.2.1 + a0)), (1, .int p1), (3, .int s1.2)]) (fun v5 => [.int v5, .int s1.1]) (fun v5 => ?_) (fun hJ38 => ?_)
    · refine rp_iadd dX12_windOf_38 ?_
      refine rp_lti (fun y6 => ?_)
      refine rp_istore_n [(2, .int y6), (0, .ref (K.2.1 + a0)), (1, .int p1), (3, .int s1.2)] dX12_windOf_39 (by decide) rfl ?_
      refine rp_iinc (fun y7 => [(3, .int y7), (2, .int y6), (0, .ref (K.2.1 + a0)), (1, .int p1)]) 3 dX12_windOf_40 rfl (by rfl) (by decide) (fun y7 => rfl) (fun y7 => ?_)
      refine rp_goto 4 dX12_windOf_43 (by decide) ?_
      exact rp_sub [2, 3, 1, 0] rfl (ih4 (y6, y7))
    refine rp_if_eq 37 dX12_windOf_20 (by decide) ?_ ?_
    · refine rp_iconst (0 : Int32) dX12_windOf_37 (by decide) ?_
      exact rp_sub [0, 1, 3] rfl (rp_pu (hJ38 (0 : Int32)))
    · refine rp_iconst (3 : Int32) dX12_windOf_23 (by decide) ?_
      refine rp_aload_n 0 dX12_windOf_24 rfl ?_
      refine rp_getR fi_X12_113 h0 rfl dX12_windOf_25 ?_
      refine rp_bipush (13 : Int32) dX12_windOf_28 (by decide) ?_
      refine rp_iload_n 3 dX12_windOf_30 rfl ?_
      refine rp_iadd dX12_windOf_31 ?_
      refine rp_iald (tX12_23 h0) dX12_windOf_32 (fun x4 => ?_)
      refine rp_isub dX12_windOf_33 ?_
      refine rp_goto 38 dX12_windOf_34 (by decide) ?_
      exact rp_sub [0, 1, 3] rfl (rp_pu (hJ38 ((3 : Int32) - x4)))

theorem dX12_isThunder_0 : decode cX12_isThunder 0 = .ok (.iconst 0, 1) := by decide +kernel
theorem dX12_isThunder_1 : decode cX12_isThunder 1 = .ok (.istore_n 2, 1) := by decide +kernel
theorem dX12_isThunder_2 : decode cX12_isThunder 2 = .ok (.iconst 0, 1) := by decide +kernel
theorem dX12_isThunder_3 : decode cX12_isThunder 3 = .ok (.istore_n 3, 1) := by decide +kernel
theorem dX12_isThunder_4 : decode cX12_isThunder 4 = .ok (.iload_n 3, 1) := by decide +kernel
theorem dX12_isThunder_5 : decode cX12_isThunder 5 = .ok (.aload_n 0, 1) := by decide +kernel
theorem dX12_isThunder_6 : decode cX12_isThunder 6 = .ok (.invokevirtual 288, 3) := by decide +kernel
theorem dX12_isThunder_9 : decode cX12_isThunder 9 = .ok (.if_icmp .ge 29, 3) := by decide +kernel
theorem dX12_isThunder_12 : decode cX12_isThunder 12 = .ok (.iload_n 2, 1) := by decide +kernel
theorem dX12_isThunder_13 : decode cX12_isThunder 13 = .ok (.ifCond .ne 13, 3) := by decide +kernel
theorem dX12_isThunder_16 : decode cX12_isThunder 16 = .ok (.aload_n 0, 1) := by decide +kernel
theorem dX12_isThunder_17 : decode cX12_isThunder 17 = .ok (.iload_n 1, 1) := by decide +kernel
theorem dX12_isThunder_18 : decode cX12_isThunder 18 = .ok (.iload_n 3, 1) := by decide +kernel
theorem dX12_isThunder_19 : decode cX12_isThunder 19 = .ok (.invokevirtual 307, 3) := by decide +kernel
theorem dX12_isThunder_22 : decode cX12_isThunder 22 = .ok (.iconst 2, 1) := by decide +kernel
theorem dX12_isThunder_23 : decode cX12_isThunder 23 = .ok (.if_icmp .ne 7, 3) := by decide +kernel
theorem dX12_isThunder_26 : decode cX12_isThunder 26 = .ok (.iconst 1, 1) := by decide +kernel
theorem dX12_isThunder_27 : decode cX12_isThunder 27 = .ok (.goto 4, 3) := by decide +kernel
theorem dX12_isThunder_30 : decode cX12_isThunder 30 = .ok (.iconst 0, 1) := by decide +kernel
theorem dX12_isThunder_31 : decode cX12_isThunder 31 = .ok (.istore_n 2, 1) := by decide +kernel
theorem dX12_isThunder_32 : decode cX12_isThunder 32 = .ok (.iinc 3 1, 3) := by decide +kernel
theorem dX12_isThunder_35 : decode cX12_isThunder 35 = .ok (.goto (-31), 3) := by decide +kernel
theorem dX12_isThunder_38 : decode cX12_isThunder 38 = .ok (.iload_n 2, 1) := by decide +kernel
theorem dX12_isThunder_39 : decode cX12_isThunder 39 = .ok (.ireturn, 1) := by decide +kernel
abbrev mX12_isThunder : MI := (RX12, yX12_isThunder, cX12_isThunder, 4, some .boolean)
theorem cvX12_isThunder : CV mX12_isThunder 1 := ⟨⟨mw (i := 1669) (by decide +kernel), mw (i := 12) (by decide +kernel), ⟨by decide +kernel, by decide +kernel, by decide +kernel⟩, by decide⟩, mw (i := 1668) (by decide +kernel), mp2 (i := 90) 31 (by decide +kernel)⟩
def FX12_isThunder (a0 : Nat) (p1 : Int32) : PP Bool := bd (it (fun (s1 : Int32 × Int32) => (bd (FX12_places a0) (fun x2 => if x2 ≤ s1.2 then pu (Sum.inr s1.1) else bd (if s1.1 = 0 then bd (FX12_weatherOf a0 p1 s1.2) (fun x3 => if x3 = (2 : Int32) then pu (1 : Int32) else pu (0 : Int32)) else pu (1 : Int32) : PP (Int32)) (fun (v4 : Int32) => lt (s1.2 + (1 : Int32)) (fun y5 => pu (Sum.inl (v4, y5))))) : PP ((Int32 × Int32) ⊕ (Int32)))) FU ((0 : Int32), (0 : Int32))) (fun (v6 : Int32) => zb v6)
set_option maxHeartbeats 4000000 in
set_option maxRecDepth 100000 in
theorem SX12_isThunder {l : Launch} {K : KK} {n : Nat} {hn : 270 ≤ n} (a0 : Nat) (p1 : Int32) (h0 : ob a0 11) : CT l K n 4 mX12_isThunder [.ref (K.2.1 + a0), .int p1] enZ (FX12_isThunder a0 p1) := by
  refine CT.of2 (lv2 := [(0, .ref (K.2.1 + a0)), (1, .int p1)]) (by decide) rfl hn (Nat.le_of_ble_eq_true rfl) rfl (rp_id ?_)
  unfold FX12_isThunder
  refine rp_iconst (0 : Int32) dX12_isThunder_0 (by decide) ?_
  refine rp_istore_n [(2, .int (0 : Int32)), (0, .ref (K.2.1 + a0)), (1, .int p1)] dX12_isThunder_1 (by decide) rfl ?_
  refine rp_iconst (0 : Int32) dX12_isThunder_2 (by decide) ?_
  refine rp_istore_n [(3, .int (0 : Int32)), (2, .int (0 : Int32)), (0, .ref (K.2.1 + a0)), (1, .int p1)] dX12_isThunder_3 (by decide) rfl ?_
  refine rp_as ?_
  refine rp_join 38 (fun v6 => [(2, .int v6)]) (fun _ => []) (fun v6 => ?_) (fun hX4_0 => ?_)
  · refine rp_iload_n 0 dX12_isThunder_38 rfl ?_
    exact rp_zretb rfl dX12_isThunder_39
  refine rp_sub [2, 3, 1, 0] rfl (rp_it (fun (s1 : Int32 × Int32) => [(0, .ref (K.2.1 + a0)), (1, .int p1), (2, .int s1.1), (3, .int s1.2)]) (fun N4 ih4 s1 => ?_) FU ((0 : Int32), (0 : Int32)))
  refine rp_iload_n 3 dX12_isThunder_4 rfl ?_
  refine rp_aload_n 0 dX12_isThunder_5 rfl ?_
  refine rp_callVi [] (SX12_places (hn := hn) a0 h0) cvX12_places (mw (i := 1583) (by decide +kernel)) (by omega) h0 (by decide) rfl rfl rfl (Nat.le_of_ble_eq_true rfl) dX12_isThunder_6 (fun x2 => ?_)
  refine rp_icmp_ge 38 dX12_isThunder_9 (by decide) ?_ ?_
  · exact rp_sub [2] rfl (rp_pu (hX4_0 s1.1))
  · refine rp_iload_n 2 dX12_isThunder_12 rfl ?_
    refine rp_as ?_
    refine rp_join 31 (fun (v4 : Int32) => [(0, .ref (K.2.1 + a0)), (1, .int p1), (3, .int s1.2)]) (fun v4 => [.int v4]) (fun v4 => ?_) (fun hJ31 => ?_)
    · refine rp_istore_n [(2, .int v4), (0, .ref (K.2.1 + a0)), (1, .int p1), (3, .int s1.2)] dX12_isThunder_31 (by decide) rfl ?_
      refine rp_iinc (fun y5 => [(3, .int y5), (2, .int v4), (0, .ref (K.2.1 + a0)), (1, .int p1)]) 3 dX12_isThunder_32 rfl (by rfl) (by decide) (fun y5 => rfl) (fun y5 => ?_)
      refine rp_goto 4 dX12_isThunder_35 (by decide) ?_
      exact rp_sub [2, 3, 1, 0] rfl (ih4 (v4, y5))
    refine rp_if_ne 26 dX12_isThunder_13 (by decide) ?_ ?_
    · refine rp_iconst (1 : Int32) dX12_isThunder_26 (by decide) ?_
      refine rp_goto 31 dX12_isThunder_27 (by decide) ?_
      exact rp_sub [0, 1, 3] rfl (rp_pu (hJ31 (1 : Int32)))
    · refine rp_aload_n 0 dX12_isThunder_16 rfl ?_
      refine rp_iload_n 1 dX12_isThunder_17 rfl ?_
      refine rp_iload_n 3 dX12_isThunder_18 rfl ?_
      refine rp_callVi [.int p1, .int s1.2] (SX12_weatherOf (hn := hn) a0 p1 s1.2 h0) cvX12_weatherOf (mw (i := 1587) (by decide +kernel)) (by omega) h0 (by decide) rfl rfl rfl (Nat.le_of_ble_eq_true rfl) dX12_isThunder_19 (fun x3 => ?_)
      refine rp_iconst (2 : Int32) dX12_isThunder_22 (by decide) ?_
      refine rp_icmp_ne 30 dX12_isThunder_23 (by decide) ?_ ?_
      · refine rp_iconst (0 : Int32) dX12_isThunder_30 (by decide) ?_
        exact rp_sub [0, 1, 3] rfl (rp_pu (hJ31 (0 : Int32)))
      · refine rp_iconst (1 : Int32) dX12_isThunder_26 (by decide) ?_
        refine rp_goto 31 dX12_isThunder_27 (by decide) ?_
        exact rp_sub [0, 1, 3] rfl (rp_pu (hJ31 (1 : Int32)))

theorem dX12_passes_0 : decode cX12_passes 0 = .ok (.iconst 0, 1) := by decide +kernel
theorem dX12_passes_1 : decode cX12_passes 1 = .ok (.istore_n 3, 1) := by decide +kernel
theorem dX12_passes_2 : decode cX12_passes 2 = .ok (.iconst 0, 1) := by decide +kernel
theorem dX12_passes_3 : decode cX12_passes 3 = .ok (.istore 4, 2) := by decide +kernel
theorem dX12_passes_5 : decode cX12_passes 5 = .ok (.iload 4, 2) := by decide +kernel
theorem dX12_passes_7 : decode cX12_passes 7 = .ok (.aload_n 0, 1) := by decide +kernel
theorem dX12_passes_8 : decode cX12_passes 8 = .ok (.invokevirtual 269, 3) := by decide +kernel
theorem dX12_passes_11 : decode cX12_passes 11 = .ok (.if_icmp .ge 48, 3) := by decide +kernel
theorem dX12_passes_14 : decode cX12_passes 14 = .ok (.iload_n 3, 1) := by decide +kernel
theorem dX12_passes_15 : decode cX12_passes 15 = .ok (.aload_n 0, 1) := by decide +kernel
theorem dX12_passes_16 : decode cX12_passes 16 = .ok (.iload_n 1, 1) := by decide +kernel
theorem dX12_passes_17 : decode cX12_passes 17 = .ok (.iload 4, 2) := by decide +kernel
theorem dX12_passes_19 : decode cX12_passes 19 = .ok (.invokevirtual 294, 3) := by decide +kernel
theorem dX12_passes_22 : decode cX12_passes 22 = .ok (.ifCond .eq 28, 3) := by decide +kernel
theorem dX12_passes_25 : decode cX12_passes 25 = .ok (.aload_n 0, 1) := by decide +kernel
theorem dX12_passes_26 : decode cX12_passes 26 = .ok (.iload_n 1, 1) := by decide +kernel
theorem dX12_passes_27 : decode cX12_passes 27 = .ok (.iload 4, 2) := by decide +kernel
theorem dX12_passes_29 : decode cX12_passes 29 = .ok (.invokevirtual 301, 3) := by decide +kernel
theorem dX12_passes_32 : decode cX12_passes 32 = .ok (.ifCond .eq 18, 3) := by decide +kernel
theorem dX12_passes_35 : decode cX12_passes 35 = .ok (.aload_n 0, 1) := by decide +kernel
theorem dX12_passes_36 : decode cX12_passes 36 = .ok (.iload 4, 2) := by decide +kernel
theorem dX12_passes_38 : decode cX12_passes 38 = .ok (.iconst 0, 1) := by decide +kernel
theorem dX12_passes_39 : decode cX12_passes 39 = .ok (.invokevirtual 273, 3) := by decide +kernel
theorem dX12_passes_42 : decode cX12_passes 42 = .ok (.iconst 1, 1) := by decide +kernel
theorem dX12_passes_43 : decode cX12_passes 43 = .ok (.if_icmp .ne 7, 3) := by decide +kernel
theorem dX12_passes_46 : decode cX12_passes 46 = .ok (.iconst 1, 1) := by decide +kernel
theorem dX12_passes_47 : decode cX12_passes 47 = .ok (.goto 4, 3) := by decide +kernel
theorem dX12_passes_50 : decode cX12_passes 50 = .ok (.iconst 0, 1) := by decide +kernel
theorem dX12_passes_51 : decode cX12_passes 51 = .ok (.iadd, 1) := by decide +kernel
theorem dX12_passes_52 : decode cX12_passes 52 = .ok (.istore_n 3, 1) := by decide +kernel
theorem dX12_passes_53 : decode cX12_passes 53 = .ok (.iinc 4 1, 3) := by decide +kernel
theorem dX12_passes_56 : decode cX12_passes 56 = .ok (.goto (-51), 3) := by decide +kernel
theorem dX12_passes_59 : decode cX12_passes 59 = .ok (.iconst 0, 1) := by decide +kernel
theorem dX12_passes_60 : decode cX12_passes 60 = .ok (.istore 4, 2) := by decide +kernel
theorem dX12_passes_62 : decode cX12_passes 62 = .ok (.iconst 0, 1) := by decide +kernel
theorem dX12_passes_63 : decode cX12_passes 63 = .ok (.istore 5, 2) := by decide +kernel
theorem dX12_passes_65 : decode cX12_passes 65 = .ok (.iload 5, 2) := by decide +kernel
theorem dX12_passes_67 : decode cX12_passes 67 = .ok (.aload_n 0, 1) := by decide +kernel
theorem dX12_passes_68 : decode cX12_passes 68 = .ok (.invokevirtual 269, 3) := by decide +kernel
theorem dX12_passes_71 : decode cX12_passes 71 = .ok (.if_icmp .ge 221, 3) := by decide +kernel
theorem dX12_passes_74 : decode cX12_passes 74 = .ok (.aload_n 0, 1) := by decide +kernel
theorem dX12_passes_75 : decode cX12_passes 75 = .ok (.iload_n 1, 1) := by decide +kernel
theorem dX12_passes_76 : decode cX12_passes 76 = .ok (.iload 5, 2) := by decide +kernel
theorem dX12_passes_78 : decode cX12_passes 78 = .ok (.invokevirtual 294, 3) := by decide +kernel
theorem dX12_passes_81 : decode cX12_passes 81 = .ok (.ifCond .eq 205, 3) := by decide +kernel
theorem dX12_passes_84 : decode cX12_passes 84 = .ok (.iload_n 2, 1) := by decide +kernel
theorem dX12_passes_85 : decode cX12_passes 85 = .ok (.ifCond .eq 201, 3) := by decide +kernel
theorem dX12_passes_88 : decode cX12_passes 88 = .ok (.aload_n 0, 1) := by decide +kernel
theorem dX12_passes_89 : decode cX12_passes 89 = .ok (.getfield 107, 3) := by decide +kernel
theorem dX12_passes_92 : decode cX12_passes 92 = .ok (.iconst 0, 1) := by decide +kernel
theorem dX12_passes_93 : decode cX12_passes 93 = .ok (.aload_n 0, 1) := by decide +kernel
theorem dX12_passes_94 : decode cX12_passes 94 = .ok (.getfield 113, 3) := by decide +kernel
theorem dX12_passes_97 : decode cX12_passes 97 = .ok (.iload_n 1, 1) := by decide +kernel
theorem dX12_passes_98 : decode cX12_passes 98 = .ok (.iconst 1, 1) := by decide +kernel
theorem dX12_passes_99 : decode cX12_passes 99 = .ok (.iadd, 1) := by decide +kernel
theorem dX12_passes_100 : decode cX12_passes 100 = .ok (.iload 5, 2) := by decide +kernel
theorem dX12_passes_102 : decode cX12_passes 102 = .ok (.iadd, 1) := by decide +kernel
theorem dX12_passes_103 : decode cX12_passes 103 = .ok (.iaload, 1) := by decide +kernel
theorem dX12_passes_104 : decode cX12_passes 104 = .ok (.iastore, 1) := by decide +kernel
theorem dX12_passes_105 : decode cX12_passes 105 = .ok (.aload_n 0, 1) := by decide +kernel
theorem dX12_passes_106 : decode cX12_passes 106 = .ok (.getfield 107, 3) := by decide +kernel
theorem dX12_passes_109 : decode cX12_passes 109 = .ok (.iconst 1, 1) := by decide +kernel
theorem dX12_passes_110 : decode cX12_passes 110 = .ok (.iconst 3, 1) := by decide +kernel
theorem dX12_passes_111 : decode cX12_passes 111 = .ok (.aload_n 0, 1) := by decide +kernel
theorem dX12_passes_112 : decode cX12_passes 112 = .ok (.getfield 113, 3) := by decide +kernel
theorem dX12_passes_115 : decode cX12_passes 115 = .ok (.iload_n 1, 1) := by decide +kernel
theorem dX12_passes_116 : decode cX12_passes 116 = .ok (.bipush 13, 2) := by decide +kernel
theorem dX12_passes_118 : decode cX12_passes 118 = .ok (.iadd, 1) := by decide +kernel
theorem dX12_passes_119 : decode cX12_passes 119 = .ok (.iload 5, 2) := by decide +kernel
theorem dX12_passes_121 : decode cX12_passes 121 = .ok (.iadd, 1) := by decide +kernel
theorem dX12_passes_122 : decode cX12_passes 122 = .ok (.iaload, 1) := by decide +kernel
theorem dX12_passes_123 : decode cX12_passes 123 = .ok (.isub, 1) := by decide +kernel
theorem dX12_passes_124 : decode cX12_passes 124 = .ok (.iastore, 1) := by decide +kernel
theorem dX12_passes_125 : decode cX12_passes 125 = .ok (.aload_n 0, 1) := by decide +kernel
theorem dX12_passes_126 : decode cX12_passes 126 = .ok (.getfield 107, 3) := by decide +kernel
theorem dX12_passes_129 : decode cX12_passes 129 = .ok (.iconst 2, 1) := by decide +kernel
theorem dX12_passes_130 : decode cX12_passes 130 = .ok (.iload_n 3, 1) := by decide +kernel
theorem dX12_passes_131 : decode cX12_passes 131 = .ok (.iastore, 1) := by decide +kernel
theorem dX12_passes_132 : decode cX12_passes 132 = .ok (.aload_n 0, 1) := by decide +kernel
theorem dX12_passes_133 : decode cX12_passes 133 = .ok (.getfield 107, 3) := by decide +kernel
theorem dX12_passes_136 : decode cX12_passes 136 = .ok (.iconst 3, 1) := by decide +kernel
theorem dX12_passes_137 : decode cX12_passes 137 = .ok (.aload_n 0, 1) := by decide +kernel
theorem dX12_passes_138 : decode cX12_passes 138 = .ok (.getfield 113, 3) := by decide +kernel
theorem dX12_passes_141 : decode cX12_passes 141 = .ok (.iload_n 1, 1) := by decide +kernel
theorem dX12_passes_142 : decode cX12_passes 142 = .ok (.iconst 0, 1) := by decide +kernel
theorem dX12_passes_143 : decode cX12_passes 143 = .ok (.iadd, 1) := by decide +kernel
theorem dX12_passes_144 : decode cX12_passes 144 = .ok (.iaload, 1) := by decide +kernel
theorem dX12_passes_145 : decode cX12_passes 145 = .ok (.iastore, 1) := by decide +kernel
theorem dX12_passes_146 : decode cX12_passes 146 = .ok (.aload_n 0, 1) := by decide +kernel
theorem dX12_passes_147 : decode cX12_passes 147 = .ok (.getfield 83, 3) := by decide +kernel
theorem dX12_passes_150 : decode cX12_passes 150 = .ok (.iconst 3, 1) := by decide +kernel
theorem dX12_passes_151 : decode cX12_passes 151 = .ok (.iaload, 1) := by decide +kernel
theorem dX12_passes_152 : decode cX12_passes 152 = .ok (.ifCond .ge 14, 3) := by decide +kernel
theorem dX12_passes_155 : decode cX12_passes 155 = .ok (.iconst 1, 1) := by decide +kernel
theorem dX12_passes_156 : decode cX12_passes 156 = .ok (.aload_n 0, 1) := by decide +kernel
theorem dX12_passes_157 : decode cX12_passes 157 = .ok (.getfield 107, 3) := by decide +kernel
theorem dX12_passes_160 : decode cX12_passes 160 = .ok (.iconst 1, 1) := by decide +kernel
theorem dX12_passes_161 : decode cX12_passes 161 = .ok (.iaload, 1) := by decide +kernel
theorem dX12_passes_162 : decode cX12_passes 162 = .ok (.iadd, 1) := by decide +kernel
theorem dX12_passes_163 : decode cX12_passes 163 = .ok (.goto 13, 3) := by decide +kernel
theorem dX12_passes_166 : decode cX12_passes 166 = .ok (.aload_n 0, 1) := by decide +kernel
theorem dX12_passes_167 : decode cX12_passes 167 = .ok (.aload_n 0, 1) := by decide +kernel
theorem dX12_passes_168 : decode cX12_passes 168 = .ok (.getfield 83, 3) := by decide +kernel
theorem dX12_passes_171 : decode cX12_passes 171 = .ok (.iconst 3, 1) := by decide +kernel
theorem dX12_passes_172 : decode cX12_passes 172 = .ok (.iaload, 1) := by decide +kernel
theorem dX12_passes_173 : decode cX12_passes 173 = .ok (.invokevirtual 310, 3) := by decide +kernel
theorem dX12_passes_176 : decode cX12_passes 176 = .ok (.istore 6, 2) := by decide +kernel
theorem dX12_passes_178 : decode cX12_passes 178 = .ok (.iload 6, 2) := by decide +kernel
theorem dX12_passes_180 : decode cX12_passes 180 = .ok (.ifCond .ge 7, 3) := by decide +kernel
theorem dX12_passes_183 : decode cX12_passes 183 = .ok (.iconst 0, 1) := by decide +kernel
theorem dX12_passes_184 : decode cX12_passes 184 = .ok (.goto 17, 3) := by decide +kernel
theorem dX12_passes_187 : decode cX12_passes 187 = .ok (.iload 6, 2) := by decide +kernel
theorem dX12_passes_189 : decode cX12_passes 189 = .ok (.bipush 9, 2) := by decide +kernel
theorem dX12_passes_191 : decode cX12_passes 191 = .ok (.if_icmp .le 8, 3) := by decide +kernel
theorem dX12_passes_194 : decode cX12_passes 194 = .ok (.bipush 9, 2) := by decide +kernel
theorem dX12_passes_196 : decode cX12_passes 196 = .ok (.goto 5, 3) := by decide +kernel
theorem dX12_passes_199 : decode cX12_passes 199 = .ok (.iload 6, 2) := by decide +kernel
theorem dX12_passes_201 : decode cX12_passes 201 = .ok (.istore 6, 2) := by decide +kernel
theorem dX12_passes_203 : decode cX12_passes 203 = .ok (.aload_n 0, 1) := by decide +kernel
theorem dX12_passes_204 : decode cX12_passes 204 = .ok (.iload_n 1, 1) := by decide +kernel
theorem dX12_passes_205 : decode cX12_passes 205 = .ok (.iload 5, 2) := by decide +kernel
theorem dX12_passes_207 : decode cX12_passes 207 = .ok (.invokevirtual 301, 3) := by decide +kernel
theorem dX12_passes_210 : decode cX12_passes 210 = .ok (.istore 7, 2) := by decide +kernel
theorem dX12_passes_212 : decode cX12_passes 212 = .ok (.aload_n 0, 1) := by decide +kernel
theorem dX12_passes_213 : decode cX12_passes 213 = .ok (.getfield 113, 3) := by decide +kernel
theorem dX12_passes_216 : decode cX12_passes 216 = .ok (.iload_n 1, 1) := by decide +kernel
theorem dX12_passes_217 : decode cX12_passes 217 = .ok (.iconst 1, 1) := by decide +kernel
theorem dX12_passes_218 : decode cX12_passes 218 = .ok (.iadd, 1) := by decide +kernel
theorem dX12_passes_219 : decode cX12_passes 219 = .ok (.iload 5, 2) := by decide +kernel
theorem dX12_passes_221 : decode cX12_passes 221 = .ok (.iadd, 1) := by decide +kernel
theorem dX12_passes_222 : decode cX12_passes 222 = .ok (.dup2, 1) := by decide +kernel
theorem dX12_passes_223 : decode cX12_passes 223 = .ok (.iaload, 1) := by decide +kernel
theorem dX12_passes_224 : decode cX12_passes 224 = .ok (.iload 6, 2) := by decide +kernel
theorem dX12_passes_226 : decode cX12_passes 226 = .ok (.aload_n 0, 1) := by decide +kernel
theorem dX12_passes_227 : decode cX12_passes 227 = .ok (.getfield 113, 3) := by decide +kernel
theorem dX12_passes_230 : decode cX12_passes 230 = .ok (.iload_n 1, 1) := by decide +kernel
theorem dX12_passes_231 : decode cX12_passes 231 = .ok (.iconst 1, 1) := by decide +kernel
theorem dX12_passes_232 : decode cX12_passes 232 = .ok (.iadd, 1) := by decide +kernel
theorem dX12_passes_233 : decode cX12_passes 233 = .ok (.iload 5, 2) := by decide +kernel
theorem dX12_passes_235 : decode cX12_passes 235 = .ok (.iadd, 1) := by decide +kernel
theorem dX12_passes_236 : decode cX12_passes 236 = .ok (.iaload, 1) := by decide +kernel
theorem dX12_passes_237 : decode cX12_passes 237 = .ok (.if_icmp .ge 8, 3) := by decide +kernel
theorem dX12_passes_240 : decode cX12_passes 240 = .ok (.iload 6, 2) := by decide +kernel
theorem dX12_passes_242 : decode cX12_passes 242 = .ok (.goto 14, 3) := by decide +kernel
theorem dX12_passes_245 : decode cX12_passes 245 = .ok (.aload_n 0, 1) := by decide +kernel
theorem dX12_passes_246 : decode cX12_passes 246 = .ok (.getfield 113, 3) := by decide +kernel
theorem dX12_passes_249 : decode cX12_passes 249 = .ok (.iload_n 1, 1) := by decide +kernel
theorem dX12_passes_250 : decode cX12_passes 250 = .ok (.iconst 1, 1) := by decide +kernel
theorem dX12_passes_251 : decode cX12_passes 251 = .ok (.iadd, 1) := by decide +kernel
theorem dX12_passes_252 : decode cX12_passes 252 = .ok (.iload 5, 2) := by decide +kernel
theorem dX12_passes_254 : decode cX12_passes 254 = .ok (.iadd, 1) := by decide +kernel
theorem dX12_passes_255 : decode cX12_passes 255 = .ok (.iaload, 1) := by decide +kernel
theorem dX12_passes_256 : decode cX12_passes 256 = .ok (.isub, 1) := by decide +kernel
theorem dX12_passes_257 : decode cX12_passes 257 = .ok (.iastore, 1) := by decide +kernel
theorem dX12_passes_258 : decode cX12_passes 258 = .ok (.iload 4, 2) := by decide +kernel
theorem dX12_passes_260 : decode cX12_passes 260 = .ok (.iload 7, 2) := by decide +kernel
theorem dX12_passes_262 : decode cX12_passes 262 = .ok (.ifCond .eq 20, 3) := by decide +kernel
theorem dX12_passes_265 : decode cX12_passes 265 = .ok (.aload_n 0, 1) := by decide +kernel
theorem dX12_passes_266 : decode cX12_passes 266 = .ok (.iload_n 1, 1) := by decide +kernel
theorem dX12_passes_267 : decode cX12_passes 267 = .ok (.iload 5, 2) := by decide +kernel
theorem dX12_passes_269 : decode cX12_passes 269 = .ok (.invokevirtual 301, 3) := by decide +kernel
theorem dX12_passes_272 : decode cX12_passes 272 = .ok (.ifCond .ne 10, 3) := by decide +kernel
theorem dX12_passes_275 : decode cX12_passes 275 = .ok (.iconst 1, 1) := by decide +kernel
theorem dX12_passes_276 : decode cX12_passes 276 = .ok (.iload 5, 2) := by decide +kernel
theorem dX12_passes_278 : decode cX12_passes 278 = .ok (.ishl, 1) := by decide +kernel
theorem dX12_passes_279 : decode cX12_passes 279 = .ok (.goto 4, 3) := by decide +kernel
theorem dX12_passes_282 : decode cX12_passes 282 = .ok (.iconst 0, 1) := by decide +kernel
theorem dX12_passes_283 : decode cX12_passes 283 = .ok (.ior, 1) := by decide +kernel
theorem dX12_passes_284 : decode cX12_passes 284 = .ok (.istore 4, 2) := by decide +kernel
theorem dX12_passes_286 : decode cX12_passes 286 = .ok (.iinc 5 1, 3) := by decide +kernel
theorem dX12_passes_289 : decode cX12_passes 289 = .ok (.goto (-224), 3) := by decide +kernel
theorem dX12_passes_292 : decode cX12_passes 292 = .ok (.aload_n 0, 1) := by decide +kernel
theorem dX12_passes_293 : decode cX12_passes 293 = .ok (.getfield 113, 3) := by decide +kernel
theorem dX12_passes_296 : decode cX12_passes 296 = .ok (.iload_n 1, 1) := by decide +kernel
theorem dX12_passes_297 : decode cX12_passes 297 = .ok (.iconst 0, 1) := by decide +kernel
theorem dX12_passes_298 : decode cX12_passes 298 = .ok (.iadd, 1) := by decide +kernel
theorem dX12_passes_299 : decode cX12_passes 299 = .ok (.dup2, 1) := by decide +kernel
theorem dX12_passes_300 : decode cX12_passes 300 = .ok (.iaload, 1) := by decide +kernel
theorem dX12_passes_301 : decode cX12_passes 301 = .ok (.iconst 1, 1) := by decide +kernel
theorem dX12_passes_302 : decode cX12_passes 302 = .ok (.iadd, 1) := by decide +kernel
theorem dX12_passes_303 : decode cX12_passes 303 = .ok (.iastore, 1) := by decide +kernel
theorem dX12_passes_304 : decode cX12_passes 304 = .ok (.iload 4, 2) := by decide +kernel
theorem dX12_passes_306 : decode cX12_passes 306 = .ok (.ireturn, 1) := by decide +kernel
abbrev mX12_passes : MI := (RX12, yX12_passes, cX12_passes, 8, some .int)
theorem cvX12_passes : CV mX12_passes 2 := ⟨⟨mw (i := 1650) (by decide +kernel), mw (i := 12) (by decide +kernel), ⟨by decide +kernel, by decide +kernel, by decide +kernel⟩, by decide⟩, mw (i := 1649) (by decide +kernel), mp2 (i := 88) 31 (by decide +kernel)⟩
def FX12_passes (a0 : Nat) (p1 : Int32) (p2 : Int32) : PP Int32 := bd (it (fun (s1 : Int32 × Int32) => (bd (FX12_cloths a0) (fun x2 => if x2 ≤ s1.2 then pu (Sum.inr s1.1) else bd (FX12_doesHang a0 p1 s1.2) (fun x3 => bd (if ((b2i x3)) = 0 then pu (0 : Int32) else bd (FX12_isWet a0 p1 s1.2) (fun x4 => if ((b2i x4)) = 0 then pu (0 : Int32) else bd (FX12_clothOf a0 s1.2 (0 : Int32)) (fun x5 => if x5 = (1 : Int32) then pu (1 : Int32) else pu (0 : Int32))) : PP (Int32)) (fun (v6 : Int32) => lt (s1.1 + v6) (fun y7 => lt (s1.2 + (1 : Int32)) (fun y8 => pu (Sum.inl (y7, y8))))))) : PP ((Int32 × Int32) ⊕ (Int32)))) FU ((0 : Int32), (0 : Int32))) (fun (v9 : Int32) => bd (it (fun (s10 : Int32 × Int32) => (bd (FX12_cloths a0) (fun x11 => if x11 ≤ s10.2 then pu (Sum.inr s10.1) else bd (FX12_doesHang a0 p1 s10.2) (fun x12 => bd (if ((b2i x12)) = 0 then pu s10.1 else if p2 = 0 then pu s10.1 else bd (aI (rf a0 23) 966 ((p1 + (1 : Int32)) + s10.2)) (fun x13 => bd (uI (rf a0 21) 4 (0 : Int32) x13) (fun (_ : Unit) => bd (aI (rf a0 23) 966 ((p1 + (13 : Int32)) + s10.2)) (fun x14 => bd (uI (rf a0 21) 4 (1 : Int32) ((3 : Int32) - x14)) (fun (_ : Unit) => bd (uI (rf a0 21) 4 (2 : Int32) v9) (fun (_ : Unit) => bd (aI (rf a0 23) 966 (p1 + (0 : Int32))) (fun x15 => bd (uI (rf a0 21) 4 (3 : Int32) x15) (fun (_ : Unit) => bd (aI (rf a0 10) 80 (3 : Int32)) (fun x16 => bd (if 0 ≤ x16 then bd (aI (rf a0 10) 80 (3 : Int32)) (fun x17 => bd (FX12_worthAt a0 x17) (fun x18 => pu x18)) else bd (aI (rf a0 21) 4 (1 : Int32)) (fun x19 => pu ((1 : Int32) + x19)) : PP (Int32)) (fun (v20 : Int32) => bd (if 0 ≤ v20 then if v20 ≤ (9 : Int32) then pu v20 else pu (9 : Int32) else pu (0 : Int32) : PP (Int32)) (fun (v21 : Int32) => bd (FX12_isWet a0 p1 s10.2) (fun x22 => lt ((b2i x22)) (fun y23 => bd (aI (rf a0 23) 966 ((p1 + (1 : Int32)) + s10.2)) (fun x24 => bd (aI (rf a0 23) 966 ((p1 + (1 : Int32)) + s10.2)) (fun x25 => bd (if x25 ≤ v21 then bd (aI (rf a0 23) 966 ((p1 + (1 : Int32)) + s10.2)) (fun x26 => pu x26) else pu v21 : PP (Int32)) (fun (v27 : Int32) => bd (uI (rf a0 23) 966 ((p1 + (1 : Int32)) + s10.2) (x24 - v27)) (fun (_ : Unit) => bd (if y23 = 0 then pu (0 : Int32) else bd (FX12_isWet a0 p1 s10.2) (fun x28 => if ((b2i x28)) = 0 then pu ((1 : Int32) <<< (s10.2 &&& 31)) else pu (0 : Int32)) : PP (Int32)) (fun (v29 : Int32) => lt (s10.1 ||| v29) (fun y30 => pu y30)))))))))))))))))) : PP (Int32)) (fun (v31 : Int32) => lt (s10.2 + (1 : Int32)) (fun y32 => pu (Sum.inl (v31, y32)))))) : PP ((Int32 × Int32) ⊕ (Int32)))) FU ((0 : Int32), (0 : Int32))) (fun (v33 : Int32) => bd (aI (rf a0 23) 966 (p1 + (0 : Int32))) (fun x34 => bd (uI (rf a0 23) 966 (p1 + (0 : Int32)) (x34 + (1 : Int32))) (fun (_ : Unit) => pu v33))))
set_option maxHeartbeats 4000000 in
set_option maxRecDepth 100000 in
theorem SX12_passes {l : Launch} {K : KK} {n : Nat} {hn : 270 ≤ n} (a0 : Nat) (p1 : Int32) (p2 : Int32) (h0 : ob a0 11) : CT l K n 2 mX12_passes [.ref (K.2.1 + a0), .int p1, .int p2] enI (FX12_passes a0 p1 p2) := by
  refine CT.of2 (lv2 := [(0, .ref (K.2.1 + a0)), (1, .int p1), (2, .int p2)]) (by decide) rfl hn (Nat.le_of_ble_eq_true rfl) rfl (rp_id ?_)
  unfold FX12_passes
  refine rp_iconst (0 : Int32) dX12_passes_0 (by decide) ?_
  refine rp_istore_n [(3, .int (0 : Int32)), (0, .ref (K.2.1 + a0)), (1, .int p1), (2, .int p2)] dX12_passes_1 (by decide) rfl ?_
  refine rp_iconst (0 : Int32) dX12_passes_2 (by decide) ?_
  refine rp_istore [(4, .int (0 : Int32)), (3, .int (0 : Int32)), (0, .ref (K.2.1 + a0)), (1, .int p1), (2, .int p2)] dX12_passes_3 (by decide) rfl ?_
  refine rp_as ?_
  refine rp_join 59 (fun v9 => [(0, .ref (K.2.1 + a0)), (1, .int p1), (2, .int p2), (3, .int v9)]) (fun _ => []) (fun v9 => ?_) (fun hX5_0 => ?_)
  · refine rp_iconst (0 : Int32) dX12_passes_59 (by decide) ?_
    refine rp_istore [(4, .int (0 : Int32)), (0, .ref (K.2.1 + a0)), (1, .int p1), (2, .int p2), (3, .int v9)] dX12_passes_60 (by decide) rfl ?_
    refine rp_iconst (0 : Int32) dX12_passes_62 (by decide) ?_
    refine rp_istore [(5, .int (0 : Int32)), (4, .int (0 : Int32)), (0, .ref (K.2.1 + a0)), (1, .int p1), (2, .int p2), (3, .int v9)] dX12_passes_63 (by decide) rfl ?_
    refine rp_as ?_
    refine rp_join 292 (fun v33 => [(0, .ref (K.2.1 + a0)), (1, .int p1), (4, .int v33)]) (fun _ => []) (fun v33 => ?_) (fun hX65_0 => ?_)
    · refine rp_aload_n 0 dX12_passes_292 rfl ?_
      refine rp_getR fi_X12_113 h0 rfl dX12_passes_293 ?_
      refine rp_iload_n 1 dX12_passes_296 rfl ?_
      refine rp_iconst (0 : Int32) dX12_passes_297 (by decide) ?_
      refine rp_iadd dX12_passes_298 ?_
      refine rp_dup2 dX12_passes_299 rfl rfl ?_
      refine rp_iald (tX12_23 h0) dX12_passes_300 (fun x34 => ?_)
      refine rp_iconst (1 : Int32) dX12_passes_301 (by decide) ?_
      refine rp_iadd dX12_passes_302 ?_
      refine rp_iast (tX12_23 h0) dX12_passes_303 ?_
      refine rp_iload 2 dX12_passes_304 rfl ?_
      exact rp_pu (rp_iret rfl dX12_passes_306)
    refine rp_sub [2, 3, 4, 5, 1, 0] rfl (rp_it (fun (s10 : Int32 × Int32) => [(0, .ref (K.2.1 + a0)), (1, .int p1), (2, .int p2), (3, .int v9), (4, .int s10.1), (5, .int s10.2)]) (fun N65 ih65 s10 => ?_) FU ((0 : Int32), (0 : Int32)))
    refine rp_iload 5 dX12_passes_65 rfl ?_
    refine rp_aload_n 0 dX12_passes_67 rfl ?_
    refine rp_callVi [] (SX12_cloths (hn := hn) a0 h0) cvX12_cloths (mw (i := 1306) (by decide +kernel)) (by omega) h0 (by decide) rfl rfl rfl (Nat.le_of_ble_eq_true rfl) dX12_passes_68 (fun x11 => ?_)
    refine rp_icmp_ge 292 dX12_passes_71 (by decide) ?_ ?_
    · exact rp_sub [0, 1, 4] rfl (rp_pu (hX65_0 s10.1))
    · refine rp_aload_n 0 dX12_passes_74 rfl ?_
      refine rp_iload_n 1 dX12_passes_75 rfl ?_
      refine rp_iload 5 dX12_passes_76 rfl ?_
      refine rp_callVz [.int p1, .int s10.2] (SX12_doesHang (hn := hn) a0 p1 s10.2 h0) cvX12_doesHang (mw (i := 1599) (by decide +kernel)) (by omega) h0 (by decide) rfl rfl rfl (Nat.le_of_ble_eq_true rfl) dX12_passes_78 (fun x12 => ?_)
      refine rp_as ?_
      refine rp_join 286 (fun (v31 : Int32) => [(0, .ref (K.2.1 + a0)), (1, .int p1), (2, .int p2), (3, .int v9), (4, .int v31), (5, .int s10.2)]) (fun v31 => []) (fun v31 => ?_) (fun hJ286 => ?_)
      · refine rp_iinc (fun y32 => [(5, .int y32), (0, .ref (K.2.1 + a0)), (1, .int p1), (2, .int p2), (3, .int v9), (4, .int v31)]) 5 dX12_passes_286 rfl (by rfl) (by decide) (fun y32 => rfl) (fun y32 => ?_)
        refine rp_goto 65 dX12_passes_289 (by decide) ?_
        exact rp_sub [1, 2, 3, 4, 5, 0] rfl (ih65 (v31, y32))
      refine rp_if_eq 286 dX12_passes_81 (by decide) ?_ ?_
      · exact rp_sub [0, 1, 2, 3, 4, 5] rfl (rp_pu (hJ286 s10.1))
      · refine rp_iload_n 2 dX12_passes_84 rfl ?_
        refine rp_if_eq 286 dX12_passes_85 (by decide) ?_ ?_
        · exact rp_sub [0, 1, 2, 3, 4, 5] rfl (rp_pu (hJ286 s10.1))
        · refine rp_aload_n 0 dX12_passes_88 rfl ?_
          refine rp_getR fi_X12_107 h0 rfl dX12_passes_89 ?_
          refine rp_iconst (0 : Int32) dX12_passes_92 (by decide) ?_
          refine rp_aload_n 0 dX12_passes_93 rfl ?_
          refine rp_getR fi_X12_113 h0 rfl dX12_passes_94 ?_
          refine rp_iload_n 1 dX12_passes_97 rfl ?_
          refine rp_iconst (1 : Int32) dX12_passes_98 (by decide) ?_
          refine rp_iadd dX12_passes_99 ?_
          refine rp_iload 5 dX12_passes_100 rfl ?_
          refine rp_iadd dX12_passes_102 ?_
          refine rp_iald (tX12_23 h0) dX12_passes_103 (fun x13 => ?_)
          refine rp_iast (tX12_21 h0) dX12_passes_104 ?_
          refine rp_aload_n 0 dX12_passes_105 rfl ?_
          refine rp_getR fi_X12_107 h0 rfl dX12_passes_106 ?_
          refine rp_iconst (1 : Int32) dX12_passes_109 (by decide) ?_
          refine rp_iconst (3 : Int32) dX12_passes_110 (by decide) ?_
          refine rp_aload_n 0 dX12_passes_111 rfl ?_
          refine rp_getR fi_X12_113 h0 rfl dX12_passes_112 ?_
          refine rp_iload_n 1 dX12_passes_115 rfl ?_
          refine rp_bipush (13 : Int32) dX12_passes_116 (by decide) ?_
          refine rp_iadd dX12_passes_118 ?_
          refine rp_iload 5 dX12_passes_119 rfl ?_
          refine rp_iadd dX12_passes_121 ?_
          refine rp_iald (tX12_23 h0) dX12_passes_122 (fun x14 => ?_)
          refine rp_isub dX12_passes_123 ?_
          refine rp_iast (tX12_21 h0) dX12_passes_124 ?_
          refine rp_aload_n 0 dX12_passes_125 rfl ?_
          refine rp_getR fi_X12_107 h0 rfl dX12_passes_126 ?_
          refine rp_iconst (2 : Int32) dX12_passes_129 (by decide) ?_
          refine rp_iload_n 3 dX12_passes_130 rfl ?_
          refine rp_iast (tX12_21 h0) dX12_passes_131 ?_
          refine rp_aload_n 0 dX12_passes_132 rfl ?_
          refine rp_getR fi_X12_107 h0 rfl dX12_passes_133 ?_
          refine rp_iconst (3 : Int32) dX12_passes_136 (by decide) ?_
          refine rp_aload_n 0 dX12_passes_137 rfl ?_
          refine rp_getR fi_X12_113 h0 rfl dX12_passes_138 ?_
          refine rp_iload_n 1 dX12_passes_141 rfl ?_
          refine rp_iconst (0 : Int32) dX12_passes_142 (by decide) ?_
          refine rp_iadd dX12_passes_143 ?_
          refine rp_iald (tX12_23 h0) dX12_passes_144 (fun x15 => ?_)
          refine rp_iast (tX12_21 h0) dX12_passes_145 ?_
          refine rp_aload_n 0 dX12_passes_146 rfl ?_
          refine rp_getR fi_X12_83 h0 rfl dX12_passes_147 ?_
          refine rp_iconst (3 : Int32) dX12_passes_150 (by decide) ?_
          refine rp_iald (tX12_10 h0) dX12_passes_151 (fun x16 => ?_)
          refine rp_as ?_
          refine rp_join 176 (fun (v20 : Int32) => [(0, .ref (K.2.1 + a0)), (1, .int p1), (2, .int p2), (3, .int v9), (4, .int s10.1), (5, .int s10.2)]) (fun v20 => [.int v20]) (fun v20 => ?_) (fun hJ176 => ?_)
          · refine rp_istore [(6, .int v20), (0, .ref (K.2.1 + a0)), (1, .int p1), (2, .int p2), (3, .int v9), (4, .int s10.1), (5, .int s10.2)] dX12_passes_176 (by decide) rfl ?_
            refine rp_iload 0 dX12_passes_178 rfl ?_
            refine rp_as ?_
            refine rp_join 201 (fun (v21 : Int32) => [(0, .ref (K.2.1 + a0)), (1, .int p1), (2, .int p2), (3, .int v9), (4, .int s10.1), (5, .int s10.2)]) (fun v21 => [.int v21]) (fun v21 => ?_) (fun hJ201 => ?_)
            · refine rp_istore [(6, .int v21), (0, .ref (K.2.1 + a0)), (1, .int p1), (2, .int p2), (3, .int v9), (4, .int s10.1), (5, .int s10.2)] dX12_passes_201 (by decide) rfl ?_
              refine rp_aload_n 1 dX12_passes_203 rfl ?_
              refine rp_iload_n 2 dX12_passes_204 rfl ?_
              refine rp_iload 6 dX12_passes_205 rfl ?_
              refine rp_callVz [.int p1, .int s10.2] (SX12_isWet (hn := hn) a0 p1 s10.2 h0) cvX12_isWet (mw (i := 1603) (by decide +kernel)) (by omega) h0 (by decide) rfl rfl rfl (Nat.le_of_ble_eq_true rfl) dX12_passes_207 (fun x22 => ?_)
              refine rp_lti (fun y23 => ?_)
              refine rp_istore [(7, .int y23), (6, .int v21), (0, .ref (K.2.1 + a0)), (1, .int p1), (2, .int p2), (3, .int v9), (4, .int s10.1), (5, .int s10.2)] dX12_passes_210 (by decide) rfl ?_
              refine rp_aload_n 2 dX12_passes_212 rfl ?_
              refine rp_getR fi_X12_113 h0 rfl dX12_passes_213 ?_
              refine rp_iload_n 3 dX12_passes_216 rfl ?_
              refine rp_iconst (1 : Int32) dX12_passes_217 (by decide) ?_
              refine rp_iadd dX12_passes_218 ?_
              refine rp_iload 7 dX12_passes_219 rfl ?_
              refine rp_iadd dX12_passes_221 ?_
              refine rp_dup2 dX12_passes_222 rfl rfl ?_
              refine rp_iald (tX12_23 h0) dX12_passes_223 (fun x24 => ?_)
              refine rp_iload 1 dX12_passes_224 rfl ?_
              refine rp_aload_n 2 dX12_passes_226 rfl ?_
              refine rp_getR fi_X12_113 h0 rfl dX12_passes_227 ?_
              refine rp_iload_n 3 dX12_passes_230 rfl ?_
              refine rp_iconst (1 : Int32) dX12_passes_231 (by decide) ?_
              refine rp_iadd dX12_passes_232 ?_
              refine rp_iload 7 dX12_passes_233 rfl ?_
              refine rp_iadd dX12_passes_235 ?_
              refine rp_iald (tX12_23 h0) dX12_passes_236 (fun x25 => ?_)
              refine rp_as ?_
              refine rp_join 256 (fun (v27 : Int32) => [(0, .ref (K.2.1 + a0)), (1, .int p1), (2, .int p2), (3, .int v9), (4, .int s10.1), (5, .int s10.2), (7, .int y23)]) (fun v27 => [.int v27, .int x24, .int ((p1 + (1 : Int32)) + s10.2), .ref (K.2.1 + (rf a0 23))]) (fun v27 => ?_) (fun hJ256 => ?_)
              · refine rp_isub dX12_passes_256 ?_
                refine rp_iast (tX12_23 h0) dX12_passes_257 ?_
                refine rp_iload 4 dX12_passes_258 rfl ?_
                refine rp_iload 6 dX12_passes_260 rfl ?_
                refine rp_as ?_
                refine rp_join 283 (fun (v29 : Int32) => [(0, .ref (K.2.1 + a0)), (1, .int p1), (2, .int p2), (3, .int v9), (5, .int s10.2)]) (fun v29 => [.int v29, .int s10.1]) (fun v29 => ?_) (fun hJ283 => ?_)
                · refine rp_ior dX12_passes_283 ?_
                  refine rp_lti (fun y30 => ?_)
                  refine rp_istore [(4, .int y30), (0, .ref (K.2.1 + a0)), (1, .int p1), (2, .int p2), (3, .int v9), (5, .int s10.2)] dX12_passes_284 (by decide) rfl ?_
                  exact rp_sub [1, 2, 3, 4, 0, 5] rfl (rp_pu (hJ286 y30))
                refine rp_if_eq 282 dX12_passes_262 (by decide) ?_ ?_
                · refine rp_iconst (0 : Int32) dX12_passes_282 (by decide) ?_
                  exact rp_sub [0, 1, 2, 3, 5] rfl (rp_pu (hJ283 (0 : Int32)))
                · refine rp_aload_n 0 dX12_passes_265 rfl ?_
                  refine rp_iload_n 1 dX12_passes_266 rfl ?_
                  refine rp_iload 5 dX12_passes_267 rfl ?_
                  refine rp_callVz [.int p1, .int s10.2] (SX12_isWet (hn := hn) a0 p1 s10.2 h0) cvX12_isWet (mw (i := 1603) (by decide +kernel)) (by omega) h0 (by decide) rfl rfl rfl (Nat.le_of_ble_eq_true rfl) dX12_passes_269 (fun x28 => ?_)
                  refine rp_if_ne 282 dX12_passes_272 (by decide) ?_ ?_
                  · refine rp_iconst (0 : Int32) dX12_passes_282 (by decide) ?_
                    exact rp_sub [0, 1, 2, 3, 5] rfl (rp_pu (hJ283 (0 : Int32)))
                  · refine rp_iconst (1 : Int32) dX12_passes_275 (by decide) ?_
                    refine rp_iload 5 dX12_passes_276 rfl ?_
                    refine rp_ishl dX12_passes_278 ?_
                    refine rp_goto 283 dX12_passes_279 (by decide) ?_
                    exact rp_sub [0, 1, 2, 3, 5] rfl (rp_pu (hJ283 ((1 : Int32) <<< (s10.2 &&& 31))))
              refine rp_icmp_ge 245 dX12_passes_237 (by decide) ?_ ?_
              · refine rp_aload_n 2 dX12_passes_245 rfl ?_
                refine rp_getR fi_X12_113 h0 rfl dX12_passes_246 ?_
                refine rp_iload_n 3 dX12_passes_249 rfl ?_
                refine rp_iconst (1 : Int32) dX12_passes_250 (by decide) ?_
                refine rp_iadd dX12_passes_251 ?_
                refine rp_iload 7 dX12_passes_252 rfl ?_
                refine rp_iadd dX12_passes_254 ?_
                refine rp_iald (tX12_23 h0) dX12_passes_255 (fun x26 => ?_)
                exact rp_sub [2, 3, 4, 5, 6, 7, 0] rfl (rp_pu (hJ256 x26))
              · refine rp_iload 1 dX12_passes_240 rfl ?_
                refine rp_goto 256 dX12_passes_242 (by decide) ?_
                exact rp_sub [2, 3, 4, 5, 6, 7, 0] rfl (rp_pu (hJ256 v21))
            refine rp_if_ge 187 dX12_passes_180 (by decide) ?_ ?_
            · refine rp_iload 0 dX12_passes_187 rfl ?_
              refine rp_bipush (9 : Int32) dX12_passes_189 (by decide) ?_
              refine rp_icmp_le 199 dX12_passes_191 (by decide) ?_ ?_
              · refine rp_iload 0 dX12_passes_199 rfl ?_
                exact rp_sub [1, 2, 3, 4, 5, 6] rfl (rp_pu (hJ201 v20))
              · refine rp_bipush (9 : Int32) dX12_passes_194 (by decide) ?_
                refine rp_goto 201 dX12_passes_196 (by decide) ?_
                exact rp_sub [1, 2, 3, 4, 5, 6] rfl (rp_pu (hJ201 (9 : Int32)))
            · refine rp_iconst (0 : Int32) dX12_passes_183 (by decide) ?_
              refine rp_goto 201 dX12_passes_184 (by decide) ?_
              exact rp_sub [1, 2, 3, 4, 5, 6] rfl (rp_pu (hJ201 (0 : Int32)))
          refine rp_if_ge 166 dX12_passes_152 (by decide) ?_ ?_
          · refine rp_aload_n 0 dX12_passes_166 rfl ?_
            refine rp_aload_n 0 dX12_passes_167 rfl ?_
            refine rp_getR fi_X12_83 h0 rfl dX12_passes_168 ?_
            refine rp_iconst (3 : Int32) dX12_passes_171 (by decide) ?_
            refine rp_iald (tX12_10 h0) dX12_passes_172 (fun x17 => ?_)
            refine rp_callVi [.int x17] (SX12_worthAt (hn := hn) a0 x17 h0) cvX12_worthAt (mw (i := 1651) (by decide +kernel)) (by omega) h0 (by decide) rfl rfl rfl (Nat.le_of_ble_eq_true rfl) dX12_passes_173 (fun x18 => ?_)
            exact rp_sub [0, 1, 2, 3, 4, 5] rfl (rp_pu (hJ176 x18))
          · refine rp_iconst (1 : Int32) dX12_passes_155 (by decide) ?_
            refine rp_aload_n 0 dX12_passes_156 rfl ?_
            refine rp_getR fi_X12_107 h0 rfl dX12_passes_157 ?_
            refine rp_iconst (1 : Int32) dX12_passes_160 (by decide) ?_
            refine rp_iald (tX12_21 h0) dX12_passes_161 (fun x19 => ?_)
            refine rp_iadd dX12_passes_162 ?_
            refine rp_goto 176 dX12_passes_163 (by decide) ?_
            exact rp_sub [0, 1, 2, 3, 4, 5] rfl (rp_pu (hJ176 ((1 : Int32) + x19)))
  refine rp_sub [2, 3, 4, 1, 0] rfl (rp_it (fun (s1 : Int32 × Int32) => [(0, .ref (K.2.1 + a0)), (1, .int p1), (2, .int p2), (3, .int s1.1), (4, .int s1.2)]) (fun N5 ih5 s1 => ?_) FU ((0 : Int32), (0 : Int32)))
  refine rp_iload 4 dX12_passes_5 rfl ?_
  refine rp_aload_n 0 dX12_passes_7 rfl ?_
  refine rp_callVi [] (SX12_cloths (hn := hn) a0 h0) cvX12_cloths (mw (i := 1306) (by decide +kernel)) (by omega) h0 (by decide) rfl rfl rfl (Nat.le_of_ble_eq_true rfl) dX12_passes_8 (fun x2 => ?_)
  refine rp_icmp_ge 59 dX12_passes_11 (by decide) ?_ ?_
  · exact rp_sub [0, 1, 2, 3] rfl (rp_pu (hX5_0 s1.1))
  · refine rp_iload_n 3 dX12_passes_14 rfl ?_
    refine rp_aload_n 0 dX12_passes_15 rfl ?_
    refine rp_iload_n 1 dX12_passes_16 rfl ?_
    refine rp_iload 4 dX12_passes_17 rfl ?_
    refine rp_callVz [.int p1, .int s1.2] (SX12_doesHang (hn := hn) a0 p1 s1.2 h0) cvX12_doesHang (mw (i := 1599) (by decide +kernel)) (by omega) h0 (by decide) rfl rfl rfl (Nat.le_of_ble_eq_true rfl) dX12_passes_19 (fun x3 => ?_)
    refine rp_as ?_
    refine rp_join 51 (fun (v6 : Int32) => [(0, .ref (K.2.1 + a0)), (1, .int p1), (2, .int p2), (4, .int s1.2)]) (fun v6 => [.int v6, .int s1.1]) (fun v6 => ?_) (fun hJ51 => ?_)
    · refine rp_iadd dX12_passes_51 ?_
      refine rp_lti (fun y7 => ?_)
      refine rp_istore_n [(3, .int y7), (0, .ref (K.2.1 + a0)), (1, .int p1), (2, .int p2), (4, .int s1.2)] dX12_passes_52 (by decide) rfl ?_
      refine rp_iinc (fun y8 => [(4, .int y8), (3, .int y7), (0, .ref (K.2.1 + a0)), (1, .int p1), (2, .int p2)]) 4 dX12_passes_53 rfl (by rfl) (by decide) (fun y8 => rfl) (fun y8 => ?_)
      refine rp_goto 5 dX12_passes_56 (by decide) ?_
      exact rp_sub [2, 3, 4, 1, 0] rfl (ih5 (y7, y8))
    refine rp_if_eq 50 dX12_passes_22 (by decide) ?_ ?_
    · refine rp_iconst (0 : Int32) dX12_passes_50 (by decide) ?_
      exact rp_sub [0, 1, 2, 4] rfl (rp_pu (hJ51 (0 : Int32)))
    · refine rp_aload_n 0 dX12_passes_25 rfl ?_
      refine rp_iload_n 1 dX12_passes_26 rfl ?_
      refine rp_iload 4 dX12_passes_27 rfl ?_
      refine rp_callVz [.int p1, .int s1.2] (SX12_isWet (hn := hn) a0 p1 s1.2 h0) cvX12_isWet (mw (i := 1603) (by decide +kernel)) (by omega) h0 (by decide) rfl rfl rfl (Nat.le_of_ble_eq_true rfl) dX12_passes_29 (fun x4 => ?_)
      refine rp_if_eq 50 dX12_passes_32 (by decide) ?_ ?_
      · refine rp_iconst (0 : Int32) dX12_passes_50 (by decide) ?_
        exact rp_sub [0, 1, 2, 4] rfl (rp_pu (hJ51 (0 : Int32)))
      · refine rp_aload_n 0 dX12_passes_35 rfl ?_
        refine rp_iload 4 dX12_passes_36 rfl ?_
        refine rp_iconst (0 : Int32) dX12_passes_38 (by decide) ?_
        refine rp_callVi [.int s1.2, .int (0 : Int32)] (SX12_clothOf (hn := hn) a0 s1.2 (0 : Int32) h0) cvX12_clothOf (mw (i := 1310) (by decide +kernel)) (by omega) h0 (by decide) rfl rfl rfl (Nat.le_of_ble_eq_true rfl) dX12_passes_39 (fun x5 => ?_)
        refine rp_iconst (1 : Int32) dX12_passes_42 (by decide) ?_
        refine rp_icmp_ne 50 dX12_passes_43 (by decide) ?_ ?_
        · refine rp_iconst (0 : Int32) dX12_passes_50 (by decide) ?_
          exact rp_sub [0, 1, 2, 4] rfl (rp_pu (hJ51 (0 : Int32)))
        · refine rp_iconst (1 : Int32) dX12_passes_46 (by decide) ?_
          refine rp_goto 51 dX12_passes_47 (by decide) ?_
          exact rp_sub [0, 1, 2, 4] rfl (rp_pu (hJ51 (1 : Int32)))

theorem dX12_mayHang_0 : decode cX12_mayHang 0 = .ok (.aload_n 0, 1) := by decide +kernel
theorem dX12_mayHang_1 : decode cX12_mayHang 1 = .ok (.iload_n 1, 1) := by decide +kernel
theorem dX12_mayHang_2 : decode cX12_mayHang 2 = .ok (.iload_n 2, 1) := by decide +kernel
theorem dX12_mayHang_3 : decode cX12_mayHang 3 = .ok (.invokevirtual 294, 3) := by decide +kernel
theorem dX12_mayHang_6 : decode cX12_mayHang 6 = .ok (.ifCond .ne 18, 3) := by decide +kernel
theorem dX12_mayHang_9 : decode cX12_mayHang 9 = .ok (.aload_n 0, 1) := by decide +kernel
theorem dX12_mayHang_10 : decode cX12_mayHang 10 = .ok (.iload_n 1, 1) := by decide +kernel
theorem dX12_mayHang_11 : decode cX12_mayHang 11 = .ok (.iload_n 3, 1) := by decide +kernel
theorem dX12_mayHang_12 : decode cX12_mayHang 12 = .ok (.invokevirtual 313, 3) := by decide +kernel
theorem dX12_mayHang_15 : decode cX12_mayHang 15 = .ok (.iload 4, 2) := by decide +kernel
theorem dX12_mayHang_17 : decode cX12_mayHang 17 = .ok (.if_icmp .lt 7, 3) := by decide +kernel
theorem dX12_mayHang_20 : decode cX12_mayHang 20 = .ok (.iconst 1, 1) := by decide +kernel
theorem dX12_mayHang_21 : decode cX12_mayHang 21 = .ok (.goto 4, 3) := by decide +kernel
theorem dX12_mayHang_24 : decode cX12_mayHang 24 = .ok (.iconst 0, 1) := by decide +kernel
theorem dX12_mayHang_25 : decode cX12_mayHang 25 = .ok (.ireturn, 1) := by decide +kernel
abbrev mX12_mayHang : MI := (RX12, yX12_mayHang, cX12_mayHang, 5, some .boolean)
theorem cvX12_mayHang : CV mX12_mayHang 4 := ⟨⟨mw (i := 1618) (by decide +kernel), mw (i := 12) (by decide +kernel), ⟨by decide +kernel, by decide +kernel, by decide +kernel⟩, by decide⟩, mw (i := 1617) (by decide +kernel), mp2 (i := 83) 31 (by decide +kernel)⟩
def FX12_mayHang (a0 : Nat) (p1 : Int32) (p2 : Int32) (p3 : Int32) (p4 : Int32) : PP Bool := bd (FX12_doesHang a0 p1 p2) (fun x1 => bd (if ((b2i x1)) = 0 then bd (FX12_freeOf a0 p1 p3) (fun x2 => if x2 < p4 then pu (0 : Int32) else pu (1 : Int32)) else pu (0 : Int32) : PP (Int32)) (fun (v3 : Int32) => zb v3))
set_option maxHeartbeats 4000000 in
set_option maxRecDepth 100000 in
theorem SX12_mayHang {l : Launch} {K : KK} {n : Nat} {hn : 270 ≤ n} (a0 : Nat) (p1 : Int32) (p2 : Int32) (p3 : Int32) (p4 : Int32) (h0 : ob a0 11) : CT l K n 2 mX12_mayHang [.ref (K.2.1 + a0), .int p1, .int p2, .int p3, .int p4] enZ (FX12_mayHang a0 p1 p2 p3 p4) := by
  refine CT.of2 (lv2 := [(0, .ref (K.2.1 + a0)), (1, .int p1), (2, .int p2), (3, .int p3), (4, .int p4)]) (by decide) rfl hn (Nat.le_of_ble_eq_true rfl) rfl (rp_id ?_)
  unfold FX12_mayHang
  refine rp_aload_n 0 dX12_mayHang_0 rfl ?_
  refine rp_iload_n 1 dX12_mayHang_1 rfl ?_
  refine rp_iload_n 2 dX12_mayHang_2 rfl ?_
  refine rp_callVz [.int p1, .int p2] (SX12_doesHang (hn := hn) a0 p1 p2 h0) cvX12_doesHang (mw (i := 1599) (by decide +kernel)) (by omega) h0 (by decide) rfl rfl rfl (Nat.le_of_ble_eq_true rfl) dX12_mayHang_3 (fun x1 => ?_)
  refine rp_as ?_
  refine rp_join 25 (fun (v3 : Int32) => []) (fun v3 => [.int v3]) (fun v3 => ?_) (fun hJ25 => ?_)
  · exact rp_zretb rfl dX12_mayHang_25
  refine rp_if_ne 24 dX12_mayHang_6 (by decide) ?_ ?_
  · refine rp_iconst (0 : Int32) dX12_mayHang_24 (by decide) ?_
    exact rp_sub [] rfl (rp_pu (hJ25 (0 : Int32)))
  · refine rp_aload_n 0 dX12_mayHang_9 rfl ?_
    refine rp_iload_n 1 dX12_mayHang_10 rfl ?_
    refine rp_iload_n 3 dX12_mayHang_11 rfl ?_
    refine rp_callVi [.int p1, .int p3] (SX12_freeOf (hn := hn) a0 p1 p3 h0) cvX12_freeOf (mw (i := 1559) (by decide +kernel)) (by omega) h0 (by decide) rfl rfl rfl (Nat.le_of_ble_eq_true rfl) dX12_mayHang_12 (fun x2 => ?_)
    refine rp_iload 4 dX12_mayHang_15 rfl ?_
    refine rp_icmp_lt 24 dX12_mayHang_17 (by decide) ?_ ?_
    · refine rp_iconst (0 : Int32) dX12_mayHang_24 (by decide) ?_
      exact rp_sub [] rfl (rp_pu (hJ25 (0 : Int32)))
    · refine rp_iconst (1 : Int32) dX12_mayHang_20 (by decide) ?_
      refine rp_goto 25 dX12_mayHang_21 (by decide) ?_
      exact rp_sub [] rfl (rp_pu (hJ25 (1 : Int32)))
