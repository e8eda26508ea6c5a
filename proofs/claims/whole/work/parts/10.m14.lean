theorem dX12_chance_0 : decode cX12_chance 0 = .ok (.aload_n 0, 1) := by decide +kernel
theorem dX12_chance_1 : decode cX12_chance 1 = .ok (.iconst 0, 1) := by decide +kernel
theorem dX12_chance_2 : decode cX12_chance 2 = .ok (.putfield 1, 3) := by decide +kernel
theorem dX12_chance_5 : decode cX12_chance 5 = .ok (.aload_n 0, 1) := by decide +kernel
theorem dX12_chance_6 : decode cX12_chance 6 = .ok (.iload_n 1, 1) := by decide +kernel
theorem dX12_chance_7 : decode cX12_chance 7 = .ok (.invokevirtual 322, 3) := by decide +kernel
theorem dX12_chance_10 : decode cX12_chance 10 = .ok (.ifCond .eq 32, 3) := by decide +kernel
theorem dX12_chance_13 : decode cX12_chance 13 = .ok (.aload_n 0, 1) := by decide +kernel
theorem dX12_chance_14 : decode cX12_chance 14 = .ok (.iconst 0, 1) := by decide +kernel
theorem dX12_chance_15 : decode cX12_chance 15 = .ok (.iload_n 1, 1) := by decide +kernel
theorem dX12_chance_16 : decode cX12_chance 16 = .ok (.invokevirtual 294, 3) := by decide +kernel
theorem dX12_chance_19 : decode cX12_chance 19 = .ok (.ifCond .eq 23, 3) := by decide +kernel
theorem dX12_chance_22 : decode cX12_chance 22 = .ok (.iload_n 2, 1) := by decide +kernel
theorem dX12_chance_23 : decode cX12_chance 23 = .ok (.iconst 1, 1) := by decide +kernel
theorem dX12_chance_24 : decode cX12_chance 24 = .ok (.bipush 6, 2) := by decide +kernel
theorem dX12_chance_26 : decode cX12_chance 26 = .ok (.invokestatic 201, 3) := by decide +kernel
theorem dX12_chance_29 : decode cX12_chance 29 = .ok (.ifCond .eq 13, 3) := by decide +kernel
theorem dX12_chance_32 : decode cX12_chance 32 = .ok (.iload_n 3, 1) := by decide +kernel
theorem dX12_chance_33 : decode cX12_chance 33 = .ok (.iconst 0, 1) := by decide +kernel
theorem dX12_chance_34 : decode cX12_chance 34 = .ok (.bipush 10, 2) := by decide +kernel
theorem dX12_chance_36 : decode cX12_chance 36 = .ok (.invokestatic 201, 3) := by decide +kernel
theorem dX12_chance_39 : decode cX12_chance 39 = .ok (.ifCond .ne 5, 3) := by decide +kernel
theorem dX12_chance_42 : decode cX12_chance 42 = .ok (.iconst (-1), 1) := by decide +kernel
theorem dX12_chance_43 : decode cX12_chance 43 = .ok (.ireturn, 1) := by decide +kernel
theorem dX12_chance_44 : decode cX12_chance 44 = .ok (.lconst 1, 1) := by decide +kernel
theorem dX12_chance_45 : decode cX12_chance 45 = .ok (.lstore 4, 2) := by decide +kernel
theorem dX12_chance_47 : decode cX12_chance 47 = .ok (.lconst 0, 1) := by decide +kernel
theorem dX12_chance_48 : decode cX12_chance 48 = .ok (.lstore 6, 2) := by decide +kernel
theorem dX12_chance_50 : decode cX12_chance 50 = .ok (.iconst 0, 1) := by decide +kernel
theorem dX12_chance_51 : decode cX12_chance 51 = .ok (.istore 8, 2) := by decide +kernel
theorem dX12_chance_53 : decode cX12_chance 53 = .ok (.iload 8, 2) := by decide +kernel
theorem dX12_chance_55 : decode cX12_chance 55 = .ok (.iload_n 2, 1) := by decide +kernel
theorem dX12_chance_56 : decode cX12_chance 56 = .ok (.if_icmp .ge 17, 3) := by decide +kernel
theorem dX12_chance_59 : decode cX12_chance 59 = .ok (.lload 4, 2) := by decide +kernel
theorem dX12_chance_61 : decode cX12_chance 61 = .ok (.ldc2_w 152, 3) := by decide +kernel
theorem dX12_chance_64 : decode cX12_chance 64 = .ok (.lmul, 1) := by decide +kernel
theorem dX12_chance_65 : decode cX12_chance 65 = .ok (.lstore 4, 2) := by decide +kernel
theorem dX12_chance_67 : decode cX12_chance 67 = .ok (.iinc 8 1, 3) := by decide +kernel
theorem dX12_chance_70 : decode cX12_chance 70 = .ok (.goto (-17), 3) := by decide +kernel
theorem dX12_chance_73 : decode cX12_chance 73 = .ok (.iconst 0, 1) := by decide +kernel
theorem dX12_chance_74 : decode cX12_chance 74 = .ok (.istore 8, 2) := by decide +kernel
theorem dX12_chance_76 : decode cX12_chance 76 = .ok (.iload 8, 2) := by decide +kernel
theorem dX12_chance_78 : decode cX12_chance 78 = .ok (.iconst 1, 1) := by decide +kernel
theorem dX12_chance_79 : decode cX12_chance 79 = .ok (.iload_n 2, 1) := by decide +kernel
theorem dX12_chance_80 : decode cX12_chance 80 = .ok (.ishl, 1) := by decide +kernel
theorem dX12_chance_81 : decode cX12_chance 81 = .ok (.if_icmp .ge 101, 3) := by decide +kernel
theorem dX12_chance_84 : decode cX12_chance 84 = .ok (.aload_n 0, 1) := by decide +kernel
theorem dX12_chance_85 : decode cX12_chance 85 = .ok (.invokevirtual 355, 3) := by decide +kernel
theorem dX12_chance_88 : decode cX12_chance 88 = .ok (.lconst 1, 1) := by decide +kernel
theorem dX12_chance_89 : decode cX12_chance 89 = .ok (.lstore 9, 2) := by decide +kernel
theorem dX12_chance_91 : decode cX12_chance 91 = .ok (.iconst 0, 1) := by decide +kernel
theorem dX12_chance_92 : decode cX12_chance 92 = .ok (.istore 11, 2) := by decide +kernel
theorem dX12_chance_94 : decode cX12_chance 94 = .ok (.iload 11, 2) := by decide +kernel
theorem dX12_chance_96 : decode cX12_chance 96 = .ok (.iload_n 2, 1) := by decide +kernel
theorem dX12_chance_97 : decode cX12_chance 97 = .ok (.if_icmp .ge 57, 3) := by decide +kernel
theorem dX12_chance_100 : decode cX12_chance 100 = .ok (.iload 8, 2) := by decide +kernel
theorem dX12_chance_102 : decode cX12_chance 102 = .ok (.iload 11, 2) := by decide +kernel
theorem dX12_chance_104 : decode cX12_chance 104 = .ok (.ishr, 1) := by decide +kernel
theorem dX12_chance_105 : decode cX12_chance 105 = .ok (.iconst 1, 1) := by decide +kernel
theorem dX12_chance_106 : decode cX12_chance 106 = .ok (.iand, 1) := by decide +kernel
theorem dX12_chance_107 : decode cX12_chance 107 = .ok (.iconst 1, 1) := by decide +kernel
theorem dX12_chance_108 : decode cX12_chance 108 = .ok (.if_icmp .ne 7, 3) := by decide +kernel
theorem dX12_chance_111 : decode cX12_chance 111 = .ok (.iconst 1, 1) := by decide +kernel
theorem dX12_chance_112 : decode cX12_chance 112 = .ok (.goto 4, 3) := by decide +kernel
theorem dX12_chance_115 : decode cX12_chance 115 = .ok (.iconst 0, 1) := by decide +kernel
theorem dX12_chance_116 : decode cX12_chance 116 = .ok (.istore 12, 2) := by decide +kernel
theorem dX12_chance_118 : decode cX12_chance 118 = .ok (.lload 9, 2) := by decide +kernel
theorem dX12_chance_120 : decode cX12_chance 120 = .ok (.iload 12, 2) := by decide +kernel
theorem dX12_chance_122 : decode cX12_chance 122 = .ok (.ifCond .eq 8, 3) := by decide +kernel
theorem dX12_chance_125 : decode cX12_chance 125 = .ok (.iload_n 3, 1) := by decide +kernel
theorem dX12_chance_126 : decode cX12_chance 126 = .ok (.i2l, 1) := by decide +kernel
theorem dX12_chance_127 : decode cX12_chance 127 = .ok (.goto 8, 3) := by decide +kernel
theorem dX12_chance_130 : decode cX12_chance 130 = .ok (.bipush 10, 2) := by decide +kernel
theorem dX12_chance_132 : decode cX12_chance 132 = .ok (.iload_n 3, 1) := by decide +kernel
theorem dX12_chance_133 : decode cX12_chance 133 = .ok (.isub, 1) := by decide +kernel
theorem dX12_chance_134 : decode cX12_chance 134 = .ok (.i2l, 1) := by decide +kernel
theorem dX12_chance_135 : decode cX12_chance 135 = .ok (.lmul, 1) := by decide +kernel
theorem dX12_chance_136 : decode cX12_chance 136 = .ok (.lstore 9, 2) := by decide +kernel
theorem dX12_chance_138 : decode cX12_chance 138 = .ok (.aload_n 0, 1) := by decide +kernel
theorem dX12_chance_139 : decode cX12_chance 139 = .ok (.sipush 882, 3) := by decide +kernel
theorem dX12_chance_142 : decode cX12_chance 142 = .ok (.iload 12, 2) := by decide +kernel
theorem dX12_chance_144 : decode cX12_chance 144 = .ok (.invokevirtual 345, 3) := by decide +kernel
theorem dX12_chance_147 : decode cX12_chance 147 = .ok (.pop, 1) := by decide +kernel
theorem dX12_chance_148 : decode cX12_chance 148 = .ok (.iinc 11 1, 3) := by decide +kernel
theorem dX12_chance_151 : decode cX12_chance 151 = .ok (.goto (-57), 3) := by decide +kernel
theorem dX12_chance_154 : decode cX12_chance 154 = .ok (.lload 6, 2) := by decide +kernel
theorem dX12_chance_156 : decode cX12_chance 156 = .ok (.aload_n 0, 1) := by decide +kernel
theorem dX12_chance_157 : decode cX12_chance 157 = .ok (.sipush 882, 3) := by decide +kernel
theorem dX12_chance_160 : decode cX12_chance 160 = .ok (.iload_n 1, 1) := by decide +kernel
theorem dX12_chance_161 : decode cX12_chance 161 = .ok (.invokevirtual 301, 3) := by decide +kernel
theorem dX12_chance_164 : decode cX12_chance 164 = .ok (.ifCond .eq 7, 3) := by decide +kernel
theorem dX12_chance_167 : decode cX12_chance 167 = .ok (.lconst 0, 1) := by decide +kernel
theorem dX12_chance_168 : decode cX12_chance 168 = .ok (.goto 5, 3) := by decide +kernel
theorem dX12_chance_171 : decode cX12_chance 171 = .ok (.lload 9, 2) := by decide +kernel
theorem dX12_chance_173 : decode cX12_chance 173 = .ok (.ladd, 1) := by decide +kernel
theorem dX12_chance_174 : decode cX12_chance 174 = .ok (.lstore 6, 2) := by decide +kernel
theorem dX12_chance_176 : decode cX12_chance 176 = .ok (.iinc 8 1, 3) := by decide +kernel
theorem dX12_chance_179 : decode cX12_chance 179 = .ok (.goto (-103), 3) := by decide +kernel
theorem dX12_chance_182 : decode cX12_chance 182 = .ok (.lload 6, 2) := by decide +kernel
theorem dX12_chance_184 : decode cX12_chance 184 = .ok (.ldc2_w 395, 3) := by decide +kernel
theorem dX12_chance_187 : decode cX12_chance 187 = .ok (.lmul, 1) := by decide +kernel
theorem dX12_chance_188 : decode cX12_chance 188 = .ok (.lload 4, 2) := by decide +kernel
theorem dX12_chance_190 : decode cX12_chance 190 = .ok (.ldiv, 1) := by decide +kernel
theorem dX12_chance_191 : decode cX12_chance 191 = .ok (.l2i, 1) := by decide +kernel
theorem dX12_chance_192 : decode cX12_chance 192 = .ok (.ireturn, 1) := by decide +kernel
noncomputable def FX12_chance (a0 : Nat) (p1 : Int32) (p2 : Int32) (p3 : Int32) : PP Int32 := bd (sI a0 0 (0 : Int32)) (fun (_ : Unit) => bd (FX12_isCloth a0 p1) (fun x1 => if ((b2i x1)) = 0 then pu (-1 : Int32) else bd (FX12_doesHang a0 (0 : Int32) p1) (fun x2 => if ((b2i x2)) = 0 then pu (-1 : Int32) else bd (FX12_within p2 (1 : Int32) (6 : Int32)) (fun x3 => if ((b2i x3)) = 0 then pu (-1 : Int32) else bd (FX12_within p3 (0 : Int32) (10 : Int32)) (fun x4 => if ((b2i x4)) = 0 then pu (-1 : Int32) else bd (it (fun (s5 : Int64 × Int32) => (if p2 ≤ s5.2 then pu (Sum.inr s5.1) else lt (s5.1 * (10 : Int64)) (fun y6 => lt (s5.2 + (1 : Int32)) (fun y7 => pu (Sum.inl (y6, y7)))) : PP ((Int64 × Int32) ⊕ (Int64)))) FU ((1 : Int64), (0 : Int32))) (fun (v8 : Int64) => bd (it (fun (s9 : Int64 × Int32) => (if ((1 : Int32) <<< (p2 &&& 31)) ≤ s9.2 then pu (Sum.inr s9.1) else bd (FX12_triesNow a0) (fun (_ : Unit) => bd (it (fun (s11 : Int64 × Int32) => (if p2 ≤ s11.2 then pu (Sum.inr s11.1) else bd (if ((s9.2 >>> (s11.2 &&& 31)) &&& (1 : Int32)) = (1 : Int32) then pu (1 : Int32) else pu (0 : Int32) : PP (Int32)) (fun (v12 : Int32) => bd (if v12 = 0 then pu (((10 : Int32) - p3).toInt64) else pu p3.toInt64 : PP (Int64)) (fun (v13 : Int64) => lt (s11.1 * v13) (fun y14 => bd (FX12_passes a0 (882 : Int32) v12) (fun x15 => lt (s11.2 + (1 : Int32)) (fun y16 => pu (Sum.inl (y14, y16))))))) : PP ((Int64 × Int32) ⊕ (Int64)))) FU ((1 : Int64), (0 : Int32))) (fun (v17 : Int64) => bd (FX12_isWet a0 (882 : Int32) p1) (fun x18 => bd (if ((b2i x18)) = 0 then pu v17 else pu (0 : Int64) : PP (Int64)) (fun (v19 : Int64) => lt (s9.1 + v19) (fun y20 => lt (s9.2 + (1 : Int32)) (fun y21 => pu (Sum.inl (y20, y21)))))))) : PP ((Int64 × Int32) ⊕ (Int64)))) FU ((0 : Int64), (0 : Int32))) (fun (v22 : Int64) => bd (gd (¬ v8 = 0)) (fun (_ : Unit) => pu (((v22 * (1000000 : Int64)) / v8).toInt32)))))))))
set_option maxHeartbeats 4000000 in
set_option maxRecDepth 100000 in
theorem SX12_chance {l : Launch} {K : KK} {n : Nat} {hn : 270 ≤ n} (a0 : Nat) (p1 : Int32) (p2 : Int32) (p3 : Int32) (h0 : ob a0 11) : CT l K n 3 mX12_chance [.ref (K.2.1 + a0), .int p1, .int p2, .int p3] enI (FX12_chance a0 p1 p2 p3) := by
  refine CT.of2 (lv2 := [(0, .ref (K.2.1 + a0)), (1, .int p1), (2, .int p2), (3, .int p3)]) (by decide) rfl hn (Nat.le_of_ble_eq_true rfl) rfl (rp_id ?_)
  unfold FX12_chance
  refine rp_aload_n 0 dX12_chance_0 rfl ?_
  refine rp_iconst (0 : Int32) dX12_chance_1 (by decide) ?_
  refine rp_putI fi_X12_1 fp_X12_0 h0 rfl dX12_chance_2 ?_
  refine rp_aload_n 0 dX12_chance_5 rfl ?_
  refine rp_iload_n 1 dX12_chance_6 rfl ?_
  refine rp_callVz [.int p1] (SX12_isCloth (hn := hn) a0 p1 h0) cvX12_isCloth (mw (i := 1571) (by decide +kernel)) (by omega) h0 (by decide) rfl rfl rfl (Nat.le_of_ble_eq_true rfl) dX12_chance_7 (fun x1 => ?_)
  refine rp_if_eq 42 dX12_chance_10 (by decide) ?_ ?_
  · refine rp_iconst (-1 : Int32) dX12_chance_42 (by decide) ?_
    exact rp_pu (rp_iret rfl dX12_chance_43)
  · refine rp_aload_n 0 dX12_chance_13 rfl ?_
    refine rp_iconst (0 : Int32) dX12_chance_14 (by decide) ?_
    refine rp_iload_n 1 dX12_chance_15 rfl ?_
    refine rp_callVz [.int (0 : Int32), .int p1] (SX12_doesHang (hn := hn) a0 (0 : Int32) p1 h0) cvX12_doesHang (mw (i := 1599) (by decide +kernel)) (by omega) h0 (by decide) rfl rfl rfl (Nat.le_of_ble_eq_true rfl) dX12_chance_16 (fun x2 => ?_)
    refine rp_if_eq 42 dX12_chance_19 (by decide) ?_ ?_
    · refine rp_iconst (-1 : Int32) dX12_chance_42 (by decide) ?_
      exact rp_pu (rp_iret rfl dX12_chance_43)
    · refine rp_iload_n 2 dX12_chance_22 rfl ?_
      refine rp_iconst (1 : Int32) dX12_chance_23 (by decide) ?_
      refine rp_bipush (6 : Int32) dX12_chance_24 (by decide) ?_
      refine rp_callSz [.int p2, .int (1 : Int32), .int (6 : Int32)] (SX12_within (hn := hn) p2 (1 : Int32) (6 : Int32)) csX12_within (mw (i := 1484) (by decide +kernel)) (by omega) rfl rfl (Nat.le_of_ble_eq_true rfl) dX12_chance_26 (fun x3 => ?_)
      refine rp_if_eq 42 dX12_chance_29 (by decide) ?_ ?_
      · refine rp_iconst (-1 : Int32) dX12_chance_42 (by decide) ?_
        exact rp_pu (rp_iret rfl dX12_chance_43)
      · refine rp_iload_n 3 dX12_chance_32 rfl ?_
        refine rp_iconst (0 : Int32) dX12_chance_33 (by decide) ?_
        refine rp_bipush (10 : Int32) dX12_chance_34 (by decide) ?_
        refine rp_callSz [.int p3, .int (0 : Int32), .int (10 : Int32)] (SX12_within (hn := hn) p3 (0 : Int32) (10 : Int32)) csX12_within (mw (i := 1484) (by decide +kernel)) (by omega) rfl rfl (Nat.le_of_ble_eq_true rfl) dX12_chance_36 (fun x4 => ?_)
        refine rp_if_ne 44 dX12_chance_39 (by decide) ?_ ?_
        · refine rp_lconst (1 : Int64) dX12_chance_44 (by decide) ?_
          refine rp_lstore [(4, .long (1 : Int64)), (0, .ref (K.2.1 + a0)), (1, .int p1), (2, .int p2), (3, .int p3)] dX12_chance_45 (by decide) rfl ?_
          refine rp_lconst (0 : Int64) dX12_chance_47 (by decide) ?_
          refine rp_lstore [(6, .long (0 : Int64)), (4, .long (1 : Int64)), (0, .ref (K.2.1 + a0)), (1, .int p1), (2, .int p2), (3, .int p3)] dX12_chance_48 (by decide) rfl ?_
          refine rp_iconst (0 : Int32) dX12_chance_50 (by decide) ?_
          refine rp_istore [(8, .int (0 : Int32)), (6, .long (0 : Int64)), (4, .long (1 : Int64)), (0, .ref (K.2.1 + a0)), (1, .int p1), (2, .int p2), (3, .int p3)] dX12_chance_51 (by decide) rfl ?_
          refine rp_as ?_
          refine rp_join 73 (fun v8 => [(0, .ref (K.2.1 + a0)), (1, .int p1), (2, .int p2), (3, .int p3), (4, .long v8), (6, .long (0 : Int64))]) (fun _ => []) (fun v8 => ?_) (fun hX53_0 => ?_)
          · refine rp_iconst (0 : Int32) dX12_chance_73 (by decide) ?_
            refine rp_istore [(8, .int (0 : Int32)), (0, .ref (K.2.1 + a0)), (1, .int p1), (2, .int p2), (3, .int p3), (4, .long v8), (6, .long (0 : Int64))] dX12_chance_74 (by decide) rfl ?_
            refine rp_as ?_
            refine rp_join 182 (fun v22 => [(4, .long v8), (6, .long v22)]) (fun _ => []) (fun v22 => ?_) (fun hX76_0 => ?_)
            · refine rp_lload 1 dX12_chance_182 rfl ?_
              refine rp_ldc2 (v := 1000000) (mw (i := 1781) (by decide +kernel)) dX12_chance_184 ?_
              refine rp_lmul dX12_chance_187 ?_
              refine rp_lload 0 dX12_chance_188 rfl ?_
              refine rp_ldiv dX12_chance_190 ?_
              refine rp_l2i dX12_chance_191 ?_
              exact rp_pu (rp_iret rfl dX12_chance_192)
            refine rp_sub [1, 2, 3, 4, 5, 6, 0] rfl (rp_it (fun (s9 : Int64 × Int32) => [(0, .ref (K.2.1 + a0)), (1, .int p1), (2, .int p2), (3, .int p3), (4, .long v8), (6, .long s9.1), (8, .int s9.2)]) (fun N76 ih76 s9 => ?_) FU ((0 : Int64), (0 : Int32)))
            refine rp_iload 6 dX12_chance_76 rfl ?_
            refine rp_iconst (1 : Int32) dX12_chance_78 (by decide) ?_
            refine rp_iload_n 2 dX12_chance_79 rfl ?_
            refine rp_ishl dX12_chance_80 ?_
            refine rp_icmp_ge 182 dX12_chance_81 (by decide) ?_ ?_
            · exact rp_sub [4, 5] rfl (rp_puR (hX76_0 s9.1))
            · refine rp_aload_n 0 dX12_chance_84 rfl ?_
              refine rp_callVv [] (SX12_triesNow (hn := hn) a0 h0) cvX12_triesNow (mw (i := 1678) (by decide +kernel)) (by omega) h0 (by decide) rfl rfl rfl (Nat.le_of_ble_eq_true rfl) dX12_chance_85 (fun x10 => ?_)
              refine rp_lconst (1 : Int64) dX12_chance_88 (by decide) ?_
              refine rp_lstore [(9, .long (1 : Int64)), (0, .ref (K.2.1 + a0)), (1, .int p1), (2, .int p2), (3, .int p3), (4, .long v8), (6, .long s9.1), (8, .int s9.2)] dX12_chance_89 (by decide) rfl ?_
              refine rp_iconst (0 : Int32) dX12_chance_91 (by decide) ?_
              refine rp_istore [(11, .int (0 : Int32)), (9, .long (1 : Int64)), (0, .ref (K.2.1 + a0)), (1, .int p1), (2, .int p2), (3, .int p3), (4, .long v8), (6, .long s9.1), (8, .int s9.2)] dX12_chance_92 (by decide) rfl ?_
              refine rp_as ?_
              refine rp_join 154 (fun v17 => [(0, .ref (K.2.1 + a0)), (1, .int p1), (2, .int p2), (3, .int p3), (4, .long v8), (6, .long s9.1), (8, .int s9.2), (9, .long v17)]) (fun _ => []) (fun v17 => ?_) (fun hX94_0 => ?_)
              · refine rp_lload 5 dX12_chance_154 rfl ?_
                refine rp_aload_n 0 dX12_chance_156 rfl ?_
                refine rp_sipush (882 : Int32) dX12_chance_157 (by decide) ?_
                refine rp_iload_n 1 dX12_chance_160 rfl ?_
                refine rp_callVz [.int (882 : Int32), .int p1] (SX12_isWet (hn := hn) a0 (882 : Int32) p1 h0) cvX12_isWet (mw (i := 1603) (by decide +kernel)) (by omega) h0 (by decide) rfl rfl rfl (Nat.le_of_ble_eq_true rfl) dX12_chance_161 (fun x18 => ?_)
                refine rp_as ?_
                refine rp_join 173 (fun (v19 : Int64) => [(0, .ref (K.2.1 + a0)), (1, .int p1), (2, .int p2), (3, .int p3), (4, .long v8), (8, .int s9.2)]) (fun v19 => [.long v19, .long s9.1]) (fun v19 => ?_) (fun hJ173 => ?_)
                · refine rp_ladd dX12_chance_173 ?_
                  refine rp_ltl (fun y20 => ?_)
                  refine rp_lstore [(6, .long y20), (0, .ref (K.2.1 + a0)), (1, .int p1), (2, .int p2), (3, .int p3), (4, .long v8), (8, .int s9.2)] dX12_chance_174 (by decide) rfl ?_
                  refine rp_iinc (fun y21 => [(8, .int y21), (6, .long y20), (0, .ref (K.2.1 + a0)), (1, .int p1), (2, .int p2), (3, .int p3), (4, .long v8)]) 6 dX12_chance_176 rfl (by rfl) (by decide) (fun y21 => rfl) (fun y21 => ?_)
                  refine rp_goto 76 dX12_chance_179 (by decide) ?_
                  exact rp_sub [2, 3, 4, 5, 6, 1, 0] rfl (ih76 (y20, y21))
                refine rp_if_eq 171 dX12_chance_164 (by decide) ?_ ?_
                · refine rp_lload 7 dX12_chance_171 rfl ?_
                  exact rp_sub [0, 1, 2, 3, 4, 6] rfl (rp_pu (hJ173 v17))
                · refine rp_lconst (0 : Int64) dX12_chance_167 (by decide) ?_
                  refine rp_goto 173 dX12_chance_168 (by decide) ?_
                  exact rp_sub [0, 1, 2, 3, 4, 6] rfl (rp_pu (hJ173 (0 : Int64)))
              refine rp_sub [2, 3, 4, 5, 6, 7, 8, 1, 0] rfl (rp_it (fun (s11 : Int64 × Int32) => [(0, .ref (K.2.1 + a0)), (1, .int p1), (2, .int p2), (3, .int p3), (4, .long v8), (6, .long s9.1), (8, .int s9.2), (9, .long s11.1), (11, .int s11.2)]) (fun N94 ih94 s11 => ?_) FU ((1 : Int64), (0 : Int32)))
              refine rp_iload 8 dX12_chance_94 rfl ?_
              refine rp_iload_n 2 dX12_chance_96 rfl ?_
              refine rp_icmp_ge 154 dX12_chance_97 (by decide) ?_ ?_
              · exact rp_sub [0, 1, 2, 3, 4, 5, 6, 7] rfl (rp_puR (hX94_0 s11.1))
              · refine rp_iload 6 dX12_chance_100 rfl ?_
                refine rp_iload 8 dX12_chance_102 rfl ?_
                refine rp_ishr dX12_chance_104 ?_
                refine rp_iconst (1 : Int32) dX12_chance_105 (by decide) ?_
                refine rp_iand dX12_chance_106 ?_
                refine rp_iconst (1 : Int32) dX12_chance_107 (by decide) ?_
                refine rp_as ?_
                refine rp_join 116 (fun (v12 : Int32) => [(0, .ref (K.2.1 + a0)), (1, .int p1), (2, .int p2), (3, .int p3), (4, .long v8), (6, .long s9.1), (8, .int s9.2), (9, .long s11.1), (11, .int s11.2)]) (fun v12 => [.int v12]) (fun v12 => ?_) (fun hJ116 => ?_)
                · refine rp_istore [(12, .int v12), (0, .ref (K.2.1 + a0)), (1, .int p1), (2, .int p2), (3, .int p3), (4, .long v8), (6, .long s9.1), (8, .int s9.2), (9, .long s11.1), (11, .int s11.2)] dX12_chance_116 (by decide) rfl ?_
                  refine rp_lload 8 dX12_chance_118 rfl ?_
                  refine rp_iload 0 dX12_chance_120 rfl ?_
                  refine rp_as ?_
                  refine rp_join 135 (fun (v13 : Int64) => [(0, .ref (K.2.1 + a0)), (1, .int p1), (2, .int p2), (3, .int p3), (4, .long v8), (6, .long s9.1), (8, .int s9.2), (11, .int s11.2), (12, .int v12)]) (fun v13 => [.long v13, .long s11.1]) (fun v13 => ?_) (fun hJ135 => ?_)
                  · refine rp_lmul dX12_chance_135 ?_
                    refine rp_ltl (fun y14 => ?_)
                    refine rp_lstore [(9, .long y14), (0, .ref (K.2.1 + a0)), (1, .int p1), (2, .int p2), (3, .int p3), (4, .long v8), (6, .long s9.1), (8, .int s9.2), (11, .int s11.2), (12, .int v12)] dX12_chance_136 (by decide) rfl ?_
                    refine rp_aload_n 1 dX12_chance_138 rfl ?_
                    refine rp_sipush (882 : Int32) dX12_chance_139 (by decide) ?_
                    refine rp_iload 9 dX12_chance_142 rfl ?_
                    refine rp_callVi [.int (882 : Int32), .int v12] (SX12_passes (hn := hn) a0 (882 : Int32) v12 h0) cvX12_passes (mw (i := 1647) (by decide +kernel)) (by omega) h0 (by decide) rfl rfl rfl (Nat.le_of_ble_eq_true rfl) dX12_chance_144 (fun x15 => ?_)
                    refine rp_pop dX12_chance_147 rfl ?_
                    refine rp_iinc (fun y16 => [(11, .int y16), (9, .long y14), (0, .ref (K.2.1 + a0)), (1, .int p1), (2, .int p2), (3, .int p3), (4, .long v8), (6, .long s9.1), (8, .int s9.2), (12, .int v12)]) 8 dX12_chance_148 rfl (by rfl) (by decide) (fun y16 => rfl) (fun y16 => ?_)
                    refine rp_goto 94 dX12_chance_151 (by decide) ?_
                    exact rp_sub [2, 3, 4, 5, 6, 7, 8, 1, 0] rfl (ih94 (y14, y16))
                  refine rp_if_eq 130 dX12_chance_122 (by decide) ?_ ?_
                  · refine rp_bipush (10 : Int32) dX12_chance_130 (by decide) ?_
                    refine rp_iload_n 4 dX12_chance_132 rfl ?_
                    refine rp_isub dX12_chance_133 ?_
                    refine rp_i2l dX12_chance_134 ?_
                    exact rp_sub [1, 2, 3, 4, 5, 6, 7, 9, 0] rfl (rp_pu (hJ135 (((10 : Int32) - p3).toInt64)))
                  · refine rp_iload_n 4 dX12_chance_125 rfl ?_
                    refine rp_i2l dX12_chance_126 ?_
                    refine rp_goto 135 dX12_chance_127 (by decide) ?_
                    exact rp_sub [1, 2, 3, 4, 5, 6, 7, 9, 0] rfl (rp_pu (hJ135 p3.toInt64))
                refine rp_icmp_ne 115 dX12_chance_108 (by decide) ?_ ?_
                · refine rp_iconst (0 : Int32) dX12_chance_115 (by decide) ?_
                  exact rp_sub [0, 1, 2, 3, 4, 5, 6, 7, 8] rfl (rp_pu (hJ116 (0 : Int32)))
                · refine rp_iconst (1 : Int32) dX12_chance_111 (by decide) ?_
                  refine rp_goto 116 dX12_chance_112 (by decide) ?_
                  exact rp_sub [0, 1, 2, 3, 4, 5, 6, 7, 8] rfl (rp_pu (hJ116 (1 : Int32)))
          refine rp_sub [3, 4, 5, 6, 2, 1, 0] rfl (rp_it (fun (s5 : Int64 × Int32) => [(0, .ref (K.2.1 + a0)), (1, .int p1), (2, .int p2), (3, .int p3), (4, .long s5.1), (6, .long (0 : Int64)), (8, .int s5.2)]) (fun N53 ih53 s5 => ?_) FU ((1 : Int64), (0 : Int32)))
          refine rp_iload 6 dX12_chance_53 rfl ?_
          refine rp_iload_n 2 dX12_chance_55 rfl ?_
          refine rp_icmp_ge 73 dX12_chance_56 (by decide) ?_ ?_
          · exact rp_sub [0, 1, 2, 3, 4, 5] rfl (rp_puR (hX53_0 s5.1))
          · refine rp_lload 4 dX12_chance_59 rfl ?_
            refine rp_ldc2 (v := 10) (mw (i := 1427) (by decide +kernel)) dX12_chance_61 ?_
            refine rp_lmul dX12_chance_64 ?_
            refine rp_ltl (fun y6 => ?_)
            refine rp_lstore [(4, .long y6), (0, .ref (K.2.1 + a0)), (1, .int p1), (2, .int p2), (3, .int p3), (6, .long (0 : Int64)), (8, .int s5.2)] dX12_chance_65 (by decide) rfl ?_
            refine rp_iinc (fun y7 => [(8, .int y7), (4, .long y6), (0, .ref (K.2.1 + a0)), (1, .int p1), (2, .int p2), (3, .int p3), (6, .long (0 : Int64))]) 6 dX12_chance_67 rfl (by rfl) (by decide) (fun y7 => rfl) (fun y7 => ?_)
            refine rp_goto 53 dX12_chance_70 (by decide) ?_
            exact rp_sub [2, 3, 4, 5, 1, 6, 0] rfl (ih53 (y6, y7))
        · refine rp_iconst (-1 : Int32) dX12_chance_42 (by decide) ?_
          exact rp_pu (rp_iret rfl dX12_chance_43)

theorem dX12_same_0 : decode cX12_same 0 = .ok (.aload_n 0, 1) := by decide +kernel
theorem dX12_same_1 : decode cX12_same 1 = .ok (.iconst 0, 1) := by decide +kernel
theorem dX12_same_2 : decode cX12_same 2 = .ok (.putfield 1, 3) := by decide +kernel
theorem dX12_same_5 : decode cX12_same 5 = .ok (.iconst 0, 1) := by decide +kernel
theorem dX12_same_6 : decode cX12_same 6 = .ok (.istore_n 1, 1) := by decide +kernel
theorem dX12_same_7 : decode cX12_same 7 = .ok (.iconst 0, 1) := by decide +kernel
theorem dX12_same_8 : decode cX12_same 8 = .ok (.istore_n 2, 1) := by decide +kernel
theorem dX12_same_9 : decode cX12_same 9 = .ok (.iload_n 2, 1) := by decide +kernel
theorem dX12_same_10 : decode cX12_same 10 = .ok (.aload_n 0, 1) := by decide +kernel
theorem dX12_same_11 : decode cX12_same 11 = .ok (.invokevirtual 288, 3) := by decide +kernel
theorem dX12_same_14 : decode cX12_same 14 = .ok (.if_icmp .ge 50, 3) := by decide +kernel
theorem dX12_same_17 : decode cX12_same 17 = .ok (.iload_n 2, 1) := by decide +kernel
theorem dX12_same_18 : decode cX12_same 18 = .ok (.iconst 1, 1) := by decide +kernel
theorem dX12_same_19 : decode cX12_same 19 = .ok (.iadd, 1) := by decide +kernel
theorem dX12_same_20 : decode cX12_same 20 = .ok (.istore_n 3, 1) := by decide +kernel
theorem dX12_same_21 : decode cX12_same 21 = .ok (.iload_n 3, 1) := by decide +kernel
theorem dX12_same_22 : decode cX12_same 22 = .ok (.aload_n 0, 1) := by decide +kernel
theorem dX12_same_23 : decode cX12_same 23 = .ok (.invokevirtual 288, 3) := by decide +kernel
theorem dX12_same_26 : decode cX12_same 26 = .ok (.if_icmp .ge 32, 3) := by decide +kernel
theorem dX12_same_29 : decode cX12_same 29 = .ok (.iload_n 1, 1) := by decide +kernel
theorem dX12_same_30 : decode cX12_same 30 = .ok (.aload_n 0, 1) := by decide +kernel
theorem dX12_same_31 : decode cX12_same 31 = .ok (.iconst 0, 1) := by decide +kernel
theorem dX12_same_32 : decode cX12_same 32 = .ok (.iload_n 2, 1) := by decide +kernel
theorem dX12_same_33 : decode cX12_same 33 = .ok (.invokevirtual 307, 3) := by decide +kernel
theorem dX12_same_36 : decode cX12_same 36 = .ok (.aload_n 0, 1) := by decide +kernel
theorem dX12_same_37 : decode cX12_same 37 = .ok (.iconst 0, 1) := by decide +kernel
theorem dX12_same_38 : decode cX12_same 38 = .ok (.iload_n 3, 1) := by decide +kernel
theorem dX12_same_39 : decode cX12_same 39 = .ok (.invokevirtual 307, 3) := by decide +kernel
theorem dX12_same_42 : decode cX12_same 42 = .ok (.if_icmp .ne 7, 3) := by decide +kernel
theorem dX12_same_45 : decode cX12_same 45 = .ok (.iconst 1, 1) := by decide +kernel
theorem dX12_same_46 : decode cX12_same 46 = .ok (.goto 4, 3) := by decide +kernel
theorem dX12_same_49 : decode cX12_same 49 = .ok (.iconst 0, 1) := by decide +kernel
theorem dX12_same_50 : decode cX12_same 50 = .ok (.iadd, 1) := by decide +kernel
theorem dX12_same_51 : decode cX12_same 51 = .ok (.istore_n 1, 1) := by decide +kernel
theorem dX12_same_52 : decode cX12_same 52 = .ok (.iinc 3 1, 3) := by decide +kernel
theorem dX12_same_55 : decode cX12_same 55 = .ok (.goto (-34), 3) := by decide +kernel
theorem dX12_same_58 : decode cX12_same 58 = .ok (.iinc 2 1, 3) := by decide +kernel
theorem dX12_same_61 : decode cX12_same 61 = .ok (.goto (-52), 3) := by decide +kernel
theorem dX12_same_64 : decode cX12_same 64 = .ok (.iload_n 1, 1) := by decide +kernel
theorem dX12_same_65 : decode cX12_same 65 = .ok (.ireturn, 1) := by decide +kernel
noncomputable def FX12_same (a0 : Nat) : PP Int32 := bd (sI a0 0 (0 : Int32)) (fun (_ : Unit) => bd (it (fun (s1 : Int32 × Int32) => (bd (FX12_places a0) (fun x2 => if x2 ≤ s1.2 then pu (Sum.inr s1.1) else lt (s1.2 + (1 : Int32)) (fun y3 => bd (it (fun (s4 : Int32 × Int32) => (bd (FX12_places a0) (fun x5 => if x5 ≤ s4.2 then pu (Sum.inr s4.1) else bd (FX12_weatherOf a0 (0 : Int32) s1.2) (fun x6 => bd (FX12_weatherOf a0 (0 : Int32) s4.2) (fun x7 => bd (if x6 = x7 then pu (1 : Int32) else pu (0 : Int32) : PP (Int32)) (fun (v8 : Int32) => lt (s4.1 + v8) (fun y9 => lt (s4.2 + (1 : Int32)) (fun y10 => pu (Sum.inl (y9, y10)))))))) : PP ((Int32 × Int32) ⊕ (Int32)))) FU (s1.1, y3)) (fun (v11 : Int32) => lt (s1.2 + (1 : Int32)) (fun y12 => pu (Sum.inl (v11, y12)))))) : PP ((Int32 × Int32) ⊕ (Int32)))) FU ((0 : Int32), (0 : Int32))) (fun (v13 : Int32) => pu v13))
set_option maxHeartbeats 4000000 in
set_option maxRecDepth 100000 in
theorem SX12_same {l : Launch} {K : KK} {n : Nat} {hn : 270 ≤ n} (a0 : Nat) (h0 : ob a0 11) : CT l K n 4 mX12_same [.ref (K.2.1 + a0)] enI (FX12_same a0) := by
  refine CT.of2 (lv2 := [(0, .ref (K.2.1 + a0))]) (by decide) rfl hn (Nat.le_of_ble_eq_true rfl) rfl (rp_id ?_)
  unfold FX12_same
  refine rp_aload_n 0 dX12_same_0 rfl ?_
  refine rp_iconst (0 : Int32) dX12_same_1 (by decide) ?_
  refine rp_putI fi_X12_1 fp_X12_0 h0 rfl dX12_same_2 ?_
  refine rp_iconst (0 : Int32) dX12_same_5 (by decide) ?_
  refine rp_istore_n [(1, .int (0 : Int32)), (0, .ref (K.2.1 + a0))] dX12_same_6 (by decide) rfl ?_
  refine rp_iconst (0 : Int32) dX12_same_7 (by decide) ?_
  refine rp_istore_n [(2, .int (0 : Int32)), (1, .int (0 : Int32)), (0, .ref (K.2.1 + a0))] dX12_same_8 (by decide) rfl ?_
  refine rp_as ?_
  refine rp_join 64 (fun v13 => [(1, .int v13)]) (fun _ => []) (fun v13 => ?_) (fun hX9_0 => ?_)
  · refine rp_iload_n 0 dX12_same_64 rfl ?_
    exact rp_pu (rp_iret rfl dX12_same_65)
  refine rp_sub [2, 1, 0] rfl (rp_it (fun (s1 : Int32 × Int32) => [(0, .ref (K.2.1 + a0)), (1, .int s1.1), (2, .int s1.2)]) (fun N9 ih9 s1 => ?_) FU ((0 : Int32), (0 : Int32)))
  refine rp_iload_n 2 dX12_same_9 rfl ?_
  refine rp_aload_n 0 dX12_same_10 rfl ?_
  refine rp_callVi [] (SX12_places (hn := hn) a0 h0) cvX12_places (mw (i := 1583) (by decide +kernel)) (by omega) h0 (by decide) rfl rfl rfl (Nat.le_of_ble_eq_true rfl) dX12_same_11 (fun x2 => ?_)
  refine rp_icmp_ge 64 dX12_same_14 (by decide) ?_ ?_
  · exact rp_sub [1] rfl (rp_puR (hX9_0 s1.1))
  · refine rp_iload_n 2 dX12_same_17 rfl ?_
    refine rp_iconst (1 : Int32) dX12_same_18 (by decide) ?_
    refine rp_iadd dX12_same_19 ?_
    refine rp_lti (fun y3 => ?_)
    refine rp_istore_n [(3, .int y3), (0, .ref (K.2.1 + a0)), (1, .int s1.1), (2, .int s1.2)] dX12_same_20 (by decide) rfl ?_
    refine rp_as ?_
    refine rp_join 58 (fun v11 => [(0, .ref (K.2.1 + a0)), (1, .int v11), (2, .int s1.2)]) (fun _ => []) (fun v11 => ?_) (fun hX21_0 => ?_)
    · refine rp_iinc (fun y12 => [(2, .int y12), (0, .ref (K.2.1 + a0)), (1, .int v11)]) 2 dX12_same_58 rfl (by rfl) (by decide) (fun y12 => rfl) (fun y12 => ?_)
      refine rp_goto 9 dX12_same_61 (by decide) ?_
      exact rp_sub [1, 2, 0] rfl (ih9 (v11, y12))
    refine rp_sub [1, 2, 3, 0] rfl (rp_it (fun (s4 : Int32 × Int32) => [(0, .ref (K.2.1 + a0)), (1, .int s4.1), (2, .int s1.2), (3, .int s4.2)]) (fun N21 ih21 s4 => ?_) FU (s1.1, y3))
    refine rp_iload_n 3 dX12_same_21 rfl ?_
    refine rp_aload_n 0 dX12_same_22 rfl ?_
    refine rp_callVi [] (SX12_places (hn := hn) a0 h0) cvX12_places (mw (i := 1583) (by decide +kernel)) (by omega) h0 (by decide) rfl rfl rfl (Nat.le_of_ble_eq_true rfl) dX12_same_23 (fun x5 => ?_)
    refine rp_icmp_ge 58 dX12_same_26 (by decide) ?_ ?_
    · exact rp_sub [0, 1, 2] rfl (rp_puR (hX21_0 s4.1))
    · refine rp_iload_n 1 dX12_same_29 rfl ?_
      refine rp_aload_n 0 dX12_same_30 rfl ?_
      refine rp_iconst (0 : Int32) dX12_same_31 (by decide) ?_
      refine rp_iload_n 2 dX12_same_32 rfl ?_
      refine rp_callVi [.int (0 : Int32), .int s1.2] (SX12_weatherOf (hn := hn) a0 (0 : Int32) s1.2 h0) cvX12_weatherOf (mw (i := 1587) (by decide +kernel)) (by omega) h0 (by decide) rfl rfl rfl (Nat.le_of_ble_eq_true rfl) dX12_same_33 (fun x6 => ?_)
      refine rp_aload_n 0 dX12_same_36 rfl ?_
      refine rp_iconst (0 : Int32) dX12_same_37 (by decide) ?_
      refine rp_iload_n 3 dX12_same_38 rfl ?_
      refine rp_callVi [.int (0 : Int32), .int s4.2] (SX12_weatherOf (hn := hn) a0 (0 : Int32) s4.2 h0) cvX12_weatherOf (mw (i := 1587) (by decide +kernel)) (by omega) h0 (by decide) rfl rfl rfl (Nat.le_of_ble_eq_true rfl) dX12_same_39 (fun x7 => ?_)
      refine rp_as ?_
      refine rp_join 50 (fun (v8 : Int32) => [(0, .ref (K.2.1 + a0)), (2, .int s1.2), (3, .int s4.2)]) (fun v8 => [.int v8, .int s4.1]) (fun v8 => ?_) (fun hJ50 => ?_)
      · refine rp_iadd dX12_same_50 ?_
        refine rp_lti (fun y9 => ?_)
        refine rp_istore_n [(1, .int y9), (0, .ref (K.2.1 + a0)), (2, .int s1.2), (3, .int s4.2)] dX12_same_51 (by decide) rfl ?_
        refine rp_iinc (fun y10 => [(3, .int y10), (1, .int y9), (0, .ref (K.2.1 + a0)), (2, .int s1.2)]) 3 dX12_same_52 rfl (by rfl) (by decide) (fun y10 => rfl) (fun y10 => ?_)
        refine rp_goto 21 dX12_same_55 (by decide) ?_
        exact rp_sub [2, 1, 3, 0] rfl (ih21 (y9, y10))
      refine rp_icmp_ne 49 dX12_same_42 (by decide) ?_ ?_
      · refine rp_iconst (0 : Int32) dX12_same_49 (by decide) ?_
        exact rp_sub [0, 2, 3] rfl (rp_pu (hJ50 (0 : Int32)))
      · refine rp_iconst (1 : Int32) dX12_same_45 (by decide) ?_
        refine rp_goto 50 dX12_same_46 (by decide) ?_
        exact rp_sub [0, 2, 3] rfl (rp_pu (hJ50 (1 : Int32)))

theorem dX12_storm_0 : decode cX12_storm 0 = .ok (.aload_n 0, 1) := by decide +kernel
theorem dX12_storm_1 : decode cX12_storm 1 = .ok (.iconst 0, 1) := by decide +kernel
theorem dX12_storm_2 : decode cX12_storm 2 = .ok (.putfield 1, 3) := by decide +kernel
theorem dX12_storm_5 : decode cX12_storm 5 = .ok (.iconst (-1), 1) := by decide +kernel
theorem dX12_storm_6 : decode cX12_storm 6 = .ok (.istore_n 1, 1) := by decide +kernel
theorem dX12_storm_7 : decode cX12_storm 7 = .ok (.iconst (-1), 1) := by decide +kernel
theorem dX12_storm_8 : decode cX12_storm 8 = .ok (.istore_n 2, 1) := by decide +kernel
theorem dX12_storm_9 : decode cX12_storm 9 = .ok (.iconst 0, 1) := by decide +kernel
theorem dX12_storm_10 : decode cX12_storm 10 = .ok (.istore_n 3, 1) := by decide +kernel
theorem dX12_storm_11 : decode cX12_storm 11 = .ok (.iload_n 3, 1) := by decide +kernel
theorem dX12_storm_12 : decode cX12_storm 12 = .ok (.aload_n 0, 1) := by decide +kernel
theorem dX12_storm_13 : decode cX12_storm 13 = .ok (.invokevirtual 288, 3) := by decide +kernel
theorem dX12_storm_16 : decode cX12_storm 16 = .ok (.if_icmp .ge 41, 3) := by decide +kernel
theorem dX12_storm_19 : decode cX12_storm 19 = .ok (.aload_n 0, 1) := by decide +kernel
theorem dX12_storm_20 : decode cX12_storm 20 = .ok (.iload_n 3, 1) := by decide +kernel
theorem dX12_storm_21 : decode cX12_storm 21 = .ok (.invokevirtual 328, 3) := by decide +kernel
theorem dX12_storm_24 : decode cX12_storm 24 = .ok (.istore 4, 2) := by decide +kernel
theorem dX12_storm_26 : decode cX12_storm 26 = .ok (.iload 4, 2) := by decide +kernel
theorem dX12_storm_28 : decode cX12_storm 28 = .ok (.iload_n 2, 1) := by decide +kernel
theorem dX12_storm_29 : decode cX12_storm 29 = .ok (.if_icmp .le 7, 3) := by decide +kernel
theorem dX12_storm_32 : decode cX12_storm 32 = .ok (.iload_n 3, 1) := by decide +kernel
theorem dX12_storm_33 : decode cX12_storm 33 = .ok (.goto 4, 3) := by decide +kernel
theorem dX12_storm_36 : decode cX12_storm 36 = .ok (.iload_n 1, 1) := by decide +kernel
theorem dX12_storm_37 : decode cX12_storm 37 = .ok (.istore_n 1, 1) := by decide +kernel
theorem dX12_storm_38 : decode cX12_storm 38 = .ok (.iload 4, 2) := by decide +kernel
theorem dX12_storm_40 : decode cX12_storm 40 = .ok (.iload_n 2, 1) := by decide +kernel
theorem dX12_storm_41 : decode cX12_storm 41 = .ok (.if_icmp .le 8, 3) := by decide +kernel
theorem dX12_storm_44 : decode cX12_storm 44 = .ok (.iload 4, 2) := by decide +kernel
theorem dX12_storm_46 : decode cX12_storm 46 = .ok (.goto 4, 3) := by decide +kernel
theorem dX12_storm_49 : decode cX12_storm 49 = .ok (.iload_n 2, 1) := by decide +kernel
theorem dX12_storm_50 : decode cX12_storm 50 = .ok (.istore_n 2, 1) := by decide +kernel
theorem dX12_storm_51 : decode cX12_storm 51 = .ok (.iinc 3 1, 3) := by decide +kernel
theorem dX12_storm_54 : decode cX12_storm 54 = .ok (.goto (-43), 3) := by decide +kernel
theorem dX12_storm_57 : decode cX12_storm 57 = .ok (.iload_n 1, 1) := by decide +kernel
theorem dX12_storm_58 : decode cX12_storm 58 = .ok (.ireturn, 1) := by decide +kernel
noncomputable def FX12_storm (a0 : Nat) : PP Int32 := bd (sI a0 0 (0 : Int32)) (fun (_ : Unit) => bd (it (fun (s1 : Int32 × Int32 × Int32) => (bd (FX12_places a0) (fun x2 => if x2 ≤ s1.2.2 then pu (Sum.inr s1.1) else bd (FX12_windOf a0 s1.2.2) (fun x3 => bd (if x3 ≤ s1.2.1 then pu s1.1 else pu s1.2.2 : PP (Int32)) (fun (v4 : Int32) => bd (if x3 ≤ s1.2.1 then pu s1.2.1 else pu x3 : PP (Int32)) (fun (v5 : Int32) => lt (s1.2.2 + (1 : Int32)) (fun y6 => pu (Sum.inl (v4, v5, y6))))))) : PP ((Int32 × Int32 × Int32) ⊕ (Int32)))) FU ((-1 : Int32), (-1 : Int32), (0 : Int32))) (fun (v7 : Int32) => pu v7))
set_option maxHeartbeats 4000000 in
set_option maxRecDepth 100000 in
theorem SX12_storm {l : Launch} {K : KK} {n : Nat} {hn : 270 ≤ n} (a0 : Nat) (h0 : ob a0 11) : CT l K n 3 mX12_storm [.ref (K.2.1 + a0)] enI (FX12_storm a0) := by
  refine CT.of2 (lv2 := [(0, .ref (K.2.1 + a0))]) (by decide) rfl hn (Nat.le_of_ble_eq_true rfl) rfl (rp_id ?_)
  unfold FX12_storm
  refine rp_aload_n 0 dX12_storm_0 rfl ?_
  refine rp_iconst (0 : Int32) dX12_storm_1 (by decide) ?_
  refine rp_putI fi_X12_1 fp_X12_0 h0 rfl dX12_storm_2 ?_
  refine rp_iconst (-1 : Int32) dX12_storm_5 (by decide) ?_
  refine rp_istore_n [(1, .int (-1 : Int32)), (0, .ref (K.2.1 + a0))] dX12_storm_6 (by decide) rfl ?_
  refine rp_iconst (-1 : Int32) dX12_storm_7 (by decide) ?_
  refine rp_istore_n [(2, .int (-1 : Int32)), (1, .int (-1 : Int32)), (0, .ref (K.2.1 + a0))] dX12_storm_8 (by decide) rfl ?_
  refine rp_iconst (0 : Int32) dX12_storm_9 (by decide) ?_
  refine rp_istore_n [(3, .int (0 : Int32)), (2, .int (-1 : Int32)), (1, .int (-1 : Int32)), (0, .ref (K.2.1 + a0))] dX12_storm_10 (by decide) rfl ?_
  refine rp_as ?_
  refine rp_join 57 (fun v7 => [(1, .int v7)]) (fun _ => []) (fun v7 => ?_) (fun hX11_0 => ?_)
  · refine rp_iload_n 0 dX12_storm_57 rfl ?_
    exact rp_pu (rp_iret rfl dX12_storm_58)
  refine rp_sub [3, 2, 1, 0] rfl (rp_it (fun (s1 : Int32 × Int32 × Int32) => [(0, .ref (K.2.1 + a0)), (1, .int s1.1), (2, .int s1.2.1), (3, .int s1.2.2)]) (fun N11 ih11 s1 => ?_) FU ((-1 : Int32), (-1 : Int32), (0 : Int32)))
  refine rp_iload_n 3 dX12_storm_11 rfl ?_
  refine rp_aload_n 0 dX12_storm_12 rfl ?_
  refine rp_callVi [] (SX12_places (hn := hn) a0 h0) cvX12_places (mw (i := 1583) (by decide +kernel)) (by omega) h0 (by decide) rfl rfl rfl (Nat.le_of_ble_eq_true rfl) dX12_storm_13 (fun x2 => ?_)
  refine rp_icmp_ge 57 dX12_storm_16 (by decide) ?_ ?_
  · exact rp_sub [1] rfl (rp_puR (hX11_0 s1.1))
  · refine rp_aload_n 0 dX12_storm_19 rfl ?_
    refine rp_iload_n 3 dX12_storm_20 rfl ?_
    refine rp_callVi [.int s1.2.2] (SX12_windOf (hn := hn) a0 s1.2.2 h0) cvX12_windOf (mw (i := 1607) (by decide +kernel)) (by omega) h0 (by decide) rfl rfl rfl (Nat.le_of_ble_eq_true rfl) dX12_storm_21 (fun x3 => ?_)
    refine rp_istore [(4, .int x3), (0, .ref (K.2.1 + a0)), (1, .int s1.1), (2, .int s1.2.1), (3, .int s1.2.2)] dX12_storm_24 (by decide) rfl ?_
    refine rp_iload 0 dX12_storm_26 rfl ?_
    refine rp_iload_n 3 dX12_storm_28 rfl ?_
    refine rp_as ?_
    refine rp_join 37 (fun (v4 : Int32) => [(0, .ref (K.2.1 + a0)), (2, .int s1.2.1), (3, .int s1.2.2), (4, .int x3)]) (fun v4 => [.int v4]) (fun v4 => ?_) (fun hJ37 => ?_)
    · refine rp_istore_n [(1, .int v4), (0, .ref (K.2.1 + a0)), (2, .int s1.2.1), (3, .int s1.2.2), (4, .int x3)] dX12_storm_37 (by decide) rfl ?_
      refine rp_iload 4 dX12_storm_38 rfl ?_
      refine rp_iload_n 2 dX12_storm_40 rfl ?_
      refine rp_as ?_
      refine rp_join 50 (fun (v5 : Int32) => [(0, .ref (K.2.1 + a0)), (1, .int v4), (3, .int s1.2.2)]) (fun v5 => [.int v5]) (fun v5 => ?_) (fun hJ50 => ?_)
      · refine rp_istore_n [(2, .int v5), (0, .ref (K.2.1 + a0)), (1, .int v4), (3, .int s1.2.2)] dX12_storm_50 (by decide) rfl ?_
        refine rp_iinc (fun y6 => [(3, .int y6), (2, .int v5), (0, .ref (K.2.1 + a0)), (1, .int v4)]) 3 dX12_storm_51 rfl (by rfl) (by decide) (fun y6 => rfl) (fun y6 => ?_)
        refine rp_goto 11 dX12_storm_54 (by decide) ?_
        exact rp_sub [2, 3, 1, 0] rfl (ih11 (v4, v5, y6))
      refine rp_icmp_le 49 dX12_storm_41 (by decide) ?_ ?_
      · refine rp_iload_n 2 dX12_storm_49 rfl ?_
        exact rp_sub [1, 0, 3] rfl (rp_pu (hJ50 s1.2.1))
      · refine rp_iload 4 dX12_storm_44 rfl ?_
        refine rp_goto 50 dX12_storm_46 (by decide) ?_
        exact rp_sub [1, 0, 3] rfl (rp_pu (hJ50 x3))
    refine rp_icmp_le 36 dX12_storm_29 (by decide) ?_ ?_
    · refine rp_iload_n 2 dX12_storm_36 rfl ?_
      exact rp_sub [1, 3, 4, 0] rfl (rp_pu (hJ37 s1.1))
    · refine rp_iload_n 4 dX12_storm_32 rfl ?_
      refine rp_goto 37 dX12_storm_33 (by decide) ?_
      exact rp_sub [1, 3, 4, 0] rfl (rp_pu (hJ37 s1.2.2))

theorem dX12_getsBy_0 : decode cX12_getsBy 0 = .ok (.iload_n 0, 1) := by decide +kernel
theorem dX12_getsBy_1 : decode cX12_getsBy 1 = .ok (.iconst 1, 1) := by decide +kernel
theorem dX12_getsBy_2 : decode cX12_getsBy 2 = .ok (.if_icmp .ne 17, 3) := by decide +kernel
theorem dX12_getsBy_5 : decode cX12_getsBy 5 = .ok (.iload_n 1, 1) := by decide +kernel
theorem dX12_getsBy_6 : decode cX12_getsBy 6 = .ok (.iconst 1, 1) := by decide +kernel
theorem dX12_getsBy_7 : decode cX12_getsBy 7 = .ok (.if_icmp .ne 7, 3) := by decide +kernel
theorem dX12_getsBy_10 : decode cX12_getsBy 10 = .ok (.iload_n 2, 1) := by decide +kernel
theorem dX12_getsBy_11 : decode cX12_getsBy 11 = .ok (.goto 19, 3) := by decide +kernel
theorem dX12_getsBy_14 : decode cX12_getsBy 14 = .ok (.iload_n 3, 1) := by decide +kernel
theorem dX12_getsBy_15 : decode cX12_getsBy 15 = .ok (.ineg, 1) := by decide +kernel
theorem dX12_getsBy_16 : decode cX12_getsBy 16 = .ok (.goto 14, 3) := by decide +kernel
theorem dX12_getsBy_19 : decode cX12_getsBy 19 = .ok (.iload_n 1, 1) := by decide +kernel
theorem dX12_getsBy_20 : decode cX12_getsBy 20 = .ok (.iconst 1, 1) := by decide +kernel
theorem dX12_getsBy_21 : decode cX12_getsBy 21 = .ok (.if_icmp .ne 8, 3) := by decide +kernel
theorem dX12_getsBy_24 : decode cX12_getsBy 24 = .ok (.iload 4, 2) := by decide +kernel
theorem dX12_getsBy_26 : decode cX12_getsBy 26 = .ok (.goto 4, 3) := by decide +kernel
theorem dX12_getsBy_29 : decode cX12_getsBy 29 = .ok (.iconst 0, 1) := by decide +kernel
theorem dX12_getsBy_30 : decode cX12_getsBy 30 = .ok (.ireturn, 1) := by decide +kernel
noncomputable def FX12_getsBy (p1 : Int32) (p2 : Int32) (p3 : Int32) (p4 : Int32) (p5 : Int32) : PP Int32 := bd (if p1 = (1 : Int32) then if p2 = (1 : Int32) then pu p3 else pu (-p4) else if p2 = (1 : Int32) then pu p5 else pu (0 : Int32) : PP (Int32)) (fun (v1 : Int32) => pu v1)
set_option maxHeartbeats 4000000 in
set_option maxRecDepth 100000 in
theorem SX12_getsBy {l : Launch} {K : KK} {n : Nat} {hn : 270 ≤ n} (p1 : Int32) (p2 : Int32) (p3 : Int32) (p4 : Int32) (p5 : Int32) : CT l K n 0 mX12_getsBy [.int p1, .int p2, .int p3, .int p4, .int p5] enI (FX12_getsBy p1 p2 p3 p4 p5) := by
  refine CT.of2 (lv2 := [(0, .int p1), (1, .int p2), (2, .int p3), (3, .int p4), (4, .int p5)]) (by decide) rfl hn (Nat.le_of_ble_eq_true rfl) rfl (rp_id ?_)
  unfold FX12_getsBy
  refine rp_iload_n 0 dX12_getsBy_0 rfl ?_
  refine rp_iconst (1 : Int32) dX12_getsBy_1 (by decide) ?_
  refine rp_as ?_
  refine rp_join 30 (fun (v1 : Int32) => []) (fun v1 => [.int v1]) (fun v1 => ?_) (fun hJ30 => ?_)
  · exact rp_pu (rp_iret rfl dX12_getsBy_30)
  refine rp_icmp_ne 19 dX12_getsBy_2 (by decide) ?_ ?_
  · refine rp_iload_n 1 dX12_getsBy_19 rfl ?_
    refine rp_iconst (1 : Int32) dX12_getsBy_20 (by decide) ?_
    refine rp_icmp_ne 29 dX12_getsBy_21 (by decide) ?_ ?_
    · refine rp_iconst (0 : Int32) dX12_getsBy_29 (by decide) ?_
      exact rp_sub [] rfl (rp_pu (hJ30 (0 : Int32)))
    · refine rp_iload 4 dX12_getsBy_24 rfl ?_
      refine rp_goto 30 dX12_getsBy_26 (by decide) ?_
      exact rp_sub [] rfl (rp_pu (hJ30 p5))
  · refine rp_iload_n 1 dX12_getsBy_5 rfl ?_
    refine rp_iconst (1 : Int32) dX12_getsBy_6 (by decide) ?_
    refine rp_icmp_ne 14 dX12_getsBy_7 (by decide) ?_ ?_
    · refine rp_iload_n 3 dX12_getsBy_14 rfl ?_
      refine rp_ineg dX12_getsBy_15 ?_
      refine rp_goto 30 dX12_getsBy_16 (by decide) ?_
      exact rp_sub [] rfl (rp_pu (hJ30 (-p4)))
    · refine rp_iload_n 2 dX12_getsBy_10 rfl ?_
      refine rp_goto 30 dX12_getsBy_11 (by decide) ?_
      exact rp_sub [] rfl (rp_pu (hJ30 p3))

theorem dX12_rests_0 : decode cX12_rests 0 = .ok (.iload_n 1, 1) := by decide +kernel
theorem dX12_rests_1 : decode cX12_rests 1 = .ok (.iconst 0, 1) := by decide +kernel
theorem dX12_rests_2 : decode cX12_rests 2 = .ok (.bipush 9, 2) := by decide +kernel
theorem dX12_rests_4 : decode cX12_rests 4 = .ok (.invokestatic 201, 3) := by decide +kernel
theorem dX12_rests_7 : decode cX12_rests 7 = .ok (.ifCond .eq 33, 3) := by decide +kernel
theorem dX12_rests_10 : decode cX12_rests 10 = .ok (.iload_n 2, 1) := by decide +kernel
theorem dX12_rests_11 : decode cX12_rests 11 = .ok (.iconst 0, 1) := by decide +kernel
theorem dX12_rests_12 : decode cX12_rests 12 = .ok (.bipush 9, 2) := by decide +kernel
theorem dX12_rests_14 : decode cX12_rests 14 = .ok (.invokestatic 201, 3) := by decide +kernel
theorem dX12_rests_17 : decode cX12_rests 17 = .ok (.ifCond .eq 23, 3) := by decide +kernel
theorem dX12_rests_20 : decode cX12_rests 20 = .ok (.iload_n 3, 1) := by decide +kernel
theorem dX12_rests_21 : decode cX12_rests 21 = .ok (.iconst 0, 1) := by decide +kernel
theorem dX12_rests_22 : decode cX12_rests 22 = .ok (.bipush 9, 2) := by decide +kernel
theorem dX12_rests_24 : decode cX12_rests 24 = .ok (.invokestatic 201, 3) := by decide +kernel
theorem dX12_rests_27 : decode cX12_rests 27 = .ok (.ifCond .eq 13, 3) := by decide +kernel
theorem dX12_rests_30 : decode cX12_rests 30 = .ok (.iload 4, 2) := by decide +kernel
theorem dX12_rests_32 : decode cX12_rests 32 = .ok (.iconst (-1), 1) := by decide +kernel
theorem dX12_rests_33 : decode cX12_rests 33 = .ok (.if_icmp .lt 7, 3) := by decide +kernel
theorem dX12_rests_36 : decode cX12_rests 36 = .ok (.iconst 1, 1) := by decide +kernel
theorem dX12_rests_37 : decode cX12_rests 37 = .ok (.goto 4, 3) := by decide +kernel
theorem dX12_rests_40 : decode cX12_rests 40 = .ok (.iconst 0, 1) := by decide +kernel
theorem dX12_rests_41 : decode cX12_rests 41 = .ok (.istore 5, 2) := by decide +kernel
theorem dX12_rests_43 : decode cX12_rests 43 = .ok (.iconst 0, 1) := by decide +kernel
theorem dX12_rests_44 : decode cX12_rests 44 = .ok (.istore 6, 2) := by decide +kernel
theorem dX12_rests_46 : decode cX12_rests 46 = .ok (.iconst (-1), 1) := by decide +kernel
theorem dX12_rests_47 : decode cX12_rests 47 = .ok (.istore 7, 2) := by decide +kernel
theorem dX12_rests_49 : decode cX12_rests 49 = .ok (.iconst 0, 1) := by decide +kernel
theorem dX12_rests_50 : decode cX12_rests 50 = .ok (.istore 8, 2) := by decide +kernel
theorem dX12_rests_52 : decode cX12_rests 52 = .ok (.iload 8, 2) := by decide +kernel
theorem dX12_rests_54 : decode cX12_rests 54 = .ok (.iconst 4, 1) := by decide +kernel
theorem dX12_rests_55 : decode cX12_rests 55 = .ok (.if_icmp .ge 119, 3) := by decide +kernel
theorem dX12_rests_58 : decode cX12_rests 58 = .ok (.iload 5, 2) := by decide +kernel
theorem dX12_rests_60 : decode cX12_rests 60 = .ok (.ifCond .eq 114, 3) := by decide +kernel
theorem dX12_rests_63 : decode cX12_rests 63 = .ok (.iload 8, 2) := by decide +kernel
theorem dX12_rests_65 : decode cX12_rests 65 = .ok (.iconst 2, 1) := by decide +kernel
theorem dX12_rests_66 : decode cX12_rests 66 = .ok (.idiv, 1) := by decide +kernel
theorem dX12_rests_67 : decode cX12_rests 67 = .ok (.istore 9, 2) := by decide +kernel
theorem dX12_rests_69 : decode cX12_rests 69 = .ok (.iload 8, 2) := by decide +kernel
theorem dX12_rests_71 : decode cX12_rests 71 = .ok (.iconst 2, 1) := by decide +kernel
theorem dX12_rests_72 : decode cX12_rests 72 = .ok (.irem, 1) := by decide +kernel
theorem dX12_rests_73 : decode cX12_rests 73 = .ok (.istore 10, 2) := by decide +kernel
theorem dX12_rests_75 : decode cX12_rests 75 = .ok (.iconst 1, 1) := by decide +kernel
theorem dX12_rests_76 : decode cX12_rests 76 = .ok (.iload 9, 2) := by decide +kernel
theorem dX12_rests_78 : decode cX12_rests 78 = .ok (.isub, 1) := by decide +kernel
theorem dX12_rests_79 : decode cX12_rests 79 = .ok (.iload 10, 2) := by decide +kernel
theorem dX12_rests_81 : decode cX12_rests 81 = .ok (.iload_n 1, 1) := by decide +kernel
theorem dX12_rests_82 : decode cX12_rests 82 = .ok (.iload_n 2, 1) := by decide +kernel
theorem dX12_rests_83 : decode cX12_rests 83 = .ok (.iload_n 3, 1) := by decide +kernel
theorem dX12_rests_84 : decode cX12_rests 84 = .ok (.invokestatic 397, 3) := by decide +kernel
theorem dX12_rests_87 : decode cX12_rests 87 = .ok (.iload 9, 2) := by decide +kernel
theorem dX12_rests_89 : decode cX12_rests 89 = .ok (.iload 10, 2) := by decide +kernel
theorem dX12_rests_91 : decode cX12_rests 91 = .ok (.iload_n 1, 1) := by decide +kernel
theorem dX12_rests_92 : decode cX12_rests 92 = .ok (.iload_n 2, 1) := by decide +kernel
theorem dX12_rests_93 : decode cX12_rests 93 = .ok (.iload_n 3, 1) := by decide +kernel
theorem dX12_rests_94 : decode cX12_rests 94 = .ok (.invokestatic 397, 3) := by decide +kernel
theorem dX12_rests_97 : decode cX12_rests 97 = .ok (.if_icmp .gt 32, 3) := by decide +kernel
theorem dX12_rests_100 : decode cX12_rests 100 = .ok (.iconst 1, 1) := by decide +kernel
theorem dX12_rests_101 : decode cX12_rests 101 = .ok (.iload 10, 2) := by decide +kernel
theorem dX12_rests_103 : decode cX12_rests 103 = .ok (.isub, 1) := by decide +kernel
theorem dX12_rests_104 : decode cX12_rests 104 = .ok (.iload 9, 2) := by decide +kernel
theorem dX12_rests_106 : decode cX12_rests 106 = .ok (.iload_n 1, 1) := by decide +kernel
theorem dX12_rests_107 : decode cX12_rests 107 = .ok (.iload_n 2, 1) := by decide +kernel
theorem dX12_rests_108 : decode cX12_rests 108 = .ok (.iload_n 3, 1) := by decide +kernel
theorem dX12_rests_109 : decode cX12_rests 109 = .ok (.invokestatic 397, 3) := by decide +kernel
theorem dX12_rests_112 : decode cX12_rests 112 = .ok (.iload 10, 2) := by decide +kernel
theorem dX12_rests_114 : decode cX12_rests 114 = .ok (.iload 9, 2) := by decide +kernel
theorem dX12_rests_116 : decode cX12_rests 116 = .ok (.iload_n 1, 1) := by decide +kernel
theorem dX12_rests_117 : decode cX12_rests 117 = .ok (.iload_n 2, 1) := by decide +kernel
theorem dX12_rests_118 : decode cX12_rests 118 = .ok (.iload_n 3, 1) := by decide +kernel
theorem dX12_rests_119 : decode cX12_rests 119 = .ok (.invokestatic 397, 3) := by decide +kernel
theorem dX12_rests_122 : decode cX12_rests 122 = .ok (.if_icmp .gt 7, 3) := by decide +kernel
theorem dX12_rests_125 : decode cX12_rests 125 = .ok (.iconst 1, 1) := by decide +kernel
theorem dX12_rests_126 : decode cX12_rests 126 = .ok (.goto 4, 3) := by decide +kernel
theorem dX12_rests_129 : decode cX12_rests 129 = .ok (.iconst 0, 1) := by decide +kernel
theorem dX12_rests_130 : decode cX12_rests 130 = .ok (.istore 11, 2) := by decide +kernel
theorem dX12_rests_132 : decode cX12_rests 132 = .ok (.iload 11, 2) := by decide +kernel
theorem dX12_rests_134 : decode cX12_rests 134 = .ok (.ifCond .eq 15, 3) := by decide +kernel
theorem dX12_rests_137 : decode cX12_rests 137 = .ok (.iload 6, 2) := by decide +kernel
theorem dX12_rests_139 : decode cX12_rests 139 = .ok (.iload 4, 2) := by decide +kernel
theorem dX12_rests_141 : decode cX12_rests 141 = .ok (.if_icmp .ne 8, 3) := by decide +kernel
theorem dX12_rests_144 : decode cX12_rests 144 = .ok (.iload 8, 2) := by decide +kernel
theorem dX12_rests_146 : decode cX12_rests 146 = .ok (.goto 5, 3) := by decide +kernel
theorem dX12_rests_149 : decode cX12_rests 149 = .ok (.iload 7, 2) := by decide +kernel
theorem dX12_rests_151 : decode cX12_rests 151 = .ok (.istore 7, 2) := by decide +kernel
theorem dX12_rests_153 : decode cX12_rests 153 = .ok (.iload 6, 2) := by decide +kernel
theorem dX12_rests_155 : decode cX12_rests 155 = .ok (.iload 11, 2) := by decide +kernel
theorem dX12_rests_157 : decode cX12_rests 157 = .ok (.ifCond .eq 7, 3) := by decide +kernel
theorem dX12_rests_160 : decode cX12_rests 160 = .ok (.iconst 1, 1) := by decide +kernel
theorem dX12_rests_161 : decode cX12_rests 161 = .ok (.goto 4, 3) := by decide +kernel
theorem dX12_rests_164 : decode cX12_rests 164 = .ok (.iconst 0, 1) := by decide +kernel
theorem dX12_rests_165 : decode cX12_rests 165 = .ok (.iadd, 1) := by decide +kernel
theorem dX12_rests_166 : decode cX12_rests 166 = .ok (.istore 6, 2) := by decide +kernel
theorem dX12_rests_168 : decode cX12_rests 168 = .ok (.iinc 8 1, 3) := by decide +kernel
theorem dX12_rests_171 : decode cX12_rests 171 = .ok (.goto (-119), 3) := by decide +kernel
theorem dX12_rests_174 : decode cX12_rests 174 = .ok (.aload_n 0, 1) := by decide +kernel
theorem dX12_rests_175 : decode cX12_rests 175 = .ok (.iload 5, 2) := by decide +kernel
theorem dX12_rests_177 : decode cX12_rests 177 = .ok (.ifCond .eq 17, 3) := by decide +kernel
theorem dX12_rests_180 : decode cX12_rests 180 = .ok (.iload 4, 2) := by decide +kernel
theorem dX12_rests_182 : decode cX12_rests 182 = .ok (.ifCond .lt 8, 3) := by decide +kernel
theorem dX12_rests_185 : decode cX12_rests 185 = .ok (.iload 7, 2) := by decide +kernel
theorem dX12_rests_187 : decode cX12_rests 187 = .ok (.ifCond .lt 7, 3) := by decide +kernel
theorem dX12_rests_190 : decode cX12_rests 190 = .ok (.iconst 0, 1) := by decide +kernel
theorem dX12_rests_191 : decode cX12_rests 191 = .ok (.goto 4, 3) := by decide +kernel
theorem dX12_rests_194 : decode cX12_rests 194 = .ok (.iconst 1, 1) := by decide +kernel
theorem dX12_rests_195 : decode cX12_rests 195 = .ok (.putfield 1, 3) := by decide +kernel
theorem dX12_rests_198 : decode cX12_rests 198 = .ok (.aload_n 0, 1) := by decide +kernel
theorem dX12_rests_199 : decode cX12_rests 199 = .ok (.getfield 1, 3) := by decide +kernel
theorem dX12_rests_202 : decode cX12_rests 202 = .ok (.ifCond .le 7, 3) := by decide +kernel
theorem dX12_rests_205 : decode cX12_rests 205 = .ok (.iconst 0, 1) := by decide +kernel
theorem dX12_rests_206 : decode cX12_rests 206 = .ok (.goto 15, 3) := by decide +kernel
theorem dX12_rests_209 : decode cX12_rests 209 = .ok (.iload 4, 2) := by decide +kernel
theorem dX12_rests_211 : decode cX12_rests 211 = .ok (.ifCond .ge 8, 3) := by decide +kernel
theorem dX12_rests_214 : decode cX12_rests 214 = .ok (.iload 6, 2) := by decide +kernel
theorem dX12_rests_216 : decode cX12_rests 216 = .ok (.goto 5, 3) := by decide +kernel
theorem dX12_rests_219 : decode cX12_rests 219 = .ok (.iload 7, 2) := by decide +kernel
theorem dX12_rests_221 : decode cX12_rests 221 = .ok (.ireturn, 1) := by decide +kernel
noncomputable def FX12_rests (a0 : Nat) (p1 : Int32) (p2 : Int32) (p3 : Int32) (p4 : Int32) : PP Int32 := bd (FX12_within p1 (0 : Int32) (9 : Int32)) (fun x1 => bd (if ((b2i x1)) = 0 then pu (0 : Int32) else bd (FX12_within p2 (0 : Int32) (9 : Int32)) (fun x2 => if ((b2i x2)) = 0 then pu (0 : Int32) else bd (FX12_within p3 (0 : Int32) (9 : Int32)) (fun x3 => if ((b2i x3)) = 0 then pu (0 : Int32) else if p4 < (-1 : Int32) then pu (0 : Int32) else pu (1 : Int32))) : PP (Int32)) (fun (v4 : Int32) => bd (it (fun (s5 : Int32 × Int32 × Int32) => (if (4 : Int32) ≤ s5.2.2 then pu (Sum.inr (s5.1, s5.2.1)) else if v4 = 0 then pu (Sum.inr (s5.1, s5.2.1)) else bd (gd (¬ (2 : Int32) = 0)) (fun (_ : Unit) => lt (s5.2.2 / (2 : Int32)) (fun y6 => bd (gd (¬ (2 : Int32) = 0)) (fun (_ : Unit) => lt (s5.2.2 - s5.2.2 / (2 : Int32) * (2 : Int32)) (fun y7 => bd (FX12_getsBy ((1 : Int32) - y6) y7 p1 p2 p3) (fun x8 => bd (FX12_getsBy y6 y7 p1 p2 p3) (fun x9 => bd (if x9 < x8 then pu (0 : Int32) else bd (FX12_getsBy ((1 : Int32) - y7) y6 p1 p2 p3) (fun x10 => bd (FX12_getsBy y7 y6 p1 p2 p3) (fun x11 => if x11 < x10 then pu (0 : Int32) else pu (1 : Int32))) : PP (Int32)) (fun (v12 : Int32) => bd (if v12 = 0 then pu s5.2.1 else if s5.1 = p4 then pu s5.2.2 else pu s5.2.1 : PP (Int32)) (fun (v13 : Int32) => bd (if v12 = 0 then pu (0 : Int32) else pu (1 : Int32) : PP (Int32)) (fun (v14 : Int32) => lt (s5.1 + v14) (fun y15 => lt (s5.2.2 + (1 : Int32)) (fun y16 => pu (Sum.inl (y15, v13, y16))))))))))))) : PP ((Int32 × Int32 × Int32) ⊕ (Int32 × Int32)))) FU ((0 : Int32), (-1 : Int32), (0 : Int32))) (fun (v17 : Int32 × Int32) => bd (if v4 = 0 then pu (1 : Int32) else if p4 < 0 then pu (0 : Int32) else if v17.2 < 0 then pu (1 : Int32) else pu (0 : Int32) : PP (Int32)) (fun (v18 : Int32) => bd (sI a0 0 v18) (fun (_ : Unit) => bd (gI a0 0) (fun x19 => bd (if x19 ≤ 0 then if 0 ≤ p4 then pu v17.2 else pu v17.1 else pu (0 : Int32) : PP (Int32)) (fun (v20 : Int32) => pu v20)))))))
set_option maxHeartbeats 4000000 in
set_option maxRecDepth 100000 in
theorem SX12_rests {l : Launch} {K : KK} {n : Nat} {hn : 270 ≤ n} (a0 : Nat) (p1 : Int32) (p2 : Int32) (p3 : Int32) (p4 : Int32) (h0 : ob a0 11) : CT l K n 1 mX12_rests [.ref (K.2.1 + a0), .int p1, .int p2, .int p3, .int p4] enI (FX12_rests a0 p1 p2 p3 p4) := by
  refine CT.of2 (lv2 := [(0, .ref (K.2.1 + a0)), (1, .int p1), (2, .int p2), (3, .int p3), (4, .int p4)]) (by decide) rfl hn (Nat.le_of_ble_eq_true rfl) rfl (rp_id ?_)
  unfold FX12_rests
  refine rp_iload_n 1 dX12_rests_0 rfl ?_
  refine rp_iconst (0 : Int32) dX12_rests_1 (by decide) ?_
  refine rp_bipush (9 : Int32) dX12_rests_2 (by decide) ?_
  refine rp_callSz [.int p1, .int (0 : Int32), .int (9 : Int32)] (SX12_within (hn := hn) p1 (0 : Int32) (9 : Int32)) csX12_within (mw (i := 1484) (by decide +kernel)) (by omega) rfl rfl (Nat.le_of_ble_eq_true rfl) dX12_rests_4 (fun x1 => ?_)
  refine rp_as ?_
  refine rp_join 41 (fun (v4 : Int32) => [(0, .ref (K.2.1 + a0)), (1, .int p1), (2, .int p2), (3, .int p3), (4, .int p4)]) (fun v4 => [.int v4]) (fun v4 => ?_) (fun hJ41 => ?_)
  · refine rp_istore [(5, .int v4), (0, .ref (K.2.1 + a0)), (1, .int p1), (2, .int p2), (3, .int p3), (4, .int p4)] dX12_rests_41 (by decide) rfl ?_
    refine rp_iconst (0 : Int32) dX12_rests_43 (by decide) ?_
    refine rp_istore [(6, .int (0 : Int32)), (5, .int v4), (0, .ref (K.2.1 + a0)), (1, .int p1), (2, .int p2), (3, .int p3), (4, .int p4)] dX12_rests_44 (by decide) rfl ?_
    refine rp_iconst (-1 : Int32) dX12_rests_46 (by decide) ?_
    refine rp_istore [(7, .int (-1 : Int32)), (6, .int (0 : Int32)), (5, .int v4), (0, .ref (K.2.1 + a0)), (1, .int p1), (2, .int p2), (3, .int p3), (4, .int p4)] dX12_rests_47 (by decide) rfl ?_
    refine rp_iconst (0 : Int32) dX12_rests_49 (by decide) ?_
    refine rp_istore [(8, .int (0 : Int32)), (7, .int (-1 : Int32)), (6, .int (0 : Int32)), (5, .int v4), (0, .ref (K.2.1 + a0)), (1, .int p1), (2, .int p2), (3, .int p3), (4, .int p4)] dX12_rests_50 (by decide) rfl ?_
    refine rp_as ?_
    refine rp_join 174 (fun v17 => [(0, .ref (K.2.1 + a0)), (4, .int p4), (5, .int v4), (6, .int v17.1), (7, .int v17.2)]) (fun _ => []) (fun v17 => ?_) (fun hX52_0 => ?_)
    · refine rp_aload_n 0 dX12_rests_174 rfl ?_
      refine rp_iload 2 dX12_rests_175 rfl ?_
      refine rp_as ?_
      refine rp_join 195 (fun (v18 : Int32) => [(0, .ref (K.2.1 + a0)), (4, .int p4), (6, .int v17.1), (7, .int v17.2)]) (fun v18 => [.int v18, .ref (K.2.1 + a0)]) (fun v18 => ?_) (fun hJ195 => ?_)
      · refine rp_putI fi_X12_1 fp_X12_0 h0 rfl dX12_rests_195 ?_
        refine rp_aload_n 0 dX12_rests_198 rfl ?_
        refine rp_getI fi_X12_1 h0 rfl dX12_rests_199 (fun x19 => ?_)
        refine rp_as ?_
        refine rp_join 221 (fun (v20 : Int32) => []) (fun v20 => [.int v20]) (fun v20 => ?_) (fun hJ221 => ?_)
        · exact rp_pu (rp_iret rfl dX12_rests_221)
        refine rp_if_le 209 dX12_rests_202 (by decide) ?_ ?_
        · refine rp_iload 1 dX12_rests_209 rfl ?_
          refine rp_if_ge 219 dX12_rests_211 (by decide) ?_ ?_
          · refine rp_iload 3 dX12_rests_219 rfl ?_
            exact rp_sub [] rfl (rp_pu (hJ221 v17.2))
          · refine rp_iload 2 dX12_rests_214 rfl ?_
            refine rp_goto 221 dX12_rests_216 (by decide) ?_
            exact rp_sub [] rfl (rp_pu (hJ221 v17.1))
        · refine rp_iconst (0 : Int32) dX12_rests_205 (by decide) ?_
          refine rp_goto 221 dX12_rests_206 (by decide) ?_
          exact rp_sub [] rfl (rp_pu (hJ221 (0 : Int32)))
      refine rp_if_eq 194 dX12_rests_177 (by decide) ?_ ?_
      · refine rp_iconst (1 : Int32) dX12_rests_194 (by decide) ?_
        exact rp_sub [0, 1, 3, 4] rfl (rp_pu (hJ195 (1 : Int32)))
      · refine rp_iload 1 dX12_rests_180 rfl ?_
        refine rp_if_lt 190 dX12_rests_182 (by decide) ?_ ?_
        · refine rp_iconst (0 : Int32) dX12_rests_190 (by decide) ?_
          refine rp_goto 195 dX12_rests_191 (by decide) ?_
          exact rp_sub [0, 1, 3, 4] rfl (rp_pu (hJ195 (0 : Int32)))
        · refine rp_iload 4 dX12_rests_185 rfl ?_
          refine rp_if_lt 194 dX12_rests_187 (by decide) ?_ ?_
          · refine rp_iconst (1 : Int32) dX12_rests_194 (by decide) ?_
            exact rp_sub [0, 1, 3, 4] rfl (rp_pu (hJ195 (1 : Int32)))
          · refine rp_iconst (0 : Int32) dX12_rests_190 (by decide) ?_
            refine rp_goto 195 dX12_rests_191 (by decide) ?_
            exact rp_sub [0, 1, 3, 4] rfl (rp_pu (hJ195 (0 : Int32)))
    refine rp_sub [4, 5, 6, 7, 8, 3, 2, 1, 0] rfl (rp_it (fun (s5 : Int32 × Int32 × Int32) => [(0, .ref (K.2.1 + a0)), (1, .int p1), (2, .int p2), (3, .int p3), (4, .int p4), (5, .int v4), (6, .int s5.1), (7, .int s5.2.1), (8, .int s5.2.2)]) (fun N52 ih52 s5 => ?_) FU ((0 : Int32), (-1 : Int32), (0 : Int32)))
    refine rp_iload 8 dX12_rests_52 rfl ?_
    refine rp_iconst (4 : Int32) dX12_rests_54 (by decide) ?_
    refine rp_icmp_ge 174 dX12_rests_55 (by decide) ?_ ?_
    · exact rp_sub [0, 4, 5, 6, 7] rfl (rp_puR (hX52_0 (s5.1, s5.2.1)))
    · refine rp_iload 5 dX12_rests_58 rfl ?_
      refine rp_if_eq 174 dX12_rests_60 (by decide) ?_ ?_
      · exact rp_sub [0, 4, 5, 6, 7] rfl (rp_puR (hX52_0 (s5.1, s5.2.1)))
      · refine rp_iload 8 dX12_rests_63 rfl ?_
        refine rp_iconst (2 : Int32) dX12_rests_65 (by decide) ?_
        refine rp_idiv dX12_rests_66 ?_
        refine rp_lti (fun y6 => ?_)
        refine rp_istore [(9, .int y6), (0, .ref (K.2.1 + a0)), (1, .int p1), (2, .int p2), (3, .int p3), (4, .int p4), (5, .int v4), (6, .int s5.1), (7, .int s5.2.1), (8, .int s5.2.2)] dX12_rests_67 (by decide) rfl ?_
        refine rp_iload 9 dX12_rests_69 rfl ?_
        refine rp_iconst (2 : Int32) dX12_rests_71 (by decide) ?_
        refine rp_irem dX12_rests_72 ?_
        refine rp_lti (fun y7 => ?_)
        refine rp_istore [(10, .int y7), (9, .int y6), (0, .ref (K.2.1 + a0)), (1, .int p1), (2, .int p2), (3, .int p3), (4, .int p4), (5, .int v4), (6, .int s5.1), (7, .int s5.2.1), (8, .int s5.2.2)] dX12_rests_73 (by decide) rfl ?_
        refine rp_iconst (1 : Int32) dX12_rests_75 (by decide) ?_
        refine rp_iload 1 dX12_rests_76 rfl ?_
        refine rp_isub dX12_rests_78 ?_
        refine rp_iload 0 dX12_rests_79 rfl ?_
        refine rp_iload_n 3 dX12_rests_81 rfl ?_
        refine rp_iload_n 4 dX12_rests_82 rfl ?_
        refine rp_iload_n 5 dX12_rests_83 rfl ?_
        refine rp_callSi [.int ((1 : Int32) - y6), .int y7, .int p1, .int p2, .int p3] (SX12_getsBy (hn := hn) ((1 : Int32) - y6) y7 p1 p2 p3) csX12_getsBy (mw (i := 1794) (by decide +kernel)) (by omega) rfl rfl (Nat.le_of_ble_eq_true rfl) dX12_rests_84 (fun x8 => ?_)
        refine rp_iload 1 dX12_rests_87 rfl ?_
        refine rp_iload 0 dX12_rests_89 rfl ?_
        refine rp_iload_n 3 dX12_rests_91 rfl ?_
        refine rp_iload_n 4 dX12_rests_92 rfl ?_
        refine rp_iload_n 5 dX12_rests_93 rfl ?_
        refine rp_callSi [.int y6, .int y7, .int p1, .int p2, .int p3] (SX12_getsBy (hn := hn) y6 y7 p1 p2 p3) csX12_getsBy (mw (i := 1794) (by decide +kernel)) (by omega) rfl rfl (Nat.le_of_ble_eq_true rfl) dX12_rests_94 (fun x9 => ?_)
        refine rp_as ?_
        refine rp_join 130 (fun (v12 : Int32) => [(0, .ref (K.2.1 + a0)), (1, .int p1), (2, .int p2), (3, .int p3), (4, .int p4), (5, .int v4), (6, .int s5.1), (7, .int s5.2.1), (8, .int s5.2.2)]) (fun v12 => [.int v12]) (fun v12 => ?_) (fun hJ130 => ?_)
        · refine rp_istore [(11, .int v12), (0, .ref (K.2.1 + a0)), (1, .int p1), (2, .int p2), (3, .int p3), (4, .int p4), (5, .int v4), (6, .int s5.1), (7, .int s5.2.1), (8, .int s5.2.2)] dX12_rests_130 (by decide) rfl ?_
          refine rp_iload 0 dX12_rests_132 rfl ?_
          refine rp_as ?_
          refine rp_join 151 (fun (v13 : Int32) => [(0, .ref (K.2.1 + a0)), (1, .int p1), (2, .int p2), (3, .int p3), (4, .int p4), (5, .int v4), (6, .int s5.1), (8, .int s5.2.2), (11, .int v12)]) (fun v13 => [.int v13]) (fun v13 => ?_) (fun hJ151 => ?_)
          · refine rp_istore [(7, .int v13), (0, .ref (K.2.1 + a0)), (1, .int p1), (2, .int p2), (3, .int p3), (4, .int p4), (5, .int v4), (6, .int s5.1), (8, .int s5.2.2), (11, .int v12)] dX12_rests_151 (by decide) rfl ?_
            refine rp_iload 7 dX12_rests_153 rfl ?_
            refine rp_iload 9 dX12_rests_155 rfl ?_
            refine rp_as ?_
            refine rp_join 165 (fun (v14 : Int32) => [(0, .ref (K.2.1 + a0)), (1, .int p1), (2, .int p2), (3, .int p3), (4, .int p4), (5, .int v4), (7, .int v13), (8, .int s5.2.2)]) (fun v14 => [.int v14, .int s5.1]) (fun v14 => ?_) (fun hJ165 => ?_)
            · refine rp_iadd dX12_rests_165 ?_
              refine rp_lti (fun y15 => ?_)
              refine rp_istore [(6, .int y15), (0, .ref (K.2.1 + a0)), (1, .int p1), (2, .int p2), (3, .int p3), (4, .int p4), (5, .int v4), (7, .int v13), (8, .int s5.2.2)] dX12_rests_166 (by decide) rfl ?_
              refine rp_iinc (fun y16 => [(8, .int y16), (6, .int y15), (0, .ref (K.2.1 + a0)), (1, .int p1), (2, .int p2), (3, .int p3), (4, .int p4), (5, .int v4), (7, .int v13)]) 8 dX12_rests_168 rfl (by rfl) (by decide) (fun y16 => rfl) (fun y16 => ?_)
              refine rp_goto 52 dX12_rests_171 (by decide) ?_
              exact rp_sub [2, 3, 4, 5, 6, 7, 1, 8, 0] rfl (ih52 (y15, v13, y16))
            refine rp_if_eq 164 dX12_rests_157 (by decide) ?_ ?_
            · refine rp_iconst (0 : Int32) dX12_rests_164 (by decide) ?_
              exact rp_sub [1, 2, 3, 4, 5, 6, 0, 8] rfl (rp_pu (hJ165 (0 : Int32)))
            · refine rp_iconst (1 : Int32) dX12_rests_160 (by decide) ?_
              refine rp_goto 165 dX12_rests_161 (by decide) ?_
              exact rp_sub [1, 2, 3, 4, 5, 6, 0, 8] rfl (rp_pu (hJ165 (1 : Int32)))
          refine rp_if_eq 149 dX12_rests_134 (by decide) ?_ ?_
          · refine rp_iload 8 dX12_rests_149 rfl ?_
            exact rp_sub [1, 2, 3, 4, 5, 6, 7, 9, 0] rfl (rp_pu (hJ151 s5.2.1))
          · refine rp_iload 7 dX12_rests_137 rfl ?_
            refine rp_iload 5 dX12_rests_139 rfl ?_
            refine rp_icmp_ne 149 dX12_rests_141 (by decide) ?_ ?_
            · refine rp_iload 8 dX12_rests_149 rfl ?_
              exact rp_sub [1, 2, 3, 4, 5, 6, 7, 9, 0] rfl (rp_pu (hJ151 s5.2.1))
            · refine rp_iload 9 dX12_rests_144 rfl ?_
              refine rp_goto 151 dX12_rests_146 (by decide) ?_
              exact rp_sub [1, 2, 3, 4, 5, 6, 7, 9, 0] rfl (rp_pu (hJ151 s5.2.2))
        refine rp_icmp_gt 129 dX12_rests_97 (by decide) ?_ ?_
        · refine rp_iconst (0 : Int32) dX12_rests_129 (by decide) ?_
          exact rp_sub [2, 3, 4, 5, 6, 7, 8, 9, 10] rfl (rp_pu (hJ130 (0 : Int32)))
        · refine rp_iconst (1 : Int32) dX12_rests_100 (by decide) ?_
          refine rp_iload 0 dX12_rests_101 rfl ?_
          refine rp_isub dX12_rests_103 ?_
          refine rp_iload 1 dX12_rests_104 rfl ?_
          refine rp_iload_n 3 dX12_rests_106 rfl ?_
          refine rp_iload_n 4 dX12_rests_107 rfl ?_
          refine rp_iload_n 5 dX12_rests_108 rfl ?_
          refine rp_callSi [.int ((1 : Int32) - y7), .int y6, .int p1, .int p2, .int p3] (SX12_getsBy (hn := hn) ((1 : Int32) - y7) y6 p1 p2 p3) csX12_getsBy (mw (i := 1794) (by decide +kernel)) (by omega) rfl rfl (Nat.le_of_ble_eq_true rfl) dX12_rests_109 (fun x10 => ?_)
          refine rp_iload 0 dX12_rests_112 rfl ?_
          refine rp_iload 1 dX12_rests_114 rfl ?_
          refine rp_iload_n 3 dX12_rests_116 rfl ?_
          refine rp_iload_n 4 dX12_rests_117 rfl ?_
          refine rp_iload_n 5 dX12_rests_118 rfl ?_
          refine rp_callSi [.int y7, .int y6, .int p1, .int p2, .int p3] (SX12_getsBy (hn := hn) y7 y6 p1 p2 p3) csX12_getsBy (mw (i := 1794) (by decide +kernel)) (by omega) rfl rfl (Nat.le_of_ble_eq_true rfl) dX12_rests_119 (fun x11 => ?_)
          refine rp_icmp_gt 129 dX12_rests_122 (by decide) ?_ ?_
          · refine rp_iconst (0 : Int32) dX12_rests_129 (by decide) ?_
            exact rp_sub [2, 3, 4, 5, 6, 7, 8, 9, 10] rfl (rp_pu (hJ130 (0 : Int32)))
          · refine rp_iconst (1 : Int32) dX12_rests_125 (by decide) ?_
            refine rp_goto 130 dX12_rests_126 (by decide) ?_
            exact rp_sub [2, 3, 4, 5, 6, 7, 8, 9, 10] rfl (rp_pu (hJ130 (1 : Int32)))
  refine rp_if_eq 40 dX12_rests_7 (by decide) ?_ ?_
  · refine rp_iconst (0 : Int32) dX12_rests_40 (by decide) ?_
    exact rp_sub [0, 1, 2, 3, 4] rfl (rp_pu (hJ41 (0 : Int32)))
  · refine rp_iload_n 2 dX12_rests_10 rfl ?_
    refine rp_iconst (0 : Int32) dX12_rests_11 (by decide) ?_
    refine rp_bipush (9 : Int32) dX12_rests_12 (by decide) ?_
    refine rp_callSz [.int p2, .int (0 : Int32), .int (9 : Int32)] (SX12_within (hn := hn) p2 (0 : Int32) (9 : Int32)) csX12_within (mw (i := 1484) (by decide +kernel)) (by omega) rfl rfl (Nat.le_of_ble_eq_true rfl) dX12_rests_14 (fun x2 => ?_)
    refine rp_if_eq 40 dX12_rests_17 (by decide) ?_ ?_
    · refine rp_iconst (0 : Int32) dX12_rests_40 (by decide) ?_
      exact rp_sub [0, 1, 2, 3, 4] rfl (rp_pu (hJ41 (0 : Int32)))
    · refine rp_iload_n 3 dX12_rests_20 rfl ?_
      refine rp_iconst (0 : Int32) dX12_rests_21 (by decide) ?_
      refine rp_bipush (9 : Int32) dX12_rests_22 (by decide) ?_
      refine rp_callSz [.int p3, .int (0 : Int32), .int (9 : Int32)] (SX12_within (hn := hn) p3 (0 : Int32) (9 : Int32)) csX12_within (mw (i := 1484) (by decide +kernel)) (by omega) rfl rfl (Nat.le_of_ble_eq_true rfl) dX12_rests_24 (fun x3 => ?_)
      refine rp_if_eq 40 dX12_rests_27 (by decide) ?_ ?_
      · refine rp_iconst (0 : Int32) dX12_rests_40 (by decide) ?_
        exact rp_sub [0, 1, 2, 3, 4] rfl (rp_pu (hJ41 (0 : Int32)))
      · refine rp_iload 4 dX12_rests_30 rfl ?_
        refine rp_iconst (-1 : Int32) dX12_rests_32 (by decide) ?_
        refine rp_icmp_lt 40 dX12_rests_33 (by decide) ?_ ?_
        · refine rp_iconst (0 : Int32) dX12_rests_40 (by decide) ?_
          exact rp_sub [0, 1, 2, 3, 4] rfl (rp_pu (hJ41 (0 : Int32)))
        · refine rp_iconst (1 : Int32) dX12_rests_36 (by decide) ?_
          refine rp_goto 41 dX12_rests_37 (by decide) ?_
          exact rp_sub [0, 1, 2, 3, 4] rfl (rp_pu (hJ41 (1 : Int32)))

theorem dX12_draw_0 : decode cX12_draw 0 = .ok (.aload_n 0, 1) := by decide +kernel
theorem dX12_draw_1 : decode cX12_draw 1 = .ok (.aload_n 0, 1) := by decide +kernel
theorem dX12_draw_2 : decode cX12_draw 2 = .ok (.getfield 401, 3) := by decide +kernel
theorem dX12_draw_5 : decode cX12_draw 5 = .ok (.ldc2_w 405, 3) := by decide +kernel
theorem dX12_draw_8 : decode cX12_draw 8 = .ok (.lmul, 1) := by decide +kernel
theorem dX12_draw_9 : decode cX12_draw 9 = .ok (.ldc2_w 407, 3) := by decide +kernel
theorem dX12_draw_12 : decode cX12_draw 12 = .ok (.ladd, 1) := by decide +kernel
theorem dX12_draw_13 : decode cX12_draw 13 = .ok (.ldc2_w 409, 3) := by decide +kernel
theorem dX12_draw_16 : decode cX12_draw 16 = .ok (.lrem, 1) := by decide +kernel
theorem dX12_draw_17 : decode cX12_draw 17 = .ok (.putfield 401, 3) := by decide +kernel
theorem dX12_draw_20 : decode cX12_draw 20 = .ok (.aload_n 0, 1) := by decide +kernel
theorem dX12_draw_21 : decode cX12_draw 21 = .ok (.getfield 401, 3) := by decide +kernel
theorem dX12_draw_24 : decode cX12_draw 24 = .ok (.ldc2_w 411, 3) := by decide +kernel
theorem dX12_draw_27 : decode cX12_draw 27 = .ok (.ldiv, 1) := by decide +kernel
theorem dX12_draw_28 : decode cX12_draw 28 = .ok (.iload_n 1, 1) := by decide +kernel
theorem dX12_draw_29 : decode cX12_draw 29 = .ok (.i2l, 1) := by decide +kernel
theorem dX12_draw_30 : decode cX12_draw 30 = .ok (.lrem, 1) := by decide +kernel
theorem dX12_draw_31 : decode cX12_draw 31 = .ok (.l2i, 1) := by decide +kernel
theorem dX12_draw_32 : decode cX12_draw 32 = .ok (.ireturn, 1) := by decide +kernel
noncomputable def FX12_draw (a0 : Nat) (p1 : Int32) : PP Int32 := bd (gL a0 30) (fun x1 => bd (gd (¬ (2147483648 : Int64) = 0)) (fun (_ : Unit) => bd (sL a0 30 (((x1 * (1103515245 : Int64)) + (12345 : Int64)) - ((x1 * (1103515245 : Int64)) + (12345 : Int64)) / (2147483648 : Int64) * (2147483648 : Int64))) (fun (_ : Unit) => bd (gL a0 30) (fun x2 => bd (gd (¬ (65536 : Int64) = 0)) (fun (_ : Unit) => bd (gd (¬ p1.toInt64 = 0)) (fun (_ : Unit) => pu (((x2 / (65536 : Int64)) - (x2 / (65536 : Int64)) / p1.toInt64 * p1.toInt64).toInt32)))))))
set_option maxHeartbeats 4000000 in
set_option maxRecDepth 100000 in
theorem SX12_draw {l : Launch} {K : KK} {n : Nat} {hn : 270 ≤ n} (a0 : Nat) (p1 : Int32) (h0 : ob a0 11) : CT l K n 0 mX12_draw [.ref (K.2.1 + a0), .int p1] enI (FX12_draw a0 p1) := by
  refine CT.of2 (lv2 := [(0, .ref (K.2.1 + a0)), (1, .int p1)]) (by decide) rfl hn (Nat.le_of_ble_eq_true rfl) rfl (rp_id ?_)
  unfold FX12_draw
  refine rp_aload_n 0 dX12_draw_0 rfl ?_
  refine rp_aload_n 0 dX12_draw_1 rfl ?_
  refine rp_getL fi_X12_401 h0 rfl dX12_draw_2 (fun x1 => ?_)
  refine rp_ldc2 (v := 1103515245) (mw (i := 1809) (by decide +kernel)) dX12_draw_5 ?_
  refine rp_lmul dX12_draw_8 ?_
  refine rp_ldc2 (v := 12345) (mw (i := 1810) (by decide +kernel)) dX12_draw_9 ?_
  refine rp_ladd dX12_draw_12 ?_
  refine rp_ldc2 (v := 2147483648) (mw (i := 1811) (by decide +kernel)) dX12_draw_13 ?_
  refine rp_lrem dX12_draw_16 ?_
  refine rp_putL fi_X12_401 fp_X12_30 h0 rfl dX12_draw_17 ?_
  refine rp_aload_n 0 dX12_draw_20 rfl ?_
  refine rp_getL fi_X12_401 h0 rfl dX12_draw_21 (fun x2 => ?_)
  refine rp_ldc2 (v := 65536) (mw (i := 1812) (by decide +kernel)) dX12_draw_24 ?_
  refine rp_ldiv dX12_draw_27 ?_
  refine rp_iload_n 1 dX12_draw_28 rfl ?_
  refine rp_i2l dX12_draw_29 ?_
  refine rp_lrem dX12_draw_30 ?_
  refine rp_l2i dX12_draw_31 ?_
  exact rp_pu (rp_iret rfl dX12_draw_32)

theorem dX12_drawsCloth_0 : decode cX12_drawsCloth 0 = .ok (.aload_n 0, 1) := by decide +kernel
theorem dX12_drawsCloth_1 : decode cX12_drawsCloth 1 = .ok (.aload_n 0, 1) := by decide +kernel
theorem dX12_drawsCloth_2 : decode cX12_drawsCloth 2 = .ok (.invokevirtual 269, 3) := by decide +kernel
theorem dX12_drawsCloth_5 : decode cX12_drawsCloth 5 = .ok (.invokevirtual 413, 3) := by decide +kernel
theorem dX12_drawsCloth_8 : decode cX12_drawsCloth 8 = .ok (.istore_n 1, 1) := by decide +kernel
theorem dX12_drawsCloth_9 : decode cX12_drawsCloth 9 = .ok (.aload_n 0, 1) := by decide +kernel
theorem dX12_drawsCloth_10 : decode cX12_drawsCloth 10 = .ok (.sipush 924, 3) := by decide +kernel
theorem dX12_drawsCloth_13 : decode cX12_drawsCloth 13 = .ok (.iload_n 1, 1) := by decide +kernel
theorem dX12_drawsCloth_14 : decode cX12_drawsCloth 14 = .ok (.invokevirtual 294, 3) := by decide +kernel
theorem dX12_drawsCloth_17 : decode cX12_drawsCloth 17 = .ok (.ifCond .eq 24, 3) := by decide +kernel
theorem dX12_drawsCloth_20 : decode cX12_drawsCloth 20 = .ok (.aload_n 0, 1) := by decide +kernel
theorem dX12_drawsCloth_21 : decode cX12_drawsCloth 21 = .ok (.sipush 924, 3) := by decide +kernel
theorem dX12_drawsCloth_24 : decode cX12_drawsCloth 24 = .ok (.iload_n 1, 1) := by decide +kernel
theorem dX12_drawsCloth_25 : decode cX12_drawsCloth 25 = .ok (.invokevirtual 301, 3) := by decide +kernel
theorem dX12_drawsCloth_28 : decode cX12_drawsCloth 28 = .ok (.ifCond .ne 11, 3) := by decide +kernel
theorem dX12_drawsCloth_31 : decode cX12_drawsCloth 31 = .ok (.aload_n 0, 1) := by decide +kernel
theorem dX12_drawsCloth_32 : decode cX12_drawsCloth 32 = .ok (.sipush 924, 3) := by decide +kernel
theorem dX12_drawsCloth_35 : decode cX12_drawsCloth 35 = .ok (.iload_n 1, 1) := by decide +kernel
theorem dX12_drawsCloth_36 : decode cX12_drawsCloth 36 = .ok (.invokevirtual 342, 3) := by decide +kernel
theorem dX12_drawsCloth_39 : decode cX12_drawsCloth 39 = .ok (.iconst 0, 1) := by decide +kernel
theorem dX12_drawsCloth_40 : decode cX12_drawsCloth 40 = .ok (.ireturn, 1) := by decide +kernel
theorem dX12_drawsCloth_41 : decode cX12_drawsCloth 41 = .ok (.aload_n 0, 1) := by decide +kernel
theorem dX12_drawsCloth_42 : decode cX12_drawsCloth 42 = .ok (.getfield 113, 3) := by decide +kernel
theorem dX12_drawsCloth_45 : decode cX12_drawsCloth 45 = .ok (.sipush 925, 3) := by decide +kernel
theorem dX12_drawsCloth_48 : decode cX12_drawsCloth 48 = .ok (.iload_n 1, 1) := by decide +kernel
theorem dX12_drawsCloth_49 : decode cX12_drawsCloth 49 = .ok (.iadd, 1) := by decide +kernel
theorem dX12_drawsCloth_50 : decode cX12_drawsCloth 50 = .ok (.aload_n 0, 1) := by decide +kernel
theorem dX12_drawsCloth_51 : decode cX12_drawsCloth 51 = .ok (.iload_n 1, 1) := by decide +kernel
theorem dX12_drawsCloth_52 : decode cX12_drawsCloth 52 = .ok (.iconst 1, 1) := by decide +kernel
theorem dX12_drawsCloth_53 : decode cX12_drawsCloth 53 = .ok (.invokevirtual 273, 3) := by decide +kernel
theorem dX12_drawsCloth_56 : decode cX12_drawsCloth 56 = .ok (.iastore, 1) := by decide +kernel
theorem dX12_drawsCloth_57 : decode cX12_drawsCloth 57 = .ok (.aload_n 0, 1) := by decide +kernel
theorem dX12_drawsCloth_58 : decode cX12_drawsCloth 58 = .ok (.aload_n 0, 1) := by decide +kernel
theorem dX12_drawsCloth_59 : decode cX12_drawsCloth 59 = .ok (.invokevirtual 285, 3) := by decide +kernel
theorem dX12_drawsCloth_62 : decode cX12_drawsCloth 62 = .ok (.invokevirtual 413, 3) := by decide +kernel
theorem dX12_drawsCloth_65 : decode cX12_drawsCloth 65 = .ok (.istore_n 2, 1) := by decide +kernel
theorem dX12_drawsCloth_66 : decode cX12_drawsCloth 66 = .ok (.aload_n 0, 1) := by decide +kernel
theorem dX12_drawsCloth_67 : decode cX12_drawsCloth 67 = .ok (.iconst 3, 1) := by decide +kernel
theorem dX12_drawsCloth_68 : decode cX12_drawsCloth 68 = .ok (.invokevirtual 413, 3) := by decide +kernel
theorem dX12_drawsCloth_71 : decode cX12_drawsCloth 71 = .ok (.iconst 1, 1) := by decide +kernel
theorem dX12_drawsCloth_72 : decode cX12_drawsCloth 72 = .ok (.iadd, 1) := by decide +kernel
theorem dX12_drawsCloth_73 : decode cX12_drawsCloth 73 = .ok (.istore_n 3, 1) := by decide +kernel
theorem dX12_drawsCloth_74 : decode cX12_drawsCloth 74 = .ok (.aload_n 0, 1) := by decide +kernel
theorem dX12_drawsCloth_75 : decode cX12_drawsCloth 75 = .ok (.sipush 924, 3) := by decide +kernel
theorem dX12_drawsCloth_78 : decode cX12_drawsCloth 78 = .ok (.iload_n 1, 1) := by decide +kernel
theorem dX12_drawsCloth_79 : decode cX12_drawsCloth 79 = .ok (.iload_n 2, 1) := by decide +kernel
theorem dX12_drawsCloth_80 : decode cX12_drawsCloth 80 = .ok (.iload_n 3, 1) := by decide +kernel
theorem dX12_drawsCloth_81 : decode cX12_drawsCloth 81 = .ok (.invokevirtual 331, 3) := by decide +kernel
theorem dX12_drawsCloth_84 : decode cX12_drawsCloth 84 = .ok (.istore 4, 2) := by decide +kernel
theorem dX12_drawsCloth_86 : decode cX12_drawsCloth 86 = .ok (.iload 4, 2) := by decide +kernel
theorem dX12_drawsCloth_88 : decode cX12_drawsCloth 88 = .ok (.ifCond .eq 13, 3) := by decide +kernel
theorem dX12_drawsCloth_91 : decode cX12_drawsCloth 91 = .ok (.aload_n 0, 1) := by decide +kernel
theorem dX12_drawsCloth_92 : decode cX12_drawsCloth 92 = .ok (.sipush 924, 3) := by decide +kernel
theorem dX12_drawsCloth_95 : decode cX12_drawsCloth 95 = .ok (.iload_n 1, 1) := by decide +kernel
theorem dX12_drawsCloth_96 : decode cX12_drawsCloth 96 = .ok (.iload_n 2, 1) := by decide +kernel
theorem dX12_drawsCloth_97 : decode cX12_drawsCloth 97 = .ok (.iload_n 3, 1) := by decide +kernel
theorem dX12_drawsCloth_98 : decode cX12_drawsCloth 98 = .ok (.invokevirtual 338, 3) := by decide +kernel
theorem dX12_drawsCloth_101 : decode cX12_drawsCloth 101 = .ok (.iload 4, 2) := by decide +kernel
theorem dX12_drawsCloth_103 : decode cX12_drawsCloth 103 = .ok (.ireturn, 1) := by decide +kernel
noncomputable def FX12_drawsCloth (a0 : Nat) : PP Bool := bd (FX12_cloths a0) (fun x1 => bd (FX12_draw a0 x1) (fun x2 => bd (FX12_doesHang a0 (924 : Int32) x2) (fun x3 => if ((b2i x3)) = 0 then bd (FX12_clothOf a0 x2 (1 : Int32)) (fun x4 => bd (uI (rf a0 23) 966 ((925 : Int32) + x2) x4) (fun (_ : Unit) => bd (FX12_lines a0) (fun x5 => bd (FX12_draw a0 x5) (fun x6 => bd (FX12_draw a0 (3 : Int32)) (fun x7 => lt (x7 + (1 : Int32)) (fun y8 => bd (FX12_mayHang a0 (924 : Int32) x2 x6 y8) (fun x9 => lt ((b2i x9)) (fun y10 => bd (if y10 = 0 then pu () else bd (FX12_hangs a0 (924 : Int32) x2 x6 y8) (fun (_ : Unit) => pu ()) : PP (Unit)) (fun (v12 : Unit) => zb y10))))))))) else bd (FX12_isWet a0 (924 : Int32) x2) (fun x13 => bd (if ((b2i x13)) = 0 then bd (FX12_comesDown a0 (924 : Int32) x2) (fun (_ : Unit) => pu ()) else pu () : PP (Unit)) (fun (v15 : Unit) => zb (0 : Int32))))))
set_option maxHeartbeats 4000000 in
set_option maxRecDepth 100000 in
theorem SX12_drawsCloth {l : Launch} {K : KK} {n : Nat} {hn : 270 ≤ n} (a0 : Nat) (h0 : ob a0 11) : CT l K n 3 mX12_drawsCloth [.ref (K.2.1 + a0)] enZ (FX12_drawsCloth a0) := by
  refine CT.of2 (lv2 := [(0, .ref (K.2.1 + a0))]) (by decide) rfl hn (Nat.le_of_ble_eq_true rfl) rfl (rp_id ?_)
  unfold FX12_drawsCloth
  refine rp_aload_n 0 dX12_drawsCloth_0 rfl ?_
  refine rp_aload_n 0 dX12_drawsCloth_1 rfl ?_
  refine rp_callVi [] (SX12_cloths (hn := hn) a0 h0) cvX12_cloths (mw (i := 1306) (by decide +kernel)) (by omega) h0 (by decide) rfl rfl rfl (Nat.le_of_ble_eq_true rfl) dX12_drawsCloth_2 (fun x1 => ?_)
  refine rp_callVi [.int x1] (SX12_draw (hn := hn) a0 x1 h0) cvX12_draw (mw (i := 1805) (by decide +kernel)) (by omega) h0 (by decide) rfl rfl rfl (Nat.le_of_ble_eq_true rfl) dX12_drawsCloth_5 (fun x2 => ?_)
  refine rp_istore_n [(1, .int x2), (0, .ref (K.2.1 + a0))] dX12_drawsCloth_8 (by decide) rfl ?_
  refine rp_aload_n 1 dX12_drawsCloth_9 rfl ?_
  refine rp_sipush (924 : Int32) dX12_drawsCloth_10 (by decide) ?_
  refine rp_iload_n 0 dX12_drawsCloth_13 rfl ?_
  refine rp_callVz [.int (924 : Int32), .int x2] (SX12_doesHang (hn := hn) a0 (924 : Int32) x2 h0) cvX12_doesHang (mw (i := 1599) (by decide +kernel)) (by omega) h0 (by decide) rfl rfl rfl (Nat.le_of_ble_eq_true rfl) dX12_drawsCloth_14 (fun x3 => ?_)
  refine rp_if_eq 41 dX12_drawsCloth_17 (by decide) ?_ ?_
  · refine rp_aload_n 1 dX12_drawsCloth_41 rfl ?_
    refine rp_getR fi_X12_113 h0 rfl dX12_drawsCloth_42 ?_
    refine rp_sipush (925 : Int32) dX12_drawsCloth_45 (by decide) ?_
    refine rp_iload_n 0 dX12_drawsCloth_48 rfl ?_
    refine rp_iadd dX12_drawsCloth_49 ?_
    refine rp_aload_n 1 dX12_drawsCloth_50 rfl ?_
    refine rp_iload_n 0 dX12_drawsCloth_51 rfl ?_
    refine rp_iconst (1 : Int32) dX12_drawsCloth_52 (by decide) ?_
    refine rp_callVi [.int x2, .int (1 : Int32)] (SX12_clothOf (hn := hn) a0 x2 (1 : Int32) h0) cvX12_clothOf (mw (i := 1310) (by decide +kernel)) (by omega) h0 (by decide) rfl rfl rfl (Nat.le_of_ble_eq_true rfl) dX12_drawsCloth_53 (fun x4 => ?_)
    refine rp_iast (tX12_23 h0) dX12_drawsCloth_56 ?_
    refine rp_aload_n 1 dX12_drawsCloth_57 rfl ?_
    refine rp_aload_n 1 dX12_drawsCloth_58 rfl ?_
    refine rp_callVi [] (SX12_lines (hn := hn) a0 h0) cvX12_lines (mw (i := 1551) (by decide +kernel)) (by omega) h0 (by decide) rfl rfl rfl (Nat.le_of_ble_eq_true rfl) dX12_drawsCloth_59 (fun x5 => ?_)
    refine rp_callVi [.int x5] (SX12_draw (hn := hn) a0 x5 h0) cvX12_draw (mw (i := 1805) (by decide +kernel)) (by omega) h0 (by decide) rfl rfl rfl (Nat.le_of_ble_eq_true rfl) dX12_drawsCloth_62 (fun x6 => ?_)
    refine rp_istore_n [(2, .int x6), (1, .int x2), (0, .ref (K.2.1 + a0))] dX12_drawsCloth_65 (by decide) rfl ?_
    refine rp_aload_n 2 dX12_drawsCloth_66 rfl ?_
    refine rp_iconst (3 : Int32) dX12_drawsCloth_67 (by decide) ?_
    refine rp_callVi [.int (3 : Int32)] (SX12_draw (hn := hn) a0 (3 : Int32) h0) cvX12_draw (mw (i := 1805) (by decide +kernel)) (by omega) h0 (by decide) rfl rfl rfl (Nat.le_of_ble_eq_true rfl) dX12_drawsCloth_68 (fun x7 => ?_)
    refine rp_iconst (1 : Int32) dX12_drawsCloth_71 (by decide) ?_
    refine rp_iadd dX12_drawsCloth_72 ?_
    refine rp_lti (fun y8 => ?_)
    refine rp_istore_n [(3, .int y8), (2, .int x6), (1, .int x2), (0, .ref (K.2.1 + a0))] dX12_drawsCloth_73 (by decide) rfl ?_
    refine rp_aload_n 3 dX12_drawsCloth_74 rfl ?_
    refine rp_sipush (924 : Int32) dX12_drawsCloth_75 (by decide) ?_
    refine rp_iload_n 2 dX12_drawsCloth_78 rfl ?_
    refine rp_iload_n 1 dX12_drawsCloth_79 rfl ?_
    refine rp_iload_n 0 dX12_drawsCloth_80 rfl ?_
    refine rp_callVz [.int (924 : Int32), .int x2, .int x6, .int y8] (SX12_mayHang (hn := hn) a0 (924 : Int32) x2 x6 y8 h0) cvX12_mayHang (mw (i := 1615) (by decide +kernel)) (by omega) h0 (by decide) rfl rfl rfl (Nat.le_of_ble_eq_true rfl) dX12_drawsCloth_81 (fun x9 => ?_)
    refine rp_lti (fun y10 => ?_)
    refine rp_istore [(4, .int y10), (3, .int y8), (2, .int x6), (1, .int x2), (0, .ref (K.2.1 + a0))] dX12_drawsCloth_84 (by decide) rfl ?_
    refine rp_iload 0 dX12_drawsCloth_86 rfl ?_
    refine rp_as ?_
    refine rp_join 101 (fun (v12 : Unit) => [(4, .int y10)]) (fun v12 => []) (fun v12 => ?_) (fun hJ101 => ?_)
    · refine rp_iload 0 dX12_drawsCloth_101 rfl ?_
      exact rp_zretb rfl dX12_drawsCloth_103
    refine rp_if_eq 101 dX12_drawsCloth_88 (by decide) ?_ ?_
    · exact rp_sub [0] rfl (rp_pu (hJ101 ()))
    · refine rp_aload_n 4 dX12_drawsCloth_91 rfl ?_
      refine rp_sipush (924 : Int32) dX12_drawsCloth_92 (by decide) ?_
      refine rp_iload_n 3 dX12_drawsCloth_95 rfl ?_
      refine rp_iload_n 2 dX12_drawsCloth_96 rfl ?_
      refine rp_iload_n 1 dX12_drawsCloth_97 rfl ?_
      refine rp_callVv [.int (924 : Int32), .int x2, .int x6, .int y8] (SX12_hangs (hn := hn) a0 (924 : Int32) x2 x6 y8 h0) cvX12_hangs (mw (i := 1627) (by decide +kernel)) (by omega) h0 (by decide) rfl rfl rfl (Nat.le_of_ble_eq_true rfl) dX12_drawsCloth_98 (fun x11 => ?_)
      exact rp_sub [0] rfl (rp_pu (hJ101 ()))
  · refine rp_aload_n 1 dX12_drawsCloth_20 rfl ?_
    refine rp_sipush (924 : Int32) dX12_drawsCloth_21 (by decide) ?_
    refine rp_iload_n 0 dX12_drawsCloth_24 rfl ?_
    refine rp_callVz [.int (924 : Int32), .int x2] (SX12_isWet (hn := hn) a0 (924 : Int32) x2 h0) cvX12_isWet (mw (i := 1603) (by decide +kernel)) (by omega) h0 (by decide) rfl rfl rfl (Nat.le_of_ble_eq_true rfl) dX12_drawsCloth_25 (fun x13 => ?_)
    refine rp_as ?_
    refine rp_join 39 (fun (v15 : Unit) => []) (fun v15 => []) (fun v15 => ?_) (fun hJ39 => ?_)
    · refine rp_iconst (0 : Int32) dX12_drawsCloth_39 (by decide) ?_
      exact rp_zretb rfl dX12_drawsCloth_40
    refine rp_if_ne 39 dX12_drawsCloth_28 (by decide) ?_ ?_
    · exact rp_sub [] rfl (rp_pu (hJ39 ()))
    · refine rp_aload_n 1 dX12_drawsCloth_31 rfl ?_
      refine rp_sipush (924 : Int32) dX12_drawsCloth_32 (by decide) ?_
      refine rp_iload_n 0 dX12_drawsCloth_35 rfl ?_
      refine rp_callVv [.int (924 : Int32), .int x2] (SX12_comesDown (hn := hn) a0 (924 : Int32) x2 h0) cvX12_comesDown (mw (i := 1635) (by decide +kernel)) (by omega) h0 (by decide) rfl rfl rfl (Nat.le_of_ble_eq_true rfl) dX12_drawsCloth_36 (fun x14 => ?_)
      exact rp_sub [] rfl (rp_pu (hJ39 ()))

theorem dX12_mays_0 : decode cX12_mays 0 = .ok (.aload_n 0, 1) := by decide +kernel
theorem dX12_mays_1 : decode cX12_mays 1 = .ok (.iconst 0, 1) := by decide +kernel
theorem dX12_mays_2 : decode cX12_mays 2 = .ok (.putfield 1, 3) := by decide +kernel
theorem dX12_mays_5 : decode cX12_mays 5 = .ok (.iload_n 1, 1) := by decide +kernel
theorem dX12_mays_6 : decode cX12_mays 6 = .ok (.iconst 0, 1) := by decide +kernel
theorem dX12_mays_7 : decode cX12_mays 7 = .ok (.sipush 9999, 3) := by decide +kernel
theorem dX12_mays_10 : decode cX12_mays 10 = .ok (.invokestatic 201, 3) := by decide +kernel
theorem dX12_mays_13 : decode cX12_mays 13 = .ok (.ifCond .eq 22, 3) := by decide +kernel
theorem dX12_mays_16 : decode cX12_mays 16 = .ok (.iload_n 2, 1) := by decide +kernel
theorem dX12_mays_17 : decode cX12_mays 17 = .ok (.iconst 1, 1) := by decide +kernel
theorem dX12_mays_18 : decode cX12_mays 18 = .ok (.bipush 99, 2) := by decide +kernel
theorem dX12_mays_20 : decode cX12_mays 20 = .ok (.invokestatic 201, 3) := by decide +kernel
theorem dX12_mays_23 : decode cX12_mays 23 = .ok (.ifCond .eq 12, 3) := by decide +kernel
theorem dX12_mays_26 : decode cX12_mays 26 = .ok (.iload_n 3, 1) := by decide +kernel
theorem dX12_mays_27 : decode cX12_mays 27 = .ok (.iconst 0, 1) := by decide +kernel
theorem dX12_mays_28 : decode cX12_mays 28 = .ok (.iconst 2, 1) := by decide +kernel
theorem dX12_mays_29 : decode cX12_mays 29 = .ok (.invokestatic 201, 3) := by decide +kernel
theorem dX12_mays_32 : decode cX12_mays 32 = .ok (.ifCond .ne 5, 3) := by decide +kernel
theorem dX12_mays_35 : decode cX12_mays 35 = .ok (.iconst (-1), 1) := by decide +kernel
theorem dX12_mays_36 : decode cX12_mays 36 = .ok (.ireturn, 1) := by decide +kernel
theorem dX12_mays_37 : decode cX12_mays 37 = .ok (.aload_n 0, 1) := by decide +kernel
theorem dX12_mays_38 : decode cX12_mays 38 = .ok (.iconst 0, 1) := by decide +kernel
theorem dX12_mays_39 : decode cX12_mays 39 = .ok (.sipush 924, 3) := by decide +kernel
theorem dX12_mays_42 : decode cX12_mays 42 = .ok (.bipush 19, 2) := by decide +kernel
theorem dX12_mays_44 : decode cX12_mays 44 = .ok (.invokevirtual 282, 3) := by decide +kernel
theorem dX12_mays_47 : decode cX12_mays 47 = .ok (.aload_n 0, 1) := by decide +kernel
theorem dX12_mays_48 : decode cX12_mays 48 = .ok (.iload_n 1, 1) := by decide +kernel
theorem dX12_mays_49 : decode cX12_mays 49 = .ok (.i2l, 1) := by decide +kernel
theorem dX12_mays_50 : decode cX12_mays 50 = .ok (.putfield 401, 3) := by decide +kernel
theorem dX12_mays_53 : decode cX12_mays 53 = .ok (.iconst 0, 1) := by decide +kernel
theorem dX12_mays_54 : decode cX12_mays 54 = .ok (.istore 4, 2) := by decide +kernel
theorem dX12_mays_56 : decode cX12_mays 56 = .ok (.iconst 0, 1) := by decide +kernel
theorem dX12_mays_57 : decode cX12_mays 57 = .ok (.istore 5, 2) := by decide +kernel
theorem dX12_mays_59 : decode cX12_mays 59 = .ok (.iconst 0, 1) := by decide +kernel
theorem dX12_mays_60 : decode cX12_mays 60 = .ok (.istore 6, 2) := by decide +kernel
theorem dX12_mays_62 : decode cX12_mays 62 = .ok (.iload 6, 2) := by decide +kernel
theorem dX12_mays_64 : decode cX12_mays 64 = .ok (.iload_n 2, 1) := by decide +kernel
theorem dX12_mays_65 : decode cX12_mays 65 = .ok (.if_icmp .ge 69, 3) := by decide +kernel
theorem dX12_mays_68 : decode cX12_mays 68 = .ok (.iload 5, 2) := by decide +kernel
theorem dX12_mays_70 : decode cX12_mays 70 = .ok (.aload_n 0, 1) := by decide +kernel
theorem dX12_mays_71 : decode cX12_mays 71 = .ok (.invokevirtual 285, 3) := by decide +kernel
theorem dX12_mays_74 : decode cX12_mays 74 = .ok (.ifCond .le 21, 3) := by decide +kernel
theorem dX12_mays_77 : decode cX12_mays 77 = .ok (.aload_n 0, 1) := by decide +kernel
theorem dX12_mays_78 : decode cX12_mays 78 = .ok (.invokevirtual 269, 3) := by decide +kernel
theorem dX12_mays_81 : decode cX12_mays 81 = .ok (.ifCond .le 14, 3) := by decide +kernel
theorem dX12_mays_84 : decode cX12_mays 84 = .ok (.aload_n 0, 1) := by decide +kernel
theorem dX12_mays_85 : decode cX12_mays 85 = .ok (.invokevirtual 416, 3) := by decide +kernel
theorem dX12_mays_88 : decode cX12_mays 88 = .ok (.ifCond .eq 7, 3) := by decide +kernel
theorem dX12_mays_91 : decode cX12_mays 91 = .ok (.iconst 1, 1) := by decide +kernel
theorem dX12_mays_92 : decode cX12_mays 92 = .ok (.goto 4, 3) := by decide +kernel
theorem dX12_mays_95 : decode cX12_mays 95 = .ok (.iconst 0, 1) := by decide +kernel
theorem dX12_mays_96 : decode cX12_mays 96 = .ok (.iadd, 1) := by decide +kernel
theorem dX12_mays_97 : decode cX12_mays 97 = .ok (.istore 5, 2) := by decide +kernel
theorem dX12_mays_99 : decode cX12_mays 99 = .ok (.aload_n 0, 1) := by decide +kernel
theorem dX12_mays_100 : decode cX12_mays 100 = .ok (.sipush 924, 3) := by decide +kernel
theorem dX12_mays_103 : decode cX12_mays 103 = .ok (.iconst 1, 1) := by decide +kernel
theorem dX12_mays_104 : decode cX12_mays 104 = .ok (.invokevirtual 345, 3) := by decide +kernel
theorem dX12_mays_107 : decode cX12_mays 107 = .ok (.pop, 1) := by decide +kernel
theorem dX12_mays_108 : decode cX12_mays 108 = .ok (.iload 4, 2) := by decide +kernel
theorem dX12_mays_110 : decode cX12_mays 110 = .ok (.aload_n 0, 1) := by decide +kernel
theorem dX12_mays_111 : decode cX12_mays 111 = .ok (.sipush 924, 3) := by decide +kernel
theorem dX12_mays_114 : decode cX12_mays 114 = .ok (.invokevirtual 349, 3) := by decide +kernel
theorem dX12_mays_117 : decode cX12_mays 117 = .ok (.ifCond .eq 7, 3) := by decide +kernel
theorem dX12_mays_120 : decode cX12_mays 120 = .ok (.iconst 0, 1) := by decide +kernel
theorem dX12_mays_121 : decode cX12_mays 121 = .ok (.goto 4, 3) := by decide +kernel
theorem dX12_mays_124 : decode cX12_mays 124 = .ok (.iconst 1, 1) := by decide +kernel
theorem dX12_mays_125 : decode cX12_mays 125 = .ok (.iadd, 1) := by decide +kernel
theorem dX12_mays_126 : decode cX12_mays 126 = .ok (.istore 4, 2) := by decide +kernel
theorem dX12_mays_128 : decode cX12_mays 128 = .ok (.iinc 6 1, 3) := by decide +kernel
theorem dX12_mays_131 : decode cX12_mays 131 = .ok (.goto (-69), 3) := by decide +kernel
theorem dX12_mays_134 : decode cX12_mays 134 = .ok (.iload_n 3, 1) := by decide +kernel
theorem dX12_mays_135 : decode cX12_mays 135 = .ok (.ifCond .ne 8, 3) := by decide +kernel
theorem dX12_mays_138 : decode cX12_mays 138 = .ok (.iload 4, 2) := by decide +kernel
theorem dX12_mays_140 : decode cX12_mays 140 = .ok (.goto 20, 3) := by decide +kernel
theorem dX12_mays_143 : decode cX12_mays 143 = .ok (.iload_n 3, 1) := by decide +kernel
theorem dX12_mays_144 : decode cX12_mays 144 = .ok (.iconst 1, 1) := by decide +kernel
theorem dX12_mays_145 : decode cX12_mays 145 = .ok (.if_icmp .ne 8, 3) := by decide +kernel
theorem dX12_mays_148 : decode cX12_mays 148 = .ok (.iload 5, 2) := by decide +kernel
theorem dX12_mays_150 : decode cX12_mays 150 = .ok (.goto 10, 3) := by decide +kernel
theorem dX12_mays_153 : decode cX12_mays 153 = .ok (.aload_n 0, 1) := by decide +kernel
theorem dX12_mays_154 : decode cX12_mays 154 = .ok (.sipush 924, 3) := by decide +kernel
theorem dX12_mays_157 : decode cX12_mays 157 = .ok (.invokevirtual 373, 3) := by decide +kernel
theorem dX12_mays_160 : decode cX12_mays 160 = .ok (.ireturn, 1) := by decide +kernel
noncomputable def FX12_mays (a0 : Nat) (p1 : Int32) (p2 : Int32) (p3 : Int32) : PP Int32 := bd (sI a0 0 (0 : Int32)) (fun (_ : Unit) => bd (FX12_within p1 (0 : Int32) (9999 : Int32)) (fun x1 => if ((b2i x1)) = 0 then pu (-1 : Int32) else bd (FX12_within p2 (1 : Int32) (99 : Int32)) (fun x2 => if ((b2i x2)) = 0 then pu (-1 : Int32) else bd (FX12_within p3 (0 : Int32) (2 : Int32)) (fun x3 => if ((b2i x3)) = 0 then pu (-1 : Int32) else bd (FX12_copies a0 (0 : Int32) (924 : Int32) (19 : Int32)) (fun (_ : Unit) => bd (sL a0 30 p1.toInt64) (fun (_ : Unit) => bd (it (fun (s5 : Int32 × Int32 × Int32) => (if p2 ≤ s5.2.2 then pu (Sum.inr (s5.1, s5.2.1)) else bd (FX12_lines a0) (fun x6 => bd (if x6 ≤ 0 then pu (0 : Int32) else bd (FX12_cloths a0) (fun x7 => if x7 ≤ 0 then pu (0 : Int32) else bd (FX12_drawsCloth a0) (fun x8 => if ((b2i x8)) = 0 then pu (0 : Int32) else pu (1 : Int32))) : PP (Int32)) (fun (v9 : Int32) => lt (s5.2.1 + v9) (fun y10 => bd (FX12_passes a0 (924 : Int32) (1 : Int32)) (fun x11 => bd (FX12_isThunder a0 (924 : Int32)) (fun x12 => bd (if ((b2i x12)) = 0 then pu (1 : Int32) else pu (0 : Int32) : PP (Int32)) (fun (v13 : Int32) => lt (s5.1 + v13) (fun y14 => lt (s5.2.2 + (1 : Int32)) (fun y15 => pu (Sum.inl (y14, y10, y15)))))))))) : PP ((Int32 × Int32 × Int32) ⊕ (Int32 × Int32)))) FU ((0 : Int32), (0 : Int32), (0 : Int32))) (fun (v16 : Int32 × Int32) => bd (if p3 = 0 then pu v16.1 else if p3 = (1 : Int32) then pu v16.2 else bd (FX12_hanging a0 (924 : Int32)) (fun x17 => pu x17) : PP (Int32)) (fun (v18 : Int32) => pu v18))))))))
set_option maxHeartbeats 4000000 in
set_option maxRecDepth 100000 in
theorem SX12_mays {l : Launch} {K : KK} {n : Nat} {hn : 270 ≤ n} (a0 : Nat) (p1 : Int32) (p2 : Int32) (p3 : Int32) (h0 : ob a0 11) : CT l K n 5 mX12_mays [.ref (K.2.1 + a0), .int p1, .int p2, .int p3] enI (FX12_mays a0 p1 p2 p3) := by
  refine CT.of2 (lv2 := [(0, .ref (K.2.1 + a0)), (1, .int p1), (2, .int p2), (3, .int p3)]) (by decide) rfl hn (Nat.le_of_ble_eq_true rfl) rfl (rp_id ?_)
  unfold FX12_mays
  refine rp_aload_n 0 dX12_mays_0 rfl ?_
  refine rp_iconst (0 : Int32) dX12_mays_1 (by decide) ?_
  refine rp_putI fi_X12_1 fp_X12_0 h0 rfl dX12_mays_2 ?_
  refine rp_iload_n 1 dX12_mays_5 rfl ?_
  refine rp_iconst (0 : Int32) dX12_mays_6 (by decide) ?_
  refine rp_sipush (9999 : Int32) dX12_mays_7 (by decide) ?_
  refine rp_callSz [.int p1, .int (0 : Int32), .int (9999 : Int32)] (SX12_within (hn := hn) p1 (0 : Int32) (9999 : Int32)) csX12_within (mw (i := 1484) (by decide +kernel)) (by omega) rfl rfl (Nat.le_of_ble_eq_true rfl) dX12_mays_10 (fun x1 => ?_)
  refine rp_if_eq 35 dX12_mays_13 (by decide) ?_ ?_
  · refine rp_iconst (-1 : Int32) dX12_mays_35 (by decide) ?_
    exact rp_pu (rp_iret rfl dX12_mays_36)
  · refine rp_iload_n 2 dX12_mays_16 rfl ?_
    refine rp_iconst (1 : Int32) dX12_mays_17 (by decide) ?_
    refine rp_bipush (99 : Int32) dX12_mays_18 (by decide) ?_
    refine rp_callSz [.int p2, .int (1 : Int32), .int (99 : Int32)] (SX12_within (hn := hn) p2 (1 : Int32) (99 : Int32)) csX12_within (mw (i := 1484) (by decide +kernel)) (by omega) rfl rfl (Nat.le_of_ble_eq_true rfl) dX12_mays_20 (fun x2 => ?_)
    refine rp_if_eq 35 dX12_mays_23 (by decide) ?_ ?_
    · refine rp_iconst (-1 : Int32) dX12_mays_35 (by decide) ?_
      exact rp_pu (rp_iret rfl dX12_mays_36)
    · refine rp_iload_n 3 dX12_mays_26 rfl ?_
      refine rp_iconst (0 : Int32) dX12_mays_27 (by decide) ?_
      refine rp_iconst (2 : Int32) dX12_mays_28 (by decide) ?_
      refine rp_callSz [.int p3, .int (0 : Int32), .int (2 : Int32)] (SX12_within (hn := hn) p3 (0 : Int32) (2 : Int32)) csX12_within (mw (i := 1484) (by decide +kernel)) (by omega) rfl rfl (Nat.le_of_ble_eq_true rfl) dX12_mays_29 (fun x3 => ?_)
      refine rp_if_ne 37 dX12_mays_32 (by decide) ?_ ?_
      · refine rp_aload_n 0 dX12_mays_37 rfl ?_
        refine rp_iconst (0 : Int32) dX12_mays_38 (by decide) ?_
        refine rp_sipush (924 : Int32) dX12_mays_39 (by decide) ?_
        refine rp_bipush (19 : Int32) dX12_mays_42 (by decide) ?_
        refine rp_callVv [.int (0 : Int32), .int (924 : Int32), .int (19 : Int32)] (SX12_copies (hn := hn) a0 (0 : Int32) (924 : Int32) (19 : Int32) h0) cvX12_copies (mw (i := 1623) (by decide +kernel)) (by omega) h0 (by decide) rfl rfl rfl (Nat.le_of_ble_eq_true rfl) dX12_mays_44 (fun x4 => ?_)
        refine rp_aload_n 0 dX12_mays_47 rfl ?_
        refine rp_iload_n 1 dX12_mays_48 rfl ?_
        refine rp_i2l dX12_mays_49 ?_
        refine rp_putL fi_X12_401 fp_X12_30 h0 rfl dX12_mays_50 ?_
        refine rp_iconst (0 : Int32) dX12_mays_53 (by decide) ?_
        refine rp_istore [(4, .int (0 : Int32)), (0, .ref (K.2.1 + a0)), (1, .int p1), (2, .int p2), (3, .int p3)] dX12_mays_54 (by decide) rfl ?_
        refine rp_iconst (0 : Int32) dX12_mays_56 (by decide) ?_
        refine rp_istore [(5, .int (0 : Int32)), (4, .int (0 : Int32)), (0, .ref (K.2.1 + a0)), (1, .int p1), (2, .int p2), (3, .int p3)] dX12_mays_57 (by decide) rfl ?_
        refine rp_iconst (0 : Int32) dX12_mays_59 (by decide) ?_
        refine rp_istore [(6, .int (0 : Int32)), (5, .int (0 : Int32)), (4, .int (0 : Int32)), (0, .ref (K.2.1 + a0)), (1, .int p1), (2, .int p2), (3, .int p3)] dX12_mays_60 (by decide) rfl ?_
        refine rp_as ?_
        refine rp_join 134 (fun v16 => [(0, .ref (K.2.1 + a0)), (3, .int p3), (4, .int v16.1), (5, .int v16.2)]) (fun _ => []) (fun v16 => ?_) (fun hX62_0 => ?_)
        · refine rp_iload_n 1 dX12_mays_134 rfl ?_
          refine rp_as ?_
          refine rp_join 160 (fun (v18 : Int32) => []) (fun v18 => [.int v18]) (fun v18 => ?_) (fun hJ160 => ?_)
          · exact rp_pu (rp_iret rfl dX12_mays_160)
          refine rp_if_ne 143 dX12_mays_135 (by decide) ?_ ?_
          · refine rp_iload_n 1 dX12_mays_143 rfl ?_
            refine rp_iconst (1 : Int32) dX12_mays_144 (by decide) ?_
            refine rp_icmp_ne 153 dX12_mays_145 (by decide) ?_ ?_
            · refine rp_aload_n 0 dX12_mays_153 rfl ?_
              refine rp_sipush (924 : Int32) dX12_mays_154 (by decide) ?_
              refine rp_callVi [.int (924 : Int32)] (SX12_hanging (hn := hn) a0 (924 : Int32) h0) cvX12_hanging (mw (i := 1722) (by decide +kernel)) (by omega) h0 (by decide) rfl rfl rfl (Nat.le_of_ble_eq_true rfl) dX12_mays_157 (fun x17 => ?_)
              exact rp_sub [] rfl (rp_pu (hJ160 x17))
            · refine rp_iload 3 dX12_mays_148 rfl ?_
              refine rp_goto 160 dX12_mays_150 (by decide) ?_
              exact rp_sub [] rfl (rp_pu (hJ160 v16.2))
          · refine rp_iload 2 dX12_mays_138 rfl ?_
            refine rp_goto 160 dX12_mays_140 (by decide) ?_
            exact rp_sub [] rfl (rp_pu (hJ160 v16.1))
        refine rp_sub [3, 5, 6, 2, 1, 0] rfl (rp_it (fun (s5 : Int32 × Int32 × Int32) => [(0, .ref (K.2.1 + a0)), (2, .int p2), (3, .int p3), (4, .int s5.1), (5, .int s5.2.1), (6, .int s5.2.2)]) (fun N62 ih62 s5 => ?_) FU ((0 : Int32), (0 : Int32), (0 : Int32)))
        refine rp_iload 5 dX12_mays_62 rfl ?_
        refine rp_iload_n 1 dX12_mays_64 rfl ?_
        refine rp_icmp_ge 134 dX12_mays_65 (by decide) ?_ ?_
        · exact rp_sub [0, 2, 3, 4] rfl (rp_puR (hX62_0 (s5.1, s5.2.1)))
        · refine rp_iload 4 dX12_mays_68 rfl ?_
          refine rp_aload_n 0 dX12_mays_70 rfl ?_
          refine rp_callVi [] (SX12_lines (hn := hn) a0 h0) cvX12_lines (mw (i := 1551) (by decide +kernel)) (by omega) h0 (by decide) rfl rfl rfl (Nat.le_of_ble_eq_true rfl) dX12_mays_71 (fun x6 => ?_)
          refine rp_as ?_
          refine rp_join 96 (fun (v9 : Int32) => [(0, .ref (K.2.1 + a0)), (2, .int p2), (3, .int p3), (4, .int s5.1), (6, .int s5.2.2)]) (fun v9 => [.int v9, .int s5.2.1]) (fun v9 => ?_) (fun hJ96 => ?_)
          · refine rp_iadd dX12_mays_96 ?_
            refine rp_lti (fun y10 => ?_)
            refine rp_istore [(5, .int y10), (0, .ref (K.2.1 + a0)), (2, .int p2), (3, .int p3), (4, .int s5.1), (6, .int s5.2.2)] dX12_mays_97 (by decide) rfl ?_
            refine rp_aload_n 1 dX12_mays_99 rfl ?_
            refine rp_sipush (924 : Int32) dX12_mays_100 (by decide) ?_
            refine rp_iconst (1 : Int32) dX12_mays_103 (by decide) ?_
            refine rp_callVi [.int (924 : Int32), .int (1 : Int32)] (SX12_passes (hn := hn) a0 (924 : Int32) (1 : Int32) h0) cvX12_passes (mw (i := 1647) (by decide +kernel)) (by omega) h0 (by decide) rfl rfl rfl (Nat.le_of_ble_eq_true rfl) dX12_mays_104 (fun x11 => ?_)
            refine rp_pop dX12_mays_107 rfl ?_
            refine rp_iload 4 dX12_mays_108 rfl ?_
            refine rp_aload_n 1 dX12_mays_110 rfl ?_
            refine rp_sipush (924 : Int32) dX12_mays_111 (by decide) ?_
            refine rp_callVz [.int (924 : Int32)] (SX12_isThunder (hn := hn) a0 (924 : Int32) h0) cvX12_isThunder (mw (i := 1666) (by decide +kernel)) (by omega) h0 (by decide) rfl rfl rfl (Nat.le_of_ble_eq_true rfl) dX12_mays_114 (fun x12 => ?_)
            refine rp_as ?_
            refine rp_join 125 (fun (v13 : Int32) => [(0, .ref (K.2.1 + a0)), (2, .int p2), (3, .int p3), (5, .int y10), (6, .int s5.2.2)]) (fun v13 => [.int v13, .int s5.1]) (fun v13 => ?_) (fun hJ125 => ?_)
            · refine rp_iadd dX12_mays_125 ?_
              refine rp_lti (fun y14 => ?_)
              refine rp_istore [(4, .int y14), (0, .ref (K.2.1 + a0)), (2, .int p2), (3, .int p3), (5, .int y10), (6, .int s5.2.2)] dX12_mays_126 (by decide) rfl ?_
              refine rp_iinc (fun y15 => [(6, .int y15), (4, .int y14), (0, .ref (K.2.1 + a0)), (2, .int p2), (3, .int p3), (5, .int y10)]) 5 dX12_mays_128 rfl (by rfl) (by decide) (fun y15 => rfl) (fun y15 => ?_)
              refine rp_goto 62 dX12_mays_131 (by decide) ?_
              exact rp_sub [2, 3, 4, 1, 5, 0] rfl (ih62 (y14, y10, y15))
            refine rp_if_eq 124 dX12_mays_117 (by decide) ?_ ?_
            · refine rp_iconst (1 : Int32) dX12_mays_124 (by decide) ?_
              exact rp_sub [1, 2, 3, 0, 5] rfl (rp_pu (hJ125 (1 : Int32)))
            · refine rp_iconst (0 : Int32) dX12_mays_120 (by decide) ?_
              refine rp_goto 125 dX12_mays_121 (by decide) ?_
              exact rp_sub [1, 2, 3, 0, 5] rfl (rp_pu (hJ125 (0 : Int32)))
          refine rp_if_le 95 dX12_mays_74 (by decide) ?_ ?_
          · refine rp_iconst (0 : Int32) dX12_mays_95 (by decide) ?_
            exact rp_sub [0, 1, 2, 3, 5] rfl (rp_pu (hJ96 (0 : Int32)))
          · refine rp_aload_n 0 dX12_mays_77 rfl ?_
            refine rp_callVi [] (SX12_cloths (hn := hn) a0 h0) cvX12_cloths (mw (i := 1306) (by decide +kernel)) (by omega) h0 (by decide) rfl rfl rfl (Nat.le_of_ble_eq_true rfl) dX12_mays_78 (fun x7 => ?_)
            refine rp_if_le 95 dX12_mays_81 (by decide) ?_ ?_
            · refine rp_iconst (0 : Int32) dX12_mays_95 (by decide) ?_
              exact rp_sub [0, 1, 2, 3, 5] rfl (rp_pu (hJ96 (0 : Int32)))
            · refine rp_aload_n 0 dX12_mays_84 rfl ?_
              refine rp_callVz [] (SX12_drawsCloth (hn := hn) a0 h0) cvX12_drawsCloth (mw (i := 1801) (by decide +kernel)) (by omega) h0 (by decide) rfl rfl rfl (Nat.le_of_ble_eq_true rfl) dX12_mays_85 (fun x8 => ?_)
              refine rp_if_eq 95 dX12_mays_88 (by decide) ?_ ?_
              · refine rp_iconst (0 : Int32) dX12_mays_95 (by decide) ?_
                exact rp_sub [0, 1, 2, 3, 5] rfl (rp_pu (hJ96 (0 : Int32)))
              · refine rp_iconst (1 : Int32) dX12_mays_91 (by decide) ?_
                refine rp_goto 96 dX12_mays_92 (by decide) ?_
                exact rp_sub [0, 1, 2, 3, 5] rfl (rp_pu (hJ96 (1 : Int32)))
      · refine rp_iconst (-1 : Int32) dX12_mays_35 (by decide) ?_
        exact rp_pu (rp_iret rfl dX12_mays_36)

theorem dX12_mark_0 : decode cX12_mark 0 = .ok (.aload_n 0, 1) := by decide +kernel
theorem dX12_mark_1 : decode cX12_mark 1 = .ok (.iconst 0, 1) := by decide +kernel
theorem dX12_mark_2 : decode cX12_mark 2 = .ok (.putfield 1, 3) := by decide +kernel
theorem dX12_mark_5 : decode cX12_mark 5 = .ok (.iload_n 1, 1) := by decide +kernel
theorem dX12_mark_6 : decode cX12_mark 6 = .ok (.iconst 0, 1) := by decide +kernel
theorem dX12_mark_7 : decode cX12_mark 7 = .ok (.iconst 3, 1) := by decide +kernel
theorem dX12_mark_8 : decode cX12_mark 8 = .ok (.invokestatic 201, 3) := by decide +kernel
theorem dX12_mark_11 : decode cX12_mark 11 = .ok (.ifCond .eq 16, 3) := by decide +kernel
theorem dX12_mark_14 : decode cX12_mark 14 = .ok (.iload_n 2, 1) := by decide +kernel
theorem dX12_mark_15 : decode cX12_mark 15 = .ok (.ifCond .eq 14, 3) := by decide +kernel
theorem dX12_mark_18 : decode cX12_mark 18 = .ok (.aload_n 0, 1) := by decide +kernel
theorem dX12_mark_19 : decode cX12_mark 19 = .ok (.getfield 116, 3) := by decide +kernel
theorem dX12_mark_22 : decode cX12_mark 22 = .ok (.iload_n 1, 1) := by decide +kernel
theorem dX12_mark_23 : decode cX12_mark 23 = .ok (.baload, 1) := by decide +kernel
theorem dX12_mark_24 : decode cX12_mark 24 = .ok (.ifCond .ne 5, 3) := by decide +kernel
theorem dX12_mark_27 : decode cX12_mark 27 = .ok (.iconst 0, 1) := by decide +kernel
theorem dX12_mark_28 : decode cX12_mark 28 = .ok (.ireturn, 1) := by decide +kernel
theorem dX12_mark_29 : decode cX12_mark 29 = .ok (.aload_n 0, 1) := by decide +kernel
theorem dX12_mark_30 : decode cX12_mark 30 = .ok (.getfield 116, 3) := by decide +kernel
theorem dX12_mark_33 : decode cX12_mark 33 = .ok (.iload_n 1, 1) := by decide +kernel
theorem dX12_mark_34 : decode cX12_mark 34 = .ok (.iconst 1, 1) := by decide +kernel
theorem dX12_mark_35 : decode cX12_mark 35 = .ok (.bastore, 1) := by decide +kernel
theorem dX12_mark_36 : decode cX12_mark 36 = .ok (.aload_n 0, 1) := by decide +kernel
theorem dX12_mark_37 : decode cX12_mark 37 = .ok (.iload_n 2, 1) := by decide +kernel
theorem dX12_mark_38 : decode cX12_mark 38 = .ok (.ifCond .eq 12, 3) := by decide +kernel
theorem dX12_mark_41 : decode cX12_mark 41 = .ok (.bipush 42, 2) := by decide +kernel
theorem dX12_mark_43 : decode cX12_mark 43 = .ok (.iconst 1, 1) := by decide +kernel
theorem dX12_mark_44 : decode cX12_mark 44 = .ok (.iload_n 1, 1) := by decide +kernel
theorem dX12_mark_45 : decode cX12_mark 45 = .ok (.iadd, 1) := by decide +kernel
theorem dX12_mark_46 : decode cX12_mark 46 = .ok (.imul, 1) := by decide +kernel
theorem dX12_mark_47 : decode cX12_mark 47 = .ok (.goto 4, 3) := by decide +kernel
theorem dX12_mark_50 : decode cX12_mark 50 = .ok (.iconst 0, 1) := by decide +kernel
theorem dX12_mark_51 : decode cX12_mark 51 = .ok (.iload_n 2, 1) := by decide +kernel
theorem dX12_mark_52 : decode cX12_mark 52 = .ok (.ifCond .eq 7, 3) := by decide +kernel
theorem dX12_mark_55 : decode cX12_mark 55 = .ok (.iconst 0, 1) := by decide +kernel
theorem dX12_mark_56 : decode cX12_mark 56 = .ok (.goto 9, 3) := by decide +kernel
theorem dX12_mark_59 : decode cX12_mark 59 = .ok (.bipush 42, 2) := by decide +kernel
theorem dX12_mark_61 : decode cX12_mark 61 = .ok (.iconst 1, 1) := by decide +kernel
theorem dX12_mark_62 : decode cX12_mark 62 = .ok (.iload_n 1, 1) := by decide +kernel
theorem dX12_mark_63 : decode cX12_mark 63 = .ok (.iadd, 1) := by decide +kernel
theorem dX12_mark_64 : decode cX12_mark 64 = .ok (.imul, 1) := by decide +kernel
theorem dX12_mark_65 : decode cX12_mark 65 = .ok (.bipush 42, 2) := by decide +kernel
theorem dX12_mark_67 : decode cX12_mark 67 = .ok (.invokevirtual 282, 3) := by decide +kernel
theorem dX12_mark_70 : decode cX12_mark 70 = .ok (.aload_n 0, 1) := by decide +kernel
theorem dX12_mark_71 : decode cX12_mark 71 = .ok (.iload_n 2, 1) := by decide +kernel
theorem dX12_mark_72 : decode cX12_mark 72 = .ok (.ifCond .eq 7, 3) := by decide +kernel
theorem dX12_mark_75 : decode cX12_mark 75 = .ok (.iconst 0, 1) := by decide +kernel
theorem dX12_mark_76 : decode cX12_mark 76 = .ok (.goto 7, 3) := by decide +kernel
theorem dX12_mark_79 : decode cX12_mark 79 = .ok (.aload_n 0, 1) := by decide +kernel
theorem dX12_mark_80 : decode cX12_mark 80 = .ok (.getfield 279, 3) := by decide +kernel
theorem dX12_mark_83 : decode cX12_mark 83 = .ok (.putfield 279, 3) := by decide +kernel
theorem dX12_mark_86 : decode cX12_mark 86 = .ok (.iconst 1, 1) := by decide +kernel
theorem dX12_mark_87 : decode cX12_mark 87 = .ok (.ireturn, 1) := by decide +kernel
noncomputable def FX12_mark (a0 : Nat) (p1 : Int32) (p2 : Int32) : PP Bool := bd (sI a0 0 (0 : Int32)) (fun (_ : Unit) => bd (FX12_within p1 (0 : Int32) (3 : Int32)) (fun x1 => if ((b2i x1)) = 0 then zb (0 : Int32) else jn (fun (v4 : Unit) => bd (uI (rf a0 25) 4 p1 (1 : Int32)) (fun (_ : Unit) => bd (if p2 = 0 then pu (0 : Int32) else pu ((42 : Int32) * ((1 : Int32) + p1)) : PP (Int32)) (fun (v5 : Int32) => bd (if p2 = 0 then pu ((42 : Int32) * ((1 : Int32) + p1)) else pu (0 : Int32) : PP (Int32)) (fun (v6 : Int32) => bd (FX12_copies a0 v5 v6 (42 : Int32)) (fun (_ : Unit) => bd (if p2 = 0 then bd (gI a0 24) (fun x8 => pu x8) else pu (0 : Int32) : PP (Int32)) (fun (v9 : Int32) => bd (sI a0 24 v9) (fun (_ : Unit) => zb (1 : Int32)))))))) (fun j2 => if p2 = 0 then j2 () else bd (aI (rf a0 25) 4 p1) (fun x3 => if x3 = 0 then zb (0 : Int32) else j2 ()))))
set_option maxHeartbeats 4000000 in
set_option maxRecDepth 100000 in
theorem SX12_mark {l : Launch} {K : KK} {n : Nat} {hn : 270 ≤ n} (a0 : Nat) (p1 : Int32) (p2 : Int32) (h0 : ob a0 11) : CT l K n 1 mX12_mark [.ref (K.2.1 + a0), .int p1, .int p2] enZ (FX12_mark a0 p1 p2) := by
  refine CT.of2 (lv2 := [(0, .ref (K.2.1 + a0)), (1, .int p1), (2, .int p2)]) (by decide) rfl hn (Nat.le_of_ble_eq_true rfl) rfl (rp_id ?_)
  unfold FX12_mark
  refine rp_aload_n 0 dX12_mark_0 rfl ?_
  refine rp_iconst (0 : Int32) dX12_mark_1 (by decide) ?_
  refine rp_putI fi_X12_1 fp_X12_0 h0 rfl dX12_mark_2 ?_
  refine rp_iload_n 1 dX12_mark_5 rfl ?_
  refine rp_iconst (0 : Int32) dX12_mark_6 (by decide) ?_
  refine rp_iconst (3 : Int32) dX12_mark_7 (by decide) ?_
  refine rp_callSz [.int p1, .int (0 : Int32), .int (3 : Int32)] (SX12_within (hn := hn) p1 (0 : Int32) (3 : Int32)) csX12_within (mw (i := 1484) (by decide +kernel)) (by omega) rfl rfl (Nat.le_of_ble_eq_true rfl) dX12_mark_8 (fun x1 => ?_)
  refine rp_if_eq 27 dX12_mark_11 (by decide) ?_ ?_
  · refine rp_iconst (0 : Int32) dX12_mark_27 (by decide) ?_
    exact rp_zretb rfl dX12_mark_28
  · refine rp_iload_n 2 dX12_mark_14 rfl ?_
    refine rp_jn2 29 (fun (v4 : Unit) => [(0, .ref (K.2.1 + a0)), (1, .int p1), (2, .int p2)]) (fun v4 => []) (fun v4 => ?_) (fun hK29 => ?_)
    · refine rp_aload_n 0 dX12_mark_29 rfl ?_
      refine rp_getR fi_X12_116 h0 rfl dX12_mark_30 ?_
      refine rp_iload_n 1 dX12_mark_33 rfl ?_
      refine rp_iconst (1 : Int32) dX12_mark_34 (by decide) ?_
      refine rp_zast (tX12_25 h0) (by decide) dX12_mark_35 ?_
      refine rp_aload_n 0 dX12_mark_36 rfl ?_
      refine rp_iload_n 2 dX12_mark_37 rfl ?_
      refine rp_as ?_
      refine rp_join 51 (fun (v5 : Int32) => [(0, .ref (K.2.1 + a0)), (1, .int p1), (2, .int p2)]) (fun v5 => [.int v5, .ref (K.2.1 + a0)]) (fun v5 => ?_) (fun hJ51 => ?_)
      · refine rp_iload_n 2 dX12_mark_51 rfl ?_
        refine rp_as ?_
        refine rp_join 65 (fun (v6 : Int32) => [(0, .ref (K.2.1 + a0)), (2, .int p2)]) (fun v6 => [.int v6, .int v5, .ref (K.2.1 + a0)]) (fun v6 => ?_) (fun hJ65 => ?_)
        · refine rp_bipush (42 : Int32) dX12_mark_65 (by decide) ?_
          refine rp_callVv [.int v5, .int v6, .int (42 : Int32)] (SX12_copies (hn := hn) a0 v5 v6 (42 : Int32) h0) cvX12_copies (mw (i := 1623) (by decide +kernel)) (by omega) h0 (by decide) rfl rfl rfl (Nat.le_of_ble_eq_true rfl) dX12_mark_67 (fun x7 => ?_)
          refine rp_aload_n 0 dX12_mark_70 rfl ?_
          refine rp_iload_n 1 dX12_mark_71 rfl ?_
          refine rp_as ?_
          refine rp_join 83 (fun (v9 : Int32) => []) (fun v9 => [.int v9, .ref (K.2.1 + a0)]) (fun v9 => ?_) (fun hJ83 => ?_)
          · refine rp_putI fi_X12_279 fp_X12_24 h0 rfl dX12_mark_83 ?_
            refine rp_iconst (1 : Int32) dX12_mark_86 (by decide) ?_
            exact rp_zretb rfl dX12_mark_87
          refine rp_if_eq 79 dX12_mark_72 (by decide) ?_ ?_
          · refine rp_aload_n 0 dX12_mark_79 rfl ?_
            refine rp_getI fi_X12_279 h0 rfl dX12_mark_80 (fun x8 => ?_)
            exact rp_sub [] rfl (rp_pu (hJ83 x8))
          · refine rp_iconst (0 : Int32) dX12_mark_75 (by decide) ?_
            refine rp_goto 83 dX12_mark_76 (by decide) ?_
            exact rp_sub [] rfl (rp_pu (hJ83 (0 : Int32)))
        refine rp_if_eq 59 dX12_mark_52 (by decide) ?_ ?_
        · refine rp_bipush (42 : Int32) dX12_mark_59 (by decide) ?_
          refine rp_iconst (1 : Int32) dX12_mark_61 (by decide) ?_
          refine rp_iload_n 1 dX12_mark_62 rfl ?_
          refine rp_iadd dX12_mark_63 ?_
          refine rp_imul dX12_mark_64 ?_
          exact rp_sub [0, 2] rfl (rp_pu (hJ65 ((42 : Int32) * ((1 : Int32) + p1))))
        · refine rp_iconst (0 : Int32) dX12_mark_55 (by decide) ?_
          refine rp_goto 65 dX12_mark_56 (by decide) ?_
          exact rp_sub [0, 2] rfl (rp_pu (hJ65 (0 : Int32)))
      refine rp_if_eq 50 dX12_mark_38 (by decide) ?_ ?_
      · refine rp_iconst (0 : Int32) dX12_mark_50 (by decide) ?_
        exact rp_sub [0, 1, 2] rfl (rp_pu (hJ51 (0 : Int32)))
      · refine rp_bipush (42 : Int32) dX12_mark_41 (by decide) ?_
        refine rp_iconst (1 : Int32) dX12_mark_43 (by decide) ?_
        refine rp_iload_n 1 dX12_mark_44 rfl ?_
        refine rp_iadd dX12_mark_45 ?_
        refine rp_imul dX12_mark_46 ?_
        refine rp_goto 51 dX12_mark_47 (by decide) ?_
        exact rp_sub [0, 1, 2] rfl (rp_pu (hJ51 ((42 : Int32) * ((1 : Int32) + p1))))
    refine rp_if_eq 29 dX12_mark_15 (by decide) ?_ ?_
    · exact rp_sub [0, 1, 2] rfl (hK29 ())
    · refine rp_aload_n 0 dX12_mark_18 rfl ?_
      refine rp_getR fi_X12_116 h0 rfl dX12_mark_19 ?_
      refine rp_iload_n 1 dX12_mark_22 rfl ?_
      refine rp_zald (tX12_25 h0) dX12_mark_23 (fun x3 => ?_)
      refine rp_if_ne 29 dX12_mark_24 (by decide) ?_ ?_
      · exact rp_sub [0, 1, 2] rfl (hK29 ())
      · refine rp_iconst (0 : Int32) dX12_mark_27 (by decide) ?_
        exact rp_zretb rfl dX12_mark_28

theorem dX12_wetNow_0 : decode cX12_wetNow 0 = .ok (.iconst 0, 1) := by decide +kernel
theorem dX12_wetNow_1 : decode cX12_wetNow 1 = .ok (.istore_n 1, 1) := by decide +kernel
theorem dX12_wetNow_2 : decode cX12_wetNow 2 = .ok (.iconst 0, 1) := by decide +kernel
theorem dX12_wetNow_3 : decode cX12_wetNow 3 = .ok (.istore_n 2, 1) := by decide +kernel
theorem dX12_wetNow_4 : decode cX12_wetNow 4 = .ok (.iload_n 2, 1) := by decide +kernel
theorem dX12_wetNow_5 : decode cX12_wetNow 5 = .ok (.aload_n 0, 1) := by decide +kernel
theorem dX12_wetNow_6 : decode cX12_wetNow 6 = .ok (.invokevirtual 269, 3) := by decide +kernel
theorem dX12_wetNow_9 : decode cX12_wetNow 9 = .ok (.if_icmp .ge 28, 3) := by decide +kernel
theorem dX12_wetNow_12 : decode cX12_wetNow 12 = .ok (.iload_n 1, 1) := by decide +kernel
theorem dX12_wetNow_13 : decode cX12_wetNow 13 = .ok (.aload_n 0, 1) := by decide +kernel
theorem dX12_wetNow_14 : decode cX12_wetNow 14 = .ok (.iconst 0, 1) := by decide +kernel
theorem dX12_wetNow_15 : decode cX12_wetNow 15 = .ok (.iload_n 2, 1) := by decide +kernel
theorem dX12_wetNow_16 : decode cX12_wetNow 16 = .ok (.invokevirtual 301, 3) := by decide +kernel
theorem dX12_wetNow_19 : decode cX12_wetNow 19 = .ok (.ifCond .eq 9, 3) := by decide +kernel
theorem dX12_wetNow_22 : decode cX12_wetNow 22 = .ok (.iconst 1, 1) := by decide +kernel
theorem dX12_wetNow_23 : decode cX12_wetNow 23 = .ok (.iload_n 2, 1) := by decide +kernel
theorem dX12_wetNow_24 : decode cX12_wetNow 24 = .ok (.ishl, 1) := by decide +kernel
theorem dX12_wetNow_25 : decode cX12_wetNow 25 = .ok (.goto 4, 3) := by decide +kernel
theorem dX12_wetNow_28 : decode cX12_wetNow 28 = .ok (.iconst 0, 1) := by decide +kernel
theorem dX12_wetNow_29 : decode cX12_wetNow 29 = .ok (.ior, 1) := by decide +kernel
theorem dX12_wetNow_30 : decode cX12_wetNow 30 = .ok (.istore_n 1, 1) := by decide +kernel
theorem dX12_wetNow_31 : decode cX12_wetNow 31 = .ok (.iinc 2 1, 3) := by decide +kernel
theorem dX12_wetNow_34 : decode cX12_wetNow 34 = .ok (.goto (-30), 3) := by decide +kernel
theorem dX12_wetNow_37 : decode cX12_wetNow 37 = .ok (.iload_n 1, 1) := by decide +kernel
theorem dX12_wetNow_38 : decode cX12_wetNow 38 = .ok (.ireturn, 1) := by decide +kernel
noncomputable def FX12_wetNow (a0 : Nat) : PP Int32 := bd (it (fun (s1 : Int32 × Int32) => (bd (FX12_cloths a0) (fun x2 => if x2 ≤ s1.2 then pu (Sum.inr s1.1) else bd (FX12_isWet a0 (0 : Int32) s1.2) (fun x3 => bd (if ((b2i x3)) = 0 then pu (0 : Int32) else pu ((1 : Int32) <<< (s1.2 &&& 31)) : PP (Int32)) (fun (v4 : Int32) => lt (s1.1 ||| v4) (fun y5 => lt (s1.2 + (1 : Int32)) (fun y6 => pu (Sum.inl (y5, y6))))))) : PP ((Int32 × Int32) ⊕ (Int32)))) FU ((0 : Int32), (0 : Int32))) (fun (v7 : Int32) => pu v7)
set_option maxHeartbeats 4000000 in
set_option maxRecDepth 100000 in
theorem SX12_wetNow {l : Launch} {K : KK} {n : Nat} {hn : 270 ≤ n} (a0 : Nat) (h0 : ob a0 11) : CT l K n 1 mX12_wetNow [.ref (K.2.1 + a0)] enI (FX12_wetNow a0) := by
  refine CT.of2 (lv2 := [(0, .ref (K.2.1 + a0))]) (by decide) rfl hn (Nat.le_of_ble_eq_true rfl) rfl (rp_id ?_)
  unfold FX12_wetNow
  refine rp_iconst (0 : Int32) dX12_wetNow_0 (by decide) ?_
  refine rp_istore_n [(1, .int (0 : Int32)), (0, .ref (K.2.1 + a0))] dX12_wetNow_1 (by decide) rfl ?_
  refine rp_iconst (0 : Int32) dX12_wetNow_2 (by decide) ?_
  refine rp_istore_n [(2, .int (0 : Int32)), (1, .int (0 : Int32)), (0, .ref (K.2.1 + a0))] dX12_wetNow_3 (by decide) rfl ?_
  refine rp_as ?_
  refine rp_join 37 (fun v7 => [(1, .int v7)]) (fun _ => []) (fun v7 => ?_) (fun hX4_0 => ?_)
  · refine rp_iload_n 0 dX12_wetNow_37 rfl ?_
    exact rp_pu (rp_iret rfl dX12_wetNow_38)
  refine rp_sub [2, 1, 0] rfl (rp_it (fun (s1 : Int32 × Int32) => [(0, .ref (K.2.1 + a0)), (1, .int s1.1), (2, .int s1.2)]) (fun N4 ih4 s1 => ?_) FU ((0 : Int32), (0 : Int32)))
  refine rp_iload_n 2 dX12_wetNow_4 rfl ?_
  refine rp_aload_n 0 dX12_wetNow_5 rfl ?_
  refine rp_callVi [] (SX12_cloths (hn := hn) a0 h0) cvX12_cloths (mw (i := 1306) (by decide +kernel)) (by omega) h0 (by decide) rfl rfl rfl (Nat.le_of_ble_eq_true rfl) dX12_wetNow_6 (fun x2 => ?_)
  refine rp_icmp_ge 37 dX12_wetNow_9 (by decide) ?_ ?_
  · exact rp_sub [1] rfl (rp_puR (hX4_0 s1.1))
  · refine rp_iload_n 1 dX12_wetNow_12 rfl ?_
    refine rp_aload_n 0 dX12_wetNow_13 rfl ?_
    refine rp_iconst (0 : Int32) dX12_wetNow_14 (by decide) ?_
    refine rp_iload_n 2 dX12_wetNow_15 rfl ?_
    refine rp_callVz [.int (0 : Int32), .int s1.2] (SX12_isWet (hn := hn) a0 (0 : Int32) s1.2 h0) cvX12_isWet (mw (i := 1603) (by decide +kernel)) (by omega) h0 (by decide) rfl rfl rfl (Nat.le_of_ble_eq_true rfl) dX12_wetNow_16 (fun x3 => ?_)
    refine rp_as ?_
    refine rp_join 29 (fun (v4 : Int32) => [(0, .ref (K.2.1 + a0)), (2, .int s1.2)]) (fun v4 => [.int v4, .int s1.1]) (fun v4 => ?_) (fun hJ29 => ?_)
    · refine rp_ior dX12_wetNow_29 ?_
      refine rp_lti (fun y5 => ?_)
      refine rp_istore_n [(1, .int y5), (0, .ref (K.2.1 + a0)), (2, .int s1.2)] dX12_wetNow_30 (by decide) rfl ?_
      refine rp_iinc (fun y6 => [(2, .int y6), (1, .int y5), (0, .ref (K.2.1 + a0))]) 2 dX12_wetNow_31 rfl (by rfl) (by decide) (fun y6 => rfl) (fun y6 => ?_)
      refine rp_goto 4 dX12_wetNow_34 (by decide) ?_
      exact rp_sub [2, 1, 0] rfl (ih4 (y5, y6))
    refine rp_if_eq 28 dX12_wetNow_19 (by decide) ?_ ?_
    · refine rp_iconst (0 : Int32) dX12_wetNow_28 (by decide) ?_
      exact rp_sub [0, 2] rfl (rp_pu (hJ29 (0 : Int32)))
    · refine rp_iconst (1 : Int32) dX12_wetNow_22 (by decide) ?_
      refine rp_iload_n 2 dX12_wetNow_23 rfl ?_
      refine rp_ishl dX12_wetNow_24 ?_
      refine rp_goto 29 dX12_wetNow_25 (by decide) ?_
      exact rp_sub [0, 2] rfl (rp_pu (hJ29 ((1 : Int32) <<< (s1.2 &&& 31))))

theorem dX12_wantedNow_0 : decode cX12_wantedNow 0 = .ok (.iconst 0, 1) := by decide +kernel
theorem dX12_wantedNow_1 : decode cX12_wantedNow 1 = .ok (.istore_n 1, 1) := by decide +kernel
theorem dX12_wantedNow_2 : decode cX12_wantedNow 2 = .ok (.iconst 0, 1) := by decide +kernel
theorem dX12_wantedNow_3 : decode cX12_wantedNow 3 = .ok (.istore_n 2, 1) := by decide +kernel
theorem dX12_wantedNow_4 : decode cX12_wantedNow 4 = .ok (.iload_n 2, 1) := by decide +kernel
theorem dX12_wantedNow_5 : decode cX12_wantedNow 5 = .ok (.aload_n 0, 1) := by decide +kernel
theorem dX12_wantedNow_6 : decode cX12_wantedNow 6 = .ok (.invokevirtual 288, 3) := by decide +kernel
theorem dX12_wantedNow_9 : decode cX12_wantedNow 9 = .ok (.if_icmp .ge 33, 3) := by decide +kernel
theorem dX12_wantedNow_12 : decode cX12_wantedNow 12 = .ok (.iload_n 1, 1) := by decide +kernel
theorem dX12_wantedNow_13 : decode cX12_wantedNow 13 = .ok (.aload_n 0, 1) := by decide +kernel
theorem dX12_wantedNow_14 : decode cX12_wantedNow 14 = .ok (.getfield 113, 3) := by decide +kernel
theorem dX12_wantedNow_17 : decode cX12_wantedNow 17 = .ok (.bipush 19, 2) := by decide +kernel
theorem dX12_wantedNow_19 : decode cX12_wantedNow 19 = .ok (.iload_n 2, 1) := by decide +kernel
theorem dX12_wantedNow_20 : decode cX12_wantedNow 20 = .ok (.iadd, 1) := by decide +kernel
theorem dX12_wantedNow_21 : decode cX12_wantedNow 21 = .ok (.iaload, 1) := by decide +kernel
theorem dX12_wantedNow_22 : decode cX12_wantedNow 22 = .ok (.bipush (-2), 2) := by decide +kernel
theorem dX12_wantedNow_24 : decode cX12_wantedNow 24 = .ok (.if_icmp .eq 9, 3) := by decide +kernel
theorem dX12_wantedNow_27 : decode cX12_wantedNow 27 = .ok (.iconst 1, 1) := by decide +kernel
theorem dX12_wantedNow_28 : decode cX12_wantedNow 28 = .ok (.iload_n 2, 1) := by decide +kernel
theorem dX12_wantedNow_29 : decode cX12_wantedNow 29 = .ok (.ishl, 1) := by decide +kernel
theorem dX12_wantedNow_30 : decode cX12_wantedNow 30 = .ok (.goto 4, 3) := by decide +kernel
theorem dX12_wantedNow_33 : decode cX12_wantedNow 33 = .ok (.iconst 0, 1) := by decide +kernel
theorem dX12_wantedNow_34 : decode cX12_wantedNow 34 = .ok (.ior, 1) := by decide +kernel
theorem dX12_wantedNow_35 : decode cX12_wantedNow 35 = .ok (.istore_n 1, 1) := by decide +kernel
theorem dX12_wantedNow_36 : decode cX12_wantedNow 36 = .ok (.iinc 2 1, 3) := by decide +kernel
theorem dX12_wantedNow_39 : decode cX12_wantedNow 39 = .ok (.goto (-35), 3) := by decide +kernel
theorem dX12_wantedNow_42 : decode cX12_wantedNow 42 = .ok (.iload_n 1, 1) := by decide +kernel
theorem dX12_wantedNow_43 : decode cX12_wantedNow 43 = .ok (.ireturn, 1) := by decide +kernel
noncomputable def FX12_wantedNow (a0 : Nat) : PP Int32 := bd (it (fun (s1 : Int32 × Int32) => (bd (FX12_places a0) (fun x2 => if x2 ≤ s1.2 then pu (Sum.inr s1.1) else bd (aI (rf a0 23) 966 ((19 : Int32) + s1.2)) (fun x3 => bd (if x3 = (-2 : Int32) then pu (0 : Int32) else pu ((1 : Int32) <<< (s1.2 &&& 31)) : PP (Int32)) (fun (v4 : Int32) => lt (s1.1 ||| v4) (fun y5 => lt (s1.2 + (1 : Int32)) (fun y6 => pu (Sum.inl (y5, y6))))))) : PP ((Int32 × Int32) ⊕ (Int32)))) FU ((0 : Int32), (0 : Int32))) (fun (v7 : Int32) => pu v7)
set_option maxHeartbeats 4000000 in
set_option maxRecDepth 100000 in
theorem SX12_wantedNow {l : Launch} {K : KK} {n : Nat} {hn : 270 ≤ n} (a0 : Nat) (h0 : ob a0 11) : CT l K n 1 mX12_wantedNow [.ref (K.2.1 + a0)] enI (FX12_wantedNow a0) := by
  refine CT.of2 (lv2 := [(0, .ref (K.2.1 + a0))]) (by decide) rfl hn (Nat.le_of_ble_eq_true rfl) rfl (rp_id ?_)
  unfold FX12_wantedNow
  refine rp_iconst (0 : Int32) dX12_wantedNow_0 (by decide) ?_
  refine rp_istore_n [(1, .int (0 : Int32)), (0, .ref (K.2.1 + a0))] dX12_wantedNow_1 (by decide) rfl ?_
  refine rp_iconst (0 : Int32) dX12_wantedNow_2 (by decide) ?_
  refine rp_istore_n [(2, .int (0 : Int32)), (1, .int (0 : Int32)), (0, .ref (K.2.1 + a0))] dX12_wantedNow_3 (by decide) rfl ?_
  refine rp_as ?_
  refine rp_join 42 (fun v7 => [(1, .int v7)]) (fun _ => []) (fun v7 => ?_) (fun hX4_0 => ?_)
  · refine rp_iload_n 0 dX12_wantedNow_42 rfl ?_
    exact rp_pu (rp_iret rfl dX12_wantedNow_43)
  refine rp_sub [2, 1, 0] rfl (rp_it (fun (s1 : Int32 × Int32) => [(0, .ref (K.2.1 + a0)), (1, .int s1.1), (2, .int s1.2)]) (fun N4 ih4 s1 => ?_) FU ((0 : Int32), (0 : Int32)))
  refine rp_iload_n 2 dX12_wantedNow_4 rfl ?_
  refine rp_aload_n 0 dX12_wantedNow_5 rfl ?_
  refine rp_callVi [] (SX12_places (hn := hn) a0 h0) cvX12_places (mw (i := 1583) (by decide +kernel)) (by omega) h0 (by decide) rfl rfl rfl (Nat.le_of_ble_eq_true rfl) dX12_wantedNow_6 (fun x2 => ?_)
  refine rp_icmp_ge 42 dX12_wantedNow_9 (by decide) ?_ ?_
  · exact rp_sub [1] rfl (rp_puR (hX4_0 s1.1))
  · refine rp_iload_n 1 dX12_wantedNow_12 rfl ?_
    refine rp_aload_n 0 dX12_wantedNow_13 rfl ?_
    refine rp_getR fi_X12_113 h0 rfl dX12_wantedNow_14 ?_
    refine rp_bipush (19 : Int32) dX12_wantedNow_17 (by decide) ?_
    refine rp_iload_n 2 dX12_wantedNow_19 rfl ?_
    refine rp_iadd dX12_wantedNow_20 ?_
    refine rp_iald (tX12_23 h0) dX12_wantedNow_21 (fun x3 => ?_)
    refine rp_bipush (-2 : Int32) dX12_wantedNow_22 (by decide) ?_
    refine rp_as ?_
    refine rp_join 34 (fun (v4 : Int32) => [(0, .ref (K.2.1 + a0)), (2, .int s1.2)]) (fun v4 => [.int v4, .int s1.1]) (fun v4 => ?_) (fun hJ34 => ?_)
    · refine rp_ior dX12_wantedNow_34 ?_
      refine rp_lti (fun y5 => ?_)
      refine rp_istore_n [(1, .int y5), (0, .ref (K.2.1 + a0)), (2, .int s1.2)] dX12_wantedNow_35 (by decide) rfl ?_
      refine rp_iinc (fun y6 => [(2, .int y6), (1, .int y5), (0, .ref (K.2.1 + a0))]) 2 dX12_wantedNow_36 rfl (by rfl) (by decide) (fun y6 => rfl) (fun y6 => ?_)
      refine rp_goto 4 dX12_wantedNow_39 (by decide) ?_
      exact rp_sub [2, 1, 0] rfl (ih4 (y5, y6))
    refine rp_icmp_eq 33 dX12_wantedNow_24 (by decide) ?_ ?_
    · refine rp_iconst (0 : Int32) dX12_wantedNow_33 (by decide) ?_
      exact rp_sub [0, 2] rfl (rp_pu (hJ34 (0 : Int32)))
    · refine rp_iconst (1 : Int32) dX12_wantedNow_27 (by decide) ?_
      refine rp_iload_n 2 dX12_wantedNow_28 rfl ?_
      refine rp_ishl dX12_wantedNow_29 ?_
      refine rp_goto 34 dX12_wantedNow_30 (by decide) ?_
      exact rp_sub [0, 2] rfl (rp_pu (hJ34 ((1 : Int32) <<< (s1.2 &&& 31))))

theorem dX12_freeNow_0 : decode cX12_freeNow 0 = .ok (.iconst 0, 1) := by decide +kernel
theorem dX12_freeNow_1 : decode cX12_freeNow 1 = .ok (.istore_n 1, 1) := by decide +kernel
theorem dX12_freeNow_2 : decode cX12_freeNow 2 = .ok (.iconst 0, 1) := by decide +kernel
theorem dX12_freeNow_3 : decode cX12_freeNow 3 = .ok (.istore_n 2, 1) := by decide +kernel
theorem dX12_freeNow_4 : decode cX12_freeNow 4 = .ok (.iload_n 2, 1) := by decide +kernel
theorem dX12_freeNow_5 : decode cX12_freeNow 5 = .ok (.aload_n 0, 1) := by decide +kernel
theorem dX12_freeNow_6 : decode cX12_freeNow 6 = .ok (.invokevirtual 285, 3) := by decide +kernel
theorem dX12_freeNow_9 : decode cX12_freeNow 9 = .ok (.if_icmp .ge 18, 3) := by decide +kernel
theorem dX12_freeNow_12 : decode cX12_freeNow 12 = .ok (.iload_n 1, 1) := by decide +kernel
theorem dX12_freeNow_13 : decode cX12_freeNow 13 = .ok (.aload_n 0, 1) := by decide +kernel
theorem dX12_freeNow_14 : decode cX12_freeNow 14 = .ok (.iconst 0, 1) := by decide +kernel
theorem dX12_freeNow_15 : decode cX12_freeNow 15 = .ok (.iload_n 2, 1) := by decide +kernel
theorem dX12_freeNow_16 : decode cX12_freeNow 16 = .ok (.invokevirtual 313, 3) := by decide +kernel
theorem dX12_freeNow_19 : decode cX12_freeNow 19 = .ok (.iadd, 1) := by decide +kernel
theorem dX12_freeNow_20 : decode cX12_freeNow 20 = .ok (.istore_n 1, 1) := by decide +kernel
theorem dX12_freeNow_21 : decode cX12_freeNow 21 = .ok (.iinc 2 1, 3) := by decide +kernel
theorem dX12_freeNow_24 : decode cX12_freeNow 24 = .ok (.goto (-20), 3) := by decide +kernel
theorem dX12_freeNow_27 : decode cX12_freeNow 27 = .ok (.iload_n 1, 1) := by decide +kernel
theorem dX12_freeNow_28 : decode cX12_freeNow 28 = .ok (.ireturn, 1) := by decide +kernel
noncomputable def FX12_freeNow (a0 : Nat) : PP Int32 := bd (it (fun (s1 : Int32 × Int32) => (bd (FX12_lines a0) (fun x2 => if x2 ≤ s1.2 then pu (Sum.inr s1.1) else bd (FX12_freeOf a0 (0 : Int32) s1.2) (fun x3 => lt (s1.1 + x3) (fun y4 => lt (s1.2 + (1 : Int32)) (fun y5 => pu (Sum.inl (y4, y5)))))) : PP ((Int32 × Int32) ⊕ (Int32)))) FU ((0 : Int32), (0 : Int32))) (fun (v6 : Int32) => pu v6)
set_option maxHeartbeats 4000000 in
set_option maxRecDepth 100000 in
theorem SX12_freeNow {l : Launch} {K : KK} {n : Nat} {hn : 270 ≤ n} (a0 : Nat) (h0 : ob a0 11) : CT l K n 2 mX12_freeNow [.ref (K.2.1 + a0)] enI (FX12_freeNow a0) := by
  refine CT.of2 (lv2 := [(0, .ref (K.2.1 + a0))]) (by decide) rfl hn (Nat.le_of_ble_eq_true rfl) rfl (rp_id ?_)
  unfold FX12_freeNow
  refine rp_iconst (0 : Int32) dX12_freeNow_0 (by decide) ?_
  refine rp_istore_n [(1, .int (0 : Int32)), (0, .ref (K.2.1 + a0))] dX12_freeNow_1 (by decide) rfl ?_
  refine rp_iconst (0 : Int32) dX12_freeNow_2 (by decide) ?_
  refine rp_istore_n [(2, .int (0 : Int32)), (1, .int (0 : Int32)), (0, .ref (K.2.1 + a0))] dX12_freeNow_3 (by decide) rfl ?_
  refine rp_as ?_
  refine rp_join 27 (fun v6 => [(1, .int v6)]) (fun _ => []) (fun v6 => ?_) (fun hX4_0 => ?_)
  · refine rp_iload_n 0 dX12_freeNow_27 rfl ?_
    exact rp_pu (rp_iret rfl dX12_freeNow_28)
  refine rp_sub [2, 1, 0] rfl (rp_it (fun (s1 : Int32 × Int32) => [(0, .ref (K.2.1 + a0)), (1, .int s1.1), (2, .int s1.2)]) (fun N4 ih4 s1 => ?_) FU ((0 : Int32), (0 : Int32)))
  refine rp_iload_n 2 dX12_freeNow_4 rfl ?_
  refine rp_aload_n 0 dX12_freeNow_5 rfl ?_
  refine rp_callVi [] (SX12_lines (hn := hn) a0 h0) cvX12_lines (mw (i := 1551) (by decide +kernel)) (by omega) h0 (by decide) rfl rfl rfl (Nat.le_of_ble_eq_true rfl) dX12_freeNow_6 (fun x2 => ?_)
  refine rp_icmp_ge 27 dX12_freeNow_9 (by decide) ?_ ?_
  · exact rp_sub [1] rfl (rp_puR (hX4_0 s1.1))
  · refine rp_iload_n 1 dX12_freeNow_12 rfl ?_
    refine rp_aload_n 0 dX12_freeNow_13 rfl ?_
    refine rp_iconst (0 : Int32) dX12_freeNow_14 (by decide) ?_
    refine rp_iload_n 2 dX12_freeNow_15 rfl ?_
    refine rp_callVi [.int (0 : Int32), .int s1.2] (SX12_freeOf (hn := hn) a0 (0 : Int32) s1.2 h0) cvX12_freeOf (mw (i := 1559) (by decide +kernel)) (by omega) h0 (by decide) rfl rfl rfl (Nat.le_of_ble_eq_true rfl) dX12_freeNow_16 (fun x3 => ?_)
    refine rp_iadd dX12_freeNow_19 ?_
    refine rp_lti (fun y4 => ?_)
    refine rp_istore_n [(1, .int y4), (0, .ref (K.2.1 + a0)), (2, .int s1.2)] dX12_freeNow_20 (by decide) rfl ?_
    refine rp_iinc (fun y5 => [(2, .int y5), (1, .int y4), (0, .ref (K.2.1 + a0))]) 2 dX12_freeNow_21 rfl (by rfl) (by decide) (fun y5 => rfl) (fun y5 => ?_)
    refine rp_goto 4 dX12_freeNow_24 (by decide) ?_
    exact rp_sub [2, 1, 0] rfl (ih4 (y4, y5))
