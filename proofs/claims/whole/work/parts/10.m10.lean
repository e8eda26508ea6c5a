theorem dX12_street_0 : decode cX12_street 0 = .ok (.aload_n 0, 1) := by decide +kernel
theorem dX12_street_1 : decode cX12_street 1 = .ok (.iconst 0, 1) := by decide +kernel
theorem dX12_street_2 : decode cX12_street 2 = .ok (.putfield 1, 3) := by decide +kernel
theorem dX12_street_5 : decode cX12_street 5 = .ok (.aload_n 0, 1) := by decide +kernel
theorem dX12_street_6 : decode cX12_street 6 = .ok (.invokevirtual 209, 3) := by decide +kernel
theorem dX12_street_9 : decode cX12_street 9 = .ok (.aload_n 0, 1) := by decide +kernel
theorem dX12_street_10 : decode cX12_street 10 = .ok (.iconst 0, 1) := by decide +kernel
theorem dX12_street_11 : decode cX12_street 11 = .ok (.putfield 212, 3) := by decide +kernel
theorem dX12_street_14 : decode cX12_street 14 = .ok (.aload_n 0, 1) := by decide +kernel
theorem dX12_street_15 : decode cX12_street 15 = .ok (.iconst 0, 1) := by decide +kernel
theorem dX12_street_16 : decode cX12_street 16 = .ok (.putfield 187, 3) := by decide +kernel
theorem dX12_street_19 : decode cX12_street 19 = .ok (.aload_n 0, 1) := by decide +kernel
theorem dX12_street_20 : decode cX12_street 20 = .ok (.bipush 40, 2) := by decide +kernel
theorem dX12_street_22 : decode cX12_street 22 = .ok (.invokevirtual 129, 3) := by decide +kernel
theorem dX12_street_25 : decode cX12_street 25 = .ok (.aload_n 0, 1) := by decide +kernel
theorem dX12_street_26 : decode cX12_street 26 = .ok (.getfield 162, 3) := by decide +kernel
theorem dX12_street_29 : decode cX12_street 29 = .ok (.ifCond .ne 28, 3) := by decide +kernel
theorem dX12_street_32 : decode cX12_street 32 = .ok (.aload_n 0, 1) := by decide +kernel
theorem dX12_street_33 : decode cX12_street 33 = .ok (.getfield 24, 3) := by decide +kernel
theorem dX12_street_36 : decode cX12_street 36 = .ok (.aload_n 0, 1) := by decide +kernel
theorem dX12_street_37 : decode cX12_street 37 = .ok (.getfield 159, 3) := by decide +kernel
theorem dX12_street_40 : decode cX12_street 40 = .ok (.iaload, 1) := by decide +kernel
theorem dX12_street_41 : decode cX12_street 41 = .ok (.ifCond .eq 16, 3) := by decide +kernel
theorem dX12_street_44 : decode cX12_street 44 = .ok (.aload_n 0, 1) := by decide +kernel
theorem dX12_street_45 : decode cX12_street 45 = .ok (.invokevirtual 215, 3) := by decide +kernel
theorem dX12_street_48 : decode cX12_street 48 = .ok (.aload_n 0, 1) := by decide +kernel
theorem dX12_street_49 : decode cX12_street 49 = .ok (.bipush 59, 2) := by decide +kernel
theorem dX12_street_51 : decode cX12_street 51 = .ok (.invokevirtual 218, 3) := by decide +kernel
theorem dX12_street_54 : decode cX12_street 54 = .ok (.goto (-29), 3) := by decide +kernel
theorem dX12_street_57 : decode cX12_street 57 = .ok (.aload_n 0, 1) := by decide +kernel
theorem dX12_street_58 : decode cX12_street 58 = .ok (.getfield 162, 3) := by decide +kernel
theorem dX12_street_61 : decode cX12_street 61 = .ok (.ifCond .le 8, 3) := by decide +kernel
theorem dX12_street_64 : decode cX12_street 64 = .ok (.aload_n 0, 1) := by decide +kernel
theorem dX12_street_65 : decode cX12_street 65 = .ok (.getfield 162, 3) := by decide +kernel
theorem dX12_street_68 : decode cX12_street 68 = .ok (.ireturn, 1) := by decide +kernel
theorem dX12_street_69 : decode cX12_street 69 = .ok (.iconst 0, 1) := by decide +kernel
theorem dX12_street_70 : decode cX12_street 70 = .ok (.istore_n 1, 1) := by decide +kernel
theorem dX12_street_71 : decode cX12_street 71 = .ok (.iload_n 1, 1) := by decide +kernel
theorem dX12_street_72 : decode cX12_street 72 = .ok (.bipush 40, 2) := by decide +kernel
theorem dX12_street_74 : decode cX12_street 74 = .ok (.if_icmp .ge 24, 3) := by decide +kernel
theorem dX12_street_77 : decode cX12_street 77 = .ok (.aload_n 0, 1) := by decide +kernel
theorem dX12_street_78 : decode cX12_street 78 = .ok (.getfield 83, 3) := by decide +kernel
theorem dX12_street_81 : decode cX12_street 81 = .ok (.iload_n 1, 1) := by decide +kernel
theorem dX12_street_82 : decode cX12_street 82 = .ok (.aload_n 0, 1) := by decide +kernel
theorem dX12_street_83 : decode cX12_street 83 = .ok (.getfield 83, 3) := by decide +kernel
theorem dX12_street_86 : decode cX12_street 86 = .ok (.bipush 40, 2) := by decide +kernel
theorem dX12_street_88 : decode cX12_street 88 = .ok (.iload_n 1, 1) := by decide +kernel
theorem dX12_street_89 : decode cX12_street 89 = .ok (.iadd, 1) := by decide +kernel
theorem dX12_street_90 : decode cX12_street 90 = .ok (.iaload, 1) := by decide +kernel
theorem dX12_street_91 : decode cX12_street 91 = .ok (.iastore, 1) := by decide +kernel
theorem dX12_street_92 : decode cX12_street 92 = .ok (.iinc 1 1, 3) := by decide +kernel
theorem dX12_street_95 : decode cX12_street 95 = .ok (.goto (-24), 3) := by decide +kernel
theorem dX12_street_98 : decode cX12_street 98 = .ok (.iconst 0, 1) := by decide +kernel
theorem dX12_street_99 : decode cX12_street 99 = .ok (.istore_n 1, 1) := by decide +kernel
theorem dX12_street_100 : decode cX12_street 100 = .ok (.iload_n 1, 1) := by decide +kernel
theorem dX12_street_101 : decode cX12_street 101 = .ok (.aload_n 0, 1) := by decide +kernel
theorem dX12_street_102 : decode cX12_street 102 = .ok (.getfield 212, 3) := by decide +kernel
theorem dX12_street_105 : decode cX12_street 105 = .ok (.if_icmp .ge 41, 3) := by decide +kernel
theorem dX12_street_108 : decode cX12_street 108 = .ok (.aload_n 0, 1) := by decide +kernel
theorem dX12_street_109 : decode cX12_street 109 = .ok (.getfield 86, 3) := by decide +kernel
theorem dX12_street_112 : decode cX12_street 112 = .ok (.iload_n 1, 1) := by decide +kernel
theorem dX12_street_113 : decode cX12_street 113 = .ok (.aload_n 0, 1) := by decide +kernel
theorem dX12_street_114 : decode cX12_street 114 = .ok (.getfield 86, 3) := by decide +kernel
theorem dX12_street_117 : decode cX12_street 117 = .ok (.sipush 1100, 3) := by decide +kernel
theorem dX12_street_120 : decode cX12_street 120 = .ok (.iload_n 1, 1) := by decide +kernel
theorem dX12_street_121 : decode cX12_street 121 = .ok (.iadd, 1) := by decide +kernel
theorem dX12_street_122 : decode cX12_street 122 = .ok (.iaload, 1) := by decide +kernel
theorem dX12_street_123 : decode cX12_street 123 = .ok (.iastore, 1) := by decide +kernel
theorem dX12_street_124 : decode cX12_street 124 = .ok (.aload_n 0, 1) := by decide +kernel
theorem dX12_street_125 : decode cX12_street 125 = .ok (.getfield 89, 3) := by decide +kernel
theorem dX12_street_128 : decode cX12_street 128 = .ok (.iload_n 1, 1) := by decide +kernel
theorem dX12_street_129 : decode cX12_street 129 = .ok (.aload_n 0, 1) := by decide +kernel
theorem dX12_street_130 : decode cX12_street 130 = .ok (.getfield 89, 3) := by decide +kernel
theorem dX12_street_133 : decode cX12_street 133 = .ok (.sipush 1100, 3) := by decide +kernel
theorem dX12_street_136 : decode cX12_street 136 = .ok (.iload_n 1, 1) := by decide +kernel
theorem dX12_street_137 : decode cX12_street 137 = .ok (.iadd, 1) := by decide +kernel
theorem dX12_street_138 : decode cX12_street 138 = .ok (.iaload, 1) := by decide +kernel
theorem dX12_street_139 : decode cX12_street 139 = .ok (.iastore, 1) := by decide +kernel
theorem dX12_street_140 : decode cX12_street 140 = .ok (.iinc 1 1, 3) := by decide +kernel
theorem dX12_street_143 : decode cX12_street 143 = .ok (.goto (-43), 3) := by decide +kernel
theorem dX12_street_146 : decode cX12_street 146 = .ok (.iconst 0, 1) := by decide +kernel
theorem dX12_street_147 : decode cX12_street 147 = .ok (.istore_n 1, 1) := by decide +kernel
theorem dX12_street_148 : decode cX12_street 148 = .ok (.iload_n 1, 1) := by decide +kernel
theorem dX12_street_149 : decode cX12_street 149 = .ok (.aload_n 0, 1) := by decide +kernel
theorem dX12_street_150 : decode cX12_street 150 = .ok (.getfield 187, 3) := by decide +kernel
theorem dX12_street_153 : decode cX12_street 153 = .ok (.if_icmp .ge 33, 3) := by decide +kernel
theorem dX12_street_156 : decode cX12_street 156 = .ok (.aload_n 0, 1) := by decide +kernel
theorem dX12_street_157 : decode cX12_street 157 = .ok (.getfield 92, 3) := by decide +kernel
theorem dX12_street_160 : decode cX12_street 160 = .ok (.iload_n 1, 1) := by decide +kernel
theorem dX12_street_161 : decode cX12_street 161 = .ok (.aload_n 0, 1) := by decide +kernel
theorem dX12_street_162 : decode cX12_street 162 = .ok (.getfield 95, 3) := by decide +kernel
theorem dX12_street_165 : decode cX12_street 165 = .ok (.iload_n 1, 1) := by decide +kernel
theorem dX12_street_166 : decode cX12_street 166 = .ok (.laload, 1) := by decide +kernel
theorem dX12_street_167 : decode cX12_street 167 = .ok (.lastore, 1) := by decide +kernel
theorem dX12_street_168 : decode cX12_street 168 = .ok (.aload_n 0, 1) := by decide +kernel
theorem dX12_street_169 : decode cX12_street 169 = .ok (.getfield 98, 3) := by decide +kernel
theorem dX12_street_172 : decode cX12_street 172 = .ok (.iload_n 1, 1) := by decide +kernel
theorem dX12_street_173 : decode cX12_street 173 = .ok (.aload_n 0, 1) := by decide +kernel
theorem dX12_street_174 : decode cX12_street 174 = .ok (.getfield 101, 3) := by decide +kernel
theorem dX12_street_177 : decode cX12_street 177 = .ok (.iload_n 1, 1) := by decide +kernel
theorem dX12_street_178 : decode cX12_street 178 = .ok (.iaload, 1) := by decide +kernel
theorem dX12_street_179 : decode cX12_street 179 = .ok (.iastore, 1) := by decide +kernel
theorem dX12_street_180 : decode cX12_street 180 = .ok (.iinc 1 1, 3) := by decide +kernel
theorem dX12_street_183 : decode cX12_street 183 = .ok (.goto (-35), 3) := by decide +kernel
theorem dX12_street_186 : decode cX12_street 186 = .ok (.aload_n 0, 1) := by decide +kernel
theorem dX12_street_187 : decode cX12_street 187 = .ok (.aload_n 0, 1) := by decide +kernel
theorem dX12_street_188 : decode cX12_street 188 = .ok (.getfield 187, 3) := by decide +kernel
theorem dX12_street_191 : decode cX12_street 191 = .ok (.putfield 190, 3) := by decide +kernel
theorem dX12_street_194 : decode cX12_street 194 = .ok (.aload_n 0, 1) := by decide +kernel
theorem dX12_street_195 : decode cX12_street 195 = .ok (.invokevirtual 133, 3) := by decide +kernel
theorem dX12_street_198 : decode cX12_street 198 = .ok (.iconst 0, 1) := by decide +kernel
theorem dX12_street_199 : decode cX12_street 199 = .ok (.ireturn, 1) := by decide +kernel
noncomputable def FX12_street (a0 : Nat) : PP Int32 := bd (sI a0 0 (0 : Int32)) (fun (_ : Unit) => bd (FX12_cutAll a0) (fun (_ : Unit) => bd (sI a0 13 (0 : Int32)) (fun (_ : Unit) => bd (sI a0 19 (0 : Int32)) (fun (_ : Unit) => bd (FX12_standsAsAlways a0 (40 : Int32)) (fun (_ : Unit) => bd (it (fun (s3 : Unit) => (bd (gI a0 8) (fun x4 => if x4 = 0 then bd (gI a0 7) (fun x5 => bd (aI (rf a0 4) 1002 x5) (fun x6 => if x6 = 0 then pu (Sum.inr ()) else bd (FX12_readLine a0) (fun (_ : Unit) => bd (FX12_takeSign a0 (59 : Int32)) (fun (_ : Unit) => pu (Sum.inl ()))))) else pu (Sum.inr ())) : PP ((Unit) ⊕ (Unit)))) FU ()) (fun (v9 : Unit) => bd (gI a0 8) (fun x10 => if x10 ≤ 0 then bd (it (fun (s11 : Int32) => (if (40 : Int32) ≤ s11 then pu (Sum.inr ()) else bd (aI (rf a0 10) 80 ((40 : Int32) + s11)) (fun x12 => bd (uI (rf a0 10) 80 s11 x12) (fun (_ : Unit) => lt (s11 + (1 : Int32)) (fun y13 => pu (Sum.inl y13)))) : PP ((Int32) ⊕ (Unit)))) FU (0 : Int32)) (fun (v14 : Unit) => bd (it (fun (s15 : Int32) => (bd (gI a0 13) (fun x16 => if x16 ≤ s15 then pu (Sum.inr ()) else bd (aI (rf a0 11) 2200 ((1100 : Int32) + s15)) (fun x17 => bd (uI (rf a0 11) 2200 s15 x17) (fun (_ : Unit) => bd (aI (rf a0 12) 2200 ((1100 : Int32) + s15)) (fun x18 => bd (uI (rf a0 12) 2200 s15 x18) (fun (_ : Unit) => lt (s15 + (1 : Int32)) (fun y19 => pu (Sum.inl y19))))))) : PP ((Int32) ⊕ (Unit)))) FU (0 : Int32)) (fun (v20 : Unit) => bd (it (fun (s21 : Int32) => (bd (gI a0 19) (fun x22 => if x22 ≤ s21 then pu (Sum.inr ()) else bd (aL (rf a0 15) 15 s21) (fun x23 => bd (uL (rf a0 14) 15 s21 x23) (fun (_ : Unit) => bd (aI (rf a0 17) 15 s21) (fun x24 => bd (uI (rf a0 16) 15 s21 x24) (fun (_ : Unit) => lt (s21 + (1 : Int32)) (fun y25 => pu (Sum.inl y25))))))) : PP ((Int32) ⊕ (Unit)))) FU (0 : Int32)) (fun (v26 : Unit) => bd (gI a0 19) (fun x27 => bd (sI a0 18 x27) (fun (_ : Unit) => bd (FX12_begins a0) (fun (_ : Unit) => pu (0 : Int32))))))) else bd (gI a0 8) (fun x29 => pu x29))))))))
set_option maxHeartbeats 4000000 in
set_option maxRecDepth 100000 in
theorem SX12_street {l : Launch} {K : KK} {n : Nat} {hn : 270 ≤ n} (a0 : Nat) (h0 : ob a0 11) : CT l K n 68 mX12_street [.ref (K.2.1 + a0)] enI (FX12_street a0) := by
  refine CT.of2 (lv2 := [(0, .ref (K.2.1 + a0))]) (by decide) rfl hn (Nat.le_of_ble_eq_true rfl) rfl (rp_id ?_)
  unfold FX12_street
  refine rp_aload_n 0 dX12_street_0 rfl ?_
  refine rp_iconst (0 : Int32) dX12_street_1 (by decide) ?_
  refine rp_putI fi_X12_1 fp_X12_0 h0 rfl dX12_street_2 ?_
  refine rp_aload_n 0 dX12_street_5 rfl ?_
  refine rp_callVv [] (SX12_cutAll (hn := hn) a0 h0) cvX12_cutAll (mw (i := 1413) (by decide +kernel)) (by omega) h0 (by decide) rfl rfl rfl (Nat.le_of_ble_eq_true rfl) dX12_street_6 (fun x1 => ?_)
  refine rp_aload_n 0 dX12_street_9 rfl ?_
  refine rp_iconst (0 : Int32) dX12_street_10 (by decide) ?_
  refine rp_putI fi_X12_212 fp_X12_13 h0 rfl dX12_street_11 ?_
  refine rp_aload_n 0 dX12_street_14 rfl ?_
  refine rp_iconst (0 : Int32) dX12_street_15 (by decide) ?_
  refine rp_putI fi_X12_187 fp_X12_19 h0 rfl dX12_street_16 ?_
  refine rp_aload_n 0 dX12_street_19 rfl ?_
  refine rp_bipush (40 : Int32) dX12_street_20 (by decide) ?_
  refine rp_callVv [.int (40 : Int32)] (SX12_standsAsAlways (hn := hn) a0 (40 : Int32) h0) cvX12_standsAsAlways (mw (i := 1294) (by decide +kernel)) (by omega) h0 (by decide) rfl rfl rfl (Nat.le_of_ble_eq_true rfl) dX12_street_22 (fun x2 => ?_)
  refine rp_as ?_
  refine rp_join 57 (fun v9 => [(0, .ref (K.2.1 + a0))]) (fun _ => []) (fun v9 => ?_) (fun hX25_0 => ?_)
  · refine rp_aload_n 0 dX12_street_57 rfl ?_
    refine rp_getI fi_X12_162 h0 rfl dX12_street_58 (fun x10 => ?_)
    refine rp_if_le 69 dX12_street_61 (by decide) ?_ ?_
    · refine rp_iconst (0 : Int32) dX12_street_69 (by decide) ?_
      refine rp_istore_n [(1, .int (0 : Int32)), (0, .ref (K.2.1 + a0))] dX12_street_70 (by decide) rfl ?_
      refine rp_as ?_
      refine rp_join 98 (fun v14 => [(0, .ref (K.2.1 + a0))]) (fun _ => []) (fun v14 => ?_) (fun hX71_0 => ?_)
      · refine rp_iconst (0 : Int32) dX12_street_98 (by decide) ?_
        refine rp_istore_n [(1, .int (0 : Int32)), (0, .ref (K.2.1 + a0))] dX12_street_99 (by decide) rfl ?_
        refine rp_as ?_
        refine rp_join 146 (fun v20 => [(0, .ref (K.2.1 + a0))]) (fun _ => []) (fun v20 => ?_) (fun hX100_0 => ?_)
        · refine rp_iconst (0 : Int32) dX12_street_146 (by decide) ?_
          refine rp_istore_n [(1, .int (0 : Int32)), (0, .ref (K.2.1 + a0))] dX12_street_147 (by decide) rfl ?_
          refine rp_as ?_
          refine rp_join 186 (fun v26 => [(0, .ref (K.2.1 + a0))]) (fun _ => []) (fun v26 => ?_) (fun hX148_0 => ?_)
          · refine rp_aload_n 0 dX12_street_186 rfl ?_
            refine rp_aload_n 0 dX12_street_187 rfl ?_
            refine rp_getI fi_X12_187 h0 rfl dX12_street_188 (fun x27 => ?_)
            refine rp_putI fi_X12_190 fp_X12_18 h0 rfl dX12_street_191 ?_
            refine rp_aload_n 0 dX12_street_194 rfl ?_
            refine rp_callVv [] (SX12_begins (hn := hn) a0 h0) cvX12_begins (mw (i := 1298) (by decide +kernel)) (by omega) h0 (by decide) rfl rfl rfl (Nat.le_of_ble_eq_true rfl) dX12_street_195 (fun x28 => ?_)
            refine rp_iconst (0 : Int32) dX12_street_198 (by decide) ?_
            exact rp_pu (rp_iret rfl dX12_street_199)
          refine rp_sub [1, 0] rfl (rp_it (fun (s21 : Int32) => [(0, .ref (K.2.1 + a0)), (1, .int s21)]) (fun N148 ih148 s21 => ?_) FU (0 : Int32))
          refine rp_iload_n 1 dX12_street_148 rfl ?_
          refine rp_aload_n 0 dX12_street_149 rfl ?_
          refine rp_getI fi_X12_187 h0 rfl dX12_street_150 (fun x22 => ?_)
          refine rp_icmp_ge 186 dX12_street_153 (by decide) ?_ ?_
          · exact rp_sub [0] rfl (rp_puR (hX148_0 ()))
          · refine rp_aload_n 0 dX12_street_156 rfl ?_
            refine rp_getR fi_X12_92 h0 rfl dX12_street_157 ?_
            refine rp_iload_n 1 dX12_street_160 rfl ?_
            refine rp_aload_n 0 dX12_street_161 rfl ?_
            refine rp_getR fi_X12_95 h0 rfl dX12_street_162 ?_
            refine rp_iload_n 1 dX12_street_165 rfl ?_
            refine rp_lald (tX12_15 h0) dX12_street_166 (fun x23 => ?_)
            refine rp_last (tX12_14 h0) dX12_street_167 ?_
            refine rp_aload_n 0 dX12_street_168 rfl ?_
            refine rp_getR fi_X12_98 h0 rfl dX12_street_169 ?_
            refine rp_iload_n 1 dX12_street_172 rfl ?_
            refine rp_aload_n 0 dX12_street_173 rfl ?_
            refine rp_getR fi_X12_101 h0 rfl dX12_street_174 ?_
            refine rp_iload_n 1 dX12_street_177 rfl ?_
            refine rp_iald (tX12_17 h0) dX12_street_178 (fun x24 => ?_)
            refine rp_iast (tX12_16 h0) dX12_street_179 ?_
            refine rp_iinc (fun y25 => [(1, .int y25), (0, .ref (K.2.1 + a0))]) 1 dX12_street_180 rfl (by rfl) (by decide) (fun y25 => rfl) (fun y25 => ?_)
            refine rp_goto 148 dX12_street_183 (by decide) ?_
            exact rp_sub [1, 0] rfl (ih148 y25)
        refine rp_sub [1, 0] rfl (rp_it (fun (s15 : Int32) => [(0, .ref (K.2.1 + a0)), (1, .int s15)]) (fun N100 ih100 s15 => ?_) FU (0 : Int32))
        refine rp_iload_n 1 dX12_street_100 rfl ?_
        refine rp_aload_n 0 dX12_street_101 rfl ?_
        refine rp_getI fi_X12_212 h0 rfl dX12_street_102 (fun x16 => ?_)
        refine rp_icmp_ge 146 dX12_street_105 (by decide) ?_ ?_
        · exact rp_sub [0] rfl (rp_puR (hX100_0 ()))
        · refine rp_aload_n 0 dX12_street_108 rfl ?_
          refine rp_getR fi_X12_86 h0 rfl dX12_street_109 ?_
          refine rp_iload_n 1 dX12_street_112 rfl ?_
          refine rp_aload_n 0 dX12_street_113 rfl ?_
          refine rp_getR fi_X12_86 h0 rfl dX12_street_114 ?_
          refine rp_sipush (1100 : Int32) dX12_street_117 (by decide) ?_
          refine rp_iload_n 1 dX12_street_120 rfl ?_
          refine rp_iadd dX12_street_121 ?_
          refine rp_iald (tX12_11 h0) dX12_street_122 (fun x17 => ?_)
          refine rp_iast (tX12_11 h0) dX12_street_123 ?_
          refine rp_aload_n 0 dX12_street_124 rfl ?_
          refine rp_getR fi_X12_89 h0 rfl dX12_street_125 ?_
          refine rp_iload_n 1 dX12_street_128 rfl ?_
          refine rp_aload_n 0 dX12_street_129 rfl ?_
          refine rp_getR fi_X12_89 h0 rfl dX12_street_130 ?_
          refine rp_sipush (1100 : Int32) dX12_street_133 (by decide) ?_
          refine rp_iload_n 1 dX12_street_136 rfl ?_
          refine rp_iadd dX12_street_137 ?_
          refine rp_iald (tX12_12 h0) dX12_street_138 (fun x18 => ?_)
          refine rp_iast (tX12_12 h0) dX12_street_139 ?_
          refine rp_iinc (fun y19 => [(1, .int y19), (0, .ref (K.2.1 + a0))]) 1 dX12_street_140 rfl (by rfl) (by decide) (fun y19 => rfl) (fun y19 => ?_)
          refine rp_goto 100 dX12_street_143 (by decide) ?_
          exact rp_sub [1, 0] rfl (ih100 y19)
      refine rp_sub [1, 0] rfl (rp_it (fun (s11 : Int32) => [(0, .ref (K.2.1 + a0)), (1, .int s11)]) (fun N71 ih71 s11 => ?_) FU (0 : Int32))
      refine rp_iload_n 1 dX12_street_71 rfl ?_
      refine rp_bipush (40 : Int32) dX12_street_72 (by decide) ?_
      refine rp_icmp_ge 98 dX12_street_74 (by decide) ?_ ?_
      · exact rp_sub [0] rfl (rp_puR (hX71_0 ()))
      · refine rp_aload_n 0 dX12_street_77 rfl ?_
        refine rp_getR fi_X12_83 h0 rfl dX12_street_78 ?_
        refine rp_iload_n 1 dX12_street_81 rfl ?_
        refine rp_aload_n 0 dX12_street_82 rfl ?_
        refine rp_getR fi_X12_83 h0 rfl dX12_street_83 ?_
        refine rp_bipush (40 : Int32) dX12_street_86 (by decide) ?_
        refine rp_iload_n 1 dX12_street_88 rfl ?_
        refine rp_iadd dX12_street_89 ?_
        refine rp_iald (tX12_10 h0) dX12_street_90 (fun x12 => ?_)
        refine rp_iast (tX12_10 h0) dX12_street_91 ?_
        refine rp_iinc (fun y13 => [(1, .int y13), (0, .ref (K.2.1 + a0))]) 1 dX12_street_92 rfl (by rfl) (by decide) (fun y13 => rfl) (fun y13 => ?_)
        refine rp_goto 71 dX12_street_95 (by decide) ?_
        exact rp_sub [1, 0] rfl (ih71 y13)
    · refine rp_aload_n 0 dX12_street_64 rfl ?_
      refine rp_getI fi_X12_162 h0 rfl dX12_street_65 (fun x29 => ?_)
      exact rp_pu (rp_iret rfl dX12_street_68)
  refine rp_sub [0] rfl (rp_it (fun (s3 : Unit) => [(0, .ref (K.2.1 + a0))]) (fun N25 ih25 s3 => ?_) FU ())
  refine rp_aload_n 0 dX12_street_25 rfl ?_
  refine rp_getI fi_X12_162 h0 rfl dX12_street_26 (fun x4 => ?_)
  refine rp_if_ne 57 dX12_street_29 (by decide) ?_ ?_
  · exact rp_sub [0] rfl (rp_puR (hX25_0 ()))
  · refine rp_aload_n 0 dX12_street_32 rfl ?_
    refine rp_getR fi_X12_24 h0 rfl dX12_street_33 ?_
    refine rp_aload_n 0 dX12_street_36 rfl ?_
    refine rp_getI fi_X12_159 h0 rfl dX12_street_37 (fun x5 => ?_)
    refine rp_iald (tX12_4 h0) dX12_street_40 (fun x6 => ?_)
    refine rp_if_eq 57 dX12_street_41 (by decide) ?_ ?_
    · exact rp_sub [0] rfl (rp_puR (hX25_0 ()))
    · refine rp_aload_n 0 dX12_street_44 rfl ?_
      refine rp_callVv [] (SX12_readLine (hn := hn) a0 h0) cvX12_readLine (mw (i := 1432) (by decide +kernel)) (by omega) h0 (by decide) rfl rfl rfl (Nat.le_of_ble_eq_true rfl) dX12_street_45 (fun x7 => ?_)
      refine rp_aload_n 0 dX12_street_48 rfl ?_
      refine rp_bipush (59 : Int32) dX12_street_49 (by decide) ?_
      refine rp_callVv [.int (59 : Int32)] (SX12_takeSign (hn := hn) a0 (59 : Int32) h0) cvX12_takeSign (mw (i := 1535) (by decide +kernel)) (by omega) h0 (by decide) rfl rfl rfl (Nat.le_of_ble_eq_true rfl) dX12_street_51 (fun x8 => ?_)
      refine rp_goto 25 dX12_street_54 (by decide) ?_
      exact rp_sub [0] rfl (ih25 ())

theorem dX12_isLine_0 : decode cX12_isLine 0 = .ok (.iload_n 1, 1) := by decide +kernel
theorem dX12_isLine_1 : decode cX12_isLine 1 = .ok (.ifCond .lt 15, 3) := by decide +kernel
theorem dX12_isLine_4 : decode cX12_isLine 4 = .ok (.iload_n 1, 1) := by decide +kernel
theorem dX12_isLine_5 : decode cX12_isLine 5 = .ok (.aload_n 0, 1) := by decide +kernel
theorem dX12_isLine_6 : decode cX12_isLine 6 = .ok (.invokevirtual 285, 3) := by decide +kernel
theorem dX12_isLine_9 : decode cX12_isLine 9 = .ok (.if_icmp .ge 7, 3) := by decide +kernel
theorem dX12_isLine_12 : decode cX12_isLine 12 = .ok (.iconst 1, 1) := by decide +kernel
theorem dX12_isLine_13 : decode cX12_isLine 13 = .ok (.goto 4, 3) := by decide +kernel
theorem dX12_isLine_16 : decode cX12_isLine 16 = .ok (.iconst 0, 1) := by decide +kernel
theorem dX12_isLine_17 : decode cX12_isLine 17 = .ok (.ireturn, 1) := by decide +kernel
noncomputable def FX12_isLine (a0 : Nat) (p1 : Int32) : PP Bool := bd (if p1 < 0 then pu (0 : Int32) else bd (FX12_lines a0) (fun x1 => if x1 ≤ p1 then pu (0 : Int32) else pu (1 : Int32)) : PP (Int32)) (fun (v2 : Int32) => zb v2)
set_option maxHeartbeats 4000000 in
set_option maxRecDepth 100000 in
theorem SX12_isLine {l : Launch} {K : KK} {n : Nat} {hn : 270 ≤ n} (a0 : Nat) (p1 : Int32) (h0 : ob a0 11) : CT l K n 1 mX12_isLine [.ref (K.2.1 + a0), .int p1] enZ (FX12_isLine a0 p1) := by
  refine CT.of2 (lv2 := [(0, .ref (K.2.1 + a0)), (1, .int p1)]) (by decide) rfl hn (Nat.le_of_ble_eq_true rfl) rfl (rp_id ?_)
  unfold FX12_isLine
  refine rp_iload_n 1 dX12_isLine_0 rfl ?_
  refine rp_as ?_
  refine rp_join 17 (fun (v2 : Int32) => []) (fun v2 => [.int v2]) (fun v2 => ?_) (fun hJ17 => ?_)
  · exact rp_zretb rfl dX12_isLine_17
  refine rp_if_lt 16 dX12_isLine_1 (by decide) ?_ ?_
  · refine rp_iconst (0 : Int32) dX12_isLine_16 (by decide) ?_
    exact rp_sub [] rfl (rp_pu (hJ17 (0 : Int32)))
  · refine rp_iload_n 1 dX12_isLine_4 rfl ?_
    refine rp_aload_n 0 dX12_isLine_5 rfl ?_
    refine rp_callVi [] (SX12_lines (hn := hn) a0 h0) cvX12_lines (mw (i := 1551) (by decide +kernel)) (by omega) h0 (by decide) rfl rfl rfl (Nat.le_of_ble_eq_true rfl) dX12_isLine_6 (fun x1 => ?_)
    refine rp_icmp_ge 16 dX12_isLine_9 (by decide) ?_ ?_
    · refine rp_iconst (0 : Int32) dX12_isLine_16 (by decide) ?_
      exact rp_sub [] rfl (rp_pu (hJ17 (0 : Int32)))
    · refine rp_iconst (1 : Int32) dX12_isLine_12 (by decide) ?_
      refine rp_goto 17 dX12_isLine_13 (by decide) ?_
      exact rp_sub [] rfl (rp_pu (hJ17 (1 : Int32)))

theorem dX12_isPlace_0 : decode cX12_isPlace 0 = .ok (.iload_n 1, 1) := by decide +kernel
theorem dX12_isPlace_1 : decode cX12_isPlace 1 = .ok (.ifCond .lt 15, 3) := by decide +kernel
theorem dX12_isPlace_4 : decode cX12_isPlace 4 = .ok (.iload_n 1, 1) := by decide +kernel
theorem dX12_isPlace_5 : decode cX12_isPlace 5 = .ok (.aload_n 0, 1) := by decide +kernel
theorem dX12_isPlace_6 : decode cX12_isPlace 6 = .ok (.invokevirtual 288, 3) := by decide +kernel
theorem dX12_isPlace_9 : decode cX12_isPlace 9 = .ok (.if_icmp .ge 7, 3) := by decide +kernel
theorem dX12_isPlace_12 : decode cX12_isPlace 12 = .ok (.iconst 1, 1) := by decide +kernel
theorem dX12_isPlace_13 : decode cX12_isPlace 13 = .ok (.goto 4, 3) := by decide +kernel
theorem dX12_isPlace_16 : decode cX12_isPlace 16 = .ok (.iconst 0, 1) := by decide +kernel
theorem dX12_isPlace_17 : decode cX12_isPlace 17 = .ok (.ireturn, 1) := by decide +kernel
noncomputable def FX12_isPlace (a0 : Nat) (p1 : Int32) : PP Bool := bd (if p1 < 0 then pu (0 : Int32) else bd (FX12_places a0) (fun x1 => if x1 ≤ p1 then pu (0 : Int32) else pu (1 : Int32)) : PP (Int32)) (fun (v2 : Int32) => zb v2)
set_option maxHeartbeats 4000000 in
set_option maxRecDepth 100000 in
theorem SX12_isPlace {l : Launch} {K : KK} {n : Nat} {hn : 270 ≤ n} (a0 : Nat) (p1 : Int32) (h0 : ob a0 11) : CT l K n 1 mX12_isPlace [.ref (K.2.1 + a0), .int p1] enZ (FX12_isPlace a0 p1) := by
  refine CT.of2 (lv2 := [(0, .ref (K.2.1 + a0)), (1, .int p1)]) (by decide) rfl hn (Nat.le_of_ble_eq_true rfl) rfl (rp_id ?_)
  unfold FX12_isPlace
  refine rp_iload_n 1 dX12_isPlace_0 rfl ?_
  refine rp_as ?_
  refine rp_join 17 (fun (v2 : Int32) => []) (fun v2 => [.int v2]) (fun v2 => ?_) (fun hJ17 => ?_)
  · exact rp_zretb rfl dX12_isPlace_17
  refine rp_if_lt 16 dX12_isPlace_1 (by decide) ?_ ?_
  · refine rp_iconst (0 : Int32) dX12_isPlace_16 (by decide) ?_
    exact rp_sub [] rfl (rp_pu (hJ17 (0 : Int32)))
  · refine rp_iload_n 1 dX12_isPlace_4 rfl ?_
    refine rp_aload_n 0 dX12_isPlace_5 rfl ?_
    refine rp_callVi [] (SX12_places (hn := hn) a0 h0) cvX12_places (mw (i := 1583) (by decide +kernel)) (by omega) h0 (by decide) rfl rfl rfl (Nat.le_of_ble_eq_true rfl) dX12_isPlace_6 (fun x1 => ?_)
    refine rp_icmp_ge 16 dX12_isPlace_9 (by decide) ?_ ?_
    · refine rp_iconst (0 : Int32) dX12_isPlace_16 (by decide) ?_
      exact rp_sub [] rfl (rp_pu (hJ17 (0 : Int32)))
    · refine rp_iconst (1 : Int32) dX12_isPlace_12 (by decide) ?_
      refine rp_goto 17 dX12_isPlace_13 (by decide) ?_
      exact rp_sub [] rfl (rp_pu (hJ17 (1 : Int32)))

theorem dX12_isCloth_0 : decode cX12_isCloth 0 = .ok (.iload_n 1, 1) := by decide +kernel
theorem dX12_isCloth_1 : decode cX12_isCloth 1 = .ok (.ifCond .lt 15, 3) := by decide +kernel
theorem dX12_isCloth_4 : decode cX12_isCloth 4 = .ok (.iload_n 1, 1) := by decide +kernel
theorem dX12_isCloth_5 : decode cX12_isCloth 5 = .ok (.aload_n 0, 1) := by decide +kernel
theorem dX12_isCloth_6 : decode cX12_isCloth 6 = .ok (.invokevirtual 269, 3) := by decide +kernel
theorem dX12_isCloth_9 : decode cX12_isCloth 9 = .ok (.if_icmp .ge 7, 3) := by decide +kernel
theorem dX12_isCloth_12 : decode cX12_isCloth 12 = .ok (.iconst 1, 1) := by decide +kernel
theorem dX12_isCloth_13 : decode cX12_isCloth 13 = .ok (.goto 4, 3) := by decide +kernel
theorem dX12_isCloth_16 : decode cX12_isCloth 16 = .ok (.iconst 0, 1) := by decide +kernel
theorem dX12_isCloth_17 : decode cX12_isCloth 17 = .ok (.ireturn, 1) := by decide +kernel
noncomputable def FX12_isCloth (a0 : Nat) (p1 : Int32) : PP Bool := bd (if p1 < 0 then pu (0 : Int32) else bd (FX12_cloths a0) (fun x1 => if x1 ≤ p1 then pu (0 : Int32) else pu (1 : Int32)) : PP (Int32)) (fun (v2 : Int32) => zb v2)
set_option maxHeartbeats 4000000 in
set_option maxRecDepth 100000 in
theorem SX12_isCloth {l : Launch} {K : KK} {n : Nat} {hn : 270 ≤ n} (a0 : Nat) (p1 : Int32) (h0 : ob a0 11) : CT l K n 1 mX12_isCloth [.ref (K.2.1 + a0), .int p1] enZ (FX12_isCloth a0 p1) := by
  refine CT.of2 (lv2 := [(0, .ref (K.2.1 + a0)), (1, .int p1)]) (by decide) rfl hn (Nat.le_of_ble_eq_true rfl) rfl (rp_id ?_)
  unfold FX12_isCloth
  refine rp_iload_n 1 dX12_isCloth_0 rfl ?_
  refine rp_as ?_
  refine rp_join 17 (fun (v2 : Int32) => []) (fun v2 => [.int v2]) (fun v2 => ?_) (fun hJ17 => ?_)
  · exact rp_zretb rfl dX12_isCloth_17
  refine rp_if_lt 16 dX12_isCloth_1 (by decide) ?_ ?_
  · refine rp_iconst (0 : Int32) dX12_isCloth_16 (by decide) ?_
    exact rp_sub [] rfl (rp_pu (hJ17 (0 : Int32)))
  · refine rp_iload_n 1 dX12_isCloth_4 rfl ?_
    refine rp_aload_n 0 dX12_isCloth_5 rfl ?_
    refine rp_callVi [] (SX12_cloths (hn := hn) a0 h0) cvX12_cloths (mw (i := 1306) (by decide +kernel)) (by omega) h0 (by decide) rfl rfl rfl (Nat.le_of_ble_eq_true rfl) dX12_isCloth_6 (fun x1 => ?_)
    refine rp_icmp_ge 16 dX12_isCloth_9 (by decide) ?_ ?_
    · refine rp_iconst (0 : Int32) dX12_isCloth_16 (by decide) ?_
      exact rp_sub [] rfl (rp_pu (hJ17 (0 : Int32)))
    · refine rp_iconst (1 : Int32) dX12_isCloth_12 (by decide) ?_
      refine rp_goto 17 dX12_isCloth_13 (by decide) ?_
      exact rp_sub [] rfl (rp_pu (hJ17 (1 : Int32)))

theorem dX12_doesHang_0 : decode cX12_doesHang 0 = .ok (.aload_n 0, 1) := by decide +kernel
theorem dX12_doesHang_1 : decode cX12_doesHang 1 = .ok (.getfield 113, 3) := by decide +kernel
theorem dX12_doesHang_4 : decode cX12_doesHang 4 = .ok (.iload_n 1, 1) := by decide +kernel
theorem dX12_doesHang_5 : decode cX12_doesHang 5 = .ok (.bipush 7, 2) := by decide +kernel
theorem dX12_doesHang_7 : decode cX12_doesHang 7 = .ok (.iadd, 1) := by decide +kernel
theorem dX12_doesHang_8 : decode cX12_doesHang 8 = .ok (.iload_n 2, 1) := by decide +kernel
theorem dX12_doesHang_9 : decode cX12_doesHang 9 = .ok (.iadd, 1) := by decide +kernel
theorem dX12_doesHang_10 : decode cX12_doesHang 10 = .ok (.iaload, 1) := by decide +kernel
theorem dX12_doesHang_11 : decode cX12_doesHang 11 = .ok (.ifCond .lt 7, 3) := by decide +kernel
theorem dX12_doesHang_14 : decode cX12_doesHang 14 = .ok (.iconst 1, 1) := by decide +kernel
theorem dX12_doesHang_15 : decode cX12_doesHang 15 = .ok (.goto 4, 3) := by decide +kernel
theorem dX12_doesHang_18 : decode cX12_doesHang 18 = .ok (.iconst 0, 1) := by decide +kernel
theorem dX12_doesHang_19 : decode cX12_doesHang 19 = .ok (.ireturn, 1) := by decide +kernel
noncomputable def FX12_doesHang (a0 : Nat) (p1 : Int32) (p2 : Int32) : PP Bool := bd (aI (rf a0 23) 966 ((p1 + (7 : Int32)) + p2)) (fun x1 => bd (if x1 < 0 then pu (0 : Int32) else pu (1 : Int32) : PP (Int32)) (fun (v2 : Int32) => zb v2))
set_option maxHeartbeats 4000000 in
set_option maxRecDepth 100000 in
theorem SX12_doesHang {l : Launch} {K : KK} {n : Nat} {hn : 270 ≤ n} (a0 : Nat) (p1 : Int32) (p2 : Int32) (h0 : ob a0 11) : CT l K n 0 mX12_doesHang [.ref (K.2.1 + a0), .int p1, .int p2] enZ (FX12_doesHang a0 p1 p2) := by
  refine CT.of2 (lv2 := [(0, .ref (K.2.1 + a0)), (1, .int p1), (2, .int p2)]) (by decide) rfl hn (Nat.le_of_ble_eq_true rfl) rfl (rp_id ?_)
  unfold FX12_doesHang
  refine rp_aload_n 0 dX12_doesHang_0 rfl ?_
  refine rp_getR fi_X12_113 h0 rfl dX12_doesHang_1 ?_
  refine rp_iload_n 1 dX12_doesHang_4 rfl ?_
  refine rp_bipush (7 : Int32) dX12_doesHang_5 (by decide) ?_
  refine rp_iadd dX12_doesHang_7 ?_
  refine rp_iload_n 2 dX12_doesHang_8 rfl ?_
  refine rp_iadd dX12_doesHang_9 ?_
  refine rp_iald (tX12_23 h0) dX12_doesHang_10 (fun x1 => ?_)
  refine rp_as ?_
  refine rp_join 19 (fun (v2 : Int32) => []) (fun v2 => [.int v2]) (fun v2 => ?_) (fun hJ19 => ?_)
  · exact rp_zretb rfl dX12_doesHang_19
  refine rp_if_lt 18 dX12_doesHang_11 (by decide) ?_ ?_
  · refine rp_iconst (0 : Int32) dX12_doesHang_18 (by decide) ?_
    exact rp_sub [] rfl (rp_pu (hJ19 (0 : Int32)))
  · refine rp_iconst (1 : Int32) dX12_doesHang_14 (by decide) ?_
    refine rp_goto 19 dX12_doesHang_15 (by decide) ?_
    exact rp_sub [] rfl (rp_pu (hJ19 (1 : Int32)))

theorem dX12_isWet_0 : decode cX12_isWet 0 = .ok (.aload_n 0, 1) := by decide +kernel
theorem dX12_isWet_1 : decode cX12_isWet 1 = .ok (.getfield 113, 3) := by decide +kernel
theorem dX12_isWet_4 : decode cX12_isWet 4 = .ok (.iload_n 1, 1) := by decide +kernel
theorem dX12_isWet_5 : decode cX12_isWet 5 = .ok (.iconst 1, 1) := by decide +kernel
theorem dX12_isWet_6 : decode cX12_isWet 6 = .ok (.iadd, 1) := by decide +kernel
theorem dX12_isWet_7 : decode cX12_isWet 7 = .ok (.iload_n 2, 1) := by decide +kernel
theorem dX12_isWet_8 : decode cX12_isWet 8 = .ok (.iadd, 1) := by decide +kernel
theorem dX12_isWet_9 : decode cX12_isWet 9 = .ok (.iaload, 1) := by decide +kernel
theorem dX12_isWet_10 : decode cX12_isWet 10 = .ok (.ifCond .le 7, 3) := by decide +kernel
theorem dX12_isWet_13 : decode cX12_isWet 13 = .ok (.iconst 1, 1) := by decide +kernel
theorem dX12_isWet_14 : decode cX12_isWet 14 = .ok (.goto 4, 3) := by decide +kernel
theorem dX12_isWet_17 : decode cX12_isWet 17 = .ok (.iconst 0, 1) := by decide +kernel
theorem dX12_isWet_18 : decode cX12_isWet 18 = .ok (.ireturn, 1) := by decide +kernel
noncomputable def FX12_isWet (a0 : Nat) (p1 : Int32) (p2 : Int32) : PP Bool := bd (aI (rf a0 23) 966 ((p1 + (1 : Int32)) + p2)) (fun x1 => bd (if x1 ≤ 0 then pu (0 : Int32) else pu (1 : Int32) : PP (Int32)) (fun (v2 : Int32) => zb v2))
set_option maxHeartbeats 4000000 in
set_option maxRecDepth 100000 in
theorem SX12_isWet {l : Launch} {K : KK} {n : Nat} {hn : 270 ≤ n} (a0 : Nat) (p1 : Int32) (p2 : Int32) (h0 : ob a0 11) : CT l K n 0 mX12_isWet [.ref (K.2.1 + a0), .int p1, .int p2] enZ (FX12_isWet a0 p1 p2) := by
  refine CT.of2 (lv2 := [(0, .ref (K.2.1 + a0)), (1, .int p1), (2, .int p2)]) (by decide) rfl hn (Nat.le_of_ble_eq_true rfl) rfl (rp_id ?_)
  unfold FX12_isWet
  refine rp_aload_n 0 dX12_isWet_0 rfl ?_
  refine rp_getR fi_X12_113 h0 rfl dX12_isWet_1 ?_
  refine rp_iload_n 1 dX12_isWet_4 rfl ?_
  refine rp_iconst (1 : Int32) dX12_isWet_5 (by decide) ?_
  refine rp_iadd dX12_isWet_6 ?_
  refine rp_iload_n 2 dX12_isWet_7 rfl ?_
  refine rp_iadd dX12_isWet_8 ?_
  refine rp_iald (tX12_23 h0) dX12_isWet_9 (fun x1 => ?_)
  refine rp_as ?_
  refine rp_join 18 (fun (v2 : Int32) => []) (fun v2 => [.int v2]) (fun v2 => ?_) (fun hJ18 => ?_)
  · exact rp_zretb rfl dX12_isWet_18
  refine rp_if_le 17 dX12_isWet_10 (by decide) ?_ ?_
  · refine rp_iconst (0 : Int32) dX12_isWet_17 (by decide) ?_
    exact rp_sub [] rfl (rp_pu (hJ18 (0 : Int32)))
  · refine rp_iconst (1 : Int32) dX12_isWet_13 (by decide) ?_
    refine rp_goto 18 dX12_isWet_14 (by decide) ?_
    exact rp_sub [] rfl (rp_pu (hJ18 (1 : Int32)))

theorem dX12_freeOf_0 : decode cX12_freeOf 0 = .ok (.aload_n 0, 1) := by decide +kernel
theorem dX12_freeOf_1 : decode cX12_freeOf 1 = .ok (.iload_n 2, 1) := by decide +kernel
theorem dX12_freeOf_2 : decode cX12_freeOf 2 = .ok (.iconst 0, 1) := by decide +kernel
theorem dX12_freeOf_3 : decode cX12_freeOf 3 = .ok (.invokevirtual 291, 3) := by decide +kernel
theorem dX12_freeOf_6 : decode cX12_freeOf 6 = .ok (.istore_n 3, 1) := by decide +kernel
theorem dX12_freeOf_7 : decode cX12_freeOf 7 = .ok (.iconst 0, 1) := by decide +kernel
theorem dX12_freeOf_8 : decode cX12_freeOf 8 = .ok (.istore 4, 2) := by decide +kernel
theorem dX12_freeOf_10 : decode cX12_freeOf 10 = .ok (.iload 4, 2) := by decide +kernel
theorem dX12_freeOf_12 : decode cX12_freeOf 12 = .ok (.aload_n 0, 1) := by decide +kernel
theorem dX12_freeOf_13 : decode cX12_freeOf 13 = .ok (.invokevirtual 269, 3) := by decide +kernel
theorem dX12_freeOf_16 : decode cX12_freeOf 16 = .ok (.if_icmp .ge 44, 3) := by decide +kernel
theorem dX12_freeOf_19 : decode cX12_freeOf 19 = .ok (.iload_n 3, 1) := by decide +kernel
theorem dX12_freeOf_20 : decode cX12_freeOf 20 = .ok (.aload_n 0, 1) := by decide +kernel
theorem dX12_freeOf_21 : decode cX12_freeOf 21 = .ok (.getfield 113, 3) := by decide +kernel
theorem dX12_freeOf_24 : decode cX12_freeOf 24 = .ok (.iload_n 1, 1) := by decide +kernel
theorem dX12_freeOf_25 : decode cX12_freeOf 25 = .ok (.bipush 7, 2) := by decide +kernel
theorem dX12_freeOf_27 : decode cX12_freeOf 27 = .ok (.iadd, 1) := by decide +kernel
theorem dX12_freeOf_28 : decode cX12_freeOf 28 = .ok (.iload 4, 2) := by decide +kernel
theorem dX12_freeOf_30 : decode cX12_freeOf 30 = .ok (.iadd, 1) := by decide +kernel
theorem dX12_freeOf_31 : decode cX12_freeOf 31 = .ok (.iaload, 1) := by decide +kernel
theorem dX12_freeOf_32 : decode cX12_freeOf 32 = .ok (.iload_n 2, 1) := by decide +kernel
theorem dX12_freeOf_33 : decode cX12_freeOf 33 = .ok (.if_icmp .ne 18, 3) := by decide +kernel
theorem dX12_freeOf_36 : decode cX12_freeOf 36 = .ok (.aload_n 0, 1) := by decide +kernel
theorem dX12_freeOf_37 : decode cX12_freeOf 37 = .ok (.getfield 113, 3) := by decide +kernel
theorem dX12_freeOf_40 : decode cX12_freeOf 40 = .ok (.iload_n 1, 1) := by decide +kernel
theorem dX12_freeOf_41 : decode cX12_freeOf 41 = .ok (.bipush 13, 2) := by decide +kernel
theorem dX12_freeOf_43 : decode cX12_freeOf 43 = .ok (.iadd, 1) := by decide +kernel
theorem dX12_freeOf_44 : decode cX12_freeOf 44 = .ok (.iload 4, 2) := by decide +kernel
theorem dX12_freeOf_46 : decode cX12_freeOf 46 = .ok (.iadd, 1) := by decide +kernel
theorem dX12_freeOf_47 : decode cX12_freeOf 47 = .ok (.iaload, 1) := by decide +kernel
theorem dX12_freeOf_48 : decode cX12_freeOf 48 = .ok (.goto 4, 3) := by decide +kernel
theorem dX12_freeOf_51 : decode cX12_freeOf 51 = .ok (.iconst 0, 1) := by decide +kernel
theorem dX12_freeOf_52 : decode cX12_freeOf 52 = .ok (.isub, 1) := by decide +kernel
theorem dX12_freeOf_53 : decode cX12_freeOf 53 = .ok (.istore_n 3, 1) := by decide +kernel
theorem dX12_freeOf_54 : decode cX12_freeOf 54 = .ok (.iinc 4 1, 3) := by decide +kernel
theorem dX12_freeOf_57 : decode cX12_freeOf 57 = .ok (.goto (-47), 3) := by decide +kernel
theorem dX12_freeOf_60 : decode cX12_freeOf 60 = .ok (.iload_n 3, 1) := by decide +kernel
theorem dX12_freeOf_61 : decode cX12_freeOf 61 = .ok (.ireturn, 1) := by decide +kernel
noncomputable def FX12_freeOf (a0 : Nat) (p1 : Int32) (p2 : Int32) : PP Int32 := bd (FX12_lineOf a0 p2 (0 : Int32)) (fun x1 => bd (it (fun (s2 : Int32 × Int32) => (bd (FX12_cloths a0) (fun x3 => if x3 ≤ s2.2 then pu (Sum.inr s2.1) else bd (aI (rf a0 23) 966 ((p1 + (7 : Int32)) + s2.2)) (fun x4 => bd (if x4 = p2 then bd (aI (rf a0 23) 966 ((p1 + (13 : Int32)) + s2.2)) (fun x5 => pu x5) else pu (0 : Int32) : PP (Int32)) (fun (v6 : Int32) => lt (s2.1 - v6) (fun y7 => lt (s2.2 + (1 : Int32)) (fun y8 => pu (Sum.inl (y7, y8))))))) : PP ((Int32 × Int32) ⊕ (Int32)))) FU (x1, (0 : Int32))) (fun (v9 : Int32) => pu v9))
set_option maxHeartbeats 4000000 in
set_option maxRecDepth 100000 in
theorem SX12_freeOf {l : Launch} {K : KK} {n : Nat} {hn : 270 ≤ n} (a0 : Nat) (p1 : Int32) (p2 : Int32) (h0 : ob a0 11) : CT l K n 1 mX12_freeOf [.ref (K.2.1 + a0), .int p1, .int p2] enI (FX12_freeOf a0 p1 p2) := by
  refine CT.of2 (lv2 := [(0, .ref (K.2.1 + a0)), (1, .int p1), (2, .int p2)]) (by decide) rfl hn (Nat.le_of_ble_eq_true rfl) rfl (rp_id ?_)
  unfold FX12_freeOf
  refine rp_aload_n 0 dX12_freeOf_0 rfl ?_
  refine rp_iload_n 2 dX12_freeOf_1 rfl ?_
  refine rp_iconst (0 : Int32) dX12_freeOf_2 (by decide) ?_
  refine rp_callVi [.int p2, .int (0 : Int32)] (SX12_lineOf (hn := hn) a0 p2 (0 : Int32) h0) cvX12_lineOf (mw (i := 1555) (by decide +kernel)) (by omega) h0 (by decide) rfl rfl rfl (Nat.le_of_ble_eq_true rfl) dX12_freeOf_3 (fun x1 => ?_)
  refine rp_istore_n [(3, .int x1), (0, .ref (K.2.1 + a0)), (1, .int p1), (2, .int p2)] dX12_freeOf_6 (by decide) rfl ?_
  refine rp_iconst (0 : Int32) dX12_freeOf_7 (by decide) ?_
  refine rp_istore [(4, .int (0 : Int32)), (3, .int x1), (0, .ref (K.2.1 + a0)), (1, .int p1), (2, .int p2)] dX12_freeOf_8 (by decide) rfl ?_
  refine rp_as ?_
  refine rp_join 60 (fun v9 => [(3, .int v9)]) (fun _ => []) (fun v9 => ?_) (fun hX10_0 => ?_)
  · refine rp_iload_n 0 dX12_freeOf_60 rfl ?_
    exact rp_pu (rp_iret rfl dX12_freeOf_61)
  refine rp_sub [2, 3, 4, 1, 0] rfl (rp_it (fun (s2 : Int32 × Int32) => [(0, .ref (K.2.1 + a0)), (1, .int p1), (2, .int p2), (3, .int s2.1), (4, .int s2.2)]) (fun N10 ih10 s2 => ?_) FU (x1, (0 : Int32)))
  refine rp_iload 4 dX12_freeOf_10 rfl ?_
  refine rp_aload_n 0 dX12_freeOf_12 rfl ?_
  refine rp_callVi [] (SX12_cloths (hn := hn) a0 h0) cvX12_cloths (mw (i := 1306) (by decide +kernel)) (by omega) h0 (by decide) rfl rfl rfl (Nat.le_of_ble_eq_true rfl) dX12_freeOf_13 (fun x3 => ?_)
  refine rp_icmp_ge 60 dX12_freeOf_16 (by decide) ?_ ?_
  · exact rp_sub [3] rfl (rp_puR (hX10_0 s2.1))
  · refine rp_iload_n 3 dX12_freeOf_19 rfl ?_
    refine rp_aload_n 0 dX12_freeOf_20 rfl ?_
    refine rp_getR fi_X12_113 h0 rfl dX12_freeOf_21 ?_
    refine rp_iload_n 1 dX12_freeOf_24 rfl ?_
    refine rp_bipush (7 : Int32) dX12_freeOf_25 (by decide) ?_
    refine rp_iadd dX12_freeOf_27 ?_
    refine rp_iload 4 dX12_freeOf_28 rfl ?_
    refine rp_iadd dX12_freeOf_30 ?_
    refine rp_iald (tX12_23 h0) dX12_freeOf_31 (fun x4 => ?_)
    refine rp_iload_n 2 dX12_freeOf_32 rfl ?_
    refine rp_as ?_
    refine rp_join 52 (fun (v6 : Int32) => [(0, .ref (K.2.1 + a0)), (1, .int p1), (2, .int p2), (4, .int s2.2)]) (fun v6 => [.int v6, .int s2.1]) (fun v6 => ?_) (fun hJ52 => ?_)
    · refine rp_isub dX12_freeOf_52 ?_
      refine rp_lti (fun y7 => ?_)
      refine rp_istore_n [(3, .int y7), (0, .ref (K.2.1 + a0)), (1, .int p1), (2, .int p2), (4, .int s2.2)] dX12_freeOf_53 (by decide) rfl ?_
      refine rp_iinc (fun y8 => [(4, .int y8), (3, .int y7), (0, .ref (K.2.1 + a0)), (1, .int p1), (2, .int p2)]) 4 dX12_freeOf_54 rfl (by rfl) (by decide) (fun y8 => rfl) (fun y8 => ?_)
      refine rp_goto 10 dX12_freeOf_57 (by decide) ?_
      exact rp_sub [2, 3, 4, 1, 0] rfl (ih10 (y7, y8))
    refine rp_icmp_ne 51 dX12_freeOf_33 (by decide) ?_ ?_
    · refine rp_iconst (0 : Int32) dX12_freeOf_51 (by decide) ?_
      exact rp_sub [0, 1, 2, 4] rfl (rp_pu (hJ52 (0 : Int32)))
    · refine rp_aload_n 0 dX12_freeOf_36 rfl ?_
      refine rp_getR fi_X12_113 h0 rfl dX12_freeOf_37 ?_
      refine rp_iload_n 1 dX12_freeOf_40 rfl ?_
      refine rp_bipush (13 : Int32) dX12_freeOf_41 (by decide) ?_
      refine rp_iadd dX12_freeOf_43 ?_
      refine rp_iload 4 dX12_freeOf_44 rfl ?_
      refine rp_iadd dX12_freeOf_46 ?_
      refine rp_iald (tX12_23 h0) dX12_freeOf_47 (fun x5 => ?_)
      refine rp_goto 52 dX12_freeOf_48 (by decide) ?_
      exact rp_sub [0, 1, 2, 4] rfl (rp_pu (hJ52 x5))

theorem dX12_onLine_0 : decode cX12_onLine 0 = .ok (.iconst 0, 1) := by decide +kernel
theorem dX12_onLine_1 : decode cX12_onLine 1 = .ok (.istore_n 3, 1) := by decide +kernel
theorem dX12_onLine_2 : decode cX12_onLine 2 = .ok (.iconst 0, 1) := by decide +kernel
theorem dX12_onLine_3 : decode cX12_onLine 3 = .ok (.istore 4, 2) := by decide +kernel
theorem dX12_onLine_5 : decode cX12_onLine 5 = .ok (.iload 4, 2) := by decide +kernel
theorem dX12_onLine_7 : decode cX12_onLine 7 = .ok (.aload_n 0, 1) := by decide +kernel
theorem dX12_onLine_8 : decode cX12_onLine 8 = .ok (.invokevirtual 269, 3) := by decide +kernel
theorem dX12_onLine_11 : decode cX12_onLine 11 = .ok (.if_icmp .ge 36, 3) := by decide +kernel
theorem dX12_onLine_14 : decode cX12_onLine 14 = .ok (.iload_n 3, 1) := by decide +kernel
theorem dX12_onLine_15 : decode cX12_onLine 15 = .ok (.aload_n 0, 1) := by decide +kernel
theorem dX12_onLine_16 : decode cX12_onLine 16 = .ok (.getfield 113, 3) := by decide +kernel
theorem dX12_onLine_19 : decode cX12_onLine 19 = .ok (.iload_n 1, 1) := by decide +kernel
theorem dX12_onLine_20 : decode cX12_onLine 20 = .ok (.bipush 7, 2) := by decide +kernel
theorem dX12_onLine_22 : decode cX12_onLine 22 = .ok (.iadd, 1) := by decide +kernel
theorem dX12_onLine_23 : decode cX12_onLine 23 = .ok (.iload 4, 2) := by decide +kernel
theorem dX12_onLine_25 : decode cX12_onLine 25 = .ok (.iadd, 1) := by decide +kernel
theorem dX12_onLine_26 : decode cX12_onLine 26 = .ok (.iaload, 1) := by decide +kernel
theorem dX12_onLine_27 : decode cX12_onLine 27 = .ok (.iload_n 2, 1) := by decide +kernel
theorem dX12_onLine_28 : decode cX12_onLine 28 = .ok (.if_icmp .ne 10, 3) := by decide +kernel
theorem dX12_onLine_31 : decode cX12_onLine 31 = .ok (.iconst 1, 1) := by decide +kernel
theorem dX12_onLine_32 : decode cX12_onLine 32 = .ok (.iload 4, 2) := by decide +kernel
theorem dX12_onLine_34 : decode cX12_onLine 34 = .ok (.ishl, 1) := by decide +kernel
theorem dX12_onLine_35 : decode cX12_onLine 35 = .ok (.goto 4, 3) := by decide +kernel
theorem dX12_onLine_38 : decode cX12_onLine 38 = .ok (.iconst 0, 1) := by decide +kernel
theorem dX12_onLine_39 : decode cX12_onLine 39 = .ok (.ior, 1) := by decide +kernel
theorem dX12_onLine_40 : decode cX12_onLine 40 = .ok (.istore_n 3, 1) := by decide +kernel
theorem dX12_onLine_41 : decode cX12_onLine 41 = .ok (.iinc 4 1, 3) := by decide +kernel
theorem dX12_onLine_44 : decode cX12_onLine 44 = .ok (.goto (-39), 3) := by decide +kernel
theorem dX12_onLine_47 : decode cX12_onLine 47 = .ok (.iload_n 3, 1) := by decide +kernel
theorem dX12_onLine_48 : decode cX12_onLine 48 = .ok (.ireturn, 1) := by decide +kernel
noncomputable def FX12_onLine (a0 : Nat) (p1 : Int32) (p2 : Int32) : PP Int32 := bd (it (fun (s1 : Int32 × Int32) => (bd (FX12_cloths a0) (fun x2 => if x2 ≤ s1.2 then pu (Sum.inr s1.1) else bd (aI (rf a0 23) 966 ((p1 + (7 : Int32)) + s1.2)) (fun x3 => bd (if x3 = p2 then pu ((1 : Int32) <<< (s1.2 &&& 31)) else pu (0 : Int32) : PP (Int32)) (fun (v4 : Int32) => lt (s1.1 ||| v4) (fun y5 => lt (s1.2 + (1 : Int32)) (fun y6 => pu (Sum.inl (y5, y6))))))) : PP ((Int32 × Int32) ⊕ (Int32)))) FU ((0 : Int32), (0 : Int32))) (fun (v7 : Int32) => pu v7)
set_option maxHeartbeats 4000000 in
set_option maxRecDepth 100000 in
theorem SX12_onLine {l : Launch} {K : KK} {n : Nat} {hn : 270 ≤ n} (a0 : Nat) (p1 : Int32) (p2 : Int32) (h0 : ob a0 11) : CT l K n 1 mX12_onLine [.ref (K.2.1 + a0), .int p1, .int p2] enI (FX12_onLine a0 p1 p2) := by
  refine CT.of2 (lv2 := [(0, .ref (K.2.1 + a0)), (1, .int p1), (2, .int p2)]) (by decide) rfl hn (Nat.le_of_ble_eq_true rfl) rfl (rp_id ?_)
  unfold FX12_onLine
  refine rp_iconst (0 : Int32) dX12_onLine_0 (by decide) ?_
  refine rp_istore_n [(3, .int (0 : Int32)), (0, .ref (K.2.1 + a0)), (1, .int p1), (2, .int p2)] dX12_onLine_1 (by decide) rfl ?_
  refine rp_iconst (0 : Int32) dX12_onLine_2 (by decide) ?_
  refine rp_istore [(4, .int (0 : Int32)), (3, .int (0 : Int32)), (0, .ref (K.2.1 + a0)), (1, .int p1), (2, .int p2)] dX12_onLine_3 (by decide) rfl ?_
  refine rp_as ?_
  refine rp_join 47 (fun v7 => [(3, .int v7)]) (fun _ => []) (fun v7 => ?_) (fun hX5_0 => ?_)
  · refine rp_iload_n 0 dX12_onLine_47 rfl ?_
    exact rp_pu (rp_iret rfl dX12_onLine_48)
  refine rp_sub [2, 3, 4, 1, 0] rfl (rp_it (fun (s1 : Int32 × Int32) => [(0, .ref (K.2.1 + a0)), (1, .int p1), (2, .int p2), (3, .int s1.1), (4, .int s1.2)]) (fun N5 ih5 s1 => ?_) FU ((0 : Int32), (0 : Int32)))
  refine rp_iload 4 dX12_onLine_5 rfl ?_
  refine rp_aload_n 0 dX12_onLine_7 rfl ?_
  refine rp_callVi [] (SX12_cloths (hn := hn) a0 h0) cvX12_cloths (mw (i := 1306) (by decide +kernel)) (by omega) h0 (by decide) rfl rfl rfl (Nat.le_of_ble_eq_true rfl) dX12_onLine_8 (fun x2 => ?_)
  refine rp_icmp_ge 47 dX12_onLine_11 (by decide) ?_ ?_
  · exact rp_sub [3] rfl (rp_puR (hX5_0 s1.1))
  · refine rp_iload_n 3 dX12_onLine_14 rfl ?_
    refine rp_aload_n 0 dX12_onLine_15 rfl ?_
    refine rp_getR fi_X12_113 h0 rfl dX12_onLine_16 ?_
    refine rp_iload_n 1 dX12_onLine_19 rfl ?_
    refine rp_bipush (7 : Int32) dX12_onLine_20 (by decide) ?_
    refine rp_iadd dX12_onLine_22 ?_
    refine rp_iload 4 dX12_onLine_23 rfl ?_
    refine rp_iadd dX12_onLine_25 ?_
    refine rp_iald (tX12_23 h0) dX12_onLine_26 (fun x3 => ?_)
    refine rp_iload_n 2 dX12_onLine_27 rfl ?_
    refine rp_as ?_
    refine rp_join 39 (fun (v4 : Int32) => [(0, .ref (K.2.1 + a0)), (1, .int p1), (2, .int p2), (4, .int s1.2)]) (fun v4 => [.int v4, .int s1.1]) (fun v4 => ?_) (fun hJ39 => ?_)
    · refine rp_ior dX12_onLine_39 ?_
      refine rp_lti (fun y5 => ?_)
      refine rp_istore_n [(3, .int y5), (0, .ref (K.2.1 + a0)), (1, .int p1), (2, .int p2), (4, .int s1.2)] dX12_onLine_40 (by decide) rfl ?_
      refine rp_iinc (fun y6 => [(4, .int y6), (3, .int y5), (0, .ref (K.2.1 + a0)), (1, .int p1), (2, .int p2)]) 4 dX12_onLine_41 rfl (by rfl) (by decide) (fun y6 => rfl) (fun y6 => ?_)
      refine rp_goto 5 dX12_onLine_44 (by decide) ?_
      exact rp_sub [2, 3, 4, 1, 0] rfl (ih5 (y5, y6))
    refine rp_icmp_ne 38 dX12_onLine_28 (by decide) ?_ ?_
    · refine rp_iconst (0 : Int32) dX12_onLine_38 (by decide) ?_
      exact rp_sub [0, 1, 2, 4] rfl (rp_pu (hJ39 (0 : Int32)))
    · refine rp_iconst (1 : Int32) dX12_onLine_31 (by decide) ?_
      refine rp_iload 4 dX12_onLine_32 rfl ?_
      refine rp_ishl dX12_onLine_34 ?_
      refine rp_goto 39 dX12_onLine_35 (by decide) ?_
      exact rp_sub [0, 1, 2, 4] rfl (rp_pu (hJ39 ((1 : Int32) <<< (s1.2 &&& 31))))

theorem dX12_hanging_0 : decode cX12_hanging 0 = .ok (.iconst 0, 1) := by decide +kernel
theorem dX12_hanging_1 : decode cX12_hanging 1 = .ok (.istore_n 2, 1) := by decide +kernel
theorem dX12_hanging_2 : decode cX12_hanging 2 = .ok (.iconst 0, 1) := by decide +kernel
theorem dX12_hanging_3 : decode cX12_hanging 3 = .ok (.istore_n 3, 1) := by decide +kernel
theorem dX12_hanging_4 : decode cX12_hanging 4 = .ok (.iload_n 3, 1) := by decide +kernel
theorem dX12_hanging_5 : decode cX12_hanging 5 = .ok (.aload_n 0, 1) := by decide +kernel
theorem dX12_hanging_6 : decode cX12_hanging 6 = .ok (.invokevirtual 269, 3) := by decide +kernel
theorem dX12_hanging_9 : decode cX12_hanging 9 = .ok (.if_icmp .ge 28, 3) := by decide +kernel
theorem dX12_hanging_12 : decode cX12_hanging 12 = .ok (.iload_n 2, 1) := by decide +kernel
theorem dX12_hanging_13 : decode cX12_hanging 13 = .ok (.aload_n 0, 1) := by decide +kernel
theorem dX12_hanging_14 : decode cX12_hanging 14 = .ok (.iload_n 1, 1) := by decide +kernel
theorem dX12_hanging_15 : decode cX12_hanging 15 = .ok (.iload_n 3, 1) := by decide +kernel
theorem dX12_hanging_16 : decode cX12_hanging 16 = .ok (.invokevirtual 294, 3) := by decide +kernel
theorem dX12_hanging_19 : decode cX12_hanging 19 = .ok (.ifCond .eq 9, 3) := by decide +kernel
theorem dX12_hanging_22 : decode cX12_hanging 22 = .ok (.iconst 1, 1) := by decide +kernel
theorem dX12_hanging_23 : decode cX12_hanging 23 = .ok (.iload_n 3, 1) := by decide +kernel
theorem dX12_hanging_24 : decode cX12_hanging 24 = .ok (.ishl, 1) := by decide +kernel
theorem dX12_hanging_25 : decode cX12_hanging 25 = .ok (.goto 4, 3) := by decide +kernel
theorem dX12_hanging_28 : decode cX12_hanging 28 = .ok (.iconst 0, 1) := by decide +kernel
theorem dX12_hanging_29 : decode cX12_hanging 29 = .ok (.ior, 1) := by decide +kernel
theorem dX12_hanging_30 : decode cX12_hanging 30 = .ok (.istore_n 2, 1) := by decide +kernel
theorem dX12_hanging_31 : decode cX12_hanging 31 = .ok (.iinc 3 1, 3) := by decide +kernel
theorem dX12_hanging_34 : decode cX12_hanging 34 = .ok (.goto (-30), 3) := by decide +kernel
theorem dX12_hanging_37 : decode cX12_hanging 37 = .ok (.iload_n 2, 1) := by decide +kernel
theorem dX12_hanging_38 : decode cX12_hanging 38 = .ok (.ireturn, 1) := by decide +kernel
noncomputable def FX12_hanging (a0 : Nat) (p1 : Int32) : PP Int32 := bd (it (fun (s1 : Int32 × Int32) => (bd (FX12_cloths a0) (fun x2 => if x2 ≤ s1.2 then pu (Sum.inr s1.1) else bd (FX12_doesHang a0 p1 s1.2) (fun x3 => bd (if ((b2i x3)) = 0 then pu (0 : Int32) else pu ((1 : Int32) <<< (s1.2 &&& 31)) : PP (Int32)) (fun (v4 : Int32) => lt (s1.1 ||| v4) (fun y5 => lt (s1.2 + (1 : Int32)) (fun y6 => pu (Sum.inl (y5, y6))))))) : PP ((Int32 × Int32) ⊕ (Int32)))) FU ((0 : Int32), (0 : Int32))) (fun (v7 : Int32) => pu v7)
set_option maxHeartbeats 4000000 in
set_option maxRecDepth 100000 in
theorem SX12_hanging {l : Launch} {K : KK} {n : Nat} {hn : 270 ≤ n} (a0 : Nat) (p1 : Int32) (h0 : ob a0 11) : CT l K n 1 mX12_hanging [.ref (K.2.1 + a0), .int p1] enI (FX12_hanging a0 p1) := by
  refine CT.of2 (lv2 := [(0, .ref (K.2.1 + a0)), (1, .int p1)]) (by decide) rfl hn (Nat.le_of_ble_eq_true rfl) rfl (rp_id ?_)
  unfold FX12_hanging
  refine rp_iconst (0 : Int32) dX12_hanging_0 (by decide) ?_
  refine rp_istore_n [(2, .int (0 : Int32)), (0, .ref (K.2.1 + a0)), (1, .int p1)] dX12_hanging_1 (by decide) rfl ?_
  refine rp_iconst (0 : Int32) dX12_hanging_2 (by decide) ?_
  refine rp_istore_n [(3, .int (0 : Int32)), (2, .int (0 : Int32)), (0, .ref (K.2.1 + a0)), (1, .int p1)] dX12_hanging_3 (by decide) rfl ?_
  refine rp_as ?_
  refine rp_join 37 (fun v7 => [(2, .int v7)]) (fun _ => []) (fun v7 => ?_) (fun hX4_0 => ?_)
  · refine rp_iload_n 0 dX12_hanging_37 rfl ?_
    exact rp_pu (rp_iret rfl dX12_hanging_38)
  refine rp_sub [2, 3, 1, 0] rfl (rp_it (fun (s1 : Int32 × Int32) => [(0, .ref (K.2.1 + a0)), (1, .int p1), (2, .int s1.1), (3, .int s1.2)]) (fun N4 ih4 s1 => ?_) FU ((0 : Int32), (0 : Int32)))
  refine rp_iload_n 3 dX12_hanging_4 rfl ?_
  refine rp_aload_n 0 dX12_hanging_5 rfl ?_
  refine rp_callVi [] (SX12_cloths (hn := hn) a0 h0) cvX12_cloths (mw (i := 1306) (by decide +kernel)) (by omega) h0 (by decide) rfl rfl rfl (Nat.le_of_ble_eq_true rfl) dX12_hanging_6 (fun x2 => ?_)
  refine rp_icmp_ge 37 dX12_hanging_9 (by decide) ?_ ?_
  · exact rp_sub [2] rfl (rp_puR (hX4_0 s1.1))
  · refine rp_iload_n 2 dX12_hanging_12 rfl ?_
    refine rp_aload_n 0 dX12_hanging_13 rfl ?_
    refine rp_iload_n 1 dX12_hanging_14 rfl ?_
    refine rp_iload_n 3 dX12_hanging_15 rfl ?_
    refine rp_callVz [.int p1, .int s1.2] (SX12_doesHang (hn := hn) a0 p1 s1.2 h0) cvX12_doesHang (mw (i := 1599) (by decide +kernel)) (by omega) h0 (by decide) rfl rfl rfl (Nat.le_of_ble_eq_true rfl) dX12_hanging_16 (fun x3 => ?_)
    refine rp_as ?_
    refine rp_join 29 (fun (v4 : Int32) => [(0, .ref (K.2.1 + a0)), (1, .int p1), (3, .int s1.2)]) (fun v4 => [.int v4, .int s1.1]) (fun v4 => ?_) (fun hJ29 => ?_)
    · refine rp_ior dX12_hanging_29 ?_
      refine rp_lti (fun y5 => ?_)
      refine rp_istore_n [(2, .int y5), (0, .ref (K.2.1 + a0)), (1, .int p1), (3, .int s1.2)] dX12_hanging_30 (by decide) rfl ?_
      refine rp_iinc (fun y6 => [(3, .int y6), (2, .int y5), (0, .ref (K.2.1 + a0)), (1, .int p1)]) 3 dX12_hanging_31 rfl (by rfl) (by decide) (fun y6 => rfl) (fun y6 => ?_)
      refine rp_goto 4 dX12_hanging_34 (by decide) ?_
      exact rp_sub [2, 3, 1, 0] rfl (ih4 (y5, y6))
    refine rp_if_eq 28 dX12_hanging_19 (by decide) ?_ ?_
    · refine rp_iconst (0 : Int32) dX12_hanging_28 (by decide) ?_
      exact rp_sub [0, 1, 3] rfl (rp_pu (hJ29 (0 : Int32)))
    · refine rp_iconst (1 : Int32) dX12_hanging_22 (by decide) ?_
      refine rp_iload_n 3 dX12_hanging_23 rfl ?_
      refine rp_ishl dX12_hanging_24 ?_
      refine rp_goto 29 dX12_hanging_25 (by decide) ?_
      exact rp_sub [0, 1, 3] rfl (rp_pu (hJ29 ((1 : Int32) <<< (s1.2 &&& 31))))

theorem dX12_bits_0 : decode cX12_bits 0 = .ok (.iconst 0, 1) := by decide +kernel
theorem dX12_bits_1 : decode cX12_bits 1 = .ok (.istore_n 1, 1) := by decide +kernel
theorem dX12_bits_2 : decode cX12_bits 2 = .ok (.iconst 0, 1) := by decide +kernel
theorem dX12_bits_3 : decode cX12_bits 3 = .ok (.istore_n 2, 1) := by decide +kernel
theorem dX12_bits_4 : decode cX12_bits 4 = .ok (.iload_n 2, 1) := by decide +kernel
theorem dX12_bits_5 : decode cX12_bits 5 = .ok (.bipush 30, 2) := by decide +kernel
theorem dX12_bits_7 : decode cX12_bits 7 = .ok (.if_icmp .ge 17, 3) := by decide +kernel
theorem dX12_bits_10 : decode cX12_bits 10 = .ok (.iload_n 1, 1) := by decide +kernel
theorem dX12_bits_11 : decode cX12_bits 11 = .ok (.iload_n 0, 1) := by decide +kernel
theorem dX12_bits_12 : decode cX12_bits 12 = .ok (.iload_n 2, 1) := by decide +kernel
theorem dX12_bits_13 : decode cX12_bits 13 = .ok (.ishr, 1) := by decide +kernel
theorem dX12_bits_14 : decode cX12_bits 14 = .ok (.iconst 1, 1) := by decide +kernel
theorem dX12_bits_15 : decode cX12_bits 15 = .ok (.iand, 1) := by decide +kernel
theorem dX12_bits_16 : decode cX12_bits 16 = .ok (.iadd, 1) := by decide +kernel
theorem dX12_bits_17 : decode cX12_bits 17 = .ok (.istore_n 1, 1) := by decide +kernel
theorem dX12_bits_18 : decode cX12_bits 18 = .ok (.iinc 2 1, 3) := by decide +kernel
theorem dX12_bits_21 : decode cX12_bits 21 = .ok (.goto (-17), 3) := by decide +kernel
theorem dX12_bits_24 : decode cX12_bits 24 = .ok (.iload_n 1, 1) := by decide +kernel
theorem dX12_bits_25 : decode cX12_bits 25 = .ok (.ireturn, 1) := by decide +kernel
noncomputable def FX12_bits (p1 : Int32) : PP Int32 := bd (it (fun (s1 : Int32 × Int32) => (if (30 : Int32) ≤ s1.2 then pu (Sum.inr s1.1) else lt (s1.1 + ((p1 >>> (s1.2 &&& 31)) &&& (1 : Int32))) (fun y2 => lt (s1.2 + (1 : Int32)) (fun y3 => pu (Sum.inl (y2, y3)))) : PP ((Int32 × Int32) ⊕ (Int32)))) FU ((0 : Int32), (0 : Int32))) (fun (v4 : Int32) => pu v4)
set_option maxHeartbeats 4000000 in
set_option maxRecDepth 100000 in
theorem SX12_bits {l : Launch} {K : KK} {n : Nat} {hn : 270 ≤ n} (p1 : Int32) : CT l K n 0 mX12_bits [.int p1] enI (FX12_bits p1) := by
  refine CT.of2 (lv2 := [(0, .int p1)]) (by decide) rfl hn (Nat.le_of_ble_eq_true rfl) rfl (rp_id ?_)
  unfold FX12_bits
  refine rp_iconst (0 : Int32) dX12_bits_0 (by decide) ?_
  refine rp_istore_n [(1, .int (0 : Int32)), (0, .int p1)] dX12_bits_1 (by decide) rfl ?_
  refine rp_iconst (0 : Int32) dX12_bits_2 (by decide) ?_
  refine rp_istore_n [(2, .int (0 : Int32)), (1, .int (0 : Int32)), (0, .int p1)] dX12_bits_3 (by decide) rfl ?_
  refine rp_as ?_
  refine rp_join 24 (fun v4 => [(1, .int v4)]) (fun _ => []) (fun v4 => ?_) (fun hX4_0 => ?_)
  · refine rp_iload_n 0 dX12_bits_24 rfl ?_
    exact rp_pu (rp_iret rfl dX12_bits_25)
  refine rp_sub [2, 1, 0] rfl (rp_it (fun (s1 : Int32 × Int32) => [(0, .int p1), (1, .int s1.1), (2, .int s1.2)]) (fun N4 ih4 s1 => ?_) FU ((0 : Int32), (0 : Int32)))
  refine rp_iload_n 2 dX12_bits_4 rfl ?_
  refine rp_bipush (30 : Int32) dX12_bits_5 (by decide) ?_
  refine rp_icmp_ge 24 dX12_bits_7 (by decide) ?_ ?_
  · exact rp_sub [1] rfl (rp_puR (hX4_0 s1.1))
  · refine rp_iload_n 1 dX12_bits_10 rfl ?_
    refine rp_iload_n 0 dX12_bits_11 rfl ?_
    refine rp_iload_n 2 dX12_bits_12 rfl ?_
    refine rp_ishr dX12_bits_13 ?_
    refine rp_iconst (1 : Int32) dX12_bits_14 (by decide) ?_
    refine rp_iand dX12_bits_15 ?_
    refine rp_iadd dX12_bits_16 ?_
    refine rp_lti (fun y2 => ?_)
    refine rp_istore_n [(1, .int y2), (0, .int p1), (2, .int s1.2)] dX12_bits_17 (by decide) rfl ?_
    refine rp_iinc (fun y3 => [(2, .int y3), (1, .int y2), (0, .int p1)]) 2 dX12_bits_18 rfl (by rfl) (by decide) (fun y3 => rfl) (fun y3 => ?_)
    refine rp_goto 4 dX12_bits_21 (by decide) ?_
    exact rp_sub [2, 1, 0] rfl (ih4 (y2, y3))

theorem dX12_isAbove_0 : decode cX12_isAbove 0 = .ok (.aload_n 0, 1) := by decide +kernel
theorem dX12_isAbove_1 : decode cX12_isAbove 1 = .ok (.iload_n 1, 1) := by decide +kernel
theorem dX12_isAbove_2 : decode cX12_isAbove 2 = .ok (.iload_n 3, 1) := by decide +kernel
theorem dX12_isAbove_3 : decode cX12_isAbove 3 = .ok (.invokevirtual 294, 3) := by decide +kernel
theorem dX12_isAbove_6 : decode cX12_isAbove 6 = .ok (.ifCond .eq 34, 3) := by decide +kernel
theorem dX12_isAbove_9 : decode cX12_isAbove 9 = .ok (.aload_n 0, 1) := by decide +kernel
theorem dX12_isAbove_10 : decode cX12_isAbove 10 = .ok (.getfield 83, 3) := by decide +kernel
theorem dX12_isAbove_13 : decode cX12_isAbove 13 = .ok (.bipush 14, 2) := by decide +kernel
theorem dX12_isAbove_15 : decode cX12_isAbove 15 = .ok (.iload_n 2, 1) := by decide +kernel
theorem dX12_isAbove_16 : decode cX12_isAbove 16 = .ok (.iadd, 1) := by decide +kernel
theorem dX12_isAbove_17 : decode cX12_isAbove 17 = .ok (.iaload, 1) := by decide +kernel
theorem dX12_isAbove_18 : decode cX12_isAbove 18 = .ok (.aload_n 0, 1) := by decide +kernel
theorem dX12_isAbove_19 : decode cX12_isAbove 19 = .ok (.getfield 113, 3) := by decide +kernel
theorem dX12_isAbove_22 : decode cX12_isAbove 22 = .ok (.iload_n 1, 1) := by decide +kernel
theorem dX12_isAbove_23 : decode cX12_isAbove 23 = .ok (.bipush 7, 2) := by decide +kernel
theorem dX12_isAbove_25 : decode cX12_isAbove 25 = .ok (.iadd, 1) := by decide +kernel
theorem dX12_isAbove_26 : decode cX12_isAbove 26 = .ok (.iload_n 3, 1) := by decide +kernel
theorem dX12_isAbove_27 : decode cX12_isAbove 27 = .ok (.iadd, 1) := by decide +kernel
theorem dX12_isAbove_28 : decode cX12_isAbove 28 = .ok (.iaload, 1) := by decide +kernel
theorem dX12_isAbove_29 : decode cX12_isAbove 29 = .ok (.ishr, 1) := by decide +kernel
theorem dX12_isAbove_30 : decode cX12_isAbove 30 = .ok (.iconst 1, 1) := by decide +kernel
theorem dX12_isAbove_31 : decode cX12_isAbove 31 = .ok (.iand, 1) := by decide +kernel
theorem dX12_isAbove_32 : decode cX12_isAbove 32 = .ok (.iconst 1, 1) := by decide +kernel
theorem dX12_isAbove_33 : decode cX12_isAbove 33 = .ok (.if_icmp .ne 7, 3) := by decide +kernel
theorem dX12_isAbove_36 : decode cX12_isAbove 36 = .ok (.iconst 1, 1) := by decide +kernel
theorem dX12_isAbove_37 : decode cX12_isAbove 37 = .ok (.goto 4, 3) := by decide +kernel
theorem dX12_isAbove_40 : decode cX12_isAbove 40 = .ok (.iconst 0, 1) := by decide +kernel
theorem dX12_isAbove_41 : decode cX12_isAbove 41 = .ok (.ireturn, 1) := by decide +kernel
noncomputable def FX12_isAbove (a0 : Nat) (p1 : Int32) (p2 : Int32) (p3 : Int32) : PP Bool := bd (FX12_doesHang a0 p1 p3) (fun x1 => bd (if ((b2i x1)) = 0 then pu (0 : Int32) else bd (aI (rf a0 10) 80 ((14 : Int32) + p2)) (fun x2 => bd (aI (rf a0 23) 966 ((p1 + (7 : Int32)) + p3)) (fun x3 => if ((x2 >>> (x3 &&& 31)) &&& (1 : Int32)) = (1 : Int32) then pu (1 : Int32) else pu (0 : Int32))) : PP (Int32)) (fun (v4 : Int32) => zb v4))
set_option maxHeartbeats 4000000 in
set_option maxRecDepth 100000 in
theorem SX12_isAbove {l : Launch} {K : KK} {n : Nat} {hn : 270 ≤ n} (a0 : Nat) (p1 : Int32) (p2 : Int32) (p3 : Int32) (h0 : ob a0 11) : CT l K n 1 mX12_isAbove [.ref (K.2.1 + a0), .int p1, .int p2, .int p3] enZ (FX12_isAbove a0 p1 p2 p3) := by
  refine CT.of2 (lv2 := [(0, .ref (K.2.1 + a0)), (1, .int p1), (2, .int p2), (3, .int p3)]) (by decide) rfl hn (Nat.le_of_ble_eq_true rfl) rfl (rp_id ?_)
  unfold FX12_isAbove
  refine rp_aload_n 0 dX12_isAbove_0 rfl ?_
  refine rp_iload_n 1 dX12_isAbove_1 rfl ?_
  refine rp_iload_n 3 dX12_isAbove_2 rfl ?_
  refine rp_callVz [.int p1, .int p3] (SX12_doesHang (hn := hn) a0 p1 p3 h0) cvX12_doesHang (mw (i := 1599) (by decide +kernel)) (by omega) h0 (by decide) rfl rfl rfl (Nat.le_of_ble_eq_true rfl) dX12_isAbove_3 (fun x1 => ?_)
  refine rp_as ?_
  refine rp_join 41 (fun (v4 : Int32) => []) (fun v4 => [.int v4]) (fun v4 => ?_) (fun hJ41 => ?_)
  · exact rp_zretb rfl dX12_isAbove_41
  refine rp_if_eq 40 dX12_isAbove_6 (by decide) ?_ ?_
  · refine rp_iconst (0 : Int32) dX12_isAbove_40 (by decide) ?_
    exact rp_sub [] rfl (rp_pu (hJ41 (0 : Int32)))
  · refine rp_aload_n 0 dX12_isAbove_9 rfl ?_
    refine rp_getR fi_X12_83 h0 rfl dX12_isAbove_10 ?_
    refine rp_bipush (14 : Int32) dX12_isAbove_13 (by decide) ?_
    refine rp_iload_n 2 dX12_isAbove_15 rfl ?_
    refine rp_iadd dX12_isAbove_16 ?_
    refine rp_iald (tX12_10 h0) dX12_isAbove_17 (fun x2 => ?_)
    refine rp_aload_n 0 dX12_isAbove_18 rfl ?_
    refine rp_getR fi_X12_113 h0 rfl dX12_isAbove_19 ?_
    refine rp_iload_n 1 dX12_isAbove_22 rfl ?_
    refine rp_bipush (7 : Int32) dX12_isAbove_23 (by decide) ?_
    refine rp_iadd dX12_isAbove_25 ?_
    refine rp_iload_n 3 dX12_isAbove_26 rfl ?_
    refine rp_iadd dX12_isAbove_27 ?_
    refine rp_iald (tX12_23 h0) dX12_isAbove_28 (fun x3 => ?_)
    refine rp_ishr dX12_isAbove_29 ?_
    refine rp_iconst (1 : Int32) dX12_isAbove_30 (by decide) ?_
    refine rp_iand dX12_isAbove_31 ?_
    refine rp_iconst (1 : Int32) dX12_isAbove_32 (by decide) ?_
    refine rp_icmp_ne 40 dX12_isAbove_33 (by decide) ?_ ?_
    · refine rp_iconst (0 : Int32) dX12_isAbove_40 (by decide) ?_
      exact rp_sub [] rfl (rp_pu (hJ41 (0 : Int32)))
    · refine rp_iconst (1 : Int32) dX12_isAbove_36 (by decide) ?_
      refine rp_goto 41 dX12_isAbove_37 (by decide) ?_
      exact rp_sub [] rfl (rp_pu (hJ41 (1 : Int32)))

theorem dX12_howMany_0 : decode cX12_howMany 0 = .ok (.iconst 0, 1) := by decide +kernel
theorem dX12_howMany_1 : decode cX12_howMany 1 = .ok (.istore 4, 2) := by decide +kernel
theorem dX12_howMany_3 : decode cX12_howMany 3 = .ok (.iconst 0, 1) := by decide +kernel
theorem dX12_howMany_4 : decode cX12_howMany 4 = .ok (.istore 5, 2) := by decide +kernel
theorem dX12_howMany_6 : decode cX12_howMany 6 = .ok (.iload 5, 2) := by decide +kernel
theorem dX12_howMany_8 : decode cX12_howMany 8 = .ok (.aload_n 0, 1) := by decide +kernel
theorem dX12_howMany_9 : decode cX12_howMany 9 = .ok (.invokevirtual 269, 3) := by decide +kernel
theorem dX12_howMany_12 : decode cX12_howMany 12 = .ok (.if_icmp .ge 51, 3) := by decide +kernel
theorem dX12_howMany_15 : decode cX12_howMany 15 = .ok (.iload 4, 2) := by decide +kernel
theorem dX12_howMany_17 : decode cX12_howMany 17 = .ok (.aload_n 0, 1) := by decide +kernel
theorem dX12_howMany_18 : decode cX12_howMany 18 = .ok (.iload_n 1, 1) := by decide +kernel
theorem dX12_howMany_19 : decode cX12_howMany 19 = .ok (.iload_n 2, 1) := by decide +kernel
theorem dX12_howMany_20 : decode cX12_howMany 20 = .ok (.iload 5, 2) := by decide +kernel
theorem dX12_howMany_22 : decode cX12_howMany 22 = .ok (.invokevirtual 298, 3) := by decide +kernel
theorem dX12_howMany_25 : decode cX12_howMany 25 = .ok (.ifCond .eq 28, 3) := by decide +kernel
theorem dX12_howMany_28 : decode cX12_howMany 28 = .ok (.aload_n 0, 1) := by decide +kernel
theorem dX12_howMany_29 : decode cX12_howMany 29 = .ok (.iload_n 1, 1) := by decide +kernel
theorem dX12_howMany_30 : decode cX12_howMany 30 = .ok (.iload 5, 2) := by decide +kernel
theorem dX12_howMany_32 : decode cX12_howMany 32 = .ok (.invokevirtual 301, 3) := by decide +kernel
theorem dX12_howMany_35 : decode cX12_howMany 35 = .ok (.ifCond .eq 18, 3) := by decide +kernel
theorem dX12_howMany_38 : decode cX12_howMany 38 = .ok (.aload_n 0, 1) := by decide +kernel
theorem dX12_howMany_39 : decode cX12_howMany 39 = .ok (.iload 5, 2) := by decide +kernel
theorem dX12_howMany_41 : decode cX12_howMany 41 = .ok (.iconst 0, 1) := by decide +kernel
theorem dX12_howMany_42 : decode cX12_howMany 42 = .ok (.invokevirtual 273, 3) := by decide +kernel
theorem dX12_howMany_45 : decode cX12_howMany 45 = .ok (.iload_n 3, 1) := by decide +kernel
theorem dX12_howMany_46 : decode cX12_howMany 46 = .ok (.if_icmp .ne 7, 3) := by decide +kernel
theorem dX12_howMany_49 : decode cX12_howMany 49 = .ok (.iconst 1, 1) := by decide +kernel
theorem dX12_howMany_50 : decode cX12_howMany 50 = .ok (.goto 4, 3) := by decide +kernel
theorem dX12_howMany_53 : decode cX12_howMany 53 = .ok (.iconst 0, 1) := by decide +kernel
theorem dX12_howMany_54 : decode cX12_howMany 54 = .ok (.iadd, 1) := by decide +kernel
theorem dX12_howMany_55 : decode cX12_howMany 55 = .ok (.istore 4, 2) := by decide +kernel
theorem dX12_howMany_57 : decode cX12_howMany 57 = .ok (.iinc 5 1, 3) := by decide +kernel
theorem dX12_howMany_60 : decode cX12_howMany 60 = .ok (.goto (-54), 3) := by decide +kernel
theorem dX12_howMany_63 : decode cX12_howMany 63 = .ok (.iload 4, 2) := by decide +kernel
theorem dX12_howMany_65 : decode cX12_howMany 65 = .ok (.ireturn, 1) := by decide +kernel
noncomputable def FX12_howMany (a0 : Nat) (p1 : Int32) (p2 : Int32) (p3 : Int32) : PP Int32 := bd (it (fun (s1 : Int32 × Int32) => (bd (FX12_cloths a0) (fun x2 => if x2 ≤ s1.2 then pu (Sum.inr s1.1) else bd (FX12_isAbove a0 p1 p2 s1.2) (fun x3 => bd (if ((b2i x3)) = 0 then pu (0 : Int32) else bd (FX12_isWet a0 p1 s1.2) (fun x4 => if ((b2i x4)) = 0 then pu (0 : Int32) else bd (FX12_clothOf a0 s1.2 (0 : Int32)) (fun x5 => if x5 = p3 then pu (1 : Int32) else pu (0 : Int32))) : PP (Int32)) (fun (v6 : Int32) => lt (s1.1 + v6) (fun y7 => lt (s1.2 + (1 : Int32)) (fun y8 => pu (Sum.inl (y7, y8))))))) : PP ((Int32 × Int32) ⊕ (Int32)))) FU ((0 : Int32), (0 : Int32))) (fun (v9 : Int32) => pu v9)
set_option maxHeartbeats 4000000 in
set_option maxRecDepth 100000 in
theorem SX12_howMany {l : Launch} {K : KK} {n : Nat} {hn : 270 ≤ n} (a0 : Nat) (p1 : Int32) (p2 : Int32) (p3 : Int32) (h0 : ob a0 11) : CT l K n 2 mX12_howMany [.ref (K.2.1 + a0), .int p1, .int p2, .int p3] enI (FX12_howMany a0 p1 p2 p3) := by
  refine CT.of2 (lv2 := [(0, .ref (K.2.1 + a0)), (1, .int p1), (2, .int p2), (3, .int p3)]) (by decide) rfl hn (Nat.le_of_ble_eq_true rfl) rfl (rp_id ?_)
  unfold FX12_howMany
  refine rp_iconst (0 : Int32) dX12_howMany_0 (by decide) ?_
  refine rp_istore [(4, .int (0 : Int32)), (0, .ref (K.2.1 + a0)), (1, .int p1), (2, .int p2), (3, .int p3)] dX12_howMany_1 (by decide) rfl ?_
  refine rp_iconst (0 : Int32) dX12_howMany_3 (by decide) ?_
  refine rp_istore [(5, .int (0 : Int32)), (4, .int (0 : Int32)), (0, .ref (K.2.1 + a0)), (1, .int p1), (2, .int p2), (3, .int p3)] dX12_howMany_4 (by decide) rfl ?_
  refine rp_as ?_
  refine rp_join 63 (fun v9 => [(4, .int v9)]) (fun _ => []) (fun v9 => ?_) (fun hX6_0 => ?_)
  · refine rp_iload 0 dX12_howMany_63 rfl ?_
    exact rp_pu (rp_iret rfl dX12_howMany_65)
  refine rp_sub [2, 3, 4, 5, 1, 0] rfl (rp_it (fun (s1 : Int32 × Int32) => [(0, .ref (K.2.1 + a0)), (1, .int p1), (2, .int p2), (3, .int p3), (4, .int s1.1), (5, .int s1.2)]) (fun N6 ih6 s1 => ?_) FU ((0 : Int32), (0 : Int32)))
  refine rp_iload 5 dX12_howMany_6 rfl ?_
  refine rp_aload_n 0 dX12_howMany_8 rfl ?_
  refine rp_callVi [] (SX12_cloths (hn := hn) a0 h0) cvX12_cloths (mw (i := 1306) (by decide +kernel)) (by omega) h0 (by decide) rfl rfl rfl (Nat.le_of_ble_eq_true rfl) dX12_howMany_9 (fun x2 => ?_)
  refine rp_icmp_ge 63 dX12_howMany_12 (by decide) ?_ ?_
  · exact rp_sub [4] rfl (rp_puR (hX6_0 s1.1))
  · refine rp_iload 4 dX12_howMany_15 rfl ?_
    refine rp_aload_n 0 dX12_howMany_17 rfl ?_
    refine rp_iload_n 1 dX12_howMany_18 rfl ?_
    refine rp_iload_n 2 dX12_howMany_19 rfl ?_
    refine rp_iload 5 dX12_howMany_20 rfl ?_
    refine rp_callVz [.int p1, .int p2, .int s1.2] (SX12_isAbove (hn := hn) a0 p1 p2 s1.2 h0) cvX12_isAbove (mw (i := 1595) (by decide +kernel)) (by omega) h0 (by decide) rfl rfl rfl (Nat.le_of_ble_eq_true rfl) dX12_howMany_22 (fun x3 => ?_)
    refine rp_as ?_
    refine rp_join 54 (fun (v6 : Int32) => [(0, .ref (K.2.1 + a0)), (1, .int p1), (2, .int p2), (3, .int p3), (5, .int s1.2)]) (fun v6 => [.int v6, .int s1.1]) (fun v6 => ?_) (fun hJ54 => ?_)
    · refine rp_iadd dX12_howMany_54 ?_
      refine rp_lti (fun y7 => ?_)
      refine rp_istore [(4, .int y7), (0, .ref (K.2.1 + a0)), (1, .int p1), (2, .int p2), (3, .int p3), (5, .int s1.2)] dX12_howMany_55 (by decide) rfl ?_
      refine rp_iinc (fun y8 => [(5, .int y8), (4, .int y7), (0, .ref (K.2.1 + a0)), (1, .int p1), (2, .int p2), (3, .int p3)]) 5 dX12_howMany_57 rfl (by rfl) (by decide) (fun y8 => rfl) (fun y8 => ?_)
      refine rp_goto 6 dX12_howMany_60 (by decide) ?_
      exact rp_sub [2, 3, 4, 5, 1, 0] rfl (ih6 (y7, y8))
    refine rp_if_eq 53 dX12_howMany_25 (by decide) ?_ ?_
    · refine rp_iconst (0 : Int32) dX12_howMany_53 (by decide) ?_
      exact rp_sub [0, 1, 2, 3, 5] rfl (rp_pu (hJ54 (0 : Int32)))
    · refine rp_aload_n 0 dX12_howMany_28 rfl ?_
      refine rp_iload_n 1 dX12_howMany_29 rfl ?_
      refine rp_iload 5 dX12_howMany_30 rfl ?_
      refine rp_callVz [.int p1, .int s1.2] (SX12_isWet (hn := hn) a0 p1 s1.2 h0) cvX12_isWet (mw (i := 1603) (by decide +kernel)) (by omega) h0 (by decide) rfl rfl rfl (Nat.le_of_ble_eq_true rfl) dX12_howMany_32 (fun x4 => ?_)
      refine rp_if_eq 53 dX12_howMany_35 (by decide) ?_ ?_
      · refine rp_iconst (0 : Int32) dX12_howMany_53 (by decide) ?_
        exact rp_sub [0, 1, 2, 3, 5] rfl (rp_pu (hJ54 (0 : Int32)))
      · refine rp_aload_n 0 dX12_howMany_38 rfl ?_
        refine rp_iload 5 dX12_howMany_39 rfl ?_
        refine rp_iconst (0 : Int32) dX12_howMany_41 (by decide) ?_
        refine rp_callVi [.int s1.2, .int (0 : Int32)] (SX12_clothOf (hn := hn) a0 s1.2 (0 : Int32) h0) cvX12_clothOf (mw (i := 1310) (by decide +kernel)) (by omega) h0 (by decide) rfl rfl rfl (Nat.le_of_ble_eq_true rfl) dX12_howMany_42 (fun x5 => ?_)
        refine rp_iload_n 3 dX12_howMany_45 rfl ?_
        refine rp_icmp_ne 53 dX12_howMany_46 (by decide) ?_ ?_
        · refine rp_iconst (0 : Int32) dX12_howMany_53 (by decide) ?_
          exact rp_sub [0, 1, 2, 3, 5] rfl (rp_pu (hJ54 (0 : Int32)))
        · refine rp_iconst (1 : Int32) dX12_howMany_49 (by decide) ?_
          refine rp_goto 54 dX12_howMany_50 (by decide) ?_
          exact rp_sub [0, 1, 2, 3, 5] rfl (rp_pu (hJ54 (1 : Int32)))

theorem dX12_weatherOf_0 : decode cX12_weatherOf 0 = .ok (.iconst (-1), 1) := by decide +kernel
theorem dX12_weatherOf_1 : decode cX12_weatherOf 1 = .ok (.istore_n 3, 1) := by decide +kernel
theorem dX12_weatherOf_2 : decode cX12_weatherOf 2 = .ok (.iconst 0, 1) := by decide +kernel
theorem dX12_weatherOf_3 : decode cX12_weatherOf 3 = .ok (.istore 4, 2) := by decide +kernel
theorem dX12_weatherOf_5 : decode cX12_weatherOf 5 = .ok (.iconst 0, 1) := by decide +kernel
theorem dX12_weatherOf_6 : decode cX12_weatherOf 6 = .ok (.istore 5, 2) := by decide +kernel
theorem dX12_weatherOf_8 : decode cX12_weatherOf 8 = .ok (.iload 5, 2) := by decide +kernel
theorem dX12_weatherOf_10 : decode cX12_weatherOf 10 = .ok (.iconst 4, 1) := by decide +kernel
theorem dX12_weatherOf_11 : decode cX12_weatherOf 11 = .ok (.if_icmp .ge 81, 3) := by decide +kernel
theorem dX12_weatherOf_14 : decode cX12_weatherOf 14 = .ok (.iload 5, 2) := by decide +kernel
theorem dX12_weatherOf_16 : decode cX12_weatherOf 16 = .ok (.ifCond .ne 7, 3) := by decide +kernel
theorem dX12_weatherOf_19 : decode cX12_weatherOf 19 = .ok (.iconst 2, 1) := by decide +kernel
theorem dX12_weatherOf_20 : decode cX12_weatherOf 20 = .ok (.goto 24, 3) := by decide +kernel
theorem dX12_weatherOf_23 : decode cX12_weatherOf 23 = .ok (.iload 5, 2) := by decide +kernel
theorem dX12_weatherOf_25 : decode cX12_weatherOf 25 = .ok (.iconst 1, 1) := by decide +kernel
theorem dX12_weatherOf_26 : decode cX12_weatherOf 26 = .ok (.if_icmp .ne 7, 3) := by decide +kernel
theorem dX12_weatherOf_29 : decode cX12_weatherOf 29 = .ok (.iconst 3, 1) := by decide +kernel
theorem dX12_weatherOf_30 : decode cX12_weatherOf 30 = .ok (.goto 14, 3) := by decide +kernel
theorem dX12_weatherOf_33 : decode cX12_weatherOf 33 = .ok (.iload 5, 2) := by decide +kernel
theorem dX12_weatherOf_35 : decode cX12_weatherOf 35 = .ok (.iconst 2, 1) := by decide +kernel
theorem dX12_weatherOf_36 : decode cX12_weatherOf 36 = .ok (.if_icmp .ne 7, 3) := by decide +kernel
theorem dX12_weatherOf_39 : decode cX12_weatherOf 39 = .ok (.iconst 0, 1) := by decide +kernel
theorem dX12_weatherOf_40 : decode cX12_weatherOf 40 = .ok (.goto 4, 3) := by decide +kernel
theorem dX12_weatherOf_43 : decode cX12_weatherOf 43 = .ok (.iconst 1, 1) := by decide +kernel
theorem dX12_weatherOf_44 : decode cX12_weatherOf 44 = .ok (.istore 6, 2) := by decide +kernel
theorem dX12_weatherOf_46 : decode cX12_weatherOf 46 = .ok (.aload_n 0, 1) := by decide +kernel
theorem dX12_weatherOf_47 : decode cX12_weatherOf 47 = .ok (.iload_n 1, 1) := by decide +kernel
theorem dX12_weatherOf_48 : decode cX12_weatherOf 48 = .ok (.iload_n 2, 1) := by decide +kernel
theorem dX12_weatherOf_49 : decode cX12_weatherOf 49 = .ok (.iload 6, 2) := by decide +kernel
theorem dX12_weatherOf_51 : decode cX12_weatherOf 51 = .ok (.invokevirtual 304, 3) := by decide +kernel
theorem dX12_weatherOf_54 : decode cX12_weatherOf 54 = .ok (.istore 7, 2) := by decide +kernel
theorem dX12_weatherOf_56 : decode cX12_weatherOf 56 = .ok (.iload 7, 2) := by decide +kernel
theorem dX12_weatherOf_58 : decode cX12_weatherOf 58 = .ok (.iload 4, 2) := by decide +kernel
theorem dX12_weatherOf_60 : decode cX12_weatherOf 60 = .ok (.if_icmp .le 8, 3) := by decide +kernel
theorem dX12_weatherOf_63 : decode cX12_weatherOf 63 = .ok (.iload 6, 2) := by decide +kernel
theorem dX12_weatherOf_65 : decode cX12_weatherOf 65 = .ok (.goto 4, 3) := by decide +kernel
theorem dX12_weatherOf_68 : decode cX12_weatherOf 68 = .ok (.iload_n 3, 1) := by decide +kernel
theorem dX12_weatherOf_69 : decode cX12_weatherOf 69 = .ok (.istore_n 3, 1) := by decide +kernel
theorem dX12_weatherOf_70 : decode cX12_weatherOf 70 = .ok (.iload 7, 2) := by decide +kernel
theorem dX12_weatherOf_72 : decode cX12_weatherOf 72 = .ok (.iload 4, 2) := by decide +kernel
theorem dX12_weatherOf_74 : decode cX12_weatherOf 74 = .ok (.if_icmp .le 8, 3) := by decide +kernel
theorem dX12_weatherOf_77 : decode cX12_weatherOf 77 = .ok (.iload 7, 2) := by decide +kernel
theorem dX12_weatherOf_79 : decode cX12_weatherOf 79 = .ok (.goto 5, 3) := by decide +kernel
theorem dX12_weatherOf_82 : decode cX12_weatherOf 82 = .ok (.iload 4, 2) := by decide +kernel
theorem dX12_weatherOf_84 : decode cX12_weatherOf 84 = .ok (.istore 4, 2) := by decide +kernel
theorem dX12_weatherOf_86 : decode cX12_weatherOf 86 = .ok (.iinc 5 1, 3) := by decide +kernel
theorem dX12_weatherOf_89 : decode cX12_weatherOf 89 = .ok (.goto (-81), 3) := by decide +kernel
theorem dX12_weatherOf_92 : decode cX12_weatherOf 92 = .ok (.iload_n 3, 1) := by decide +kernel
theorem dX12_weatherOf_93 : decode cX12_weatherOf 93 = .ok (.ireturn, 1) := by decide +kernel
noncomputable def FX12_weatherOf (a0 : Nat) (p1 : Int32) (p2 : Int32) : PP Int32 := bd (it (fun (s1 : Int32 × Int32 × Int32) => (if (4 : Int32) ≤ s1.2.2 then pu (Sum.inr s1.1) else bd (if s1.2.2 = 0 then pu (2 : Int32) else if s1.2.2 = (1 : Int32) then pu (3 : Int32) else if s1.2.2 = (2 : Int32) then pu (0 : Int32) else pu (1 : Int32) : PP (Int32)) (fun (v2 : Int32) => bd (FX12_howMany a0 p1 p2 v2) (fun x3 => bd (if x3 ≤ s1.2.1 then pu s1.1 else pu v2 : PP (Int32)) (fun (v4 : Int32) => bd (if x3 ≤ s1.2.1 then pu s1.2.1 else pu x3 : PP (Int32)) (fun (v5 : Int32) => lt (s1.2.2 + (1 : Int32)) (fun y6 => pu (Sum.inl (v4, v5, y6))))))) : PP ((Int32 × Int32 × Int32) ⊕ (Int32)))) FU ((-1 : Int32), (0 : Int32), (0 : Int32))) (fun (v7 : Int32) => pu v7)
set_option maxHeartbeats 4000000 in
set_option maxRecDepth 100000 in
theorem SX12_weatherOf {l : Launch} {K : KK} {n : Nat} {hn : 270 ≤ n} (a0 : Nat) (p1 : Int32) (p2 : Int32) (h0 : ob a0 11) : CT l K n 3 mX12_weatherOf [.ref (K.2.1 + a0), .int p1, .int p2] enI (FX12_weatherOf a0 p1 p2) := by
  refine CT.of2 (lv2 := [(0, .ref (K.2.1 + a0)), (1, .int p1), (2, .int p2)]) (by decide) rfl hn (Nat.le_of_ble_eq_true rfl) rfl (rp_id ?_)
  unfold FX12_weatherOf
  refine rp_iconst (-1 : Int32) dX12_weatherOf_0 (by decide) ?_
  refine rp_istore_n [(3, .int (-1 : Int32)), (0, .ref (K.2.1 + a0)), (1, .int p1), (2, .int p2)] dX12_weatherOf_1 (by decide) rfl ?_
  refine rp_iconst (0 : Int32) dX12_weatherOf_2 (by decide) ?_
  refine rp_istore [(4, .int (0 : Int32)), (3, .int (-1 : Int32)), (0, .ref (K.2.1 + a0)), (1, .int p1), (2, .int p2)] dX12_weatherOf_3 (by decide) rfl ?_
  refine rp_iconst (0 : Int32) dX12_weatherOf_5 (by decide) ?_
  refine rp_istore [(5, .int (0 : Int32)), (4, .int (0 : Int32)), (3, .int (-1 : Int32)), (0, .ref (K.2.1 + a0)), (1, .int p1), (2, .int p2)] dX12_weatherOf_6 (by decide) rfl ?_
  refine rp_as ?_
  refine rp_join 92 (fun v7 => [(3, .int v7)]) (fun _ => []) (fun v7 => ?_) (fun hX8_0 => ?_)
  · refine rp_iload_n 0 dX12_weatherOf_92 rfl ?_
    exact rp_pu (rp_iret rfl dX12_weatherOf_93)
  refine rp_sub [3, 4, 5, 2, 1, 0] rfl (rp_it (fun (s1 : Int32 × Int32 × Int32) => [(0, .ref (K.2.1 + a0)), (1, .int p1), (2, .int p2), (3, .int s1.1), (4, .int s1.2.1), (5, .int s1.2.2)]) (fun N8 ih8 s1 => ?_) FU ((-1 : Int32), (0 : Int32), (0 : Int32)))
  refine rp_iload 5 dX12_weatherOf_8 rfl ?_
  refine rp_iconst (4 : Int32) dX12_weatherOf_10 (by decide) ?_
  refine rp_icmp_ge 92 dX12_weatherOf_11 (by decide) ?_ ?_
  · exact rp_sub [3] rfl (rp_puR (hX8_0 s1.1))
  · refine rp_iload 5 dX12_weatherOf_14 rfl ?_
    refine rp_as ?_
    refine rp_join 44 (fun (v2 : Int32) => [(0, .ref (K.2.1 + a0)), (1, .int p1), (2, .int p2), (3, .int s1.1), (4, .int s1.2.1), (5, .int s1.2.2)]) (fun v2 => [.int v2]) (fun v2 => ?_) (fun hJ44 => ?_)
    · refine rp_istore [(6, .int v2), (0, .ref (K.2.1 + a0)), (1, .int p1), (2, .int p2), (3, .int s1.1), (4, .int s1.2.1), (5, .int s1.2.2)] dX12_weatherOf_44 (by decide) rfl ?_
      refine rp_aload_n 1 dX12_weatherOf_46 rfl ?_
      refine rp_iload_n 2 dX12_weatherOf_47 rfl ?_
      refine rp_iload_n 3 dX12_weatherOf_48 rfl ?_
      refine rp_iload 0 dX12_weatherOf_49 rfl ?_
      refine rp_callVi [.int p1, .int p2, .int v2] (SX12_howMany (hn := hn) a0 p1 p2 v2 h0) cvX12_howMany (mw (i := 1591) (by decide +kernel)) (by omega) h0 (by decide) rfl rfl rfl (Nat.le_of_ble_eq_true rfl) dX12_weatherOf_51 (fun x3 => ?_)
      refine rp_istore [(7, .int x3), (6, .int v2), (0, .ref (K.2.1 + a0)), (1, .int p1), (2, .int p2), (3, .int s1.1), (4, .int s1.2.1), (5, .int s1.2.2)] dX12_weatherOf_54 (by decide) rfl ?_
      refine rp_iload 0 dX12_weatherOf_56 rfl ?_
      refine rp_iload 6 dX12_weatherOf_58 rfl ?_
      refine rp_as ?_
      refine rp_join 69 (fun (v4 : Int32) => [(0, .ref (K.2.1 + a0)), (1, .int p1), (2, .int p2), (4, .int s1.2.1), (5, .int s1.2.2), (7, .int x3)]) (fun v4 => [.int v4]) (fun v4 => ?_) (fun hJ69 => ?_)
      · refine rp_istore_n [(3, .int v4), (0, .ref (K.2.1 + a0)), (1, .int p1), (2, .int p2), (4, .int s1.2.1), (5, .int s1.2.2), (7, .int x3)] dX12_weatherOf_69 (by decide) rfl ?_
        refine rp_iload 6 dX12_weatherOf_70 rfl ?_
        refine rp_iload 4 dX12_weatherOf_72 rfl ?_
        refine rp_as ?_
        refine rp_join 84 (fun (v5 : Int32) => [(0, .ref (K.2.1 + a0)), (1, .int p1), (2, .int p2), (3, .int v4), (5, .int s1.2.2)]) (fun v5 => [.int v5]) (fun v5 => ?_) (fun hJ84 => ?_)
        · refine rp_istore [(4, .int v5), (0, .ref (K.2.1 + a0)), (1, .int p1), (2, .int p2), (3, .int v4), (5, .int s1.2.2)] dX12_weatherOf_84 (by decide) rfl ?_
          refine rp_iinc (fun y6 => [(5, .int y6), (4, .int v5), (0, .ref (K.2.1 + a0)), (1, .int p1), (2, .int p2), (3, .int v4)]) 5 dX12_weatherOf_86 rfl (by rfl) (by decide) (fun y6 => rfl) (fun y6 => ?_)
          refine rp_goto 8 dX12_weatherOf_89 (by decide) ?_
          exact rp_sub [2, 3, 4, 5, 1, 0] rfl (ih8 (v4, v5, y6))
        refine rp_icmp_le 82 dX12_weatherOf_74 (by decide) ?_ ?_
        · refine rp_iload 4 dX12_weatherOf_82 rfl ?_
          exact rp_sub [1, 2, 3, 0, 5] rfl (rp_pu (hJ84 s1.2.1))
        · refine rp_iload 6 dX12_weatherOf_77 rfl ?_
          refine rp_goto 84 dX12_weatherOf_79 (by decide) ?_
          exact rp_sub [1, 2, 3, 0, 5] rfl (rp_pu (hJ84 x3))
      refine rp_icmp_le 68 dX12_weatherOf_60 (by decide) ?_ ?_
      · refine rp_iload_n 5 dX12_weatherOf_68 rfl ?_
        exact rp_sub [2, 3, 4, 6, 7, 0] rfl (rp_pu (hJ69 s1.1))
      · refine rp_iload 1 dX12_weatherOf_63 rfl ?_
        refine rp_goto 69 dX12_weatherOf_65 (by decide) ?_
        exact rp_sub [2, 3, 4, 6, 7, 0] rfl (rp_pu (hJ69 v2))
    refine rp_if_ne 23 dX12_weatherOf_16 (by decide) ?_ ?_
    · refine rp_iload 5 dX12_weatherOf_23 rfl ?_
      refine rp_iconst (1 : Int32) dX12_weatherOf_25 (by decide) ?_
      refine rp_icmp_ne 33 dX12_weatherOf_26 (by decide) ?_ ?_
      · refine rp_iload 5 dX12_weatherOf_33 rfl ?_
        refine rp_iconst (2 : Int32) dX12_weatherOf_35 (by decide) ?_
        refine rp_icmp_ne 43 dX12_weatherOf_36 (by decide) ?_ ?_
        · refine rp_iconst (1 : Int32) dX12_weatherOf_43 (by decide) ?_
          exact rp_sub [0, 1, 2, 3, 4, 5] rfl (rp_pu (hJ44 (1 : Int32)))
        · refine rp_iconst (0 : Int32) dX12_weatherOf_39 (by decide) ?_
          refine rp_goto 44 dX12_weatherOf_40 (by decide) ?_
          exact rp_sub [0, 1, 2, 3, 4, 5] rfl (rp_pu (hJ44 (0 : Int32)))
      · refine rp_iconst (3 : Int32) dX12_weatherOf_29 (by decide) ?_
        refine rp_goto 44 dX12_weatherOf_30 (by decide) ?_
        exact rp_sub [0, 1, 2, 3, 4, 5] rfl (rp_pu (hJ44 (3 : Int32)))
    · refine rp_iconst (2 : Int32) dX12_weatherOf_19 (by decide) ?_
      refine rp_goto 44 dX12_weatherOf_20 (by decide) ?_
      exact rp_sub [0, 1, 2, 3, 4, 5] rfl (rp_pu (hJ44 (2 : Int32)))

theorem dX12_windOf_0 : decode cX12_windOf 0 = .ok (.iconst 0, 1) := by decide +kernel
theorem dX12_windOf_1 : decode cX12_windOf 1 = .ok (.istore_n 2, 1) := by decide +kernel
theorem dX12_windOf_2 : decode cX12_windOf 2 = .ok (.iconst 0, 1) := by decide +kernel
theorem dX12_windOf_3 : decode cX12_windOf 3 = .ok (.istore_n 3, 1) := by decide +kernel
theorem dX12_windOf_4 : decode cX12_windOf 4 = .ok (.iload_n 3, 1) := by decide +kernel
theorem dX12_windOf_5 : decode cX12_windOf 5 = .ok (.aload_n 0, 1) := by decide +kernel
theorem dX12_windOf_6 : decode cX12_windOf 6 = .ok (.invokevirtual 269, 3) := by decide +kernel
theorem dX12_windOf_9 : decode cX12_windOf 9 = .ok (.if_icmp .ge 37, 3) := by decide +kernel
theorem dX12_windOf_12 : decode cX12_windOf 12 = .ok (.iload_n 2, 1) := by decide +kernel
theorem dX12_windOf_13 : decode cX12_windOf 13 = .ok (.aload_n 0, 1) := by decide +kernel
theorem dX12_windOf_14 : decode cX12_windOf 14 = .ok (.iconst 0, 1) := by decide +kernel
theorem dX12_windOf_15 : decode cX12_windOf 15 = .ok (.iload_n 1, 1) := by decide +kernel
theorem dX12_windOf_16 : decode cX12_windOf 16 = .ok (.iload_n 3, 1) := by decide +kernel
theorem dX12_windOf_17 : decode cX12_windOf 17 = .ok (.invokevirtual 298, 3) := by decide +kernel
theorem dX12_windOf_20 : decode cX12_windOf 20 = .ok (.ifCond .eq 17, 3) := by decide +kernel
theorem dX12_windOf_23 : decode cX12_windOf 23 = .ok (.iconst 3, 1) := by decide +kernel
theorem dX12_windOf_24 : decode cX12_windOf 24 = .ok (.aload_n 0, 1) := by decide +kernel
theorem dX12_windOf_25 : decode cX12_windOf 25 = .ok (.getfield 113, 3) := by decide +kernel
theorem dX12_windOf_28 : decode cX12_windOf 28 = .ok (.bipush 13, 2) := by decide +kernel
theorem dX12_windOf_30 : decode cX12_windOf 30 = .ok (.iload_n 3, 1) := by decide +kernel
theorem dX12_windOf_31 : decode cX12_windOf 31 = .ok (.iadd, 1) := by decide +kernel
theorem dX12_windOf_32 : decode cX12_windOf 32 = .ok (.iaload, 1) := by decide +kernel
theorem dX12_windOf_33 : decode cX12_windOf 33 = .ok (.isub, 1) := by decide +kernel
theorem dX12_windOf_34 : decode cX12_windOf 34 = .ok (.goto 4, 3) := by decide +kernel
theorem dX12_windOf_37 : decode cX12_windOf 37 = .ok (.iconst 0, 1) := by decide +kernel
theorem dX12_windOf_38 : decode cX12_windOf 38 = .ok (.iadd, 1) := by decide +kernel
theorem dX12_windOf_39 : decode cX12_windOf 39 = .ok (.istore_n 2, 1) := by decide +kernel
theorem dX12_windOf_40 : decode cX12_windOf 40 = .ok (.iinc 3 1, 3) := by decide +kernel
theorem dX12_windOf_43 : decode cX12_windOf 43 = .ok (.goto (-39), 3) := by decide +kernel
theorem dX12_windOf_46 : decode cX12_windOf 46 = .ok (.iload_n 2, 1) := by decide +kernel
theorem dX12_windOf_47 : decode cX12_windOf 47 = .ok (.ireturn, 1) := by decide +kernel
noncomputable def FX12_windOf (a0 : Nat) (p1 : Int32) : PP Int32 := bd (it (fun (s1 : Int32 × Int32) => (bd (FX12_cloths a0) (fun x2 => if x2 ≤ s1.2 then pu (Sum.inr s1.1) else bd (FX12_isAbove a0 (0 : Int32) p1 s1.2) (fun x3 => bd (if ((b2i x3)) = 0 then pu (0 : Int32) else bd (aI (rf a0 23) 966 ((13 : Int32) + s1.2)) (fun x4 => pu ((3 : Int32) - x4)) : PP (Int32)) (fun (v5 : Int32) => lt (s1.1 + v5) (fun y6 => lt (s1.2 + (1 : Int32)) (fun y7 => pu (Sum.inl (y6, y7))))))) : PP ((Int32 × Int32) ⊕ (Int32)))) FU ((0 : Int32), (0 : Int32))) (fun (v8 : Int32) => pu v8)
set_option maxHeartbeats 4000000 in
set_option maxRecDepth 100000 in
theorem SX12_windOf {l : Launch} {K : KK} {n : Nat} {hn : 270 ≤ n} (a0 : Nat) (p1 : Int32) (h0 : ob a0 11) : CT l K n 2 mX12_windOf [.ref (K.2.1 + a0), .int p1] enI (FX12_windOf a0 p1) := by
  refine CT.of2 (lv2 := [(0, .ref (K.2.1 + a0)), (1, .int p1)]) (by decide) rfl hn (Nat.le_of_ble_eq_true rfl) rfl (rp_id ?_)
  unfold FX12_windOf
  refine rp_iconst (0 : Int32) dX12_windOf_0 (by decide) ?_
  refine rp_istore_n [(2, .int (0 : Int32)), (0, .ref (K.2.1 + a0)), (1, .int p1)] dX12_windOf_1 (by decide) rfl ?_
  refine rp_iconst (0 : Int32) dX12_windOf_2 (by decide) ?_
  refine rp_istore_n [(3, .int (0 : Int32)), (2, .int (0 : Int32)), (0, .ref (K.2.1 + a0)), (1, .int p1)] dX12_windOf_3 (by decide) rfl ?_
  refine rp_as ?_
  refine rp_join 46 (fun v8 => [(2, .int v8)]) (fun _ => []) (fun v8 => ?_) (fun hX4_0 => ?_)
  · refine rp_iload_n 0 dX12_windOf_46 rfl ?_
    exact rp_pu (rp_iret rfl dX12_windOf_47)
  refine rp_sub [2, 3, 1, 0] rfl (rp_it (fun (s1 : Int32 × Int32) => [(0, .ref (K.2.1 + a0)), (1, .int p1), (2, .int s1.1), (3, .int s1.2)]) (fun N4 ih4 s1 => ?_) FU ((0 : Int32), (0 : Int32)))
  refine rp_iload_n 3 dX12_windOf_4 rfl ?_
  refine rp_aload_n 0 dX12_windOf_5 rfl ?_
  refine rp_callVi [] (SX12_cloths (hn := hn) a0 h0) cvX12_cloths (mw (i := 1306) (by decide +kernel)) (by omega) h0 (by decide) rfl rfl rfl (Nat.le_of_ble_eq_true rfl) dX12_windOf_6 (fun x2 => ?_)
  refine rp_icmp_ge 46 dX12_windOf_9 (by decide) ?_ ?_
  · exact rp_sub [2] rfl (rp_puR (hX4_0 s1.1))
  · refine rp_iload_n 2 dX12_windOf_12 rfl ?_
    refine rp_aload_n 0 dX12_windOf_13 rfl ?_
    refine rp_iconst (0 : Int32) dX12_windOf_14 (by decide) ?_
    refine rp_iload_n 1 dX12_windOf_15 rfl ?_
    refine rp_iload_n 3 dX12_windOf_16 rfl ?_
    refine rp_callVz [.int (0 : Int32), .int p1, .int s1.2] (SX12_isAbove (hn := hn) a0 (0 : Int32) p1 s1.2 h0) cvX12_isAbove (mw (i := 1595) (by decide +kernel)) (by omega) h0 (by decide) rfl rfl rfl (Nat.le_of_ble_eq_true rfl) dX12_windOf_17 (fun x3 => ?_)
    refine rp_as ?_
    refine rp_join 38 (fun (v5 : Int32) => [(0, .ref (K.2.1 + a0)), (1, .int p1), (3, .int s1.2)]) (fun v5 => [.int v5, .int s1.1]) (fun v5 => ?_) (fun hJ38 => ?_)
    · refine rp_iadd dX12_windOf_38 ?_
      refine rp_lti (fun y6 => ?_)
      refine rp_istore_n [(2, .int y6), (0, .ref (K.2.1 + a0)), (1, .int p1), (3, .int s1.2)] dX12_windOf_39 (by decide) rfl ?_
      refine rp_iinc (fun y7 => [(3, .int y7), (2, .int y6), (0, .ref (K.2.1 + a0)), (1, .int p1)]) 3 dX12_windOf_40 rfl (by rfl) (by decide) (fun y7 => rfl) (fun y7 => ?_)
      refine rp_goto 4 dX12_windOf_43 (by decide) ?_
      exact rp_sub [2, 3, 1, 0] rfl (ih4 (y6, y7))
    refine rp_if_eq 37 dX12_windOf_20 (by decide) ?_ ?_
    · refine rp_iconst (0 : Int32) dX12_windOf_37 (by decide) ?_
      exact rp_sub [0, 1, 3] rfl (rp_pu (hJ38 (0 : Int32)))
    · refine rp_iconst (3 : Int32) dX12_windOf_23 (by decide) ?_
      refine rp_aload_n 0 dX12_windOf_24 rfl ?_
      refine rp_getR fi_X12_113 h0 rfl dX12_windOf_25 ?_
      refine rp_bipush (13 : Int32) dX12_windOf_28 (by decide) ?_
      refine rp_iload_n 3 dX12_windOf_30 rfl ?_
      refine rp_iadd dX12_windOf_31 ?_
      refine rp_iald (tX12_23 h0) dX12_windOf_32 (fun x4 => ?_)
      refine rp_isub dX12_windOf_33 ?_
      refine rp_goto 38 dX12_windOf_34 (by decide) ?_
      exact rp_sub [0, 1, 3] rfl (rp_pu (hJ38 ((3 : Int32) - x4)))

theorem dX12_isThunder_0 : decode cX12_isThunder 0 = .ok (.iconst 0, 1) := by decide +kernel
theorem dX12_isThunder_1 : decode cX12_isThunder 1 = .ok (.istore_n 2, 1) := by decide +kernel
theorem dX12_isThunder_2 : decode cX12_isThunder 2 = .ok (.iconst 0, 1) := by decide +kernel
theorem dX12_isThunder_3 : decode cX12_isThunder 3 = .ok (.istore_n 3, 1) := by decide +kernel
theorem dX12_isThunder_4 : decode cX12_isThunder 4 = .ok (.iload_n 3, 1) := by decide +kernel
theorem dX12_isThunder_5 : decode cX12_isThunder 5 = .ok (.aload_n 0, 1) := by decide +kernel
theorem dX12_isThunder_6 : decode cX12_isThunder 6 = .ok (.invokevirtual 288, 3) := by decide +kernel
theorem dX12_isThunder_9 : decode cX12_isThunder 9 = .ok (.if_icmp .ge 29, 3) := by decide +kernel
theorem dX12_isThunder_12 : decode cX12_isThunder 12 = .ok (.iload_n 2, 1) := by decide +kernel
theorem dX12_isThunder_13 : decode cX12_isThunder 13 = .ok (.ifCond .ne 13, 3) := by decide +kernel
theorem dX12_isThunder_16 : decode cX12_isThunder 16 = .ok (.aload_n 0, 1) := by decide +kernel
theorem dX12_isThunder_17 : decode cX12_isThunder 17 = .ok (.iload_n 1, 1) := by decide +kernel
theorem dX12_isThunder_18 : decode cX12_isThunder 18 = .ok (.iload_n 3, 1) := by decide +kernel
theorem dX12_isThunder_19 : decode cX12_isThunder 19 = .ok (.invokevirtual 307, 3) := by decide +kernel
theorem dX12_isThunder_22 : decode cX12_isThunder 22 = .ok (.iconst 2, 1) := by decide +kernel
theorem dX12_isThunder_23 : decode cX12_isThunder 23 = .ok (.if_icmp .ne 7, 3) := by decide +kernel
theorem dX12_isThunder_26 : decode cX12_isThunder 26 = .ok (.iconst 1, 1) := by decide +kernel
theorem dX12_isThunder_27 : decode cX12_isThunder 27 = .ok (.goto 4, 3) := by decide +kernel
theorem dX12_isThunder_30 : decode cX12_isThunder 30 = .ok (.iconst 0, 1) := by decide +kernel
theorem dX12_isThunder_31 : decode cX12_isThunder 31 = .ok (.istore_n 2, 1) := by decide +kernel
theorem dX12_isThunder_32 : decode cX12_isThunder 32 = .ok (.iinc 3 1, 3) := by decide +kernel
theorem dX12_isThunder_35 : decode cX12_isThunder 35 = .ok (.goto (-31), 3) := by decide +kernel
theorem dX12_isThunder_38 : decode cX12_isThunder 38 = .ok (.iload_n 2, 1) := by decide +kernel
theorem dX12_isThunder_39 : decode cX12_isThunder 39 = .ok (.ireturn, 1) := by decide +kernel
noncomputable def FX12_isThunder (a0 : Nat) (p1 : Int32) : PP Bool := bd (it (fun (s1 : Int32 × Int32) => (bd (FX12_places a0) (fun x2 => if x2 ≤ s1.2 then pu (Sum.inr s1.1) else bd (if s1.1 = 0 then bd (FX12_weatherOf a0 p1 s1.2) (fun x3 => if x3 = (2 : Int32) then pu (1 : Int32) else pu (0 : Int32)) else pu (1 : Int32) : PP (Int32)) (fun (v4 : Int32) => lt (s1.2 + (1 : Int32)) (fun y5 => pu (Sum.inl (v4, y5))))) : PP ((Int32 × Int32) ⊕ (Int32)))) FU ((0 : Int32), (0 : Int32))) (fun (v6 : Int32) => zb v6)
set_option maxHeartbeats 4000000 in
set_option maxRecDepth 100000 in
theorem SX12_isThunder {l : Launch} {K : KK} {n : Nat} {hn : 270 ≤ n} (a0 : Nat) (p1 : Int32) (h0 : ob a0 11) : CT l K n 4 mX12_isThunder [.ref (K.2.1 + a0), .int p1] enZ (FX12_isThunder a0 p1) := by
  refine CT.of2 (lv2 := [(0, .ref (K.2.1 + a0)), (1, .int p1)]) (by decide) rfl hn (Nat.le_of_ble_eq_true rfl) rfl (rp_id ?_)
  unfold FX12_isThunder
  refine rp_iconst (0 : Int32) dX12_isThunder_0 (by decide) ?_
  refine rp_istore_n [(2, .int (0 : Int32)), (0, .ref (K.2.1 + a0)), (1, .int p1)] dX12_isThunder_1 (by decide) rfl ?_
  refine rp_iconst (0 : Int32) dX12_isThunder_2 (by decide) ?_
  refine rp_istore_n [(3, .int (0 : Int32)), (2, .int (0 : Int32)), (0, .ref (K.2.1 + a0)), (1, .int p1)] dX12_isThunder_3 (by decide) rfl ?_
  refine rp_as ?_
  refine rp_join 38 (fun v6 => [(2, .int v6)]) (fun _ => []) (fun v6 => ?_) (fun hX4_0 => ?_)
  · refine rp_iload_n 0 dX12_isThunder_38 rfl ?_
    exact rp_zretb rfl dX12_isThunder_39
  refine rp_sub [2, 3, 1, 0] rfl (rp_it (fun (s1 : Int32 × Int32) => [(0, .ref (K.2.1 + a0)), (1, .int p1), (2, .int s1.1), (3, .int s1.2)]) (fun N4 ih4 s1 => ?_) FU ((0 : Int32), (0 : Int32)))
  refine rp_iload_n 3 dX12_isThunder_4 rfl ?_
  refine rp_aload_n 0 dX12_isThunder_5 rfl ?_
  refine rp_callVi [] (SX12_places (hn := hn) a0 h0) cvX12_places (mw (i := 1583) (by decide +kernel)) (by omega) h0 (by decide) rfl rfl rfl (Nat.le_of_ble_eq_true rfl) dX12_isThunder_6 (fun x2 => ?_)
  refine rp_icmp_ge 38 dX12_isThunder_9 (by decide) ?_ ?_
  · exact rp_sub [2] rfl (rp_puR (hX4_0 s1.1))
  · refine rp_iload_n 2 dX12_isThunder_12 rfl ?_
    refine rp_as ?_
    refine rp_join 31 (fun (v4 : Int32) => [(0, .ref (K.2.1 + a0)), (1, .int p1), (3, .int s1.2)]) (fun v4 => [.int v4]) (fun v4 => ?_) (fun hJ31 => ?_)
    · refine rp_istore_n [(2, .int v4), (0, .ref (K.2.1 + a0)), (1, .int p1), (3, .int s1.2)] dX12_isThunder_31 (by decide) rfl ?_
      refine rp_iinc (fun y5 => [(3, .int y5), (2, .int v4), (0, .ref (K.2.1 + a0)), (1, .int p1)]) 3 dX12_isThunder_32 rfl (by rfl) (by decide) (fun y5 => rfl) (fun y5 => ?_)
      refine rp_goto 4 dX12_isThunder_35 (by decide) ?_
      exact rp_sub [2, 3, 1, 0] rfl (ih4 (v4, y5))
    refine rp_if_ne 26 dX12_isThunder_13 (by decide) ?_ ?_
    · refine rp_iconst (1 : Int32) dX12_isThunder_26 (by decide) ?_
      refine rp_goto 31 dX12_isThunder_27 (by decide) ?_
      exact rp_sub [0, 1, 3] rfl (rp_pu (hJ31 (1 : Int32)))
    · refine rp_aload_n 0 dX12_isThunder_16 rfl ?_
      refine rp_iload_n 1 dX12_isThunder_17 rfl ?_
      refine rp_iload_n 3 dX12_isThunder_18 rfl ?_
      refine rp_callVi [.int p1, .int s1.2] (SX12_weatherOf (hn := hn) a0 p1 s1.2 h0) cvX12_weatherOf (mw (i := 1587) (by decide +kernel)) (by omega) h0 (by decide) rfl rfl rfl (Nat.le_of_ble_eq_true rfl) dX12_isThunder_19 (fun x3 => ?_)
      refine rp_iconst (2 : Int32) dX12_isThunder_22 (by decide) ?_
      refine rp_icmp_ne 30 dX12_isThunder_23 (by decide) ?_ ?_
      · refine rp_iconst (0 : Int32) dX12_isThunder_30 (by decide) ?_
        exact rp_sub [0, 1, 3] rfl (rp_pu (hJ31 (0 : Int32)))
      · refine rp_iconst (1 : Int32) dX12_isThunder_26 (by decide) ?_
        refine rp_goto 31 dX12_isThunder_27 (by decide) ?_
        exact rp_sub [0, 1, 3] rfl (rp_pu (hJ31 (1 : Int32)))
