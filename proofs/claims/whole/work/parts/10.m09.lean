theorem dX12_takePart_0 : decode cX12_takePart 0 = .ok (.aload_n 0, 1) := by decide +kernel
theorem dX12_takePart_1 : decode cX12_takePart 1 = .ok (.getfield 162, 3) := by decide +kernel
theorem dX12_takePart_4 : decode cX12_takePart 4 = .ok (.ifCond .le 4, 3) := by decide +kernel
theorem dX12_takePart_7 : decode cX12_takePart 7 = .ok (.return_, 1) := by decide +kernel
theorem dX12_takePart_8 : decode cX12_takePart 8 = .ok (.aload_n 0, 1) := by decide +kernel
theorem dX12_takePart_9 : decode cX12_takePart 9 = .ok (.getfield 24, 3) := by decide +kernel
theorem dX12_takePart_12 : decode cX12_takePart 12 = .ok (.aload_n 0, 1) := by decide +kernel
theorem dX12_takePart_13 : decode cX12_takePart 13 = .ok (.getfield 159, 3) := by decide +kernel
theorem dX12_takePart_16 : decode cX12_takePart 16 = .ok (.iaload, 1) := by decide +kernel
theorem dX12_takePart_17 : decode cX12_takePart 17 = .ok (.iconst 2, 1) := by decide +kernel
theorem dX12_takePart_18 : decode cX12_takePart 18 = .ok (.if_icmp .ne 7, 3) := by decide +kernel
theorem dX12_takePart_21 : decode cX12_takePart 21 = .ok (.iconst 1, 1) := by decide +kernel
theorem dX12_takePart_22 : decode cX12_takePart 22 = .ok (.goto 4, 3) := by decide +kernel
theorem dX12_takePart_25 : decode cX12_takePart 25 = .ok (.iconst 0, 1) := by decide +kernel
theorem dX12_takePart_26 : decode cX12_takePart 26 = .ok (.istore_n 2, 1) := by decide +kernel
theorem dX12_takePart_27 : decode cX12_takePart 27 = .ok (.aload_n 0, 1) := by decide +kernel
theorem dX12_takePart_28 : decode cX12_takePart 28 = .ok (.bipush 19, 2) := by decide +kernel
theorem dX12_takePart_30 : decode cX12_takePart 30 = .ok (.iconst 4, 1) := by decide +kernel
theorem dX12_takePart_31 : decode cX12_takePart 31 = .ok (.invokevirtual 184, 3) := by decide +kernel
theorem dX12_takePart_34 : decode cX12_takePart 34 = .ok (.istore_n 3, 1) := by decide +kernel
theorem dX12_takePart_35 : decode cX12_takePart 35 = .ok (.iload_n 3, 1) := by decide +kernel
theorem dX12_takePart_36 : decode cX12_takePart 36 = .ok (.ifCond .ge 33, 3) := by decide +kernel
theorem dX12_takePart_39 : decode cX12_takePart 39 = .ok (.iload_n 2, 1) := by decide +kernel
theorem dX12_takePart_40 : decode cX12_takePart 40 = .ok (.ifCond .ne 29, 3) := by decide +kernel
theorem dX12_takePart_43 : decode cX12_takePart 43 = .ok (.aload_n 0, 1) := by decide +kernel
theorem dX12_takePart_44 : decode cX12_takePart 44 = .ok (.bipush 40, 2) := by decide +kernel
theorem dX12_takePart_46 : decode cX12_takePart 46 = .ok (.invokevirtual 165, 3) := by decide +kernel
theorem dX12_takePart_49 : decode cX12_takePart 49 = .ok (.ifCond .ne 20, 3) := by decide +kernel
theorem dX12_takePart_52 : decode cX12_takePart 52 = .ok (.aload_n 0, 1) := by decide +kernel
theorem dX12_takePart_53 : decode cX12_takePart 53 = .ok (.bipush 16, 2) := by decide +kernel
theorem dX12_takePart_55 : decode cX12_takePart 55 = .ok (.invokevirtual 171, 3) := by decide +kernel
theorem dX12_takePart_58 : decode cX12_takePart 58 = .ok (.ifCond .ne 11, 3) := by decide +kernel
theorem dX12_takePart_61 : decode cX12_takePart 61 = .ok (.aload_n 0, 1) := by decide +kernel
theorem dX12_takePart_62 : decode cX12_takePart 62 = .ok (.iconst 1, 1) := by decide +kernel
theorem dX12_takePart_63 : decode cX12_takePart 63 = .ok (.invokevirtual 168, 3) := by decide +kernel
theorem dX12_takePart_66 : decode cX12_takePart 66 = .ok (.goto 13, 3) := by decide +kernel
theorem dX12_takePart_69 : decode cX12_takePart 69 = .ok (.iload_n 1, 1) := by decide +kernel
theorem dX12_takePart_70 : decode cX12_takePart 70 = .ok (.iconst 5, 1) := by decide +kernel
theorem dX12_takePart_71 : decode cX12_takePart 71 = .ok (.if_icmp .ne 8, 3) := by decide +kernel
theorem dX12_takePart_74 : decode cX12_takePart 74 = .ok (.aload_n 0, 1) := by decide +kernel
theorem dX12_takePart_75 : decode cX12_takePart 75 = .ok (.iconst 5, 1) := by decide +kernel
theorem dX12_takePart_76 : decode cX12_takePart 76 = .ok (.invokevirtual 168, 3) := by decide +kernel
theorem dX12_takePart_79 : decode cX12_takePart 79 = .ok (.aload_n 0, 1) := by decide +kernel
theorem dX12_takePart_80 : decode cX12_takePart 80 = .ok (.getfield 162, 3) := by decide +kernel
theorem dX12_takePart_83 : decode cX12_takePart 83 = .ok (.ifCond .le 4, 3) := by decide +kernel
theorem dX12_takePart_86 : decode cX12_takePart 86 = .ok (.return_, 1) := by decide +kernel
theorem dX12_takePart_87 : decode cX12_takePart 87 = .ok (.aload_n 0, 1) := by decide +kernel
theorem dX12_takePart_88 : decode cX12_takePart 88 = .ok (.bipush 16, 2) := by decide +kernel
theorem dX12_takePart_90 : decode cX12_takePart 90 = .ok (.invokevirtual 174, 3) := by decide +kernel
theorem dX12_takePart_93 : decode cX12_takePart 93 = .ok (.ifCond .eq 19, 3) := by decide +kernel
theorem dX12_takePart_96 : decode cX12_takePart 96 = .ok (.aload_n 0, 1) := by decide +kernel
theorem dX12_takePart_97 : decode cX12_takePart 97 = .ok (.iload_n 1, 1) := by decide +kernel
theorem dX12_takePart_98 : decode cX12_takePart 98 = .ok (.iconst 1, 1) := by decide +kernel
theorem dX12_takePart_99 : decode cX12_takePart 99 = .ok (.iadd, 1) := by decide +kernel
theorem dX12_takePart_100 : decode cX12_takePart 100 = .ok (.invokevirtual 263, 3) := by decide +kernel
theorem dX12_takePart_103 : decode cX12_takePart 103 = .ok (.aload_n 0, 1) := by decide +kernel
theorem dX12_takePart_104 : decode cX12_takePart 104 = .ok (.iconst 3, 1) := by decide +kernel
theorem dX12_takePart_105 : decode cX12_takePart 105 = .ok (.iconst 0, 1) := by decide +kernel
theorem dX12_takePart_106 : decode cX12_takePart 106 = .ok (.invokevirtual 247, 3) := by decide +kernel
theorem dX12_takePart_109 : decode cX12_takePart 109 = .ok (.goto 69, 3) := by decide +kernel
theorem dX12_takePart_112 : decode cX12_takePart 112 = .ok (.aload_n 0, 1) := by decide +kernel
theorem dX12_takePart_113 : decode cX12_takePart 113 = .ok (.bipush 40, 2) := by decide +kernel
theorem dX12_takePart_115 : decode cX12_takePart 115 = .ok (.invokevirtual 257, 3) := by decide +kernel
theorem dX12_takePart_118 : decode cX12_takePart 118 = .ok (.ifCond .eq 19, 3) := by decide +kernel
theorem dX12_takePart_121 : decode cX12_takePart 121 = .ok (.aload_n 0, 1) := by decide +kernel
theorem dX12_takePart_122 : decode cX12_takePart 122 = .ok (.iload_n 1, 1) := by decide +kernel
theorem dX12_takePart_123 : decode cX12_takePart 123 = .ok (.iconst 1, 1) := by decide +kernel
theorem dX12_takePart_124 : decode cX12_takePart 124 = .ok (.iadd, 1) := by decide +kernel
theorem dX12_takePart_125 : decode cX12_takePart 125 = .ok (.invokevirtual 244, 3) := by decide +kernel
theorem dX12_takePart_128 : decode cX12_takePart 128 = .ok (.aload_n 0, 1) := by decide +kernel
theorem dX12_takePart_129 : decode cX12_takePart 129 = .ok (.bipush 41, 2) := by decide +kernel
theorem dX12_takePart_131 : decode cX12_takePart 131 = .ok (.invokevirtual 218, 3) := by decide +kernel
theorem dX12_takePart_134 : decode cX12_takePart 134 = .ok (.goto 44, 3) := by decide +kernel
theorem dX12_takePart_137 : decode cX12_takePart 137 = .ok (.aload_n 0, 1) := by decide +kernel
theorem dX12_takePart_138 : decode cX12_takePart 138 = .ok (.iload_n 2, 1) := by decide +kernel
theorem dX12_takePart_139 : decode cX12_takePart 139 = .ok (.ifCond .eq 7, 3) := by decide +kernel
theorem dX12_takePart_142 : decode cX12_takePart 142 = .ok (.iconst 1, 1) := by decide +kernel
theorem dX12_takePart_143 : decode cX12_takePart 143 = .ok (.goto 4, 3) := by decide +kernel
theorem dX12_takePart_146 : decode cX12_takePart 146 = .ok (.iconst 2, 1) := by decide +kernel
theorem dX12_takePart_147 : decode cX12_takePart 147 = .ok (.iload_n 2, 1) := by decide +kernel
theorem dX12_takePart_148 : decode cX12_takePart 148 = .ok (.ifCond .eq 16, 3) := by decide +kernel
theorem dX12_takePart_151 : decode cX12_takePart 151 = .ok (.aload_n 0, 1) := by decide +kernel
theorem dX12_takePart_152 : decode cX12_takePart 152 = .ok (.getfield 30, 3) := by decide +kernel
theorem dX12_takePart_155 : decode cX12_takePart 155 = .ok (.aload_n 0, 1) := by decide +kernel
theorem dX12_takePart_156 : decode cX12_takePart 156 = .ok (.getfield 159, 3) := by decide +kernel
theorem dX12_takePart_159 : decode cX12_takePart 159 = .ok (.laload, 1) := by decide +kernel
theorem dX12_takePart_160 : decode cX12_takePart 160 = .ok (.l2i, 1) := by decide +kernel
theorem dX12_takePart_161 : decode cX12_takePart 161 = .ok (.goto 4, 3) := by decide +kernel
theorem dX12_takePart_164 : decode cX12_takePart 164 = .ok (.iload_n 3, 1) := by decide +kernel
theorem dX12_takePart_165 : decode cX12_takePart 165 = .ok (.invokevirtual 247, 3) := by decide +kernel
theorem dX12_takePart_168 : decode cX12_takePart 168 = .ok (.aload_n 0, 1) := by decide +kernel
theorem dX12_takePart_169 : decode cX12_takePart 169 = .ok (.dup, 1) := by decide +kernel
theorem dX12_takePart_170 : decode cX12_takePart 170 = .ok (.getfield 159, 3) := by decide +kernel
theorem dX12_takePart_173 : decode cX12_takePart 173 = .ok (.iconst 1, 1) := by decide +kernel
theorem dX12_takePart_174 : decode cX12_takePart 174 = .ok (.iadd, 1) := by decide +kernel
theorem dX12_takePart_175 : decode cX12_takePart 175 = .ok (.putfield 159, 3) := by decide +kernel
theorem dX12_takePart_178 : decode cX12_takePart 178 = .ok (.return_, 1) := by decide +kernel
noncomputable def GX12_takePart (self : Nat → Int32 → PP Unit) (a0 : Nat) (p1 : Int32) : PP Unit := bd (gI a0 8) (fun x1 => if x1 ≤ 0 then bd (gI a0 7) (fun x2 => bd (aI (rf a0 4) 1002 x2) (fun x3 => bd (if x3 = (2 : Int32) then pu (1 : Int32) else pu (0 : Int32) : PP (Int32)) (fun (v4 : Int32) => bd (FX12_wordHere a0 (19 : Int32) (4 : Int32)) (fun x5 => bd (jn (fun (v10 : Unit) => if p1 = (5 : Int32) then bd (FX12_wrong a0 (5 : Int32)) (fun (_ : Unit) => pu ()) else pu ()) (fun j6 => if 0 ≤ x5 then j6 () else if v4 = 0 then bd (FX12_isSign a0 (40 : Int32)) (fun x7 => if ((b2i x7)) = 0 then bd (FX12_isWord a0 (16 : Int32)) (fun x8 => if ((b2i x8)) = 0 then bd (FX12_wrong a0 (1 : Int32)) (fun (_ : Unit) => pu ()) else j6 ()) else j6 ()) else j6 ()) : PP (Unit)) (fun (v12 : Unit) => bd (gI a0 8) (fun x13 => if x13 ≤ 0 then bd (FX12_hasWord a0 (16 : Int32)) (fun x14 => bd (if ((b2i x14)) = 0 then bd (FX12_hasSign a0 (40 : Int32)) (fun x15 => if ((b2i x15)) = 0 then bd (if v4 = 0 then pu (2 : Int32) else pu (1 : Int32) : PP (Int32)) (fun (v16 : Int32) => bd (if v4 = 0 then pu x5 else bd (gI a0 7) (fun x17 => bd (aL (rf a0 6) 1002 x17) (fun x18 => pu x18.toInt32)) : PP (Int32)) (fun (v19 : Int32) => bd (FX12_emit a0 v16 v19) (fun (_ : Unit) => bd (gI a0 7) (fun x21 => bd (sI a0 7 (x21 + (1 : Int32))) (fun (_ : Unit) => pu ()))))) else bd (FX12_whole self a0 (p1 + (1 : Int32))) (fun (_ : Unit) => bd (FX12_takeSign a0 (41 : Int32)) (fun (_ : Unit) => pu ()))) else bd (self a0 (p1 + (1 : Int32))) (fun (_ : Unit) => bd (FX12_emit a0 (3 : Int32) (0 : Int32)) (fun (_ : Unit) => pu ())) : PP (Unit)) (fun (v26 : Unit) => pu ())) else pu ())))))) else pu ())
set_option maxHeartbeats 4000000 in
set_option maxRecDepth 100000 in
theorem SGX12_takePart {l : Launch} {K : KK} {n : Nat} {dp : Nat} {self : Nat → Int32 → PP Unit} {hn : 270 ≤ n} (hs : ∀ (a0 : Nat) (p1 : Int32), ob a0 11 → CT l K n dp mX12_takePart [.ref (K.2.1 + a0), .int p1] enU (self a0 p1)) (a0 : Nat) (p1 : Int32) (h0 : ob a0 11) : CT l K n (dp + 6) mX12_takePart [.ref (K.2.1 + a0), .int p1] enU (GX12_takePart self a0 p1) := by
  refine CT.of2 (lv2 := [(0, .ref (K.2.1 + a0)), (1, .int p1)]) (by decide) rfl hn (Nat.le_of_ble_eq_true rfl) rfl (rp_id ?_)
  unfold GX12_takePart
  refine rp_aload_n 0 dX12_takePart_0 rfl ?_
  refine rp_getI fi_X12_162 h0 rfl dX12_takePart_1 (fun x1 => ?_)
  refine rp_if_le 8 dX12_takePart_4 (by decide) ?_ ?_
  · refine rp_aload_n 0 dX12_takePart_8 rfl ?_
    refine rp_getR fi_X12_24 h0 rfl dX12_takePart_9 ?_
    refine rp_aload_n 0 dX12_takePart_12 rfl ?_
    refine rp_getI fi_X12_159 h0 rfl dX12_takePart_13 (fun x2 => ?_)
    refine rp_iald (tX12_4 h0) dX12_takePart_16 (fun x3 => ?_)
    refine rp_iconst (2 : Int32) dX12_takePart_17 (by decide) ?_
    refine rp_as ?_
    refine rp_join 26 (fun (v4 : Int32) => [(0, .ref (K.2.1 + a0)), (1, .int p1)]) (fun v4 => [.int v4]) (fun v4 => ?_) (fun hJ26 => ?_)
    · refine rp_istore_n [(2, .int v4), (0, .ref (K.2.1 + a0)), (1, .int p1)] dX12_takePart_26 (by decide) rfl ?_
      refine rp_aload_n 1 dX12_takePart_27 rfl ?_
      refine rp_bipush (19 : Int32) dX12_takePart_28 (by decide) ?_
      refine rp_iconst (4 : Int32) dX12_takePart_30 (by decide) ?_
      refine rp_callVi [.int (19 : Int32), .int (4 : Int32)] (SX12_wordHere (hn := hn) a0 (19 : Int32) (4 : Int32) h0) cvX12_wordHere (mw (i := 1452) (by decide +kernel)) (by omega) h0 (by decide) rfl rfl rfl (Nat.le_of_ble_eq_true rfl) dX12_takePart_31 (fun x5 => ?_)
      refine rp_istore_n [(3, .int x5), (2, .int v4), (0, .ref (K.2.1 + a0)), (1, .int p1)] dX12_takePart_34 (by decide) rfl ?_
      refine rp_iload_n 0 dX12_takePart_35 rfl ?_
      refine rp_as ?_
      refine rp_join 79 (fun (v12 : Unit) => [(0, .ref (K.2.1 + a0)), (1, .int p1), (2, .int v4), (3, .int x5)]) (fun v12 => []) (fun v12 => ?_) (fun hJ79 => ?_)
      · refine rp_aload_n 0 dX12_takePart_79 rfl ?_
        refine rp_getI fi_X12_162 h0 rfl dX12_takePart_80 (fun x13 => ?_)
        refine rp_if_le 87 dX12_takePart_83 (by decide) ?_ ?_
        · refine rp_aload_n 0 dX12_takePart_87 rfl ?_
          refine rp_bipush (16 : Int32) dX12_takePart_88 (by decide) ?_
          refine rp_callVz [.int (16 : Int32)] (SX12_hasWord (hn := hn) a0 (16 : Int32) h0) cvX12_hasWord (mw (i := 1468) (by decide +kernel)) (by omega) h0 (by decide) rfl rfl rfl (Nat.le_of_ble_eq_true rfl) dX12_takePart_90 (fun x14 => ?_)
          refine rp_as ?_
          refine rp_join 178 (fun (v26 : Unit) => []) (fun v26 => []) (fun v26 => ?_) (fun hJ178 => ?_)
          · exact rp_pu (rp_vret rfl dX12_takePart_178)
          refine rp_if_eq 112 dX12_takePart_93 (by decide) ?_ ?_
          · refine rp_aload_n 0 dX12_takePart_112 rfl ?_
            refine rp_bipush (40 : Int32) dX12_takePart_113 (by decide) ?_
            refine rp_callVz [.int (40 : Int32)] (SX12_hasSign (hn := hn) a0 (40 : Int32) h0) cvX12_hasSign (mw (i := 1531) (by decide +kernel)) (by omega) h0 (by decide) rfl rfl rfl (Nat.le_of_ble_eq_true rfl) dX12_takePart_115 (fun x15 => ?_)
            refine rp_if_eq 137 dX12_takePart_118 (by decide) ?_ ?_
            · refine rp_aload_n 0 dX12_takePart_137 rfl ?_
              refine rp_iload_n 2 dX12_takePart_138 rfl ?_
              refine rp_as ?_
              refine rp_join 147 (fun (v16 : Int32) => [(0, .ref (K.2.1 + a0)), (2, .int v4), (3, .int x5)]) (fun v16 => [.int v16, .ref (K.2.1 + a0)]) (fun v16 => ?_) (fun hJ147 => ?_)
              · refine rp_iload_n 1 dX12_takePart_147 rfl ?_
                refine rp_as ?_
                refine rp_join 165 (fun (v19 : Int32) => [(0, .ref (K.2.1 + a0))]) (fun v19 => [.int v19, .int v16, .ref (K.2.1 + a0)]) (fun v19 => ?_) (fun hJ165 => ?_)
                · refine rp_callVv [.int v16, .int v19] (SX12_emit (hn := hn) a0 v16 v19 h0) cvX12_emit (mw (i := 1527) (by decide +kernel)) (by omega) h0 (by decide) rfl rfl rfl (Nat.le_of_ble_eq_true rfl) dX12_takePart_165 (fun x20 => ?_)
                  refine rp_aload_n 0 dX12_takePart_168 rfl ?_
                  refine rp_dup dX12_takePart_169 rfl ?_
                  refine rp_getI fi_X12_159 h0 rfl dX12_takePart_170 (fun x21 => ?_)
                  refine rp_iconst (1 : Int32) dX12_takePart_173 (by decide) ?_
                  refine rp_iadd dX12_takePart_174 ?_
                  refine rp_putI fi_X12_159 fp_X12_7 h0 rfl dX12_takePart_175 ?_
                  exact rp_sub [] rfl (rp_pu (hJ178 ()))
                refine rp_if_eq 164 dX12_takePart_148 (by decide) ?_ ?_
                · refine rp_iload_n 2 dX12_takePart_164 rfl ?_
                  exact rp_sub [0] rfl (rp_pu (hJ165 x5))
                · refine rp_aload_n 0 dX12_takePart_151 rfl ?_
                  refine rp_getR fi_X12_30 h0 rfl dX12_takePart_152 ?_
                  refine rp_aload_n 0 dX12_takePart_155 rfl ?_
                  refine rp_getI fi_X12_159 h0 rfl dX12_takePart_156 (fun x17 => ?_)
                  refine rp_lald (tX12_6 h0) dX12_takePart_159 (fun x18 => ?_)
                  refine rp_l2i dX12_takePart_160 ?_
                  refine rp_goto 165 dX12_takePart_161 (by decide) ?_
                  exact rp_sub [0] rfl (rp_pu (hJ165 x18.toInt32))
              refine rp_if_eq 146 dX12_takePart_139 (by decide) ?_ ?_
              · refine rp_iconst (2 : Int32) dX12_takePart_146 (by decide) ?_
                exact rp_sub [0, 2, 3] rfl (rp_pu (hJ147 (2 : Int32)))
              · refine rp_iconst (1 : Int32) dX12_takePart_142 (by decide) ?_
                refine rp_goto 147 dX12_takePart_143 (by decide) ?_
                exact rp_sub [0, 2, 3] rfl (rp_pu (hJ147 (1 : Int32)))
            · refine rp_aload_n 0 dX12_takePart_121 rfl ?_
              refine rp_iload_n 1 dX12_takePart_122 rfl ?_
              refine rp_iconst (1 : Int32) dX12_takePart_123 (by decide) ?_
              refine rp_iadd dX12_takePart_124 ?_
              refine rp_callVv [.int (p1 + (1 : Int32))] (SX12_whole (hn := hn) hs a0 (p1 + (1 : Int32)) h0) cvX12_whole (mw (i := 1503) (by decide +kernel)) (by omega) h0 (by decide) rfl rfl rfl (Nat.le_of_ble_eq_true rfl) dX12_takePart_125 (fun x22 => ?_)
              refine rp_aload_n 0 dX12_takePart_128 rfl ?_
              refine rp_bipush (41 : Int32) dX12_takePart_129 (by decide) ?_
              refine rp_callVv [.int (41 : Int32)] (SX12_takeSign (hn := hn) a0 (41 : Int32) h0) cvX12_takeSign (mw (i := 1535) (by decide +kernel)) (by omega) h0 (by decide) rfl rfl rfl (Nat.le_of_ble_eq_true rfl) dX12_takePart_131 (fun x23 => ?_)
              refine rp_goto 178 dX12_takePart_134 (by decide) ?_
              exact rp_sub [] rfl (rp_pu (hJ178 ()))
          · refine rp_aload_n 0 dX12_takePart_96 rfl ?_
            refine rp_iload_n 1 dX12_takePart_97 rfl ?_
            refine rp_iconst (1 : Int32) dX12_takePart_98 (by decide) ?_
            refine rp_iadd dX12_takePart_99 ?_
            refine rp_callVv [.int (p1 + (1 : Int32))] (hs a0 (p1 + (1 : Int32)) h0) cvX12_takePart (mw (i := 1519) (by decide +kernel)) (by omega) h0 (by decide) rfl rfl rfl (Nat.le_of_ble_eq_true rfl) dX12_takePart_100 (fun x24 => ?_)
            refine rp_aload_n 0 dX12_takePart_103 rfl ?_
            refine rp_iconst (3 : Int32) dX12_takePart_104 (by decide) ?_
            refine rp_iconst (0 : Int32) dX12_takePart_105 (by decide) ?_
            refine rp_callVv [.int (3 : Int32), .int (0 : Int32)] (SX12_emit (hn := hn) a0 (3 : Int32) (0 : Int32) h0) cvX12_emit (mw (i := 1527) (by decide +kernel)) (by omega) h0 (by decide) rfl rfl rfl (Nat.le_of_ble_eq_true rfl) dX12_takePart_106 (fun x25 => ?_)
            refine rp_goto 178 dX12_takePart_109 (by decide) ?_
            exact rp_sub [] rfl (rp_pu (hJ178 ()))
        · exact rp_pu (rp_vret rfl dX12_takePart_86)
      refine rp_jn2 69 (fun (v10 : Unit) => [(0, .ref (K.2.1 + a0)), (1, .int p1), (2, .int v4), (3, .int x5)]) (fun v10 => []) (fun v10 => ?_) (fun hK69 => ?_)
      · refine rp_iload_n 1 dX12_takePart_69 rfl ?_
        refine rp_iconst (5 : Int32) dX12_takePart_70 (by decide) ?_
        refine rp_icmp_ne 79 dX12_takePart_71 (by decide) ?_ ?_
        · exact rp_sub [0, 1, 2, 3] rfl (rp_pu (hJ79 ()))
        · refine rp_aload_n 0 dX12_takePart_74 rfl ?_
          refine rp_iconst (5 : Int32) dX12_takePart_75 (by decide) ?_
          refine rp_callVv [.int (5 : Int32)] (SX12_wrong (hn := hn) a0 (5 : Int32) h0) cvX12_wrong (mw (i := 1444) (by decide +kernel)) (by omega) h0 (by decide) rfl rfl rfl (Nat.le_of_ble_eq_true rfl) dX12_takePart_76 (fun x11 => ?_)
          exact rp_sub [0, 1, 2, 3] rfl (rp_pu (hJ79 ()))
      refine rp_if_ge 69 dX12_takePart_36 (by decide) ?_ ?_
      · exact rp_sub [2, 3, 1, 0] rfl (hK69 ())
      · refine rp_iload_n 1 dX12_takePart_39 rfl ?_
        refine rp_if_ne 69 dX12_takePart_40 (by decide) ?_ ?_
        · exact rp_sub [2, 3, 1, 0] rfl (hK69 ())
        · refine rp_aload_n 2 dX12_takePart_43 rfl ?_
          refine rp_bipush (40 : Int32) dX12_takePart_44 (by decide) ?_
          refine rp_callVz [.int (40 : Int32)] (SX12_isSign (hn := hn) a0 (40 : Int32) h0) cvX12_isSign (mw (i := 1523) (by decide +kernel)) (by omega) h0 (by decide) rfl rfl rfl (Nat.le_of_ble_eq_true rfl) dX12_takePart_46 (fun x7 => ?_)
          refine rp_if_ne 69 dX12_takePart_49 (by decide) ?_ ?_
          · exact rp_sub [2, 3, 1, 0] rfl (hK69 ())
          · refine rp_aload_n 2 dX12_takePart_52 rfl ?_
            refine rp_bipush (16 : Int32) dX12_takePart_53 (by decide) ?_
            refine rp_callVz [.int (16 : Int32)] (SX12_isWord (hn := hn) a0 (16 : Int32) h0) cvX12_isWord (mw (i := 1436) (by decide +kernel)) (by omega) h0 (by decide) rfl rfl rfl (Nat.le_of_ble_eq_true rfl) dX12_takePart_55 (fun x8 => ?_)
            refine rp_if_ne 69 dX12_takePart_58 (by decide) ?_ ?_
            · exact rp_sub [2, 3, 1, 0] rfl (hK69 ())
            · refine rp_aload_n 2 dX12_takePart_61 rfl ?_
              refine rp_iconst (1 : Int32) dX12_takePart_62 (by decide) ?_
              refine rp_callVv [.int (1 : Int32)] (SX12_wrong (hn := hn) a0 (1 : Int32) h0) cvX12_wrong (mw (i := 1444) (by decide +kernel)) (by omega) h0 (by decide) rfl rfl rfl (Nat.le_of_ble_eq_true rfl) dX12_takePart_63 (fun x9 => ?_)
              refine rp_goto 79 dX12_takePart_66 (by decide) ?_
              exact rp_sub [2, 3, 1, 0] rfl (rp_pu (hJ79 ()))
    refine rp_icmp_ne 25 dX12_takePart_18 (by decide) ?_ ?_
    · refine rp_iconst (0 : Int32) dX12_takePart_25 (by decide) ?_
      exact rp_sub [0, 1] rfl (rp_pu (hJ26 (0 : Int32)))
    · refine rp_iconst (1 : Int32) dX12_takePart_21 (by decide) ?_
      refine rp_goto 26 dX12_takePart_22 (by decide) ?_
      exact rp_sub [0, 1] rfl (rp_pu (hJ26 (1 : Int32)))
  · exact rp_pu (rp_vret rfl dX12_takePart_7)
noncomputable def FX12_takePart : Nat → Nat → Int32 → PP Unit
  | 0, _, _ => fl
  | k + 1, a0, p1 => GX12_takePart (FX12_takePart k) a0 p1
theorem SX12_takePart {l : Launch} {K : KK} {n : Nat} {hn : 270 ≤ n} : ∀ (k : Nat) (a0 : Nat) (p1 : Int32) (h0 : ob a0 11), CT l K n (6 * k) mX12_takePart [.ref (K.2.1 + a0), .int p1] enU (FX12_takePart k a0 p1)
  | 0, _, _, _ => fun σ r σ' q => by cases q
  | k + 1, a0, p1, h0 => SGX12_takePart (hn := hn) (dp := 6 * k) (fun z0 z1 z2 => SX12_takePart (hn := hn) k z0 z1 z2) a0 p1 h0

theorem dX12_readDries_0 : decode cX12_readDries 0 = .ok (.aload_n 0, 1) := by decide +kernel
theorem dX12_readDries_1 : decode cX12_readDries 1 = .ok (.bipush 7, 2) := by decide +kernel
theorem dX12_readDries_3 : decode cX12_readDries 3 = .ok (.invokevirtual 171, 3) := by decide +kernel
theorem dX12_readDries_6 : decode cX12_readDries 6 = .ok (.ifCond .ne 11, 3) := by decide +kernel
theorem dX12_readDries_9 : decode cX12_readDries 9 = .ok (.aload_n 0, 1) := by decide +kernel
theorem dX12_readDries_10 : decode cX12_readDries 10 = .ok (.iconst 1, 1) := by decide +kernel
theorem dX12_readDries_11 : decode cX12_readDries 11 = .ok (.invokevirtual 168, 3) := by decide +kernel
theorem dX12_readDries_14 : decode cX12_readDries 14 = .ok (.goto 18, 3) := by decide +kernel
theorem dX12_readDries_17 : decode cX12_readDries 17 = .ok (.aload_n 0, 1) := by decide +kernel
theorem dX12_readDries_18 : decode cX12_readDries 18 = .ok (.getfield 83, 3) := by decide +kernel
theorem dX12_readDries_21 : decode cX12_readDries 21 = .ok (.bipush 43, 2) := by decide +kernel
theorem dX12_readDries_23 : decode cX12_readDries 23 = .ok (.iaload, 1) := by decide +kernel
theorem dX12_readDries_24 : decode cX12_readDries 24 = .ok (.ifCond .lt 8, 3) := by decide +kernel
theorem dX12_readDries_27 : decode cX12_readDries 27 = .ok (.aload_n 0, 1) := by decide +kernel
theorem dX12_readDries_28 : decode cX12_readDries 28 = .ok (.iconst 3, 1) := by decide +kernel
theorem dX12_readDries_29 : decode cX12_readDries 29 = .ok (.invokevirtual 168, 3) := by decide +kernel
theorem dX12_readDries_32 : decode cX12_readDries 32 = .ok (.aload_n 0, 1) := by decide +kernel
theorem dX12_readDries_33 : decode cX12_readDries 33 = .ok (.getfield 162, 3) := by decide +kernel
theorem dX12_readDries_36 : decode cX12_readDries 36 = .ok (.ifCond .le 4, 3) := by decide +kernel
theorem dX12_readDries_39 : decode cX12_readDries 39 = .ok (.return_, 1) := by decide +kernel
theorem dX12_readDries_40 : decode cX12_readDries 40 = .ok (.aload_n 0, 1) := by decide +kernel
theorem dX12_readDries_41 : decode cX12_readDries 41 = .ok (.dup, 1) := by decide +kernel
theorem dX12_readDries_42 : decode cX12_readDries 42 = .ok (.getfield 159, 3) := by decide +kernel
theorem dX12_readDries_45 : decode cX12_readDries 45 = .ok (.iconst 1, 1) := by decide +kernel
theorem dX12_readDries_46 : decode cX12_readDries 46 = .ok (.iadd, 1) := by decide +kernel
theorem dX12_readDries_47 : decode cX12_readDries 47 = .ok (.putfield 159, 3) := by decide +kernel
theorem dX12_readDries_50 : decode cX12_readDries 50 = .ok (.aload_n 0, 1) := by decide +kernel
theorem dX12_readDries_51 : decode cX12_readDries 51 = .ok (.getfield 83, 3) := by decide +kernel
theorem dX12_readDries_54 : decode cX12_readDries 54 = .ok (.bipush 43, 2) := by decide +kernel
theorem dX12_readDries_56 : decode cX12_readDries 56 = .ok (.aload_n 0, 1) := by decide +kernel
theorem dX12_readDries_57 : decode cX12_readDries 57 = .ok (.getfield 212, 3) := by decide +kernel
theorem dX12_readDries_60 : decode cX12_readDries 60 = .ok (.iastore, 1) := by decide +kernel
theorem dX12_readDries_61 : decode cX12_readDries 61 = .ok (.aload_n 0, 1) := by decide +kernel
theorem dX12_readDries_62 : decode cX12_readDries 62 = .ok (.iconst 0, 1) := by decide +kernel
theorem dX12_readDries_63 : decode cX12_readDries 63 = .ok (.invokevirtual 244, 3) := by decide +kernel
theorem dX12_readDries_66 : decode cX12_readDries 66 = .ok (.aload_n 0, 1) := by decide +kernel
theorem dX12_readDries_67 : decode cX12_readDries 67 = .ok (.iconst 0, 1) := by decide +kernel
theorem dX12_readDries_68 : decode cX12_readDries 68 = .ok (.iconst 0, 1) := by decide +kernel
theorem dX12_readDries_69 : decode cX12_readDries 69 = .ok (.invokevirtual 247, 3) := by decide +kernel
theorem dX12_readDries_72 : decode cX12_readDries 72 = .ok (.return_, 1) := by decide +kernel
noncomputable def FX12_readDries (a0 : Nat) : PP Unit := bd (FX12_isWord a0 (7 : Int32)) (fun x1 => bd (if ((b2i x1)) = 0 then bd (FX12_wrong a0 (1 : Int32)) (fun (_ : Unit) => pu ()) else bd (aI (rf a0 10) 80 (43 : Int32)) (fun x2 => if x2 < 0 then pu () else bd (FX12_wrong a0 (3 : Int32)) (fun (_ : Unit) => pu ())) : PP (Unit)) (fun (v5 : Unit) => bd (gI a0 8) (fun x6 => if x6 ≤ 0 then bd (gI a0 7) (fun x7 => bd (sI a0 7 (x7 + (1 : Int32))) (fun (_ : Unit) => bd (gI a0 13) (fun x8 => bd (uI (rf a0 10) 80 (43 : Int32) x8) (fun (_ : Unit) => bd (FX12_whole (FX12_takePart 10) a0 (0 : Int32)) (fun (_ : Unit) => bd (FX12_emit a0 (0 : Int32) (0 : Int32)) (fun (_ : Unit) => pu ())))))) else pu ())))
set_option maxHeartbeats 4000000 in
set_option maxRecDepth 100000 in
theorem SX12_readDries {l : Launch} {K : KK} {n : Nat} {hn : 270 ≤ n} (a0 : Nat) (h0 : ob a0 11) : CT l K n 66 mX12_readDries [.ref (K.2.1 + a0)] enU (FX12_readDries a0) := by
  refine CT.of2 (lv2 := [(0, .ref (K.2.1 + a0))]) (by decide) rfl hn (Nat.le_of_ble_eq_true rfl) rfl (rp_id ?_)
  unfold FX12_readDries
  refine rp_aload_n 0 dX12_readDries_0 rfl ?_
  refine rp_bipush (7 : Int32) dX12_readDries_1 (by decide) ?_
  refine rp_callVz [.int (7 : Int32)] (SX12_isWord (hn := hn) a0 (7 : Int32) h0) cvX12_isWord (mw (i := 1436) (by decide +kernel)) (by omega) h0 (by decide) rfl rfl rfl (Nat.le_of_ble_eq_true rfl) dX12_readDries_3 (fun x1 => ?_)
  refine rp_as ?_
  refine rp_join 32 (fun (v5 : Unit) => [(0, .ref (K.2.1 + a0))]) (fun v5 => []) (fun v5 => ?_) (fun hJ32 => ?_)
  · refine rp_aload_n 0 dX12_readDries_32 rfl ?_
    refine rp_getI fi_X12_162 h0 rfl dX12_readDries_33 (fun x6 => ?_)
    refine rp_if_le 40 dX12_readDries_36 (by decide) ?_ ?_
    · refine rp_aload_n 0 dX12_readDries_40 rfl ?_
      refine rp_dup dX12_readDries_41 rfl ?_
      refine rp_getI fi_X12_159 h0 rfl dX12_readDries_42 (fun x7 => ?_)
      refine rp_iconst (1 : Int32) dX12_readDries_45 (by decide) ?_
      refine rp_iadd dX12_readDries_46 ?_
      refine rp_putI fi_X12_159 fp_X12_7 h0 rfl dX12_readDries_47 ?_
      refine rp_aload_n 0 dX12_readDries_50 rfl ?_
      refine rp_getR fi_X12_83 h0 rfl dX12_readDries_51 ?_
      refine rp_bipush (43 : Int32) dX12_readDries_54 (by decide) ?_
      refine rp_aload_n 0 dX12_readDries_56 rfl ?_
      refine rp_getI fi_X12_212 h0 rfl dX12_readDries_57 (fun x8 => ?_)
      refine rp_iast (tX12_10 h0) dX12_readDries_60 ?_
      refine rp_aload_n 0 dX12_readDries_61 rfl ?_
      refine rp_iconst (0 : Int32) dX12_readDries_62 (by decide) ?_
      refine rp_callVv [.int (0 : Int32)] (SX12_whole (hn := hn) (fun z0 z1 z2 => SX12_takePart (hn := hn) 10 z0 z1 z2) a0 (0 : Int32) h0) cvX12_whole (mw (i := 1503) (by decide +kernel)) (by omega) h0 (by decide) rfl rfl rfl (Nat.le_of_ble_eq_true rfl) dX12_readDries_63 (fun x9 => ?_)
      refine rp_aload_n 0 dX12_readDries_66 rfl ?_
      refine rp_iconst (0 : Int32) dX12_readDries_67 (by decide) ?_
      refine rp_iconst (0 : Int32) dX12_readDries_68 (by decide) ?_
      refine rp_callVv [.int (0 : Int32), .int (0 : Int32)] (SX12_emit (hn := hn) a0 (0 : Int32) (0 : Int32) h0) cvX12_emit (mw (i := 1527) (by decide +kernel)) (by omega) h0 (by decide) rfl rfl rfl (Nat.le_of_ble_eq_true rfl) dX12_readDries_69 (fun x10 => ?_)
      exact rp_pu (rp_vret rfl dX12_readDries_72)
    · exact rp_pu (rp_vret rfl dX12_readDries_39)
  refine rp_if_ne 17 dX12_readDries_6 (by decide) ?_ ?_
  · refine rp_aload_n 0 dX12_readDries_17 rfl ?_
    refine rp_getR fi_X12_83 h0 rfl dX12_readDries_18 ?_
    refine rp_bipush (43 : Int32) dX12_readDries_21 (by decide) ?_
    refine rp_iald (tX12_10 h0) dX12_readDries_23 (fun x2 => ?_)
    refine rp_if_lt 32 dX12_readDries_24 (by decide) ?_ ?_
    · exact rp_sub [0] rfl (rp_pu (hJ32 ()))
    · refine rp_aload_n 0 dX12_readDries_27 rfl ?_
      refine rp_iconst (3 : Int32) dX12_readDries_28 (by decide) ?_
      refine rp_callVv [.int (3 : Int32)] (SX12_wrong (hn := hn) a0 (3 : Int32) h0) cvX12_wrong (mw (i := 1444) (by decide +kernel)) (by omega) h0 (by decide) rfl rfl rfl (Nat.le_of_ble_eq_true rfl) dX12_readDries_29 (fun x3 => ?_)
      exact rp_sub [0] rfl (rp_pu (hJ32 ()))
  · refine rp_aload_n 0 dX12_readDries_9 rfl ?_
    refine rp_iconst (1 : Int32) dX12_readDries_10 (by decide) ?_
    refine rp_callVv [.int (1 : Int32)] (SX12_wrong (hn := hn) a0 (1 : Int32) h0) cvX12_wrong (mw (i := 1444) (by decide +kernel)) (by omega) h0 (by decide) rfl rfl rfl (Nat.le_of_ble_eq_true rfl) dX12_readDries_11 (fun x4 => ?_)
    refine rp_goto 32 dX12_readDries_14 (by decide) ?_
    exact rp_sub [0] rfl (rp_pu (hJ32 ()))

theorem dX12_readLine_0 : decode cX12_readLine 0 = .ok (.aload_n 0, 1) := by decide +kernel
theorem dX12_readLine_1 : decode cX12_readLine 1 = .ok (.iconst 0, 1) := by decide +kernel
theorem dX12_readLine_2 : decode cX12_readLine 2 = .ok (.invokevirtual 171, 3) := by decide +kernel
theorem dX12_readLine_5 : decode cX12_readLine 5 = .ok (.ifCond .eq 49, 3) := by decide +kernel
theorem dX12_readLine_8 : decode cX12_readLine 8 = .ok (.bipush 44, 2) := by decide +kernel
theorem dX12_readLine_10 : decode cX12_readLine 10 = .ok (.iconst 2, 1) := by decide +kernel
theorem dX12_readLine_11 : decode cX12_readLine 11 = .ok (.aload_n 0, 1) := by decide +kernel
theorem dX12_readLine_12 : decode cX12_readLine 12 = .ok (.getfield 83, 3) := by decide +kernel
theorem dX12_readLine_15 : decode cX12_readLine 15 = .ok (.bipush 40, 2) := by decide +kernel
theorem dX12_readLine_17 : decode cX12_readLine 17 = .ok (.iaload, 1) := by decide +kernel
theorem dX12_readLine_18 : decode cX12_readLine 18 = .ok (.imul, 1) := by decide +kernel
theorem dX12_readLine_19 : decode cX12_readLine 19 = .ok (.iadd, 1) := by decide +kernel
theorem dX12_readLine_20 : decode cX12_readLine 20 = .ok (.istore_n 1, 1) := by decide +kernel
theorem dX12_readLine_21 : decode cX12_readLine 21 = .ok (.aload_n 0, 1) := by decide +kernel
theorem dX12_readLine_22 : decode cX12_readLine 22 = .ok (.iconst 0, 1) := by decide +kernel
theorem dX12_readLine_23 : decode cX12_readLine 23 = .ok (.iconst 5, 1) := by decide +kernel
theorem dX12_readLine_24 : decode cX12_readLine 24 = .ok (.iconst 0, 1) := by decide +kernel
theorem dX12_readLine_25 : decode cX12_readLine 25 = .ok (.invokevirtual 221, 3) := by decide +kernel
theorem dX12_readLine_28 : decode cX12_readLine 28 = .ok (.aload_n 0, 1) := by decide +kernel
theorem dX12_readLine_29 : decode cX12_readLine 29 = .ok (.iconst 1, 1) := by decide +kernel
theorem dX12_readLine_30 : decode cX12_readLine 30 = .ok (.iconst 1, 1) := by decide +kernel
theorem dX12_readLine_31 : decode cX12_readLine 31 = .ok (.bipush 9, 2) := by decide +kernel
theorem dX12_readLine_33 : decode cX12_readLine 33 = .ok (.invokevirtual 225, 3) := by decide +kernel
theorem dX12_readLine_36 : decode cX12_readLine 36 = .ok (.istore_n 2, 1) := by decide +kernel
theorem dX12_readLine_37 : decode cX12_readLine 37 = .ok (.aload_n 0, 1) := by decide +kernel
theorem dX12_readLine_38 : decode cX12_readLine 38 = .ok (.getfield 162, 3) := by decide +kernel
theorem dX12_readLine_41 : decode cX12_readLine 41 = .ok (.ifCond .ne 10, 3) := by decide +kernel
theorem dX12_readLine_44 : decode cX12_readLine 44 = .ok (.aload_n 0, 1) := by decide +kernel
theorem dX12_readLine_45 : decode cX12_readLine 45 = .ok (.getfield 83, 3) := by decide +kernel
theorem dX12_readLine_48 : decode cX12_readLine 48 = .ok (.iload_n 1, 1) := by decide +kernel
theorem dX12_readLine_49 : decode cX12_readLine 49 = .ok (.iload_n 2, 1) := by decide +kernel
theorem dX12_readLine_50 : decode cX12_readLine 50 = .ok (.iastore, 1) := by decide +kernel
theorem dX12_readLine_51 : decode cX12_readLine 51 = .ok (.goto 111, 3) := by decide +kernel
theorem dX12_readLine_54 : decode cX12_readLine 54 = .ok (.aload_n 0, 1) := by decide +kernel
theorem dX12_readLine_55 : decode cX12_readLine 55 = .ok (.iconst 2, 1) := by decide +kernel
theorem dX12_readLine_56 : decode cX12_readLine 56 = .ok (.invokevirtual 171, 3) := by decide +kernel
theorem dX12_readLine_59 : decode cX12_readLine 59 = .ok (.ifCond .eq 10, 3) := by decide +kernel
theorem dX12_readLine_62 : decode cX12_readLine 62 = .ok (.aload_n 0, 1) := by decide +kernel
theorem dX12_readLine_63 : decode cX12_readLine 63 = .ok (.invokevirtual 229, 3) := by decide +kernel
theorem dX12_readLine_66 : decode cX12_readLine 66 = .ok (.goto 96, 3) := by decide +kernel
theorem dX12_readLine_69 : decode cX12_readLine 69 = .ok (.aload_n 0, 1) := by decide +kernel
theorem dX12_readLine_70 : decode cX12_readLine 70 = .ok (.iconst 4, 1) := by decide +kernel
theorem dX12_readLine_71 : decode cX12_readLine 71 = .ok (.invokevirtual 171, 3) := by decide +kernel
theorem dX12_readLine_74 : decode cX12_readLine 74 = .ok (.ifCond .eq 68, 3) := by decide +kernel
theorem dX12_readLine_77 : decode cX12_readLine 77 = .ok (.bipush 58, 2) := by decide +kernel
theorem dX12_readLine_79 : decode cX12_readLine 79 = .ok (.iconst 2, 1) := by decide +kernel
theorem dX12_readLine_80 : decode cX12_readLine 80 = .ok (.aload_n 0, 1) := by decide +kernel
theorem dX12_readLine_81 : decode cX12_readLine 81 = .ok (.getfield 83, 3) := by decide +kernel
theorem dX12_readLine_84 : decode cX12_readLine 84 = .ok (.bipush 42, 2) := by decide +kernel
theorem dX12_readLine_86 : decode cX12_readLine 86 = .ok (.iaload, 1) := by decide +kernel
theorem dX12_readLine_87 : decode cX12_readLine 87 = .ok (.imul, 1) := by decide +kernel
theorem dX12_readLine_88 : decode cX12_readLine 88 = .ok (.iadd, 1) := by decide +kernel
theorem dX12_readLine_89 : decode cX12_readLine 89 = .ok (.istore_n 1, 1) := by decide +kernel
theorem dX12_readLine_90 : decode cX12_readLine 90 = .ok (.aload_n 0, 1) := by decide +kernel
theorem dX12_readLine_91 : decode cX12_readLine 91 = .ok (.iconst 2, 1) := by decide +kernel
theorem dX12_readLine_92 : decode cX12_readLine 92 = .ok (.bipush 6, 2) := by decide +kernel
theorem dX12_readLine_94 : decode cX12_readLine 94 = .ok (.bipush 40, 2) := by decide +kernel
theorem dX12_readLine_96 : decode cX12_readLine 96 = .ok (.invokevirtual 221, 3) := by decide +kernel
theorem dX12_readLine_99 : decode cX12_readLine 99 = .ok (.aload_n 0, 1) := by decide +kernel
theorem dX12_readLine_100 : decode cX12_readLine 100 = .ok (.bipush 12, 2) := by decide +kernel
theorem dX12_readLine_102 : decode cX12_readLine 102 = .ok (.iconst 4, 1) := by decide +kernel
theorem dX12_readLine_103 : decode cX12_readLine 103 = .ok (.invokevirtual 232, 3) := by decide +kernel
theorem dX12_readLine_106 : decode cX12_readLine 106 = .ok (.istore_n 2, 1) := by decide +kernel
theorem dX12_readLine_107 : decode cX12_readLine 107 = .ok (.aload_n 0, 1) := by decide +kernel
theorem dX12_readLine_108 : decode cX12_readLine 108 = .ok (.iconst 5, 1) := by decide +kernel
theorem dX12_readLine_109 : decode cX12_readLine 109 = .ok (.iconst 1, 1) := by decide +kernel
theorem dX12_readLine_110 : decode cX12_readLine 110 = .ok (.bipush 20, 2) := by decide +kernel
theorem dX12_readLine_112 : decode cX12_readLine 112 = .ok (.invokevirtual 225, 3) := by decide +kernel
theorem dX12_readLine_115 : decode cX12_readLine 115 = .ok (.istore_n 3, 1) := by decide +kernel
theorem dX12_readLine_116 : decode cX12_readLine 116 = .ok (.aload_n 0, 1) := by decide +kernel
theorem dX12_readLine_117 : decode cX12_readLine 117 = .ok (.getfield 162, 3) := by decide +kernel
theorem dX12_readLine_120 : decode cX12_readLine 120 = .ok (.ifCond .ne 19, 3) := by decide +kernel
theorem dX12_readLine_123 : decode cX12_readLine 123 = .ok (.aload_n 0, 1) := by decide +kernel
theorem dX12_readLine_124 : decode cX12_readLine 124 = .ok (.getfield 83, 3) := by decide +kernel
theorem dX12_readLine_127 : decode cX12_readLine 127 = .ok (.iload_n 1, 1) := by decide +kernel
theorem dX12_readLine_128 : decode cX12_readLine 128 = .ok (.iload_n 2, 1) := by decide +kernel
theorem dX12_readLine_129 : decode cX12_readLine 129 = .ok (.iastore, 1) := by decide +kernel
theorem dX12_readLine_130 : decode cX12_readLine 130 = .ok (.aload_n 0, 1) := by decide +kernel
theorem dX12_readLine_131 : decode cX12_readLine 131 = .ok (.getfield 83, 3) := by decide +kernel
theorem dX12_readLine_134 : decode cX12_readLine 134 = .ok (.iload_n 1, 1) := by decide +kernel
theorem dX12_readLine_135 : decode cX12_readLine 135 = .ok (.iconst 1, 1) := by decide +kernel
theorem dX12_readLine_136 : decode cX12_readLine 136 = .ok (.iadd, 1) := by decide +kernel
theorem dX12_readLine_137 : decode cX12_readLine 137 = .ok (.iload_n 3, 1) := by decide +kernel
theorem dX12_readLine_138 : decode cX12_readLine 138 = .ok (.iastore, 1) := by decide +kernel
theorem dX12_readLine_139 : decode cX12_readLine 139 = .ok (.goto 23, 3) := by decide +kernel
theorem dX12_readLine_142 : decode cX12_readLine 142 = .ok (.aload_n 0, 1) := by decide +kernel
theorem dX12_readLine_143 : decode cX12_readLine 143 = .ok (.bipush 6, 2) := by decide +kernel
theorem dX12_readLine_145 : decode cX12_readLine 145 = .ok (.invokevirtual 171, 3) := by decide +kernel
theorem dX12_readLine_148 : decode cX12_readLine 148 = .ok (.ifCond .eq 10, 3) := by decide +kernel
theorem dX12_readLine_151 : decode cX12_readLine 151 = .ok (.aload_n 0, 1) := by decide +kernel
theorem dX12_readLine_152 : decode cX12_readLine 152 = .ok (.invokevirtual 235, 3) := by decide +kernel
theorem dX12_readLine_155 : decode cX12_readLine 155 = .ok (.goto 7, 3) := by decide +kernel
theorem dX12_readLine_158 : decode cX12_readLine 158 = .ok (.aload_n 0, 1) := by decide +kernel
theorem dX12_readLine_159 : decode cX12_readLine 159 = .ok (.invokevirtual 238, 3) := by decide +kernel
theorem dX12_readLine_162 : decode cX12_readLine 162 = .ok (.return_, 1) := by decide +kernel
noncomputable def FX12_readLine (a0 : Nat) : PP Unit := bd (FX12_isWord a0 (0 : Int32)) (fun x1 => bd (if ((b2i x1)) = 0 then bd (FX12_isWord a0 (2 : Int32)) (fun x2 => if ((b2i x2)) = 0 then bd (FX12_isWord a0 (4 : Int32)) (fun x3 => if ((b2i x3)) = 0 then bd (FX12_isWord a0 (6 : Int32)) (fun x4 => if ((b2i x4)) = 0 then bd (FX12_readDries a0) (fun (_ : Unit) => pu ()) else bd (FX12_readCrosses a0) (fun (_ : Unit) => pu ())) else bd (aI (rf a0 10) 80 (42 : Int32)) (fun x7 => lt ((58 : Int32) + ((2 : Int32) * x7)) (fun y8 => bd (FX12_readName a0 (2 : Int32) (6 : Int32) (40 : Int32)) (fun (_ : Unit) => bd (FX12_takeOne a0 (12 : Int32) (4 : Int32)) (fun x10 => bd (FX12_takeAfter a0 (5 : Int32) (1 : Int32) (20 : Int32)) (fun x11 => bd (gI a0 8) (fun x12 => bd (if x12 = 0 then bd (uI (rf a0 10) 80 y8 x10) (fun (_ : Unit) => bd (uI (rf a0 10) 80 (y8 + (1 : Int32)) x11) (fun (_ : Unit) => pu ())) else pu () : PP (Unit)) (fun (v13 : Unit) => pu ())))))))) else bd (FX12_readPlace a0) (fun (_ : Unit) => pu ())) else bd (aI (rf a0 10) 80 (40 : Int32)) (fun x15 => lt ((44 : Int32) + ((2 : Int32) * x15)) (fun y16 => bd (FX12_readName a0 (0 : Int32) (5 : Int32) (0 : Int32)) (fun (_ : Unit) => bd (FX12_takeAfter a0 (1 : Int32) (1 : Int32) (9 : Int32)) (fun x18 => bd (gI a0 8) (fun x19 => bd (if x19 = 0 then bd (uI (rf a0 10) 80 y16 x18) (fun (_ : Unit) => pu ()) else pu () : PP (Unit)) (fun (v20 : Unit) => pu ())))))) : PP (Unit)) (fun (v21 : Unit) => pu ()))
set_option maxHeartbeats 4000000 in
set_option maxRecDepth 100000 in
theorem SX12_readLine {l : Launch} {K : KK} {n : Nat} {hn : 270 ≤ n} (a0 : Nat) (h0 : ob a0 11) : CT l K n 67 mX12_readLine [.ref (K.2.1 + a0)] enU (FX12_readLine a0) := by
  refine CT.of2 (lv2 := [(0, .ref (K.2.1 + a0))]) (by decide) rfl hn (Nat.le_of_ble_eq_true rfl) rfl (rp_id ?_)
  unfold FX12_readLine
  refine rp_aload_n 0 dX12_readLine_0 rfl ?_
  refine rp_iconst (0 : Int32) dX12_readLine_1 (by decide) ?_
  refine rp_callVz [.int (0 : Int32)] (SX12_isWord (hn := hn) a0 (0 : Int32) h0) cvX12_isWord (mw (i := 1436) (by decide +kernel)) (by omega) h0 (by decide) rfl rfl rfl (Nat.le_of_ble_eq_true rfl) dX12_readLine_2 (fun x1 => ?_)
  refine rp_as ?_
  refine rp_join 162 (fun (v21 : Unit) => []) (fun v21 => []) (fun v21 => ?_) (fun hJ162 => ?_)
  · exact rp_pu (rp_vret rfl dX12_readLine_162)
  refine rp_if_eq 54 dX12_readLine_5 (by decide) ?_ ?_
  · refine rp_aload_n 0 dX12_readLine_54 rfl ?_
    refine rp_iconst (2 : Int32) dX12_readLine_55 (by decide) ?_
    refine rp_callVz [.int (2 : Int32)] (SX12_isWord (hn := hn) a0 (2 : Int32) h0) cvX12_isWord (mw (i := 1436) (by decide +kernel)) (by omega) h0 (by decide) rfl rfl rfl (Nat.le_of_ble_eq_true rfl) dX12_readLine_56 (fun x2 => ?_)
    refine rp_if_eq 69 dX12_readLine_59 (by decide) ?_ ?_
    · refine rp_aload_n 0 dX12_readLine_69 rfl ?_
      refine rp_iconst (4 : Int32) dX12_readLine_70 (by decide) ?_
      refine rp_callVz [.int (4 : Int32)] (SX12_isWord (hn := hn) a0 (4 : Int32) h0) cvX12_isWord (mw (i := 1436) (by decide +kernel)) (by omega) h0 (by decide) rfl rfl rfl (Nat.le_of_ble_eq_true rfl) dX12_readLine_71 (fun x3 => ?_)
      refine rp_if_eq 142 dX12_readLine_74 (by decide) ?_ ?_
      · refine rp_aload_n 0 dX12_readLine_142 rfl ?_
        refine rp_bipush (6 : Int32) dX12_readLine_143 (by decide) ?_
        refine rp_callVz [.int (6 : Int32)] (SX12_isWord (hn := hn) a0 (6 : Int32) h0) cvX12_isWord (mw (i := 1436) (by decide +kernel)) (by omega) h0 (by decide) rfl rfl rfl (Nat.le_of_ble_eq_true rfl) dX12_readLine_145 (fun x4 => ?_)
        refine rp_if_eq 158 dX12_readLine_148 (by decide) ?_ ?_
        · refine rp_aload_n 0 dX12_readLine_158 rfl ?_
          refine rp_callVv [] (SX12_readDries (hn := hn) a0 h0) cvX12_readDries (mw (i := 1499) (by decide +kernel)) (by omega) h0 (by decide) rfl rfl rfl (Nat.le_of_ble_eq_true rfl) dX12_readLine_159 (fun x5 => ?_)
          exact rp_sub [] rfl (rp_pu (hJ162 ()))
        · refine rp_aload_n 0 dX12_readLine_151 rfl ?_
          refine rp_callVv [] (SX12_readCrosses (hn := hn) a0 h0) cvX12_readCrosses (mw (i := 1491) (by decide +kernel)) (by omega) h0 (by decide) rfl rfl rfl (Nat.le_of_ble_eq_true rfl) dX12_readLine_152 (fun x6 => ?_)
          refine rp_goto 162 dX12_readLine_155 (by decide) ?_
          exact rp_sub [] rfl (rp_pu (hJ162 ()))
      · refine rp_bipush (58 : Int32) dX12_readLine_77 (by decide) ?_
        refine rp_iconst (2 : Int32) dX12_readLine_79 (by decide) ?_
        refine rp_aload_n 0 dX12_readLine_80 rfl ?_
        refine rp_getR fi_X12_83 h0 rfl dX12_readLine_81 ?_
        refine rp_bipush (42 : Int32) dX12_readLine_84 (by decide) ?_
        refine rp_iald (tX12_10 h0) dX12_readLine_86 (fun x7 => ?_)
        refine rp_imul dX12_readLine_87 ?_
        refine rp_iadd dX12_readLine_88 ?_
        refine rp_lti (fun y8 => ?_)
        refine rp_istore_n [(1, .int y8), (0, .ref (K.2.1 + a0))] dX12_readLine_89 (by decide) rfl ?_
        refine rp_aload_n 1 dX12_readLine_90 rfl ?_
        refine rp_iconst (2 : Int32) dX12_readLine_91 (by decide) ?_
        refine rp_bipush (6 : Int32) dX12_readLine_92 (by decide) ?_
        refine rp_bipush (40 : Int32) dX12_readLine_94 (by decide) ?_
        refine rp_callVv [.int (2 : Int32), .int (6 : Int32), .int (40 : Int32)] (SX12_readName (hn := hn) a0 (2 : Int32) (6 : Int32) (40 : Int32) h0) cvX12_readName (mw (i := 1440) (by decide +kernel)) (by omega) h0 (by decide) rfl rfl rfl (Nat.le_of_ble_eq_true rfl) dX12_readLine_96 (fun x9 => ?_)
        refine rp_aload_n 1 dX12_readLine_99 rfl ?_
        refine rp_bipush (12 : Int32) dX12_readLine_100 (by decide) ?_
        refine rp_iconst (4 : Int32) dX12_readLine_102 (by decide) ?_
        refine rp_callVi [.int (12 : Int32), .int (4 : Int32)] (SX12_takeOne (hn := hn) a0 (12 : Int32) (4 : Int32) h0) cvX12_takeOne (mw (i := 1487) (by decide +kernel)) (by omega) h0 (by decide) rfl rfl rfl (Nat.le_of_ble_eq_true rfl) dX12_readLine_103 (fun x10 => ?_)
        refine rp_istore_n [(2, .int x10), (1, .int y8), (0, .ref (K.2.1 + a0))] dX12_readLine_106 (by decide) rfl ?_
        refine rp_aload_n 2 dX12_readLine_107 rfl ?_
        refine rp_iconst (5 : Int32) dX12_readLine_108 (by decide) ?_
        refine rp_iconst (1 : Int32) dX12_readLine_109 (by decide) ?_
        refine rp_bipush (20 : Int32) dX12_readLine_110 (by decide) ?_
        refine rp_callVi [.int (5 : Int32), .int (1 : Int32), .int (20 : Int32)] (SX12_takeAfter (hn := hn) a0 (5 : Int32) (1 : Int32) (20 : Int32) h0) cvX12_takeAfter (mw (i := 1460) (by decide +kernel)) (by omega) h0 (by decide) rfl rfl rfl (Nat.le_of_ble_eq_true rfl) dX12_readLine_112 (fun x11 => ?_)
        refine rp_istore_n [(3, .int x11), (2, .int x10), (1, .int y8), (0, .ref (K.2.1 + a0))] dX12_readLine_115 (by decide) rfl ?_
        refine rp_aload_n 3 dX12_readLine_116 rfl ?_
        refine rp_getI fi_X12_162 h0 rfl dX12_readLine_117 (fun x12 => ?_)
        refine rp_as ?_
        refine rp_join 139 (fun (v13 : Unit) => []) (fun v13 => []) (fun v13 => ?_) (fun hJ139 => ?_)
        · refine rp_goto 162 dX12_readLine_139 (by decide) ?_
          exact rp_sub [] rfl (rp_pu (hJ162 ()))
        refine rp_if_ne 139 dX12_readLine_120 (by decide) ?_ ?_
        · exact rp_sub [] rfl (rp_pu (hJ139 ()))
        · refine rp_aload_n 3 dX12_readLine_123 rfl ?_
          refine rp_getR fi_X12_83 h0 rfl dX12_readLine_124 ?_
          refine rp_iload_n 2 dX12_readLine_127 rfl ?_
          refine rp_iload_n 1 dX12_readLine_128 rfl ?_
          refine rp_iast (tX12_10 h0) dX12_readLine_129 ?_
          refine rp_aload_n 3 dX12_readLine_130 rfl ?_
          refine rp_getR fi_X12_83 h0 rfl dX12_readLine_131 ?_
          refine rp_iload_n 2 dX12_readLine_134 rfl ?_
          refine rp_iconst (1 : Int32) dX12_readLine_135 (by decide) ?_
          refine rp_iadd dX12_readLine_136 ?_
          refine rp_iload_n 0 dX12_readLine_137 rfl ?_
          refine rp_iast (tX12_10 h0) dX12_readLine_138 ?_
          exact rp_sub [] rfl (rp_pu (hJ139 ()))
    · refine rp_aload_n 0 dX12_readLine_62 rfl ?_
      refine rp_callVv [] (SX12_readPlace (hn := hn) a0 h0) cvX12_readPlace (mw (i := 1476) (by decide +kernel)) (by omega) h0 (by decide) rfl rfl rfl (Nat.le_of_ble_eq_true rfl) dX12_readLine_63 (fun x14 => ?_)
      refine rp_goto 162 dX12_readLine_66 (by decide) ?_
      exact rp_sub [] rfl (rp_pu (hJ162 ()))
  · refine rp_bipush (44 : Int32) dX12_readLine_8 (by decide) ?_
    refine rp_iconst (2 : Int32) dX12_readLine_10 (by decide) ?_
    refine rp_aload_n 0 dX12_readLine_11 rfl ?_
    refine rp_getR fi_X12_83 h0 rfl dX12_readLine_12 ?_
    refine rp_bipush (40 : Int32) dX12_readLine_15 (by decide) ?_
    refine rp_iald (tX12_10 h0) dX12_readLine_17 (fun x15 => ?_)
    refine rp_imul dX12_readLine_18 ?_
    refine rp_iadd dX12_readLine_19 ?_
    refine rp_lti (fun y16 => ?_)
    refine rp_istore_n [(1, .int y16), (0, .ref (K.2.1 + a0))] dX12_readLine_20 (by decide) rfl ?_
    refine rp_aload_n 1 dX12_readLine_21 rfl ?_
    refine rp_iconst (0 : Int32) dX12_readLine_22 (by decide) ?_
    refine rp_iconst (5 : Int32) dX12_readLine_23 (by decide) ?_
    refine rp_iconst (0 : Int32) dX12_readLine_24 (by decide) ?_
    refine rp_callVv [.int (0 : Int32), .int (5 : Int32), .int (0 : Int32)] (SX12_readName (hn := hn) a0 (0 : Int32) (5 : Int32) (0 : Int32) h0) cvX12_readName (mw (i := 1440) (by decide +kernel)) (by omega) h0 (by decide) rfl rfl rfl (Nat.le_of_ble_eq_true rfl) dX12_readLine_25 (fun x17 => ?_)
    refine rp_aload_n 1 dX12_readLine_28 rfl ?_
    refine rp_iconst (1 : Int32) dX12_readLine_29 (by decide) ?_
    refine rp_iconst (1 : Int32) dX12_readLine_30 (by decide) ?_
    refine rp_bipush (9 : Int32) dX12_readLine_31 (by decide) ?_
    refine rp_callVi [.int (1 : Int32), .int (1 : Int32), .int (9 : Int32)] (SX12_takeAfter (hn := hn) a0 (1 : Int32) (1 : Int32) (9 : Int32) h0) cvX12_takeAfter (mw (i := 1460) (by decide +kernel)) (by omega) h0 (by decide) rfl rfl rfl (Nat.le_of_ble_eq_true rfl) dX12_readLine_33 (fun x18 => ?_)
    refine rp_istore_n [(2, .int x18), (1, .int y16), (0, .ref (K.2.1 + a0))] dX12_readLine_36 (by decide) rfl ?_
    refine rp_aload_n 2 dX12_readLine_37 rfl ?_
    refine rp_getI fi_X12_162 h0 rfl dX12_readLine_38 (fun x19 => ?_)
    refine rp_as ?_
    refine rp_join 51 (fun (v20 : Unit) => []) (fun v20 => []) (fun v20 => ?_) (fun hJ51 => ?_)
    · refine rp_goto 162 dX12_readLine_51 (by decide) ?_
      exact rp_sub [] rfl (rp_pu (hJ162 ()))
    refine rp_if_ne 51 dX12_readLine_41 (by decide) ?_ ?_
    · exact rp_sub [] rfl (rp_pu (hJ51 ()))
    · refine rp_aload_n 2 dX12_readLine_44 rfl ?_
      refine rp_getR fi_X12_83 h0 rfl dX12_readLine_45 ?_
      refine rp_iload_n 1 dX12_readLine_48 rfl ?_
      refine rp_iload_n 0 dX12_readLine_49 rfl ?_
      refine rp_iast (tX12_10 h0) dX12_readLine_50 ?_
      exact rp_sub [] rfl (rp_pu (hJ51 ()))

theorem dX12_both_0 : decode cX12_both 0 = .ok (.iload_n 0, 1) := by decide +kernel
theorem dX12_both_1 : decode cX12_both 1 = .ok (.tableswitch 87 4 9 #[39, 43, 47, 51, 62, 73], 39) := by decide +kernel
theorem dX12_both_40 : decode cX12_both 40 = .ok (.iload_n 1, 1) := by decide +kernel
theorem dX12_both_41 : decode cX12_both 41 = .ok (.iload_n 2, 1) := by decide +kernel
theorem dX12_both_42 : decode cX12_both 42 = .ok (.iadd, 1) := by decide +kernel
theorem dX12_both_43 : decode cX12_both 43 = .ok (.ireturn, 1) := by decide +kernel
theorem dX12_both_44 : decode cX12_both 44 = .ok (.iload_n 1, 1) := by decide +kernel
theorem dX12_both_45 : decode cX12_both 45 = .ok (.iload_n 2, 1) := by decide +kernel
theorem dX12_both_46 : decode cX12_both 46 = .ok (.isub, 1) := by decide +kernel
theorem dX12_both_47 : decode cX12_both 47 = .ok (.ireturn, 1) := by decide +kernel
theorem dX12_both_48 : decode cX12_both 48 = .ok (.iload_n 1, 1) := by decide +kernel
theorem dX12_both_49 : decode cX12_both 49 = .ok (.iload_n 2, 1) := by decide +kernel
theorem dX12_both_50 : decode cX12_both 50 = .ok (.imul, 1) := by decide +kernel
theorem dX12_both_51 : decode cX12_both 51 = .ok (.ireturn, 1) := by decide +kernel
theorem dX12_both_52 : decode cX12_both 52 = .ok (.iload_n 1, 1) := by decide +kernel
theorem dX12_both_53 : decode cX12_both 53 = .ok (.iload_n 2, 1) := by decide +kernel
theorem dX12_both_54 : decode cX12_both 54 = .ok (.if_icmp .ge 7, 3) := by decide +kernel
theorem dX12_both_57 : decode cX12_both 57 = .ok (.iconst 1, 1) := by decide +kernel
theorem dX12_both_58 : decode cX12_both 58 = .ok (.goto 4, 3) := by decide +kernel
theorem dX12_both_61 : decode cX12_both 61 = .ok (.iconst 0, 1) := by decide +kernel
theorem dX12_both_62 : decode cX12_both 62 = .ok (.ireturn, 1) := by decide +kernel
theorem dX12_both_63 : decode cX12_both 63 = .ok (.iload_n 1, 1) := by decide +kernel
theorem dX12_both_64 : decode cX12_both 64 = .ok (.iload_n 2, 1) := by decide +kernel
theorem dX12_both_65 : decode cX12_both 65 = .ok (.if_icmp .ne 7, 3) := by decide +kernel
theorem dX12_both_68 : decode cX12_both 68 = .ok (.iconst 1, 1) := by decide +kernel
theorem dX12_both_69 : decode cX12_both 69 = .ok (.goto 4, 3) := by decide +kernel
theorem dX12_both_72 : decode cX12_both 72 = .ok (.iconst 0, 1) := by decide +kernel
theorem dX12_both_73 : decode cX12_both 73 = .ok (.ireturn, 1) := by decide +kernel
theorem dX12_both_74 : decode cX12_both 74 = .ok (.iload_n 1, 1) := by decide +kernel
theorem dX12_both_75 : decode cX12_both 75 = .ok (.ifCond .eq 11, 3) := by decide +kernel
theorem dX12_both_78 : decode cX12_both 78 = .ok (.iload_n 2, 1) := by decide +kernel
theorem dX12_both_79 : decode cX12_both 79 = .ok (.ifCond .eq 7, 3) := by decide +kernel
theorem dX12_both_82 : decode cX12_both 82 = .ok (.iconst 1, 1) := by decide +kernel
theorem dX12_both_83 : decode cX12_both 83 = .ok (.goto 4, 3) := by decide +kernel
theorem dX12_both_86 : decode cX12_both 86 = .ok (.iconst 0, 1) := by decide +kernel
theorem dX12_both_87 : decode cX12_both 87 = .ok (.ireturn, 1) := by decide +kernel
theorem dX12_both_88 : decode cX12_both 88 = .ok (.iload_n 1, 1) := by decide +kernel
theorem dX12_both_89 : decode cX12_both 89 = .ok (.ifCond .ne 7, 3) := by decide +kernel
theorem dX12_both_92 : decode cX12_both 92 = .ok (.iload_n 2, 1) := by decide +kernel
theorem dX12_both_93 : decode cX12_both 93 = .ok (.ifCond .eq 7, 3) := by decide +kernel
theorem dX12_both_96 : decode cX12_both 96 = .ok (.iconst 1, 1) := by decide +kernel
theorem dX12_both_97 : decode cX12_both 97 = .ok (.goto 4, 3) := by decide +kernel
theorem dX12_both_100 : decode cX12_both 100 = .ok (.iconst 0, 1) := by decide +kernel
theorem dX12_both_101 : decode cX12_both 101 = .ok (.ireturn, 1) := by decide +kernel
noncomputable def FX12_both (p1 : Int32) (p2 : Int32) (p3 : Int32) : PP Int32 := tsw p1 [(4 : Int32), (5 : Int32), (6 : Int32), (7 : Int32), (8 : Int32), (9 : Int32)] [pu (p2 + p3), pu (p2 - p3), pu (p2 * p3), bd (if p3 ≤ p2 then pu (0 : Int32) else pu (1 : Int32) : PP (Int32)) (fun (v1 : Int32) => pu v1), bd (if p2 = p3 then pu (1 : Int32) else pu (0 : Int32) : PP (Int32)) (fun (v2 : Int32) => pu v2), bd (if p2 = 0 then pu (0 : Int32) else if p3 = 0 then pu (0 : Int32) else pu (1 : Int32) : PP (Int32)) (fun (v3 : Int32) => pu v3)] (bd (if p2 = 0 then if p3 = 0 then pu (0 : Int32) else pu (1 : Int32) else pu (1 : Int32) : PP (Int32)) (fun (v4 : Int32) => pu v4))
set_option maxHeartbeats 4000000 in
set_option maxRecDepth 100000 in
theorem SX12_both {l : Launch} {K : KK} {n : Nat} {hn : 270 ≤ n} (p1 : Int32) (p2 : Int32) (p3 : Int32) : CT l K n 0 mX12_both [.int p1, .int p2, .int p3] enI (FX12_both p1 p2 p3) := by
  refine CT.of2 (lv2 := [(0, .int p1), (1, .int p2), (2, .int p3)]) (by decide) rfl hn (Nat.le_of_ble_eq_true rfl) rfl (rp_id ?_)
  unfold FX12_both
  refine rp_iload_n 0 dX12_both_0 rfl ?_
  refine rp_tsw [40, 44, 48, 52, 63, 74] 88 dX12_both_1 rfl (by decide +kernel) ?_ ?_
  · refine ⟨?_, ?_, ?_, ?_, ?_, ?_, trivial⟩
    · refine rp_iload_n 1 dX12_both_40 rfl ?_
      refine rp_iload_n 2 dX12_both_41 rfl ?_
      refine rp_iadd dX12_both_42 ?_
      exact rp_pu (rp_iret rfl dX12_both_43)
    · refine rp_iload_n 1 dX12_both_44 rfl ?_
      refine rp_iload_n 2 dX12_both_45 rfl ?_
      refine rp_isub dX12_both_46 ?_
      exact rp_pu (rp_iret rfl dX12_both_47)
    · refine rp_iload_n 1 dX12_both_48 rfl ?_
      refine rp_iload_n 2 dX12_both_49 rfl ?_
      refine rp_imul dX12_both_50 ?_
      exact rp_pu (rp_iret rfl dX12_both_51)
    · refine rp_iload_n 1 dX12_both_52 rfl ?_
      refine rp_iload_n 2 dX12_both_53 rfl ?_
      refine rp_as ?_
      refine rp_join 62 (fun (v1 : Int32) => []) (fun v1 => [.int v1]) (fun v1 => ?_) (fun hJ62 => ?_)
      · exact rp_pu (rp_iret rfl dX12_both_62)
      refine rp_icmp_ge 61 dX12_both_54 (by decide) ?_ ?_
      · refine rp_iconst (0 : Int32) dX12_both_61 (by decide) ?_
        exact rp_sub [] rfl (rp_pu (hJ62 (0 : Int32)))
      · refine rp_iconst (1 : Int32) dX12_both_57 (by decide) ?_
        refine rp_goto 62 dX12_both_58 (by decide) ?_
        exact rp_sub [] rfl (rp_pu (hJ62 (1 : Int32)))
    · refine rp_iload_n 1 dX12_both_63 rfl ?_
      refine rp_iload_n 2 dX12_both_64 rfl ?_
      refine rp_as ?_
      refine rp_join 73 (fun (v2 : Int32) => []) (fun v2 => [.int v2]) (fun v2 => ?_) (fun hJ73 => ?_)
      · exact rp_pu (rp_iret rfl dX12_both_73)
      refine rp_icmp_ne 72 dX12_both_65 (by decide) ?_ ?_
      · refine rp_iconst (0 : Int32) dX12_both_72 (by decide) ?_
        exact rp_sub [] rfl (rp_pu (hJ73 (0 : Int32)))
      · refine rp_iconst (1 : Int32) dX12_both_68 (by decide) ?_
        refine rp_goto 73 dX12_both_69 (by decide) ?_
        exact rp_sub [] rfl (rp_pu (hJ73 (1 : Int32)))
    · refine rp_iload_n 1 dX12_both_74 rfl ?_
      refine rp_as ?_
      refine rp_join 87 (fun (v3 : Int32) => []) (fun v3 => [.int v3]) (fun v3 => ?_) (fun hJ87 => ?_)
      · exact rp_pu (rp_iret rfl dX12_both_87)
      refine rp_if_eq 86 dX12_both_75 (by decide) ?_ ?_
      · refine rp_iconst (0 : Int32) dX12_both_86 (by decide) ?_
        exact rp_sub [] rfl (rp_pu (hJ87 (0 : Int32)))
      · refine rp_iload_n 2 dX12_both_78 rfl ?_
        refine rp_if_eq 86 dX12_both_79 (by decide) ?_ ?_
        · refine rp_iconst (0 : Int32) dX12_both_86 (by decide) ?_
          exact rp_sub [] rfl (rp_pu (hJ87 (0 : Int32)))
        · refine rp_iconst (1 : Int32) dX12_both_82 (by decide) ?_
          refine rp_goto 87 dX12_both_83 (by decide) ?_
          exact rp_sub [] rfl (rp_pu (hJ87 (1 : Int32)))
  · refine rp_iload_n 1 dX12_both_88 rfl ?_
    refine rp_as ?_
    refine rp_join 101 (fun (v4 : Int32) => []) (fun v4 => [.int v4]) (fun v4 => ?_) (fun hJ101 => ?_)
    · exact rp_pu (rp_iret rfl dX12_both_101)
    refine rp_if_ne 96 dX12_both_89 (by decide) ?_ ?_
    · refine rp_iconst (1 : Int32) dX12_both_96 (by decide) ?_
      refine rp_goto 101 dX12_both_97 (by decide) ?_
      exact rp_sub [] rfl (rp_pu (hJ101 (1 : Int32)))
    · refine rp_iload_n 2 dX12_both_92 rfl ?_
      refine rp_if_eq 100 dX12_both_93 (by decide) ?_ ?_
      · refine rp_iconst (0 : Int32) dX12_both_100 (by decide) ?_
        exact rp_sub [] rfl (rp_pu (hJ101 (0 : Int32)))
      · refine rp_iconst (1 : Int32) dX12_both_96 (by decide) ?_
        refine rp_goto 101 dX12_both_97 (by decide) ?_
        exact rp_sub [] rfl (rp_pu (hJ101 (1 : Int32)))

theorem dX12_worthAt_0 : decode cX12_worthAt 0 = .ok (.iconst 0, 1) := by decide +kernel
theorem dX12_worthAt_1 : decode cX12_worthAt 1 = .ok (.istore_n 2, 1) := by decide +kernel
theorem dX12_worthAt_2 : decode cX12_worthAt 2 = .ok (.iload_n 1, 1) := by decide +kernel
theorem dX12_worthAt_3 : decode cX12_worthAt 3 = .ok (.istore_n 3, 1) := by decide +kernel
theorem dX12_worthAt_4 : decode cX12_worthAt 4 = .ok (.aload_n 0, 1) := by decide +kernel
theorem dX12_worthAt_5 : decode cX12_worthAt 5 = .ok (.getfield 86, 3) := by decide +kernel
theorem dX12_worthAt_8 : decode cX12_worthAt 8 = .ok (.iload_n 3, 1) := by decide +kernel
theorem dX12_worthAt_9 : decode cX12_worthAt 9 = .ok (.iaload, 1) := by decide +kernel
theorem dX12_worthAt_10 : decode cX12_worthAt 10 = .ok (.ifCond .eq 130, 3) := by decide +kernel
theorem dX12_worthAt_13 : decode cX12_worthAt 13 = .ok (.aload_n 0, 1) := by decide +kernel
theorem dX12_worthAt_14 : decode cX12_worthAt 14 = .ok (.getfield 86, 3) := by decide +kernel
theorem dX12_worthAt_17 : decode cX12_worthAt 17 = .ok (.iload_n 3, 1) := by decide +kernel
theorem dX12_worthAt_18 : decode cX12_worthAt 18 = .ok (.iaload, 1) := by decide +kernel
theorem dX12_worthAt_19 : decode cX12_worthAt 19 = .ok (.istore 4, 2) := by decide +kernel
theorem dX12_worthAt_21 : decode cX12_worthAt 21 = .ok (.iload 4, 2) := by decide +kernel
theorem dX12_worthAt_23 : decode cX12_worthAt 23 = .ok (.iconst 1, 1) := by decide +kernel
theorem dX12_worthAt_24 : decode cX12_worthAt 24 = .ok (.if_icmp .eq 9, 3) := by decide +kernel
theorem dX12_worthAt_27 : decode cX12_worthAt 27 = .ok (.iload 4, 2) := by decide +kernel
theorem dX12_worthAt_29 : decode cX12_worthAt 29 = .ok (.iconst 2, 1) := by decide +kernel
theorem dX12_worthAt_30 : decode cX12_worthAt 30 = .ok (.if_icmp .ne 41, 3) := by decide +kernel
theorem dX12_worthAt_33 : decode cX12_worthAt 33 = .ok (.aload_n 0, 1) := by decide +kernel
theorem dX12_worthAt_34 : decode cX12_worthAt 34 = .ok (.getfield 110, 3) := by decide +kernel
theorem dX12_worthAt_37 : decode cX12_worthAt 37 = .ok (.iload_n 2, 1) := by decide +kernel
theorem dX12_worthAt_38 : decode cX12_worthAt 38 = .ok (.iload 4, 2) := by decide +kernel
theorem dX12_worthAt_40 : decode cX12_worthAt 40 = .ok (.iconst 1, 1) := by decide +kernel
theorem dX12_worthAt_41 : decode cX12_worthAt 41 = .ok (.if_icmp .ne 12, 3) := by decide +kernel
theorem dX12_worthAt_44 : decode cX12_worthAt 44 = .ok (.aload_n 0, 1) := by decide +kernel
theorem dX12_worthAt_45 : decode cX12_worthAt 45 = .ok (.getfield 89, 3) := by decide +kernel
theorem dX12_worthAt_48 : decode cX12_worthAt 48 = .ok (.iload_n 3, 1) := by decide +kernel
theorem dX12_worthAt_49 : decode cX12_worthAt 49 = .ok (.iaload, 1) := by decide +kernel
theorem dX12_worthAt_50 : decode cX12_worthAt 50 = .ok (.goto 14, 3) := by decide +kernel
theorem dX12_worthAt_53 : decode cX12_worthAt 53 = .ok (.aload_n 0, 1) := by decide +kernel
theorem dX12_worthAt_54 : decode cX12_worthAt 54 = .ok (.getfield 107, 3) := by decide +kernel
theorem dX12_worthAt_57 : decode cX12_worthAt 57 = .ok (.aload_n 0, 1) := by decide +kernel
theorem dX12_worthAt_58 : decode cX12_worthAt 58 = .ok (.getfield 89, 3) := by decide +kernel
theorem dX12_worthAt_61 : decode cX12_worthAt 61 = .ok (.iload_n 3, 1) := by decide +kernel
theorem dX12_worthAt_62 : decode cX12_worthAt 62 = .ok (.iaload, 1) := by decide +kernel
theorem dX12_worthAt_63 : decode cX12_worthAt 63 = .ok (.iaload, 1) := by decide +kernel
theorem dX12_worthAt_64 : decode cX12_worthAt 64 = .ok (.iastore, 1) := by decide +kernel
theorem dX12_worthAt_65 : decode cX12_worthAt 65 = .ok (.iinc 2 1, 3) := by decide +kernel
theorem dX12_worthAt_68 : decode cX12_worthAt 68 = .ok (.goto 66, 3) := by decide +kernel
theorem dX12_worthAt_71 : decode cX12_worthAt 71 = .ok (.iload 4, 2) := by decide +kernel
theorem dX12_worthAt_73 : decode cX12_worthAt 73 = .ok (.iconst 3, 1) := by decide +kernel
theorem dX12_worthAt_74 : decode cX12_worthAt 74 = .ok (.if_icmp .ne 30, 3) := by decide +kernel
theorem dX12_worthAt_77 : decode cX12_worthAt 77 = .ok (.aload_n 0, 1) := by decide +kernel
theorem dX12_worthAt_78 : decode cX12_worthAt 78 = .ok (.getfield 110, 3) := by decide +kernel
theorem dX12_worthAt_81 : decode cX12_worthAt 81 = .ok (.iload_n 2, 1) := by decide +kernel
theorem dX12_worthAt_82 : decode cX12_worthAt 82 = .ok (.iconst 1, 1) := by decide +kernel
theorem dX12_worthAt_83 : decode cX12_worthAt 83 = .ok (.isub, 1) := by decide +kernel
theorem dX12_worthAt_84 : decode cX12_worthAt 84 = .ok (.aload_n 0, 1) := by decide +kernel
theorem dX12_worthAt_85 : decode cX12_worthAt 85 = .ok (.getfield 110, 3) := by decide +kernel
theorem dX12_worthAt_88 : decode cX12_worthAt 88 = .ok (.iload_n 2, 1) := by decide +kernel
theorem dX12_worthAt_89 : decode cX12_worthAt 89 = .ok (.iconst 1, 1) := by decide +kernel
theorem dX12_worthAt_90 : decode cX12_worthAt 90 = .ok (.isub, 1) := by decide +kernel
theorem dX12_worthAt_91 : decode cX12_worthAt 91 = .ok (.iaload, 1) := by decide +kernel
theorem dX12_worthAt_92 : decode cX12_worthAt 92 = .ok (.ifCond .ne 7, 3) := by decide +kernel
theorem dX12_worthAt_95 : decode cX12_worthAt 95 = .ok (.iconst 1, 1) := by decide +kernel
theorem dX12_worthAt_96 : decode cX12_worthAt 96 = .ok (.goto 4, 3) := by decide +kernel
theorem dX12_worthAt_99 : decode cX12_worthAt 99 = .ok (.iconst 0, 1) := by decide +kernel
theorem dX12_worthAt_100 : decode cX12_worthAt 100 = .ok (.iastore, 1) := by decide +kernel
theorem dX12_worthAt_101 : decode cX12_worthAt 101 = .ok (.goto 33, 3) := by decide +kernel
theorem dX12_worthAt_104 : decode cX12_worthAt 104 = .ok (.iinc 2 (-1), 3) := by decide +kernel
theorem dX12_worthAt_107 : decode cX12_worthAt 107 = .ok (.aload_n 0, 1) := by decide +kernel
theorem dX12_worthAt_108 : decode cX12_worthAt 108 = .ok (.getfield 110, 3) := by decide +kernel
theorem dX12_worthAt_111 : decode cX12_worthAt 111 = .ok (.iload_n 2, 1) := by decide +kernel
theorem dX12_worthAt_112 : decode cX12_worthAt 112 = .ok (.iconst 1, 1) := by decide +kernel
theorem dX12_worthAt_113 : decode cX12_worthAt 113 = .ok (.isub, 1) := by decide +kernel
theorem dX12_worthAt_114 : decode cX12_worthAt 114 = .ok (.iload 4, 2) := by decide +kernel
theorem dX12_worthAt_116 : decode cX12_worthAt 116 = .ok (.aload_n 0, 1) := by decide +kernel
theorem dX12_worthAt_117 : decode cX12_worthAt 117 = .ok (.getfield 110, 3) := by decide +kernel
theorem dX12_worthAt_120 : decode cX12_worthAt 120 = .ok (.iload_n 2, 1) := by decide +kernel
theorem dX12_worthAt_121 : decode cX12_worthAt 121 = .ok (.iconst 1, 1) := by decide +kernel
theorem dX12_worthAt_122 : decode cX12_worthAt 122 = .ok (.isub, 1) := by decide +kernel
theorem dX12_worthAt_123 : decode cX12_worthAt 123 = .ok (.iaload, 1) := by decide +kernel
theorem dX12_worthAt_124 : decode cX12_worthAt 124 = .ok (.aload_n 0, 1) := by decide +kernel
theorem dX12_worthAt_125 : decode cX12_worthAt 125 = .ok (.getfield 110, 3) := by decide +kernel
theorem dX12_worthAt_128 : decode cX12_worthAt 128 = .ok (.iload_n 2, 1) := by decide +kernel
theorem dX12_worthAt_129 : decode cX12_worthAt 129 = .ok (.iaload, 1) := by decide +kernel
theorem dX12_worthAt_130 : decode cX12_worthAt 130 = .ok (.invokestatic 266, 3) := by decide +kernel
theorem dX12_worthAt_133 : decode cX12_worthAt 133 = .ok (.iastore, 1) := by decide +kernel
theorem dX12_worthAt_134 : decode cX12_worthAt 134 = .ok (.iinc 3 1, 3) := by decide +kernel
theorem dX12_worthAt_137 : decode cX12_worthAt 137 = .ok (.goto (-133), 3) := by decide +kernel
theorem dX12_worthAt_140 : decode cX12_worthAt 140 = .ok (.aload_n 0, 1) := by decide +kernel
theorem dX12_worthAt_141 : decode cX12_worthAt 141 = .ok (.getfield 110, 3) := by decide +kernel
theorem dX12_worthAt_144 : decode cX12_worthAt 144 = .ok (.iconst 0, 1) := by decide +kernel
theorem dX12_worthAt_145 : decode cX12_worthAt 145 = .ok (.iaload, 1) := by decide +kernel
theorem dX12_worthAt_146 : decode cX12_worthAt 146 = .ok (.ireturn, 1) := by decide +kernel
noncomputable def FX12_worthAt (a0 : Nat) (p1 : Int32) : PP Int32 := bd (it (fun (s1 : Int32 × Int32) => (bd (aI (rf a0 11) 2200 s1.2) (fun x2 => if x2 = 0 then pu (Sum.inr ()) else bd (aI (rf a0 11) 2200 s1.2) (fun x3 => bd (jn (fun (v11 : Int32) => bd (if x3 = (1 : Int32) then bd (aI (rf a0 12) 2200 s1.2) (fun x14 => pu x14) else bd (aI (rf a0 12) 2200 s1.2) (fun x12 => bd (aI (rf a0 21) 4 x12) (fun x13 => pu x13)) : PP (Int32)) (fun (v15 : Int32) => bd (uI (rf a0 22) 1100 v11 v15) (fun (_ : Unit) => lt (v11 + (1 : Int32)) (fun y16 => pu y16)))) (fun j4 => if x3 = (1 : Int32) then j4 s1.1 else if x3 = (2 : Int32) then j4 s1.1 else if x3 = (3 : Int32) then bd (aI (rf a0 22) 1100 (s1.1 - (1 : Int32))) (fun x9 => bd (if x9 = 0 then pu (1 : Int32) else pu (0 : Int32) : PP (Int32)) (fun (v10 : Int32) => bd (uI (rf a0 22) 1100 (s1.1 - (1 : Int32)) v10) (fun (_ : Unit) => pu s1.1))) else lt (s1.1 + (-1 : Int32)) (fun y5 => bd (aI (rf a0 22) 1100 (y5 - (1 : Int32))) (fun x6 => bd (aI (rf a0 22) 1100 y5) (fun x7 => bd (FX12_both x3 x6 x7) (fun x8 => bd (uI (rf a0 22) 1100 (y5 - (1 : Int32)) x8) (fun (_ : Unit) => pu y5)))))) : PP (Int32)) (fun (v17 : Int32) => lt (s1.2 + (1 : Int32)) (fun y18 => pu (Sum.inl (v17, y18)))))) : PP ((Int32 × Int32) ⊕ (Unit)))) FU ((0 : Int32), p1)) (fun (v19 : Unit) => bd (aI (rf a0 22) 1100 (0 : Int32)) (fun x20 => pu x20))
set_option maxHeartbeats 4000000 in
set_option maxRecDepth 100000 in
theorem SX12_worthAt {l : Launch} {K : KK} {n : Nat} {hn : 270 ≤ n} (a0 : Nat) (p1 : Int32) (h0 : ob a0 11) : CT l K n 1 mX12_worthAt [.ref (K.2.1 + a0), .int p1] enI (FX12_worthAt a0 p1) := by
  refine CT.of2 (lv2 := [(0, .ref (K.2.1 + a0)), (1, .int p1)]) (by decide) rfl hn (Nat.le_of_ble_eq_true rfl) rfl (rp_id ?_)
  unfold FX12_worthAt
  refine rp_iconst (0 : Int32) dX12_worthAt_0 (by decide) ?_
  refine rp_istore_n [(2, .int (0 : Int32)), (0, .ref (K.2.1 + a0)), (1, .int p1)] dX12_worthAt_1 (by decide) rfl ?_
  refine rp_iload_n 2 dX12_worthAt_2 rfl ?_
  refine rp_istore_n [(3, .int p1), (2, .int (0 : Int32)), (0, .ref (K.2.1 + a0)), (1, .int p1)] dX12_worthAt_3 (by decide) rfl ?_
  refine rp_as ?_
  refine rp_join 140 (fun v19 => [(0, .ref (K.2.1 + a0))]) (fun _ => []) (fun v19 => ?_) (fun hX4_0 => ?_)
  · refine rp_aload_n 0 dX12_worthAt_140 rfl ?_
    refine rp_getR fi_X12_110 h0 rfl dX12_worthAt_141 ?_
    refine rp_iconst (0 : Int32) dX12_worthAt_144 (by decide) ?_
    refine rp_iald (tX12_22 h0) dX12_worthAt_145 (fun x20 => ?_)
    exact rp_pu (rp_iret rfl dX12_worthAt_146)
  refine rp_sub [2, 1, 0] rfl (rp_it (fun (s1 : Int32 × Int32) => [(0, .ref (K.2.1 + a0)), (2, .int s1.1), (3, .int s1.2)]) (fun N4 ih4 s1 => ?_) FU ((0 : Int32), p1))
  refine rp_aload_n 0 dX12_worthAt_4 rfl ?_
  refine rp_getR fi_X12_86 h0 rfl dX12_worthAt_5 ?_
  refine rp_iload_n 2 dX12_worthAt_8 rfl ?_
  refine rp_iald (tX12_11 h0) dX12_worthAt_9 (fun x2 => ?_)
  refine rp_if_eq 140 dX12_worthAt_10 (by decide) ?_ ?_
  · exact rp_sub [0] rfl (rp_puR (hX4_0 ()))
  · refine rp_aload_n 0 dX12_worthAt_13 rfl ?_
    refine rp_getR fi_X12_86 h0 rfl dX12_worthAt_14 ?_
    refine rp_iload_n 2 dX12_worthAt_17 rfl ?_
    refine rp_iald (tX12_11 h0) dX12_worthAt_18 (fun x3 => ?_)
    refine rp_istore [(4, .int x3), (0, .ref (K.2.1 + a0)), (2, .int s1.1), (3, .int s1.2)] dX12_worthAt_19 (by decide) rfl ?_
    refine rp_iload 0 dX12_worthAt_21 rfl ?_
    refine rp_iconst (1 : Int32) dX12_worthAt_23 (by decide) ?_
    refine rp_as ?_
    refine rp_join 134 (fun (v17 : Int32) => [(0, .ref (K.2.1 + a0)), (2, .int v17), (3, .int s1.2)]) (fun v17 => []) (fun v17 => ?_) (fun hJ134 => ?_)
    · refine rp_iinc (fun y18 => [(3, .int y18), (0, .ref (K.2.1 + a0)), (2, .int v17)]) 2 dX12_worthAt_134 rfl (by rfl) (by decide) (fun y18 => rfl) (fun y18 => ?_)
      refine rp_goto 4 dX12_worthAt_137 (by decide) ?_
      exact rp_sub [1, 2, 0] rfl (ih4 (v17, y18))
    refine rp_jn2 33 (fun (v11 : Int32) => [(0, .ref (K.2.1 + a0)), (2, .int v11), (3, .int s1.2), (4, .int x3)]) (fun v11 => []) (fun v11 => ?_) (fun hK33 => ?_)
    · refine rp_aload_n 0 dX12_worthAt_33 rfl ?_
      refine rp_getR fi_X12_110 h0 rfl dX12_worthAt_34 ?_
      refine rp_iload_n 1 dX12_worthAt_37 rfl ?_
      refine rp_iload 3 dX12_worthAt_38 rfl ?_
      refine rp_iconst (1 : Int32) dX12_worthAt_40 (by decide) ?_
      refine rp_as ?_
      refine rp_join 64 (fun (v15 : Int32) => [(0, .ref (K.2.1 + a0)), (2, .int v11), (3, .int s1.2)]) (fun v15 => [.int v15, .int v11, .ref (K.2.1 + (rf a0 22))]) (fun v15 => ?_) (fun hJ64 => ?_)
      · refine rp_iast (tX12_22 h0) dX12_worthAt_64 ?_
        refine rp_iinc (fun y16 => [(2, .int y16), (0, .ref (K.2.1 + a0)), (3, .int s1.2)]) 1 dX12_worthAt_65 rfl (by rfl) (by decide) (fun y16 => rfl) (fun y16 => ?_)
        refine rp_goto 134 dX12_worthAt_68 (by decide) ?_
        exact rp_sub [1, 0, 2] rfl (rp_pu (hJ134 y16))
      refine rp_icmp_ne 53 dX12_worthAt_41 (by decide) ?_ ?_
      · refine rp_aload_n 0 dX12_worthAt_53 rfl ?_
        refine rp_getR fi_X12_107 h0 rfl dX12_worthAt_54 ?_
        refine rp_aload_n 0 dX12_worthAt_57 rfl ?_
        refine rp_getR fi_X12_89 h0 rfl dX12_worthAt_58 ?_
        refine rp_iload_n 2 dX12_worthAt_61 rfl ?_
        refine rp_iald (tX12_12 h0) dX12_worthAt_62 (fun x12 => ?_)
        refine rp_iald (tX12_21 h0) dX12_worthAt_63 (fun x13 => ?_)
        exact rp_sub [0, 1, 2] rfl (rp_pu (hJ64 x13))
      · refine rp_aload_n 0 dX12_worthAt_44 rfl ?_
        refine rp_getR fi_X12_89 h0 rfl dX12_worthAt_45 ?_
        refine rp_iload_n 2 dX12_worthAt_48 rfl ?_
        refine rp_iald (tX12_12 h0) dX12_worthAt_49 (fun x14 => ?_)
        refine rp_goto 64 dX12_worthAt_50 (by decide) ?_
        exact rp_sub [0, 1, 2] rfl (rp_pu (hJ64 x14))
    refine rp_icmp_eq 33 dX12_worthAt_24 (by decide) ?_ ?_
    · exact rp_sub [1, 2, 3, 0] rfl (hK33 s1.1)
    · refine rp_iload 0 dX12_worthAt_27 rfl ?_
      refine rp_iconst (2 : Int32) dX12_worthAt_29 (by decide) ?_
      refine rp_icmp_ne 71 dX12_worthAt_30 (by decide) ?_ ?_
      · refine rp_iload 0 dX12_worthAt_71 rfl ?_
        refine rp_iconst (3 : Int32) dX12_worthAt_73 (by decide) ?_
        refine rp_icmp_ne 104 dX12_worthAt_74 (by decide) ?_ ?_
        · refine rp_iinc (fun y5 => [(2, .int y5), (4, .int x3), (0, .ref (K.2.1 + a0)), (3, .int s1.2)]) 2 dX12_worthAt_104 rfl (by rfl) (by decide) (fun y5 => rfl) (fun y5 => ?_)
          refine rp_aload_n 2 dX12_worthAt_107 rfl ?_
          refine rp_getR fi_X12_110 h0 rfl dX12_worthAt_108 ?_
          refine rp_iload_n 0 dX12_worthAt_111 rfl ?_
          refine rp_iconst (1 : Int32) dX12_worthAt_112 (by decide) ?_
          refine rp_isub dX12_worthAt_113 ?_
          refine rp_iload 1 dX12_worthAt_114 rfl ?_
          refine rp_aload_n 2 dX12_worthAt_116 rfl ?_
          refine rp_getR fi_X12_110 h0 rfl dX12_worthAt_117 ?_
          refine rp_iload_n 0 dX12_worthAt_120 rfl ?_
          refine rp_iconst (1 : Int32) dX12_worthAt_121 (by decide) ?_
          refine rp_isub dX12_worthAt_122 ?_
          refine rp_iald (tX12_22 h0) dX12_worthAt_123 (fun x6 => ?_)
          refine rp_aload_n 2 dX12_worthAt_124 rfl ?_
          refine rp_getR fi_X12_110 h0 rfl dX12_worthAt_125 ?_
          refine rp_iload_n 0 dX12_worthAt_128 rfl ?_
          refine rp_iald (tX12_22 h0) dX12_worthAt_129 (fun x7 => ?_)
          refine rp_callSi [.int x3, .int x6, .int x7] (SX12_both (hn := hn) x3 x6 x7) csX12_both (mw (i := 1655) (by decide +kernel)) (by omega) rfl rfl (Nat.le_of_ble_eq_true rfl) dX12_worthAt_130 (fun x8 => ?_)
          refine rp_iast (tX12_22 h0) dX12_worthAt_133 ?_
          exact rp_sub [2, 0, 3] rfl (rp_pu (hJ134 y5))
        · refine rp_aload_n 1 dX12_worthAt_77 rfl ?_
          refine rp_getR fi_X12_110 h0 rfl dX12_worthAt_78 ?_
          refine rp_iload_n 2 dX12_worthAt_81 rfl ?_
          refine rp_iconst (1 : Int32) dX12_worthAt_82 (by decide) ?_
          refine rp_isub dX12_worthAt_83 ?_
          refine rp_aload_n 1 dX12_worthAt_84 rfl ?_
          refine rp_getR fi_X12_110 h0 rfl dX12_worthAt_85 ?_
          refine rp_iload_n 2 dX12_worthAt_88 rfl ?_
          refine rp_iconst (1 : Int32) dX12_worthAt_89 (by decide) ?_
          refine rp_isub dX12_worthAt_90 ?_
          refine rp_iald (tX12_22 h0) dX12_worthAt_91 (fun x9 => ?_)
          refine rp_as ?_
          refine rp_join 100 (fun (v10 : Int32) => [(0, .ref (K.2.1 + a0)), (2, .int s1.1), (3, .int s1.2)]) (fun v10 => [.int v10, .int (s1.1 - (1 : Int32)), .ref (K.2.1 + (rf a0 22))]) (fun v10 => ?_) (fun hJ100 => ?_)
          · refine rp_iast (tX12_22 h0) dX12_worthAt_100 ?_
            refine rp_goto 134 dX12_worthAt_101 (by decide) ?_
            exact rp_sub [0, 1, 2] rfl (rp_pu (hJ134 s1.1))
          refine rp_if_ne 99 dX12_worthAt_92 (by decide) ?_ ?_
          · refine rp_iconst (0 : Int32) dX12_worthAt_99 (by decide) ?_
            exact rp_sub [1, 2, 3] rfl (rp_pu (hJ100 (0 : Int32)))
          · refine rp_iconst (1 : Int32) dX12_worthAt_95 (by decide) ?_
            refine rp_goto 100 dX12_worthAt_96 (by decide) ?_
            exact rp_sub [1, 2, 3] rfl (rp_pu (hJ100 (1 : Int32)))
      · exact rp_sub [1, 2, 3, 0] rfl (hK33 s1.1)

theorem dX12_copies_0 : decode cX12_copies 0 = .ok (.iconst 0, 1) := by decide +kernel
theorem dX12_copies_1 : decode cX12_copies 1 = .ok (.istore 4, 2) := by decide +kernel
theorem dX12_copies_3 : decode cX12_copies 3 = .ok (.iload 4, 2) := by decide +kernel
theorem dX12_copies_5 : decode cX12_copies 5 = .ok (.iload_n 3, 1) := by decide +kernel
theorem dX12_copies_6 : decode cX12_copies 6 = .ok (.if_icmp .ge 27, 3) := by decide +kernel
theorem dX12_copies_9 : decode cX12_copies 9 = .ok (.aload_n 0, 1) := by decide +kernel
theorem dX12_copies_10 : decode cX12_copies 10 = .ok (.getfield 113, 3) := by decide +kernel
theorem dX12_copies_13 : decode cX12_copies 13 = .ok (.iload_n 2, 1) := by decide +kernel
theorem dX12_copies_14 : decode cX12_copies 14 = .ok (.iload 4, 2) := by decide +kernel
theorem dX12_copies_16 : decode cX12_copies 16 = .ok (.iadd, 1) := by decide +kernel
theorem dX12_copies_17 : decode cX12_copies 17 = .ok (.aload_n 0, 1) := by decide +kernel
theorem dX12_copies_18 : decode cX12_copies 18 = .ok (.getfield 113, 3) := by decide +kernel
theorem dX12_copies_21 : decode cX12_copies 21 = .ok (.iload_n 1, 1) := by decide +kernel
theorem dX12_copies_22 : decode cX12_copies 22 = .ok (.iload 4, 2) := by decide +kernel
theorem dX12_copies_24 : decode cX12_copies 24 = .ok (.iadd, 1) := by decide +kernel
theorem dX12_copies_25 : decode cX12_copies 25 = .ok (.iaload, 1) := by decide +kernel
theorem dX12_copies_26 : decode cX12_copies 26 = .ok (.iastore, 1) := by decide +kernel
theorem dX12_copies_27 : decode cX12_copies 27 = .ok (.iinc 4 1, 3) := by decide +kernel
theorem dX12_copies_30 : decode cX12_copies 30 = .ok (.goto (-27), 3) := by decide +kernel
theorem dX12_copies_33 : decode cX12_copies 33 = .ok (.return_, 1) := by decide +kernel
noncomputable def FX12_copies (a0 : Nat) (p1 : Int32) (p2 : Int32) (p3 : Int32) : PP Unit := bd (it (fun (s1 : Int32) => (if p3 ≤ s1 then pu (Sum.inr ()) else bd (aI (rf a0 23) 966 (p1 + s1)) (fun x2 => bd (uI (rf a0 23) 966 (p2 + s1) x2) (fun (_ : Unit) => lt (s1 + (1 : Int32)) (fun y3 => pu (Sum.inl y3)))) : PP ((Int32) ⊕ (Unit)))) FU (0 : Int32)) (fun (v4 : Unit) => pu ())
set_option maxHeartbeats 4000000 in
set_option maxRecDepth 100000 in
theorem SX12_copies {l : Launch} {K : KK} {n : Nat} {hn : 270 ≤ n} (a0 : Nat) (p1 : Int32) (p2 : Int32) (p3 : Int32) (h0 : ob a0 11) : CT l K n 0 mX12_copies [.ref (K.2.1 + a0), .int p1, .int p2, .int p3] enU (FX12_copies a0 p1 p2 p3) := by
  refine CT.of2 (lv2 := [(0, .ref (K.2.1 + a0)), (1, .int p1), (2, .int p2), (3, .int p3)]) (by decide) rfl hn (Nat.le_of_ble_eq_true rfl) rfl (rp_id ?_)
  unfold FX12_copies
  refine rp_iconst (0 : Int32) dX12_copies_0 (by decide) ?_
  refine rp_istore [(4, .int (0 : Int32)), (0, .ref (K.2.1 + a0)), (1, .int p1), (2, .int p2), (3, .int p3)] dX12_copies_1 (by decide) rfl ?_
  refine rp_as ?_
  refine rp_join 33 (fun v4 => []) (fun _ => []) (fun v4 => ?_) (fun hX3_0 => ?_)
  · exact rp_pu (rp_vret rfl dX12_copies_33)
  refine rp_sub [1, 2, 3, 4, 0] rfl (rp_it (fun (s1 : Int32) => [(0, .ref (K.2.1 + a0)), (1, .int p1), (2, .int p2), (3, .int p3), (4, .int s1)]) (fun N3 ih3 s1 => ?_) FU (0 : Int32))
  refine rp_iload 4 dX12_copies_3 rfl ?_
  refine rp_iload_n 3 dX12_copies_5 rfl ?_
  refine rp_icmp_ge 33 dX12_copies_6 (by decide) ?_ ?_
  · exact rp_sub [] rfl (rp_puR (hX3_0 ()))
  · refine rp_aload_n 0 dX12_copies_9 rfl ?_
    refine rp_getR fi_X12_113 h0 rfl dX12_copies_10 ?_
    refine rp_iload_n 2 dX12_copies_13 rfl ?_
    refine rp_iload 4 dX12_copies_14 rfl ?_
    refine rp_iadd dX12_copies_16 ?_
    refine rp_aload_n 0 dX12_copies_17 rfl ?_
    refine rp_getR fi_X12_113 h0 rfl dX12_copies_18 ?_
    refine rp_iload_n 1 dX12_copies_21 rfl ?_
    refine rp_iload 4 dX12_copies_22 rfl ?_
    refine rp_iadd dX12_copies_24 ?_
    refine rp_iald (tX12_23 h0) dX12_copies_25 (fun x2 => ?_)
    refine rp_iast (tX12_23 h0) dX12_copies_26 ?_
    refine rp_iinc (fun y3 => [(4, .int y3), (0, .ref (K.2.1 + a0)), (1, .int p1), (2, .int p2), (3, .int p3)]) 4 dX12_copies_27 rfl (by rfl) (by decide) (fun y3 => rfl) (fun y3 => ?_)
    refine rp_goto 3 dX12_copies_30 (by decide) ?_
    exact rp_sub [1, 2, 3, 4, 0] rfl (ih3 y3)

theorem dX12_keeps_0 : decode cX12_keeps 0 = .ok (.aload_n 0, 1) := by decide +kernel
theorem dX12_keeps_1 : decode cX12_keeps 1 = .ok (.getfield 279, 3) := by decide +kernel
theorem dX12_keeps_4 : decode cX12_keeps 4 = .ok (.bipush 16, 2) := by decide +kernel
theorem dX12_keeps_6 : decode cX12_keeps 6 = .ok (.if_icmp .ne 47, 3) := by decide +kernel
theorem dX12_keeps_9 : decode cX12_keeps 9 = .ok (.iconst 1, 1) := by decide +kernel
theorem dX12_keeps_10 : decode cX12_keeps 10 = .ok (.istore_n 1, 1) := by decide +kernel
theorem dX12_keeps_11 : decode cX12_keeps 11 = .ok (.iload_n 1, 1) := by decide +kernel
theorem dX12_keeps_12 : decode cX12_keeps 12 = .ok (.bipush 16, 2) := by decide +kernel
theorem dX12_keeps_14 : decode cX12_keeps 14 = .ok (.if_icmp .ge 29, 3) := by decide +kernel
theorem dX12_keeps_17 : decode cX12_keeps 17 = .ok (.aload_n 0, 1) := by decide +kernel
theorem dX12_keeps_18 : decode cX12_keeps 18 = .ok (.bipush 42, 2) := by decide +kernel
theorem dX12_keeps_20 : decode cX12_keeps 20 = .ok (.iconst 5, 1) := by decide +kernel
theorem dX12_keeps_21 : decode cX12_keeps 21 = .ok (.iload_n 1, 1) := by decide +kernel
theorem dX12_keeps_22 : decode cX12_keeps 22 = .ok (.iadd, 1) := by decide +kernel
theorem dX12_keeps_23 : decode cX12_keeps 23 = .ok (.imul, 1) := by decide +kernel
theorem dX12_keeps_24 : decode cX12_keeps 24 = .ok (.bipush 42, 2) := by decide +kernel
theorem dX12_keeps_26 : decode cX12_keeps 26 = .ok (.iconst 5, 1) := by decide +kernel
theorem dX12_keeps_27 : decode cX12_keeps 27 = .ok (.iload_n 1, 1) := by decide +kernel
theorem dX12_keeps_28 : decode cX12_keeps 28 = .ok (.iadd, 1) := by decide +kernel
theorem dX12_keeps_29 : decode cX12_keeps 29 = .ok (.iconst 1, 1) := by decide +kernel
theorem dX12_keeps_30 : decode cX12_keeps 30 = .ok (.isub, 1) := by decide +kernel
theorem dX12_keeps_31 : decode cX12_keeps 31 = .ok (.imul, 1) := by decide +kernel
theorem dX12_keeps_32 : decode cX12_keeps 32 = .ok (.bipush 19, 2) := by decide +kernel
theorem dX12_keeps_34 : decode cX12_keeps 34 = .ok (.invokevirtual 282, 3) := by decide +kernel
theorem dX12_keeps_37 : decode cX12_keeps 37 = .ok (.iinc 1 1, 3) := by decide +kernel
theorem dX12_keeps_40 : decode cX12_keeps 40 = .ok (.goto (-29), 3) := by decide +kernel
theorem dX12_keeps_43 : decode cX12_keeps 43 = .ok (.aload_n 0, 1) := by decide +kernel
theorem dX12_keeps_44 : decode cX12_keeps 44 = .ok (.dup, 1) := by decide +kernel
theorem dX12_keeps_45 : decode cX12_keeps 45 = .ok (.getfield 279, 3) := by decide +kernel
theorem dX12_keeps_48 : decode cX12_keeps 48 = .ok (.iconst 1, 1) := by decide +kernel
theorem dX12_keeps_49 : decode cX12_keeps 49 = .ok (.isub, 1) := by decide +kernel
theorem dX12_keeps_50 : decode cX12_keeps 50 = .ok (.putfield 279, 3) := by decide +kernel
theorem dX12_keeps_53 : decode cX12_keeps 53 = .ok (.aload_n 0, 1) := by decide +kernel
theorem dX12_keeps_54 : decode cX12_keeps 54 = .ok (.iconst 0, 1) := by decide +kernel
theorem dX12_keeps_55 : decode cX12_keeps 55 = .ok (.bipush 42, 2) := by decide +kernel
theorem dX12_keeps_57 : decode cX12_keeps 57 = .ok (.iconst 5, 1) := by decide +kernel
theorem dX12_keeps_58 : decode cX12_keeps 58 = .ok (.aload_n 0, 1) := by decide +kernel
theorem dX12_keeps_59 : decode cX12_keeps 59 = .ok (.getfield 279, 3) := by decide +kernel
theorem dX12_keeps_62 : decode cX12_keeps 62 = .ok (.iadd, 1) := by decide +kernel
theorem dX12_keeps_63 : decode cX12_keeps 63 = .ok (.imul, 1) := by decide +kernel
theorem dX12_keeps_64 : decode cX12_keeps 64 = .ok (.bipush 19, 2) := by decide +kernel
theorem dX12_keeps_66 : decode cX12_keeps 66 = .ok (.invokevirtual 282, 3) := by decide +kernel
theorem dX12_keeps_69 : decode cX12_keeps 69 = .ok (.aload_n 0, 1) := by decide +kernel
theorem dX12_keeps_70 : decode cX12_keeps 70 = .ok (.dup, 1) := by decide +kernel
theorem dX12_keeps_71 : decode cX12_keeps 71 = .ok (.getfield 279, 3) := by decide +kernel
theorem dX12_keeps_74 : decode cX12_keeps 74 = .ok (.iconst 1, 1) := by decide +kernel
theorem dX12_keeps_75 : decode cX12_keeps 75 = .ok (.iadd, 1) := by decide +kernel
theorem dX12_keeps_76 : decode cX12_keeps 76 = .ok (.putfield 279, 3) := by decide +kernel
theorem dX12_keeps_79 : decode cX12_keeps 79 = .ok (.return_, 1) := by decide +kernel
noncomputable def FX12_keeps (a0 : Nat) : PP Unit := bd (gI a0 24) (fun x1 => bd (if x1 = (16 : Int32) then bd (it (fun (s2 : Int32) => (if (16 : Int32) ≤ s2 then pu (Sum.inr ()) else bd (FX12_copies a0 ((42 : Int32) * ((5 : Int32) + s2)) ((42 : Int32) * (((5 : Int32) + s2) - (1 : Int32))) (19 : Int32)) (fun (_ : Unit) => lt (s2 + (1 : Int32)) (fun y4 => pu (Sum.inl y4))) : PP ((Int32) ⊕ (Unit)))) FU (1 : Int32)) (fun (v5 : Unit) => bd (gI a0 24) (fun x6 => bd (sI a0 24 (x6 - (1 : Int32))) (fun (_ : Unit) => pu ()))) else pu () : PP (Unit)) (fun (v7 : Unit) => bd (gI a0 24) (fun x8 => bd (FX12_copies a0 (0 : Int32) ((42 : Int32) * ((5 : Int32) + x8)) (19 : Int32)) (fun (_ : Unit) => bd (gI a0 24) (fun x10 => bd (sI a0 24 (x10 + (1 : Int32))) (fun (_ : Unit) => pu ()))))))
set_option maxHeartbeats 4000000 in
set_option maxRecDepth 100000 in
theorem SX12_keeps {l : Launch} {K : KK} {n : Nat} {hn : 270 ≤ n} (a0 : Nat) (h0 : ob a0 11) : CT l K n 1 mX12_keeps [.ref (K.2.1 + a0)] enU (FX12_keeps a0) := by
  refine CT.of2 (lv2 := [(0, .ref (K.2.1 + a0))]) (by decide) rfl hn (Nat.le_of_ble_eq_true rfl) rfl (rp_id ?_)
  unfold FX12_keeps
  refine rp_aload_n 0 dX12_keeps_0 rfl ?_
  refine rp_getI fi_X12_279 h0 rfl dX12_keeps_1 (fun x1 => ?_)
  refine rp_bipush (16 : Int32) dX12_keeps_4 (by decide) ?_
  refine rp_as ?_
  refine rp_join 53 (fun (v7 : Unit) => [(0, .ref (K.2.1 + a0))]) (fun v7 => []) (fun v7 => ?_) (fun hJ53 => ?_)
  · refine rp_aload_n 0 dX12_keeps_53 rfl ?_
    refine rp_iconst (0 : Int32) dX12_keeps_54 (by decide) ?_
    refine rp_bipush (42 : Int32) dX12_keeps_55 (by decide) ?_
    refine rp_iconst (5 : Int32) dX12_keeps_57 (by decide) ?_
    refine rp_aload_n 0 dX12_keeps_58 rfl ?_
    refine rp_getI fi_X12_279 h0 rfl dX12_keeps_59 (fun x8 => ?_)
    refine rp_iadd dX12_keeps_62 ?_
    refine rp_imul dX12_keeps_63 ?_
    refine rp_bipush (19 : Int32) dX12_keeps_64 (by decide) ?_
    refine rp_callVv [.int (0 : Int32), .int ((42 : Int32) * ((5 : Int32) + x8)), .int (19 : Int32)] (SX12_copies (hn := hn) a0 (0 : Int32) ((42 : Int32) * ((5 : Int32) + x8)) (19 : Int32) h0) cvX12_copies (mw (i := 1623) (by decide +kernel)) (by omega) h0 (by decide) rfl rfl rfl (Nat.le_of_ble_eq_true rfl) dX12_keeps_66 (fun x9 => ?_)
    refine rp_aload_n 0 dX12_keeps_69 rfl ?_
    refine rp_dup dX12_keeps_70 rfl ?_
    refine rp_getI fi_X12_279 h0 rfl dX12_keeps_71 (fun x10 => ?_)
    refine rp_iconst (1 : Int32) dX12_keeps_74 (by decide) ?_
    refine rp_iadd dX12_keeps_75 ?_
    refine rp_putI fi_X12_279 fp_X12_24 h0 rfl dX12_keeps_76 ?_
    exact rp_pu (rp_vret rfl dX12_keeps_79)
  refine rp_icmp_ne 53 dX12_keeps_6 (by decide) ?_ ?_
  · exact rp_sub [0] rfl (rp_pu (hJ53 ()))
  · refine rp_iconst (1 : Int32) dX12_keeps_9 (by decide) ?_
    refine rp_istore_n [(1, .int (1 : Int32)), (0, .ref (K.2.1 + a0))] dX12_keeps_10 (by decide) rfl ?_
    refine rp_as ?_
    refine rp_join 43 (fun v5 => [(0, .ref (K.2.1 + a0))]) (fun _ => []) (fun v5 => ?_) (fun hX11_0 => ?_)
    · refine rp_aload_n 0 dX12_keeps_43 rfl ?_
      refine rp_dup dX12_keeps_44 rfl ?_
      refine rp_getI fi_X12_279 h0 rfl dX12_keeps_45 (fun x6 => ?_)
      refine rp_iconst (1 : Int32) dX12_keeps_48 (by decide) ?_
      refine rp_isub dX12_keeps_49 ?_
      refine rp_putI fi_X12_279 fp_X12_24 h0 rfl dX12_keeps_50 ?_
      exact rp_sub [0] rfl (rp_pu (hJ53 ()))
    refine rp_sub [1, 0] rfl (rp_it (fun (s2 : Int32) => [(0, .ref (K.2.1 + a0)), (1, .int s2)]) (fun N11 ih11 s2 => ?_) FU (1 : Int32))
    refine rp_iload_n 1 dX12_keeps_11 rfl ?_
    refine rp_bipush (16 : Int32) dX12_keeps_12 (by decide) ?_
    refine rp_icmp_ge 43 dX12_keeps_14 (by decide) ?_ ?_
    · exact rp_sub [0] rfl (rp_puR (hX11_0 ()))
    · refine rp_aload_n 0 dX12_keeps_17 rfl ?_
      refine rp_bipush (42 : Int32) dX12_keeps_18 (by decide) ?_
      refine rp_iconst (5 : Int32) dX12_keeps_20 (by decide) ?_
      refine rp_iload_n 1 dX12_keeps_21 rfl ?_
      refine rp_iadd dX12_keeps_22 ?_
      refine rp_imul dX12_keeps_23 ?_
      refine rp_bipush (42 : Int32) dX12_keeps_24 (by decide) ?_
      refine rp_iconst (5 : Int32) dX12_keeps_26 (by decide) ?_
      refine rp_iload_n 1 dX12_keeps_27 rfl ?_
      refine rp_iadd dX12_keeps_28 ?_
      refine rp_iconst (1 : Int32) dX12_keeps_29 (by decide) ?_
      refine rp_isub dX12_keeps_30 ?_
      refine rp_imul dX12_keeps_31 ?_
      refine rp_bipush (19 : Int32) dX12_keeps_32 (by decide) ?_
      refine rp_callVv [.int ((42 : Int32) * ((5 : Int32) + s2)), .int ((42 : Int32) * (((5 : Int32) + s2) - (1 : Int32))), .int (19 : Int32)] (SX12_copies (hn := hn) a0 ((42 : Int32) * ((5 : Int32) + s2)) ((42 : Int32) * (((5 : Int32) + s2) - (1 : Int32))) (19 : Int32) h0) cvX12_copies (mw (i := 1623) (by decide +kernel)) (by omega) h0 (by decide) rfl rfl rfl (Nat.le_of_ble_eq_true rfl) dX12_keeps_34 (fun x3 => ?_)
      refine rp_iinc (fun y4 => [(1, .int y4), (0, .ref (K.2.1 + a0))]) 1 dX12_keeps_37 rfl (by rfl) (by decide) (fun y4 => rfl) (fun y4 => ?_)
      refine rp_goto 11 dX12_keeps_40 (by decide) ?_
      exact rp_sub [1, 0] rfl (ih11 y4)

theorem dX12_lines_0 : decode cX12_lines 0 = .ok (.aload_n 0, 1) := by decide +kernel
theorem dX12_lines_1 : decode cX12_lines 1 = .ok (.getfield 83, 3) := by decide +kernel
theorem dX12_lines_4 : decode cX12_lines 4 = .ok (.iconst 0, 1) := by decide +kernel
theorem dX12_lines_5 : decode cX12_lines 5 = .ok (.iaload, 1) := by decide +kernel
theorem dX12_lines_6 : decode cX12_lines 6 = .ok (.ireturn, 1) := by decide +kernel
noncomputable def FX12_lines (a0 : Nat) : PP Int32 := bd (aI (rf a0 10) 80 (0 : Int32)) (fun x1 => pu x1)
set_option maxHeartbeats 4000000 in
set_option maxRecDepth 100000 in
theorem SX12_lines {l : Launch} {K : KK} {n : Nat} {hn : 270 ≤ n} (a0 : Nat) (h0 : ob a0 11) : CT l K n 0 mX12_lines [.ref (K.2.1 + a0)] enI (FX12_lines a0) := by
  refine CT.of2 (lv2 := [(0, .ref (K.2.1 + a0))]) (by decide) rfl hn (Nat.le_of_ble_eq_true rfl) rfl (rp_id ?_)
  unfold FX12_lines
  refine rp_aload_n 0 dX12_lines_0 rfl ?_
  refine rp_getR fi_X12_83 h0 rfl dX12_lines_1 ?_
  refine rp_iconst (0 : Int32) dX12_lines_4 (by decide) ?_
  refine rp_iald (tX12_10 h0) dX12_lines_5 (fun x1 => ?_)
  exact rp_pu (rp_iret rfl dX12_lines_6)

theorem dX12_places_0 : decode cX12_places 0 = .ok (.aload_n 0, 1) := by decide +kernel
theorem dX12_places_1 : decode cX12_places 1 = .ok (.getfield 83, 3) := by decide +kernel
theorem dX12_places_4 : decode cX12_places 4 = .ok (.iconst 1, 1) := by decide +kernel
theorem dX12_places_5 : decode cX12_places 5 = .ok (.iaload, 1) := by decide +kernel
theorem dX12_places_6 : decode cX12_places 6 = .ok (.ireturn, 1) := by decide +kernel
noncomputable def FX12_places (a0 : Nat) : PP Int32 := bd (aI (rf a0 10) 80 (1 : Int32)) (fun x1 => pu x1)
set_option maxHeartbeats 4000000 in
set_option maxRecDepth 100000 in
theorem SX12_places {l : Launch} {K : KK} {n : Nat} {hn : 270 ≤ n} (a0 : Nat) (h0 : ob a0 11) : CT l K n 0 mX12_places [.ref (K.2.1 + a0)] enI (FX12_places a0) := by
  refine CT.of2 (lv2 := [(0, .ref (K.2.1 + a0))]) (by decide) rfl hn (Nat.le_of_ble_eq_true rfl) rfl (rp_id ?_)
  unfold FX12_places
  refine rp_aload_n 0 dX12_places_0 rfl ?_
  refine rp_getR fi_X12_83 h0 rfl dX12_places_1 ?_
  refine rp_iconst (1 : Int32) dX12_places_4 (by decide) ?_
  refine rp_iald (tX12_10 h0) dX12_places_5 (fun x1 => ?_)
  exact rp_pu (rp_iret rfl dX12_places_6)

theorem dX12_cloths_0 : decode cX12_cloths 0 = .ok (.aload_n 0, 1) := by decide +kernel
theorem dX12_cloths_1 : decode cX12_cloths 1 = .ok (.getfield 83, 3) := by decide +kernel
theorem dX12_cloths_4 : decode cX12_cloths 4 = .ok (.iconst 2, 1) := by decide +kernel
theorem dX12_cloths_5 : decode cX12_cloths 5 = .ok (.iaload, 1) := by decide +kernel
theorem dX12_cloths_6 : decode cX12_cloths 6 = .ok (.ireturn, 1) := by decide +kernel
noncomputable def FX12_cloths (a0 : Nat) : PP Int32 := bd (aI (rf a0 10) 80 (2 : Int32)) (fun x1 => pu x1)
set_option maxHeartbeats 4000000 in
set_option maxRecDepth 100000 in
theorem SX12_cloths {l : Launch} {K : KK} {n : Nat} {hn : 270 ≤ n} (a0 : Nat) (h0 : ob a0 11) : CT l K n 0 mX12_cloths [.ref (K.2.1 + a0)] enI (FX12_cloths a0) := by
  refine CT.of2 (lv2 := [(0, .ref (K.2.1 + a0))]) (by decide) rfl hn (Nat.le_of_ble_eq_true rfl) rfl (rp_id ?_)
  unfold FX12_cloths
  refine rp_aload_n 0 dX12_cloths_0 rfl ?_
  refine rp_getR fi_X12_83 h0 rfl dX12_cloths_1 ?_
  refine rp_iconst (2 : Int32) dX12_cloths_4 (by decide) ?_
  refine rp_iald (tX12_10 h0) dX12_cloths_5 (fun x1 => ?_)
  exact rp_pu (rp_iret rfl dX12_cloths_6)

theorem dX12_lineOf_0 : decode cX12_lineOf 0 = .ok (.aload_n 0, 1) := by decide +kernel
theorem dX12_lineOf_1 : decode cX12_lineOf 1 = .ok (.getfield 83, 3) := by decide +kernel
theorem dX12_lineOf_4 : decode cX12_lineOf 4 = .ok (.iconst 4, 1) := by decide +kernel
theorem dX12_lineOf_5 : decode cX12_lineOf 5 = .ok (.iconst 2, 1) := by decide +kernel
theorem dX12_lineOf_6 : decode cX12_lineOf 6 = .ok (.iload_n 1, 1) := by decide +kernel
theorem dX12_lineOf_7 : decode cX12_lineOf 7 = .ok (.imul, 1) := by decide +kernel
theorem dX12_lineOf_8 : decode cX12_lineOf 8 = .ok (.iadd, 1) := by decide +kernel
theorem dX12_lineOf_9 : decode cX12_lineOf 9 = .ok (.iload_n 2, 1) := by decide +kernel
theorem dX12_lineOf_10 : decode cX12_lineOf 10 = .ok (.iadd, 1) := by decide +kernel
theorem dX12_lineOf_11 : decode cX12_lineOf 11 = .ok (.iaload, 1) := by decide +kernel
theorem dX12_lineOf_12 : decode cX12_lineOf 12 = .ok (.ireturn, 1) := by decide +kernel
noncomputable def FX12_lineOf (a0 : Nat) (p1 : Int32) (p2 : Int32) : PP Int32 := bd (aI (rf a0 10) 80 (((4 : Int32) + ((2 : Int32) * p1)) + p2)) (fun x1 => pu x1)
set_option maxHeartbeats 4000000 in
set_option maxRecDepth 100000 in
theorem SX12_lineOf {l : Launch} {K : KK} {n : Nat} {hn : 270 ≤ n} (a0 : Nat) (p1 : Int32) (p2 : Int32) (h0 : ob a0 11) : CT l K n 0 mX12_lineOf [.ref (K.2.1 + a0), .int p1, .int p2] enI (FX12_lineOf a0 p1 p2) := by
  refine CT.of2 (lv2 := [(0, .ref (K.2.1 + a0)), (1, .int p1), (2, .int p2)]) (by decide) rfl hn (Nat.le_of_ble_eq_true rfl) rfl (rp_id ?_)
  unfold FX12_lineOf
  refine rp_aload_n 0 dX12_lineOf_0 rfl ?_
  refine rp_getR fi_X12_83 h0 rfl dX12_lineOf_1 ?_
  refine rp_iconst (4 : Int32) dX12_lineOf_4 (by decide) ?_
  refine rp_iconst (2 : Int32) dX12_lineOf_5 (by decide) ?_
  refine rp_iload_n 1 dX12_lineOf_6 rfl ?_
  refine rp_imul dX12_lineOf_7 ?_
  refine rp_iadd dX12_lineOf_8 ?_
  refine rp_iload_n 2 dX12_lineOf_9 rfl ?_
  refine rp_iadd dX12_lineOf_10 ?_
  refine rp_iald (tX12_10 h0) dX12_lineOf_11 (fun x1 => ?_)
  exact rp_pu (rp_iret rfl dX12_lineOf_12)

theorem dX12_clothOf_0 : decode cX12_clothOf 0 = .ok (.aload_n 0, 1) := by decide +kernel
theorem dX12_clothOf_1 : decode cX12_clothOf 1 = .ok (.getfield 83, 3) := by decide +kernel
theorem dX12_clothOf_4 : decode cX12_clothOf 4 = .ok (.bipush 18, 2) := by decide +kernel
theorem dX12_clothOf_6 : decode cX12_clothOf 6 = .ok (.iconst 2, 1) := by decide +kernel
theorem dX12_clothOf_7 : decode cX12_clothOf 7 = .ok (.iload_n 1, 1) := by decide +kernel
theorem dX12_clothOf_8 : decode cX12_clothOf 8 = .ok (.imul, 1) := by decide +kernel
theorem dX12_clothOf_9 : decode cX12_clothOf 9 = .ok (.iadd, 1) := by decide +kernel
theorem dX12_clothOf_10 : decode cX12_clothOf 10 = .ok (.iload_n 2, 1) := by decide +kernel
theorem dX12_clothOf_11 : decode cX12_clothOf 11 = .ok (.iadd, 1) := by decide +kernel
theorem dX12_clothOf_12 : decode cX12_clothOf 12 = .ok (.iaload, 1) := by decide +kernel
theorem dX12_clothOf_13 : decode cX12_clothOf 13 = .ok (.ireturn, 1) := by decide +kernel
noncomputable def FX12_clothOf (a0 : Nat) (p1 : Int32) (p2 : Int32) : PP Int32 := bd (aI (rf a0 10) 80 (((18 : Int32) + ((2 : Int32) * p1)) + p2)) (fun x1 => pu x1)
set_option maxHeartbeats 4000000 in
set_option maxRecDepth 100000 in
theorem SX12_clothOf {l : Launch} {K : KK} {n : Nat} {hn : 270 ≤ n} (a0 : Nat) (p1 : Int32) (p2 : Int32) (h0 : ob a0 11) : CT l K n 0 mX12_clothOf [.ref (K.2.1 + a0), .int p1, .int p2] enI (FX12_clothOf a0 p1 p2) := by
  refine CT.of2 (lv2 := [(0, .ref (K.2.1 + a0)), (1, .int p1), (2, .int p2)]) (by decide) rfl hn (Nat.le_of_ble_eq_true rfl) rfl (rp_id ?_)
  unfold FX12_clothOf
  refine rp_aload_n 0 dX12_clothOf_0 rfl ?_
  refine rp_getR fi_X12_83 h0 rfl dX12_clothOf_1 ?_
  refine rp_bipush (18 : Int32) dX12_clothOf_4 (by decide) ?_
  refine rp_iconst (2 : Int32) dX12_clothOf_6 (by decide) ?_
  refine rp_iload_n 1 dX12_clothOf_7 rfl ?_
  refine rp_imul dX12_clothOf_8 ?_
  refine rp_iadd dX12_clothOf_9 ?_
  refine rp_iload_n 2 dX12_clothOf_10 rfl ?_
  refine rp_iadd dX12_clothOf_11 ?_
  refine rp_iald (tX12_10 h0) dX12_clothOf_12 (fun x1 => ?_)
  exact rp_pu (rp_iret rfl dX12_clothOf_13)

theorem dX12_starts_0 : decode cX12_starts 0 = .ok (.iconst 0, 1) := by decide +kernel
theorem dX12_starts_1 : decode cX12_starts 1 = .ok (.istore_n 2, 1) := by decide +kernel
theorem dX12_starts_2 : decode cX12_starts 2 = .ok (.iload_n 2, 1) := by decide +kernel
theorem dX12_starts_3 : decode cX12_starts 3 = .ok (.bipush 19, 2) := by decide +kernel
theorem dX12_starts_5 : decode cX12_starts 5 = .ok (.if_icmp .ge 18, 3) := by decide +kernel
theorem dX12_starts_8 : decode cX12_starts 8 = .ok (.aload_n 0, 1) := by decide +kernel
theorem dX12_starts_9 : decode cX12_starts 9 = .ok (.getfield 113, 3) := by decide +kernel
theorem dX12_starts_12 : decode cX12_starts 12 = .ok (.iload_n 1, 1) := by decide +kernel
theorem dX12_starts_13 : decode cX12_starts 13 = .ok (.iload_n 2, 1) := by decide +kernel
theorem dX12_starts_14 : decode cX12_starts 14 = .ok (.iadd, 1) := by decide +kernel
theorem dX12_starts_15 : decode cX12_starts 15 = .ok (.iconst 0, 1) := by decide +kernel
theorem dX12_starts_16 : decode cX12_starts 16 = .ok (.iastore, 1) := by decide +kernel
theorem dX12_starts_17 : decode cX12_starts 17 = .ok (.iinc 2 1, 3) := by decide +kernel
theorem dX12_starts_20 : decode cX12_starts 20 = .ok (.goto (-18), 3) := by decide +kernel
theorem dX12_starts_23 : decode cX12_starts 23 = .ok (.iconst 0, 1) := by decide +kernel
theorem dX12_starts_24 : decode cX12_starts 24 = .ok (.istore_n 2, 1) := by decide +kernel
theorem dX12_starts_25 : decode cX12_starts 25 = .ok (.iload_n 2, 1) := by decide +kernel
theorem dX12_starts_26 : decode cX12_starts 26 = .ok (.bipush 6, 2) := by decide +kernel
theorem dX12_starts_28 : decode cX12_starts 28 = .ok (.if_icmp .ge 49, 3) := by decide +kernel
theorem dX12_starts_31 : decode cX12_starts 31 = .ok (.aload_n 0, 1) := by decide +kernel
theorem dX12_starts_32 : decode cX12_starts 32 = .ok (.getfield 113, 3) := by decide +kernel
theorem dX12_starts_35 : decode cX12_starts 35 = .ok (.iload_n 1, 1) := by decide +kernel
theorem dX12_starts_36 : decode cX12_starts 36 = .ok (.iconst 1, 1) := by decide +kernel
theorem dX12_starts_37 : decode cX12_starts 37 = .ok (.iadd, 1) := by decide +kernel
theorem dX12_starts_38 : decode cX12_starts 38 = .ok (.iload_n 2, 1) := by decide +kernel
theorem dX12_starts_39 : decode cX12_starts 39 = .ok (.iadd, 1) := by decide +kernel
theorem dX12_starts_40 : decode cX12_starts 40 = .ok (.iload_n 2, 1) := by decide +kernel
theorem dX12_starts_41 : decode cX12_starts 41 = .ok (.aload_n 0, 1) := by decide +kernel
theorem dX12_starts_42 : decode cX12_starts 42 = .ok (.invokevirtual 269, 3) := by decide +kernel
theorem dX12_starts_45 : decode cX12_starts 45 = .ok (.if_icmp .ge 12, 3) := by decide +kernel
theorem dX12_starts_48 : decode cX12_starts 48 = .ok (.aload_n 0, 1) := by decide +kernel
theorem dX12_starts_49 : decode cX12_starts 49 = .ok (.iload_n 2, 1) := by decide +kernel
theorem dX12_starts_50 : decode cX12_starts 50 = .ok (.iconst 1, 1) := by decide +kernel
theorem dX12_starts_51 : decode cX12_starts 51 = .ok (.invokevirtual 273, 3) := by decide +kernel
theorem dX12_starts_54 : decode cX12_starts 54 = .ok (.goto 4, 3) := by decide +kernel
theorem dX12_starts_57 : decode cX12_starts 57 = .ok (.iconst 0, 1) := by decide +kernel
theorem dX12_starts_58 : decode cX12_starts 58 = .ok (.iastore, 1) := by decide +kernel
theorem dX12_starts_59 : decode cX12_starts 59 = .ok (.aload_n 0, 1) := by decide +kernel
theorem dX12_starts_60 : decode cX12_starts 60 = .ok (.getfield 113, 3) := by decide +kernel
theorem dX12_starts_63 : decode cX12_starts 63 = .ok (.iload_n 1, 1) := by decide +kernel
theorem dX12_starts_64 : decode cX12_starts 64 = .ok (.bipush 7, 2) := by decide +kernel
theorem dX12_starts_66 : decode cX12_starts 66 = .ok (.iadd, 1) := by decide +kernel
theorem dX12_starts_67 : decode cX12_starts 67 = .ok (.iload_n 2, 1) := by decide +kernel
theorem dX12_starts_68 : decode cX12_starts 68 = .ok (.iadd, 1) := by decide +kernel
theorem dX12_starts_69 : decode cX12_starts 69 = .ok (.iconst (-1), 1) := by decide +kernel
theorem dX12_starts_70 : decode cX12_starts 70 = .ok (.iastore, 1) := by decide +kernel
theorem dX12_starts_71 : decode cX12_starts 71 = .ok (.iinc 2 1, 3) := by decide +kernel
theorem dX12_starts_74 : decode cX12_starts 74 = .ok (.goto (-49), 3) := by decide +kernel
theorem dX12_starts_77 : decode cX12_starts 77 = .ok (.return_, 1) := by decide +kernel
noncomputable def FX12_starts (a0 : Nat) (p1 : Int32) : PP Unit := bd (it (fun (s1 : Int32) => (if (19 : Int32) ≤ s1 then pu (Sum.inr ()) else bd (uI (rf a0 23) 966 (p1 + s1) (0 : Int32)) (fun (_ : Unit) => lt (s1 + (1 : Int32)) (fun y2 => pu (Sum.inl y2))) : PP ((Int32) ⊕ (Unit)))) FU (0 : Int32)) (fun (v3 : Unit) => bd (it (fun (s4 : Int32) => (if (6 : Int32) ≤ s4 then pu (Sum.inr ()) else bd (FX12_cloths a0) (fun x5 => bd (if x5 ≤ s4 then pu (0 : Int32) else bd (FX12_clothOf a0 s4 (1 : Int32)) (fun x6 => pu x6) : PP (Int32)) (fun (v7 : Int32) => bd (uI (rf a0 23) 966 ((p1 + (1 : Int32)) + s4) v7) (fun (_ : Unit) => bd (uI (rf a0 23) 966 ((p1 + (7 : Int32)) + s4) (-1 : Int32)) (fun (_ : Unit) => lt (s4 + (1 : Int32)) (fun y8 => pu (Sum.inl y8)))))) : PP ((Int32) ⊕ (Unit)))) FU (0 : Int32)) (fun (v9 : Unit) => pu ()))
set_option maxHeartbeats 4000000 in
set_option maxRecDepth 100000 in
theorem SX12_starts {l : Launch} {K : KK} {n : Nat} {hn : 270 ≤ n} (a0 : Nat) (p1 : Int32) (h0 : ob a0 11) : CT l K n 1 mX12_starts [.ref (K.2.1 + a0), .int p1] enU (FX12_starts a0 p1) := by
  refine CT.of2 (lv2 := [(0, .ref (K.2.1 + a0)), (1, .int p1)]) (by decide) rfl hn (Nat.le_of_ble_eq_true rfl) rfl (rp_id ?_)
  unfold FX12_starts
  refine rp_iconst (0 : Int32) dX12_starts_0 (by decide) ?_
  refine rp_istore_n [(2, .int (0 : Int32)), (0, .ref (K.2.1 + a0)), (1, .int p1)] dX12_starts_1 (by decide) rfl ?_
  refine rp_as ?_
  refine rp_join 23 (fun v3 => [(0, .ref (K.2.1 + a0)), (1, .int p1)]) (fun _ => []) (fun v3 => ?_) (fun hX2_0 => ?_)
  · refine rp_iconst (0 : Int32) dX12_starts_23 (by decide) ?_
    refine rp_istore_n [(2, .int (0 : Int32)), (0, .ref (K.2.1 + a0)), (1, .int p1)] dX12_starts_24 (by decide) rfl ?_
    refine rp_as ?_
    refine rp_join 77 (fun v9 => []) (fun _ => []) (fun v9 => ?_) (fun hX25_0 => ?_)
    · exact rp_pu (rp_vret rfl dX12_starts_77)
    refine rp_sub [1, 2, 0] rfl (rp_it (fun (s4 : Int32) => [(0, .ref (K.2.1 + a0)), (1, .int p1), (2, .int s4)]) (fun N25 ih25 s4 => ?_) FU (0 : Int32))
    refine rp_iload_n 2 dX12_starts_25 rfl ?_
    refine rp_bipush (6 : Int32) dX12_starts_26 (by decide) ?_
    refine rp_icmp_ge 77 dX12_starts_28 (by decide) ?_ ?_
    · exact rp_sub [] rfl (rp_puR (hX25_0 ()))
    · refine rp_aload_n 0 dX12_starts_31 rfl ?_
      refine rp_getR fi_X12_113 h0 rfl dX12_starts_32 ?_
      refine rp_iload_n 1 dX12_starts_35 rfl ?_
      refine rp_iconst (1 : Int32) dX12_starts_36 (by decide) ?_
      refine rp_iadd dX12_starts_37 ?_
      refine rp_iload_n 2 dX12_starts_38 rfl ?_
      refine rp_iadd dX12_starts_39 ?_
      refine rp_iload_n 2 dX12_starts_40 rfl ?_
      refine rp_aload_n 0 dX12_starts_41 rfl ?_
      refine rp_callVi [] (SX12_cloths (hn := hn) a0 h0) cvX12_cloths (mw (i := 1306) (by decide +kernel)) (by omega) h0 (by decide) rfl rfl rfl (Nat.le_of_ble_eq_true rfl) dX12_starts_42 (fun x5 => ?_)
      refine rp_as ?_
      refine rp_join 58 (fun (v7 : Int32) => [(0, .ref (K.2.1 + a0)), (1, .int p1), (2, .int s4)]) (fun v7 => [.int v7, .int ((p1 + (1 : Int32)) + s4), .ref (K.2.1 + (rf a0 23))]) (fun v7 => ?_) (fun hJ58 => ?_)
      · refine rp_iast (tX12_23 h0) dX12_starts_58 ?_
        refine rp_aload_n 0 dX12_starts_59 rfl ?_
        refine rp_getR fi_X12_113 h0 rfl dX12_starts_60 ?_
        refine rp_iload_n 1 dX12_starts_63 rfl ?_
        refine rp_bipush (7 : Int32) dX12_starts_64 (by decide) ?_
        refine rp_iadd dX12_starts_66 ?_
        refine rp_iload_n 2 dX12_starts_67 rfl ?_
        refine rp_iadd dX12_starts_68 ?_
        refine rp_iconst (-1 : Int32) dX12_starts_69 (by decide) ?_
        refine rp_iast (tX12_23 h0) dX12_starts_70 ?_
        refine rp_iinc (fun y8 => [(2, .int y8), (0, .ref (K.2.1 + a0)), (1, .int p1)]) 2 dX12_starts_71 rfl (by rfl) (by decide) (fun y8 => rfl) (fun y8 => ?_)
        refine rp_goto 25 dX12_starts_74 (by decide) ?_
        exact rp_sub [1, 2, 0] rfl (ih25 y8)
      refine rp_icmp_ge 57 dX12_starts_45 (by decide) ?_ ?_
      · refine rp_iconst (0 : Int32) dX12_starts_57 (by decide) ?_
        exact rp_sub [0, 1, 2] rfl (rp_pu (hJ58 (0 : Int32)))
      · refine rp_aload_n 0 dX12_starts_48 rfl ?_
        refine rp_iload_n 2 dX12_starts_49 rfl ?_
        refine rp_iconst (1 : Int32) dX12_starts_50 (by decide) ?_
        refine rp_callVi [.int s4, .int (1 : Int32)] (SX12_clothOf (hn := hn) a0 s4 (1 : Int32) h0) cvX12_clothOf (mw (i := 1310) (by decide +kernel)) (by omega) h0 (by decide) rfl rfl rfl (Nat.le_of_ble_eq_true rfl) dX12_starts_51 (fun x6 => ?_)
        refine rp_goto 58 dX12_starts_54 (by decide) ?_
        exact rp_sub [0, 1, 2] rfl (rp_pu (hJ58 x6))
  refine rp_sub [1, 2, 0] rfl (rp_it (fun (s1 : Int32) => [(0, .ref (K.2.1 + a0)), (1, .int p1), (2, .int s1)]) (fun N2 ih2 s1 => ?_) FU (0 : Int32))
  refine rp_iload_n 2 dX12_starts_2 rfl ?_
  refine rp_bipush (19 : Int32) dX12_starts_3 (by decide) ?_
  refine rp_icmp_ge 23 dX12_starts_5 (by decide) ?_ ?_
  · exact rp_sub [0, 1] rfl (rp_puR (hX2_0 ()))
  · refine rp_aload_n 0 dX12_starts_8 rfl ?_
    refine rp_getR fi_X12_113 h0 rfl dX12_starts_9 ?_
    refine rp_iload_n 1 dX12_starts_12 rfl ?_
    refine rp_iload_n 2 dX12_starts_13 rfl ?_
    refine rp_iadd dX12_starts_14 ?_
    refine rp_iconst (0 : Int32) dX12_starts_15 (by decide) ?_
    refine rp_iast (tX12_23 h0) dX12_starts_16 ?_
    refine rp_iinc (fun y2 => [(2, .int y2), (0, .ref (K.2.1 + a0)), (1, .int p1)]) 2 dX12_starts_17 rfl (by rfl) (by decide) (fun y2 => rfl) (fun y2 => ?_)
    refine rp_goto 2 dX12_starts_20 (by decide) ?_
    exact rp_sub [1, 2, 0] rfl (ih2 y2)

theorem dX12_begins_0 : decode cX12_begins 0 = .ok (.aload_n 0, 1) := by decide +kernel
theorem dX12_begins_1 : decode cX12_begins 1 = .ok (.iconst 0, 1) := by decide +kernel
theorem dX12_begins_2 : decode cX12_begins 2 = .ok (.invokevirtual 276, 3) := by decide +kernel
theorem dX12_begins_5 : decode cX12_begins 5 = .ok (.iconst 0, 1) := by decide +kernel
theorem dX12_begins_6 : decode cX12_begins 6 = .ok (.istore_n 1, 1) := by decide +kernel
theorem dX12_begins_7 : decode cX12_begins 7 = .ok (.iload_n 1, 1) := by decide +kernel
theorem dX12_begins_8 : decode cX12_begins 8 = .ok (.iconst 4, 1) := by decide +kernel
theorem dX12_begins_9 : decode cX12_begins 9 = .ok (.if_icmp .ge 20, 3) := by decide +kernel
theorem dX12_begins_12 : decode cX12_begins 12 = .ok (.aload_n 0, 1) := by decide +kernel
theorem dX12_begins_13 : decode cX12_begins 13 = .ok (.getfield 113, 3) := by decide +kernel
theorem dX12_begins_16 : decode cX12_begins 16 = .ok (.bipush 19, 2) := by decide +kernel
theorem dX12_begins_18 : decode cX12_begins 18 = .ok (.iload_n 1, 1) := by decide +kernel
theorem dX12_begins_19 : decode cX12_begins 19 = .ok (.iadd, 1) := by decide +kernel
theorem dX12_begins_20 : decode cX12_begins 20 = .ok (.bipush (-2), 2) := by decide +kernel
theorem dX12_begins_22 : decode cX12_begins 22 = .ok (.iastore, 1) := by decide +kernel
theorem dX12_begins_23 : decode cX12_begins 23 = .ok (.iinc 1 1, 3) := by decide +kernel
theorem dX12_begins_26 : decode cX12_begins 26 = .ok (.goto (-19), 3) := by decide +kernel
theorem dX12_begins_29 : decode cX12_begins 29 = .ok (.aload_n 0, 1) := by decide +kernel
theorem dX12_begins_30 : decode cX12_begins 30 = .ok (.getfield 113, 3) := by decide +kernel
theorem dX12_begins_33 : decode cX12_begins 33 = .ok (.bipush 23, 2) := by decide +kernel
theorem dX12_begins_35 : decode cX12_begins 35 = .ok (.iconst 0, 1) := by decide +kernel
theorem dX12_begins_36 : decode cX12_begins 36 = .ok (.iastore, 1) := by decide +kernel
theorem dX12_begins_37 : decode cX12_begins 37 = .ok (.aload_n 0, 1) := by decide +kernel
theorem dX12_begins_38 : decode cX12_begins 38 = .ok (.getfield 104, 3) := by decide +kernel
theorem dX12_begins_41 : decode cX12_begins 41 = .ok (.iconst 0, 1) := by decide +kernel
theorem dX12_begins_42 : decode cX12_begins 42 = .ok (.iconst 0, 1) := by decide +kernel
theorem dX12_begins_43 : decode cX12_begins 43 = .ok (.iastore, 1) := by decide +kernel
theorem dX12_begins_44 : decode cX12_begins 44 = .ok (.aload_n 0, 1) := by decide +kernel
theorem dX12_begins_45 : decode cX12_begins 45 = .ok (.iconst 0, 1) := by decide +kernel
theorem dX12_begins_46 : decode cX12_begins 46 = .ok (.putfield 279, 3) := by decide +kernel
theorem dX12_begins_49 : decode cX12_begins 49 = .ok (.iconst 0, 1) := by decide +kernel
theorem dX12_begins_50 : decode cX12_begins 50 = .ok (.istore_n 1, 1) := by decide +kernel
theorem dX12_begins_51 : decode cX12_begins 51 = .ok (.iload_n 1, 1) := by decide +kernel
theorem dX12_begins_52 : decode cX12_begins 52 = .ok (.iconst 4, 1) := by decide +kernel
theorem dX12_begins_53 : decode cX12_begins 53 = .ok (.if_icmp .ge 16, 3) := by decide +kernel
theorem dX12_begins_56 : decode cX12_begins 56 = .ok (.aload_n 0, 1) := by decide +kernel
theorem dX12_begins_57 : decode cX12_begins 57 = .ok (.getfield 116, 3) := by decide +kernel
theorem dX12_begins_60 : decode cX12_begins 60 = .ok (.iload_n 1, 1) := by decide +kernel
theorem dX12_begins_61 : decode cX12_begins 61 = .ok (.iconst 0, 1) := by decide +kernel
theorem dX12_begins_62 : decode cX12_begins 62 = .ok (.bastore, 1) := by decide +kernel
theorem dX12_begins_63 : decode cX12_begins 63 = .ok (.iinc 1 1, 3) := by decide +kernel
theorem dX12_begins_66 : decode cX12_begins 66 = .ok (.goto (-15), 3) := by decide +kernel
theorem dX12_begins_69 : decode cX12_begins 69 = .ok (.return_, 1) := by decide +kernel
noncomputable def FX12_begins (a0 : Nat) : PP Unit := bd (FX12_starts a0 (0 : Int32)) (fun (_ : Unit) => bd (it (fun (s2 : Int32) => (if (4 : Int32) ≤ s2 then pu (Sum.inr ()) else bd (uI (rf a0 23) 966 ((19 : Int32) + s2) (-2 : Int32)) (fun (_ : Unit) => lt (s2 + (1 : Int32)) (fun y3 => pu (Sum.inl y3))) : PP ((Int32) ⊕ (Unit)))) FU (0 : Int32)) (fun (v4 : Unit) => bd (uI (rf a0 23) 966 (23 : Int32) (0 : Int32)) (fun (_ : Unit) => bd (uI (rf a0 20) 330 (0 : Int32) (0 : Int32)) (fun (_ : Unit) => bd (sI a0 24 (0 : Int32)) (fun (_ : Unit) => bd (it (fun (s5 : Int32) => (if (4 : Int32) ≤ s5 then pu (Sum.inr ()) else bd (uI (rf a0 25) 4 s5 (0 : Int32)) (fun (_ : Unit) => lt (s5 + (1 : Int32)) (fun y6 => pu (Sum.inl y6))) : PP ((Int32) ⊕ (Unit)))) FU (0 : Int32)) (fun (v7 : Unit) => pu ()))))))
set_option maxHeartbeats 4000000 in
set_option maxRecDepth 100000 in
theorem SX12_begins {l : Launch} {K : KK} {n : Nat} {hn : 270 ≤ n} (a0 : Nat) (h0 : ob a0 11) : CT l K n 2 mX12_begins [.ref (K.2.1 + a0)] enU (FX12_begins a0) := by
  refine CT.of2 (lv2 := [(0, .ref (K.2.1 + a0))]) (by decide) rfl hn (Nat.le_of_ble_eq_true rfl) rfl (rp_id ?_)
  unfold FX12_begins
  refine rp_aload_n 0 dX12_begins_0 rfl ?_
  refine rp_iconst (0 : Int32) dX12_begins_1 (by decide) ?_
  refine rp_callVv [.int (0 : Int32)] (SX12_starts (hn := hn) a0 (0 : Int32) h0) cvX12_starts (mw (i := 1302) (by decide +kernel)) (by omega) h0 (by decide) rfl rfl rfl (Nat.le_of_ble_eq_true rfl) dX12_begins_2 (fun x1 => ?_)
  refine rp_iconst (0 : Int32) dX12_begins_5 (by decide) ?_
  refine rp_istore_n [(1, .int (0 : Int32)), (0, .ref (K.2.1 + a0))] dX12_begins_6 (by decide) rfl ?_
  refine rp_as ?_
  refine rp_join 29 (fun v4 => [(0, .ref (K.2.1 + a0))]) (fun _ => []) (fun v4 => ?_) (fun hX7_0 => ?_)
  · refine rp_aload_n 0 dX12_begins_29 rfl ?_
    refine rp_getR fi_X12_113 h0 rfl dX12_begins_30 ?_
    refine rp_bipush (23 : Int32) dX12_begins_33 (by decide) ?_
    refine rp_iconst (0 : Int32) dX12_begins_35 (by decide) ?_
    refine rp_iast (tX12_23 h0) dX12_begins_36 ?_
    refine rp_aload_n 0 dX12_begins_37 rfl ?_
    refine rp_getR fi_X12_104 h0 rfl dX12_begins_38 ?_
    refine rp_iconst (0 : Int32) dX12_begins_41 (by decide) ?_
    refine rp_iconst (0 : Int32) dX12_begins_42 (by decide) ?_
    refine rp_iast (tX12_20 h0) dX12_begins_43 ?_
    refine rp_aload_n 0 dX12_begins_44 rfl ?_
    refine rp_iconst (0 : Int32) dX12_begins_45 (by decide) ?_
    refine rp_putI fi_X12_279 fp_X12_24 h0 rfl dX12_begins_46 ?_
    refine rp_iconst (0 : Int32) dX12_begins_49 (by decide) ?_
    refine rp_istore_n [(1, .int (0 : Int32)), (0, .ref (K.2.1 + a0))] dX12_begins_50 (by decide) rfl ?_
    refine rp_as ?_
    refine rp_join 69 (fun v7 => []) (fun _ => []) (fun v7 => ?_) (fun hX51_0 => ?_)
    · exact rp_pu (rp_vret rfl dX12_begins_69)
    refine rp_sub [1, 0] rfl (rp_it (fun (s5 : Int32) => [(0, .ref (K.2.1 + a0)), (1, .int s5)]) (fun N51 ih51 s5 => ?_) FU (0 : Int32))
    refine rp_iload_n 1 dX12_begins_51 rfl ?_
    refine rp_iconst (4 : Int32) dX12_begins_52 (by decide) ?_
    refine rp_icmp_ge 69 dX12_begins_53 (by decide) ?_ ?_
    · exact rp_sub [] rfl (rp_puR (hX51_0 ()))
    · refine rp_aload_n 0 dX12_begins_56 rfl ?_
      refine rp_getR fi_X12_116 h0 rfl dX12_begins_57 ?_
      refine rp_iload_n 1 dX12_begins_60 rfl ?_
      refine rp_iconst (0 : Int32) dX12_begins_61 (by decide) ?_
      refine rp_zast (tX12_25 h0) (by decide) dX12_begins_62 ?_
      refine rp_iinc (fun y6 => [(1, .int y6), (0, .ref (K.2.1 + a0))]) 1 dX12_begins_63 rfl (by rfl) (by decide) (fun y6 => rfl) (fun y6 => ?_)
      refine rp_goto 51 dX12_begins_66 (by decide) ?_
      exact rp_sub [1, 0] rfl (ih51 y6)
  refine rp_sub [1, 0] rfl (rp_it (fun (s2 : Int32) => [(0, .ref (K.2.1 + a0)), (1, .int s2)]) (fun N7 ih7 s2 => ?_) FU (0 : Int32))
  refine rp_iload_n 1 dX12_begins_7 rfl ?_
  refine rp_iconst (4 : Int32) dX12_begins_8 (by decide) ?_
  refine rp_icmp_ge 29 dX12_begins_9 (by decide) ?_ ?_
  · exact rp_sub [0] rfl (rp_puR (hX7_0 ()))
  · refine rp_aload_n 0 dX12_begins_12 rfl ?_
    refine rp_getR fi_X12_113 h0 rfl dX12_begins_13 ?_
    refine rp_bipush (19 : Int32) dX12_begins_16 (by decide) ?_
    refine rp_iload_n 1 dX12_begins_18 rfl ?_
    refine rp_iadd dX12_begins_19 ?_
    refine rp_bipush (-2 : Int32) dX12_begins_20 (by decide) ?_
    refine rp_iast (tX12_23 h0) dX12_begins_22 ?_
    refine rp_iinc (fun y3 => [(1, .int y3), (0, .ref (K.2.1 + a0))]) 1 dX12_begins_23 rfl (by rfl) (by decide) (fun y3 => rfl) (fun y3 => ?_)
    refine rp_goto 7 dX12_begins_26 (by decide) ?_
    exact rp_sub [1, 0] rfl (ih7 y3)
