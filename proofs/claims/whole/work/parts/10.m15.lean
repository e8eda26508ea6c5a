theorem dX12_count_0 : decode cX12_count 0 = .ok (.aload_n 0, 1) := by decide +kernel
theorem dX12_count_1 : decode cX12_count 1 = .ok (.iconst 0, 1) := by decide +kernel
theorem dX12_count_2 : decode cX12_count 2 = .ok (.putfield 1, 3) := by decide +kernel
theorem dX12_count_5 : decode cX12_count 5 = .ok (.iload_n 1, 1) := by decide +kernel
theorem dX12_count_6 : decode cX12_count 6 = .ok (.tableswitch 122 0 11 #[62, 62, 62, 69, 76, 82, 87, 92, 97, 104, 112, 117], 62) := by decide +kernel
theorem dX12_count_68 : decode cX12_count 68 = .ok (.aload_n 0, 1) := by decide +kernel
theorem dX12_count_69 : decode cX12_count 69 = .ok (.getfield 83, 3) := by decide +kernel
theorem dX12_count_72 : decode cX12_count 72 = .ok (.iload_n 1, 1) := by decide +kernel
theorem dX12_count_73 : decode cX12_count 73 = .ok (.iaload, 1) := by decide +kernel
theorem dX12_count_74 : decode cX12_count 74 = .ok (.ireturn, 1) := by decide +kernel
theorem dX12_count_75 : decode cX12_count 75 = .ok (.aload_n 0, 1) := by decide +kernel
theorem dX12_count_76 : decode cX12_count 76 = .ok (.getfield 113, 3) := by decide +kernel
theorem dX12_count_79 : decode cX12_count 79 = .ok (.iconst 0, 1) := by decide +kernel
theorem dX12_count_80 : decode cX12_count 80 = .ok (.iaload, 1) := by decide +kernel
theorem dX12_count_81 : decode cX12_count 81 = .ok (.ireturn, 1) := by decide +kernel
theorem dX12_count_82 : decode cX12_count 82 = .ok (.aload_n 0, 1) := by decide +kernel
theorem dX12_count_83 : decode cX12_count 83 = .ok (.iconst 0, 1) := by decide +kernel
theorem dX12_count_84 : decode cX12_count 84 = .ok (.invokevirtual 373, 3) := by decide +kernel
theorem dX12_count_87 : decode cX12_count 87 = .ok (.ireturn, 1) := by decide +kernel
theorem dX12_count_88 : decode cX12_count 88 = .ok (.aload_n 0, 1) := by decide +kernel
theorem dX12_count_89 : decode cX12_count 89 = .ok (.invokevirtual 419, 3) := by decide +kernel
theorem dX12_count_92 : decode cX12_count 92 = .ok (.ireturn, 1) := by decide +kernel
theorem dX12_count_93 : decode cX12_count 93 = .ok (.aload_n 0, 1) := by decide +kernel
theorem dX12_count_94 : decode cX12_count 94 = .ok (.invokevirtual 422, 3) := by decide +kernel
theorem dX12_count_97 : decode cX12_count 97 = .ok (.ireturn, 1) := by decide +kernel
theorem dX12_count_98 : decode cX12_count 98 = .ok (.aload_n 0, 1) := by decide +kernel
theorem dX12_count_99 : decode cX12_count 99 = .ok (.invokevirtual 425, 3) := by decide +kernel
theorem dX12_count_102 : decode cX12_count 102 = .ok (.ireturn, 1) := by decide +kernel
theorem dX12_count_103 : decode cX12_count 103 = .ok (.aload_n 0, 1) := by decide +kernel
theorem dX12_count_104 : decode cX12_count 104 = .ok (.getfield 104, 3) := by decide +kernel
theorem dX12_count_107 : decode cX12_count 107 = .ok (.iconst 0, 1) := by decide +kernel
theorem dX12_count_108 : decode cX12_count 108 = .ok (.iaload, 1) := by decide +kernel
theorem dX12_count_109 : decode cX12_count 109 = .ok (.ireturn, 1) := by decide +kernel
theorem dX12_count_110 : decode cX12_count 110 = .ok (.aload_n 0, 1) := by decide +kernel
theorem dX12_count_111 : decode cX12_count 111 = .ok (.getfield 113, 3) := by decide +kernel
theorem dX12_count_114 : decode cX12_count 114 = .ok (.bipush 23, 2) := by decide +kernel
theorem dX12_count_116 : decode cX12_count 116 = .ok (.iaload, 1) := by decide +kernel
theorem dX12_count_117 : decode cX12_count 117 = .ok (.ireturn, 1) := by decide +kernel
theorem dX12_count_118 : decode cX12_count 118 = .ok (.aload_n 0, 1) := by decide +kernel
theorem dX12_count_119 : decode cX12_count 119 = .ok (.getfield 279, 3) := by decide +kernel
theorem dX12_count_122 : decode cX12_count 122 = .ok (.ireturn, 1) := by decide +kernel
theorem dX12_count_123 : decode cX12_count 123 = .ok (.aload_n 0, 1) := by decide +kernel
theorem dX12_count_124 : decode cX12_count 124 = .ok (.getfield 11, 3) := by decide +kernel
theorem dX12_count_127 : decode cX12_count 127 = .ok (.ireturn, 1) := by decide +kernel
theorem dX12_count_128 : decode cX12_count 128 = .ok (.iconst (-1), 1) := by decide +kernel
theorem dX12_count_129 : decode cX12_count 129 = .ok (.ireturn, 1) := by decide +kernel
noncomputable def FX12_count (a0 : Nat) (p1 : Int32) : PP Int32 := bd (sI a0 0 (0 : Int32)) (fun (_ : Unit) => tsw p1 [(0 : Int32), (1 : Int32), (2 : Int32), (3 : Int32), (4 : Int32), (5 : Int32), (6 : Int32), (7 : Int32), (8 : Int32), (9 : Int32), (10 : Int32), (11 : Int32)] [bd (aI (rf a0 10) 80 p1) (fun x1 => pu x1), bd (aI (rf a0 10) 80 p1) (fun x2 => pu x2), bd (aI (rf a0 10) 80 p1) (fun x3 => pu x3), bd (aI (rf a0 23) 966 (0 : Int32)) (fun x4 => pu x4), bd (FX12_hanging a0 (0 : Int32)) (fun x5 => pu x5), bd (FX12_wetNow a0) (fun x6 => pu x6), bd (FX12_freeNow a0) (fun x7 => pu x7), bd (FX12_wantedNow a0) (fun x8 => pu x8), bd (aI (rf a0 20) 330 (0 : Int32)) (fun x9 => pu x9), bd (aI (rf a0 23) 966 (23 : Int32)) (fun x10 => pu x10), bd (gI a0 24) (fun x11 => pu x11), bd (gI a0 2) (fun x12 => pu x12)] (pu (-1 : Int32)))
set_option maxHeartbeats 4000000 in
set_option maxRecDepth 100000 in
theorem SX12_count {l : Launch} {K : KK} {n : Nat} {hn : 270 ≤ n} (a0 : Nat) (p1 : Int32) (h0 : ob a0 11) : CT l K n 3 mX12_count [.ref (K.2.1 + a0), .int p1] enI (FX12_count a0 p1) := by
  refine CT.of2 (lv2 := [(0, .ref (K.2.1 + a0)), (1, .int p1)]) (by decide) rfl hn (Nat.le_of_ble_eq_true rfl) rfl (rp_id ?_)
  unfold FX12_count
  refine rp_aload_n 0 dX12_count_0 rfl ?_
  refine rp_iconst (0 : Int32) dX12_count_1 (by decide) ?_
  refine rp_putI fi_X12_1 fp_X12_0 h0 rfl dX12_count_2 ?_
  refine rp_iload_n 1 dX12_count_5 rfl ?_
  refine rp_tsw [68, 68, 68, 75, 82, 88, 93, 98, 103, 110, 118, 123] 128 dX12_count_6 rfl (by decide +kernel) ?_ ?_
  · refine ⟨?_, ?_, ?_, ?_, ?_, ?_, ?_, ?_, ?_, ?_, ?_, ?_, trivial⟩
    · refine rp_aload_n 0 dX12_count_68 rfl ?_
      refine rp_getR fi_X12_83 h0 rfl dX12_count_69 ?_
      refine rp_iload_n 1 dX12_count_72 rfl ?_
      refine rp_iald (tX12_10 h0) dX12_count_73 (fun x1 => ?_)
      exact rp_pu (rp_iret rfl dX12_count_74)
    · refine rp_aload_n 0 dX12_count_68 rfl ?_
      refine rp_getR fi_X12_83 h0 rfl dX12_count_69 ?_
      refine rp_iload_n 1 dX12_count_72 rfl ?_
      refine rp_iald (tX12_10 h0) dX12_count_73 (fun x2 => ?_)
      exact rp_pu (rp_iret rfl dX12_count_74)
    · refine rp_aload_n 0 dX12_count_68 rfl ?_
      refine rp_getR fi_X12_83 h0 rfl dX12_count_69 ?_
      refine rp_iload_n 1 dX12_count_72 rfl ?_
      refine rp_iald (tX12_10 h0) dX12_count_73 (fun x3 => ?_)
      exact rp_pu (rp_iret rfl dX12_count_74)
    · refine rp_aload_n 0 dX12_count_75 rfl ?_
      refine rp_getR fi_X12_113 h0 rfl dX12_count_76 ?_
      refine rp_iconst (0 : Int32) dX12_count_79 (by decide) ?_
      refine rp_iald (tX12_23 h0) dX12_count_80 (fun x4 => ?_)
      exact rp_pu (rp_iret rfl dX12_count_81)
    · refine rp_aload_n 0 dX12_count_82 rfl ?_
      refine rp_iconst (0 : Int32) dX12_count_83 (by decide) ?_
      refine rp_callVi [.int (0 : Int32)] (SX12_hanging (hn := hn) a0 (0 : Int32) h0) cvX12_hanging (mw (i := 1722) (by decide +kernel)) (by omega) h0 (by decide) rfl rfl rfl (Nat.le_of_ble_eq_true rfl) dX12_count_84 (fun x5 => ?_)
      exact rp_pu (rp_iret rfl dX12_count_87)
    · refine rp_aload_n 0 dX12_count_88 rfl ?_
      refine rp_callVi [] (SX12_wetNow (hn := hn) a0 h0) cvX12_wetNow (mw (i := 1821) (by decide +kernel)) (by omega) h0 (by decide) rfl rfl rfl (Nat.le_of_ble_eq_true rfl) dX12_count_89 (fun x6 => ?_)
      exact rp_pu (rp_iret rfl dX12_count_92)
    · refine rp_aload_n 0 dX12_count_93 rfl ?_
      refine rp_callVi [] (SX12_freeNow (hn := hn) a0 h0) cvX12_freeNow (mw (i := 1825) (by decide +kernel)) (by omega) h0 (by decide) rfl rfl rfl (Nat.le_of_ble_eq_true rfl) dX12_count_94 (fun x7 => ?_)
      exact rp_pu (rp_iret rfl dX12_count_97)
    · refine rp_aload_n 0 dX12_count_98 rfl ?_
      refine rp_callVi [] (SX12_wantedNow (hn := hn) a0 h0) cvX12_wantedNow (mw (i := 1829) (by decide +kernel)) (by omega) h0 (by decide) rfl rfl rfl (Nat.le_of_ble_eq_true rfl) dX12_count_99 (fun x8 => ?_)
      exact rp_pu (rp_iret rfl dX12_count_102)
    · refine rp_aload_n 0 dX12_count_103 rfl ?_
      refine rp_getR fi_X12_104 h0 rfl dX12_count_104 ?_
      refine rp_iconst (0 : Int32) dX12_count_107 (by decide) ?_
      refine rp_iald (tX12_20 h0) dX12_count_108 (fun x9 => ?_)
      exact rp_pu (rp_iret rfl dX12_count_109)
    · refine rp_aload_n 0 dX12_count_110 rfl ?_
      refine rp_getR fi_X12_113 h0 rfl dX12_count_111 ?_
      refine rp_bipush (23 : Int32) dX12_count_114 (by decide) ?_
      refine rp_iald (tX12_23 h0) dX12_count_116 (fun x10 => ?_)
      exact rp_pu (rp_iret rfl dX12_count_117)
    · refine rp_aload_n 0 dX12_count_118 rfl ?_
      refine rp_getI fi_X12_279 h0 rfl dX12_count_119 (fun x11 => ?_)
      exact rp_pu (rp_iret rfl dX12_count_122)
    · refine rp_aload_n 0 dX12_count_123 rfl ?_
      refine rp_getI fi_X12_11 h0 rfl dX12_count_124 (fun x12 => ?_)
      exact rp_pu (rp_iret rfl dX12_count_127)
  · refine rp_iconst (-1 : Int32) dX12_count_128 (by decide) ?_
    exact rp_pu (rp_iret rfl dX12_count_129)

theorem dJ6_numberOfTrailingZeros_0f7a4_0 : decode cJ6_numberOfTrailingZeros_0f7a4 0 = .ok (.iload_n 0, 1) := by decide +kernel
theorem dJ6_numberOfTrailingZeros_0f7a4_1 : decode cJ6_numberOfTrailingZeros_0f7a4 1 = .ok (.iconst (-1), 1) := by decide +kernel
theorem dJ6_numberOfTrailingZeros_0f7a4_2 : decode cJ6_numberOfTrailingZeros_0f7a4 2 = .ok (.ixor, 1) := by decide +kernel
theorem dJ6_numberOfTrailingZeros_0f7a4_3 : decode cJ6_numberOfTrailingZeros_0f7a4 3 = .ok (.iload_n 0, 1) := by decide +kernel
theorem dJ6_numberOfTrailingZeros_0f7a4_4 : decode cJ6_numberOfTrailingZeros_0f7a4 4 = .ok (.iconst 1, 1) := by decide +kernel
theorem dJ6_numberOfTrailingZeros_0f7a4_5 : decode cJ6_numberOfTrailingZeros_0f7a4 5 = .ok (.isub, 1) := by decide +kernel
theorem dJ6_numberOfTrailingZeros_0f7a4_6 : decode cJ6_numberOfTrailingZeros_0f7a4 6 = .ok (.iand, 1) := by decide +kernel
theorem dJ6_numberOfTrailingZeros_0f7a4_7 : decode cJ6_numberOfTrailingZeros_0f7a4 7 = .ok (.istore_n 0, 1) := by decide +kernel
theorem dJ6_numberOfTrailingZeros_0f7a4_8 : decode cJ6_numberOfTrailingZeros_0f7a4 8 = .ok (.iload_n 0, 1) := by decide +kernel
theorem dJ6_numberOfTrailingZeros_0f7a4_9 : decode cJ6_numberOfTrailingZeros_0f7a4 9 = .ok (.ifCond .gt 8, 3) := by decide +kernel
theorem dJ6_numberOfTrailingZeros_0f7a4_12 : decode cJ6_numberOfTrailingZeros_0f7a4 12 = .ok (.iload_n 0, 1) := by decide +kernel
theorem dJ6_numberOfTrailingZeros_0f7a4_13 : decode cJ6_numberOfTrailingZeros_0f7a4 13 = .ok (.bipush 32, 2) := by decide +kernel
theorem dJ6_numberOfTrailingZeros_0f7a4_15 : decode cJ6_numberOfTrailingZeros_0f7a4 15 = .ok (.iand, 1) := by decide +kernel
theorem dJ6_numberOfTrailingZeros_0f7a4_16 : decode cJ6_numberOfTrailingZeros_0f7a4 16 = .ok (.ireturn, 1) := by decide +kernel
theorem dJ6_numberOfTrailingZeros_0f7a4_17 : decode cJ6_numberOfTrailingZeros_0f7a4 17 = .ok (.iconst 1, 1) := by decide +kernel
theorem dJ6_numberOfTrailingZeros_0f7a4_18 : decode cJ6_numberOfTrailingZeros_0f7a4 18 = .ok (.istore_n 1, 1) := by decide +kernel
theorem dJ6_numberOfTrailingZeros_0f7a4_19 : decode cJ6_numberOfTrailingZeros_0f7a4 19 = .ok (.iload_n 0, 1) := by decide +kernel
theorem dJ6_numberOfTrailingZeros_0f7a4_20 : decode cJ6_numberOfTrailingZeros_0f7a4 20 = .ok (.ldc_w 264, 3) := by decide +kernel
theorem dJ6_numberOfTrailingZeros_0f7a4_23 : decode cJ6_numberOfTrailingZeros_0f7a4 23 = .ok (.if_icmp .le 11, 3) := by decide +kernel
theorem dJ6_numberOfTrailingZeros_0f7a4_26 : decode cJ6_numberOfTrailingZeros_0f7a4 26 = .ok (.iinc 1 16, 3) := by decide +kernel
theorem dJ6_numberOfTrailingZeros_0f7a4_29 : decode cJ6_numberOfTrailingZeros_0f7a4 29 = .ok (.iload_n 0, 1) := by decide +kernel
theorem dJ6_numberOfTrailingZeros_0f7a4_30 : decode cJ6_numberOfTrailingZeros_0f7a4 30 = .ok (.bipush 16, 2) := by decide +kernel
theorem dJ6_numberOfTrailingZeros_0f7a4_32 : decode cJ6_numberOfTrailingZeros_0f7a4 32 = .ok (.iushr, 1) := by decide +kernel
theorem dJ6_numberOfTrailingZeros_0f7a4_33 : decode cJ6_numberOfTrailingZeros_0f7a4 33 = .ok (.istore_n 0, 1) := by decide +kernel
theorem dJ6_numberOfTrailingZeros_0f7a4_34 : decode cJ6_numberOfTrailingZeros_0f7a4 34 = .ok (.iload_n 0, 1) := by decide +kernel
theorem dJ6_numberOfTrailingZeros_0f7a4_35 : decode cJ6_numberOfTrailingZeros_0f7a4 35 = .ok (.sipush 256, 3) := by decide +kernel
theorem dJ6_numberOfTrailingZeros_0f7a4_38 : decode cJ6_numberOfTrailingZeros_0f7a4 38 = .ok (.if_icmp .le 11, 3) := by decide +kernel
theorem dJ6_numberOfTrailingZeros_0f7a4_41 : decode cJ6_numberOfTrailingZeros_0f7a4 41 = .ok (.iinc 1 8, 3) := by decide +kernel
theorem dJ6_numberOfTrailingZeros_0f7a4_44 : decode cJ6_numberOfTrailingZeros_0f7a4 44 = .ok (.iload_n 0, 1) := by decide +kernel
theorem dJ6_numberOfTrailingZeros_0f7a4_45 : decode cJ6_numberOfTrailingZeros_0f7a4 45 = .ok (.bipush 8, 2) := by decide +kernel
theorem dJ6_numberOfTrailingZeros_0f7a4_47 : decode cJ6_numberOfTrailingZeros_0f7a4 47 = .ok (.iushr, 1) := by decide +kernel
theorem dJ6_numberOfTrailingZeros_0f7a4_48 : decode cJ6_numberOfTrailingZeros_0f7a4 48 = .ok (.istore_n 0, 1) := by decide +kernel
theorem dJ6_numberOfTrailingZeros_0f7a4_49 : decode cJ6_numberOfTrailingZeros_0f7a4 49 = .ok (.iload_n 0, 1) := by decide +kernel
theorem dJ6_numberOfTrailingZeros_0f7a4_50 : decode cJ6_numberOfTrailingZeros_0f7a4 50 = .ok (.bipush 16, 2) := by decide +kernel
theorem dJ6_numberOfTrailingZeros_0f7a4_52 : decode cJ6_numberOfTrailingZeros_0f7a4 52 = .ok (.if_icmp .le 10, 3) := by decide +kernel
theorem dJ6_numberOfTrailingZeros_0f7a4_55 : decode cJ6_numberOfTrailingZeros_0f7a4 55 = .ok (.iinc 1 4, 3) := by decide +kernel
theorem dJ6_numberOfTrailingZeros_0f7a4_58 : decode cJ6_numberOfTrailingZeros_0f7a4 58 = .ok (.iload_n 0, 1) := by decide +kernel
theorem dJ6_numberOfTrailingZeros_0f7a4_59 : decode cJ6_numberOfTrailingZeros_0f7a4 59 = .ok (.iconst 4, 1) := by decide +kernel
theorem dJ6_numberOfTrailingZeros_0f7a4_60 : decode cJ6_numberOfTrailingZeros_0f7a4 60 = .ok (.iushr, 1) := by decide +kernel
theorem dJ6_numberOfTrailingZeros_0f7a4_61 : decode cJ6_numberOfTrailingZeros_0f7a4 61 = .ok (.istore_n 0, 1) := by decide +kernel
theorem dJ6_numberOfTrailingZeros_0f7a4_62 : decode cJ6_numberOfTrailingZeros_0f7a4 62 = .ok (.iload_n 0, 1) := by decide +kernel
theorem dJ6_numberOfTrailingZeros_0f7a4_63 : decode cJ6_numberOfTrailingZeros_0f7a4 63 = .ok (.iconst 4, 1) := by decide +kernel
theorem dJ6_numberOfTrailingZeros_0f7a4_64 : decode cJ6_numberOfTrailingZeros_0f7a4 64 = .ok (.if_icmp .le 10, 3) := by decide +kernel
theorem dJ6_numberOfTrailingZeros_0f7a4_67 : decode cJ6_numberOfTrailingZeros_0f7a4 67 = .ok (.iinc 1 2, 3) := by decide +kernel
theorem dJ6_numberOfTrailingZeros_0f7a4_70 : decode cJ6_numberOfTrailingZeros_0f7a4 70 = .ok (.iload_n 0, 1) := by decide +kernel
theorem dJ6_numberOfTrailingZeros_0f7a4_71 : decode cJ6_numberOfTrailingZeros_0f7a4 71 = .ok (.iconst 2, 1) := by decide +kernel
theorem dJ6_numberOfTrailingZeros_0f7a4_72 : decode cJ6_numberOfTrailingZeros_0f7a4 72 = .ok (.iushr, 1) := by decide +kernel
theorem dJ6_numberOfTrailingZeros_0f7a4_73 : decode cJ6_numberOfTrailingZeros_0f7a4 73 = .ok (.istore_n 0, 1) := by decide +kernel
theorem dJ6_numberOfTrailingZeros_0f7a4_74 : decode cJ6_numberOfTrailingZeros_0f7a4 74 = .ok (.iload_n 1, 1) := by decide +kernel
theorem dJ6_numberOfTrailingZeros_0f7a4_75 : decode cJ6_numberOfTrailingZeros_0f7a4 75 = .ok (.iload_n 0, 1) := by decide +kernel
theorem dJ6_numberOfTrailingZeros_0f7a4_76 : decode cJ6_numberOfTrailingZeros_0f7a4 76 = .ok (.iconst 1, 1) := by decide +kernel
theorem dJ6_numberOfTrailingZeros_0f7a4_77 : decode cJ6_numberOfTrailingZeros_0f7a4 77 = .ok (.iushr, 1) := by decide +kernel
theorem dJ6_numberOfTrailingZeros_0f7a4_78 : decode cJ6_numberOfTrailingZeros_0f7a4 78 = .ok (.iadd, 1) := by decide +kernel
theorem dJ6_numberOfTrailingZeros_0f7a4_79 : decode cJ6_numberOfTrailingZeros_0f7a4 79 = .ok (.ireturn, 1) := by decide +kernel
noncomputable def FJ6_numberOfTrailingZeros_0f7a4 (p1 : Int32) : PP Int32 := lt ((p1 ^^^ (-1 : Int32)) &&& (p1 - (1 : Int32))) (fun y1 => if 0 < y1 then bd (if y1 ≤ (65536 : Int32) then pu (y1, (1 : Int32)) else lt ((1 : Int32) + (16 : Int32)) (fun y2 => lt ((y1.toUInt32 >>> ((16 : Int32).toUInt32 &&& Int32.toUInt32 31)).toInt32) (fun y3 => pu (y3, y2))) : PP (Int32 × Int32)) (fun (v4 : Int32 × Int32) => bd (if v4.1 ≤ (256 : Int32) then pu (v4.1, v4.2) else lt (v4.2 + (8 : Int32)) (fun y5 => lt ((v4.1.toUInt32 >>> ((8 : Int32).toUInt32 &&& Int32.toUInt32 31)).toInt32) (fun y6 => pu (y6, y5))) : PP (Int32 × Int32)) (fun (v7 : Int32 × Int32) => bd (if v7.1 ≤ (16 : Int32) then pu (v7.1, v7.2) else lt (v7.2 + (4 : Int32)) (fun y8 => lt ((v7.1.toUInt32 >>> ((4 : Int32).toUInt32 &&& Int32.toUInt32 31)).toInt32) (fun y9 => pu (y9, y8))) : PP (Int32 × Int32)) (fun (v10 : Int32 × Int32) => bd (if v10.1 ≤ (4 : Int32) then pu (v10.1, v10.2) else lt (v10.2 + (2 : Int32)) (fun y11 => lt ((v10.1.toUInt32 >>> ((2 : Int32).toUInt32 &&& Int32.toUInt32 31)).toInt32) (fun y12 => pu (y12, y11))) : PP (Int32 × Int32)) (fun (v13 : Int32 × Int32) => pu (v13.2 + ((v13.1.toUInt32 >>> ((1 : Int32).toUInt32 &&& Int32.toUInt32 31)).toInt32)))))) else pu (y1 &&& (32 : Int32)))
set_option maxHeartbeats 4000000 in
set_option maxRecDepth 100000 in
theorem SJ6_numberOfTrailingZeros_0f7a4 {l : Launch} {K : KK} {n : Nat} {hn : 270 ≤ n} (p1 : Int32) : CT l K n 0 mJ6_numberOfTrailingZeros_0f7a4 [.int p1] enI (FJ6_numberOfTrailingZeros_0f7a4 p1) := by
  refine CT.of2 (lv2 := [(0, .int p1)]) (by decide) rfl hn (Nat.le_of_ble_eq_true rfl) rfl (rp_id ?_)
  unfold FJ6_numberOfTrailingZeros_0f7a4
  refine rp_iload_n 0 dJ6_numberOfTrailingZeros_0f7a4_0 rfl ?_
  refine rp_iconst (-1 : Int32) dJ6_numberOfTrailingZeros_0f7a4_1 (by decide) ?_
  refine rp_ixor dJ6_numberOfTrailingZeros_0f7a4_2 ?_
  refine rp_iload_n 0 dJ6_numberOfTrailingZeros_0f7a4_3 rfl ?_
  refine rp_iconst (1 : Int32) dJ6_numberOfTrailingZeros_0f7a4_4 (by decide) ?_
  refine rp_isub dJ6_numberOfTrailingZeros_0f7a4_5 ?_
  refine rp_iand dJ6_numberOfTrailingZeros_0f7a4_6 ?_
  refine rp_lti (fun y1 => ?_)
  refine rp_istore_n [(0, .int y1)] dJ6_numberOfTrailingZeros_0f7a4_7 (by decide) rfl ?_
  refine rp_iload_n 0 dJ6_numberOfTrailingZeros_0f7a4_8 rfl ?_
  refine rp_if_gt 17 dJ6_numberOfTrailingZeros_0f7a4_9 (by decide) ?_ ?_
  · refine rp_iconst (1 : Int32) dJ6_numberOfTrailingZeros_0f7a4_17 (by decide) ?_
    refine rp_istore_n [(1, .int (1 : Int32)), (0, .int y1)] dJ6_numberOfTrailingZeros_0f7a4_18 (by decide) rfl ?_
    refine rp_iload_n 1 dJ6_numberOfTrailingZeros_0f7a4_19 rfl ?_
    refine rp_ldcw (v := 65536) (mw (i := 674) (by decide +kernel)) dJ6_numberOfTrailingZeros_0f7a4_20 ?_
    refine rp_as ?_
    refine rp_join 34 (fun (v4 : Int32 × Int32) => [(0, .int v4.1), (1, .int v4.2)]) (fun v4 => []) (fun v4 => ?_) (fun hJ34 => ?_)
    · refine rp_iload_n 0 dJ6_numberOfTrailingZeros_0f7a4_34 rfl ?_
      refine rp_sipush (256 : Int32) dJ6_numberOfTrailingZeros_0f7a4_35 (by decide) ?_
      refine rp_as ?_
      refine rp_join 49 (fun (v7 : Int32 × Int32) => [(0, .int v7.1), (1, .int v7.2)]) (fun v7 => []) (fun v7 => ?_) (fun hJ49 => ?_)
      · refine rp_iload_n 0 dJ6_numberOfTrailingZeros_0f7a4_49 rfl ?_
        refine rp_bipush (16 : Int32) dJ6_numberOfTrailingZeros_0f7a4_50 (by decide) ?_
        refine rp_as ?_
        refine rp_join 62 (fun (v10 : Int32 × Int32) => [(0, .int v10.1), (1, .int v10.2)]) (fun v10 => []) (fun v10 => ?_) (fun hJ62 => ?_)
        · refine rp_iload_n 0 dJ6_numberOfTrailingZeros_0f7a4_62 rfl ?_
          refine rp_iconst (4 : Int32) dJ6_numberOfTrailingZeros_0f7a4_63 (by decide) ?_
          refine rp_as ?_
          refine rp_join 74 (fun (v13 : Int32 × Int32) => [(0, .int v13.1), (1, .int v13.2)]) (fun v13 => []) (fun v13 => ?_) (fun hJ74 => ?_)
          · refine rp_iload_n 1 dJ6_numberOfTrailingZeros_0f7a4_74 rfl ?_
            refine rp_iload_n 0 dJ6_numberOfTrailingZeros_0f7a4_75 rfl ?_
            refine rp_iconst (1 : Int32) dJ6_numberOfTrailingZeros_0f7a4_76 (by decide) ?_
            refine rp_iushr dJ6_numberOfTrailingZeros_0f7a4_77 ?_
            refine rp_iadd dJ6_numberOfTrailingZeros_0f7a4_78 ?_
            exact rp_pu (rp_iret rfl dJ6_numberOfTrailingZeros_0f7a4_79)
          refine rp_icmp_le 74 dJ6_numberOfTrailingZeros_0f7a4_64 (by decide) ?_ ?_
          · exact rp_sub [0, 1] rfl (rp_pu (hJ74 (v10.1, v10.2)))
          · refine rp_iinc (fun y11 => [(1, .int y11), (0, .int v10.1)]) 1 dJ6_numberOfTrailingZeros_0f7a4_67 rfl (by rfl) (by decide) (fun y11 => rfl) (fun y11 => ?_)
            refine rp_iload_n 1 dJ6_numberOfTrailingZeros_0f7a4_70 rfl ?_
            refine rp_iconst (2 : Int32) dJ6_numberOfTrailingZeros_0f7a4_71 (by decide) ?_
            refine rp_iushr dJ6_numberOfTrailingZeros_0f7a4_72 ?_
            refine rp_lti (fun y12 => ?_)
            refine rp_istore_n [(0, .int y12), (1, .int y11)] dJ6_numberOfTrailingZeros_0f7a4_73 (by decide) rfl ?_
            exact rp_sub [0, 1] rfl (rp_pu (hJ74 (y12, y11)))
        refine rp_icmp_le 62 dJ6_numberOfTrailingZeros_0f7a4_52 (by decide) ?_ ?_
        · exact rp_sub [0, 1] rfl (rp_pu (hJ62 (v7.1, v7.2)))
        · refine rp_iinc (fun y8 => [(1, .int y8), (0, .int v7.1)]) 1 dJ6_numberOfTrailingZeros_0f7a4_55 rfl (by rfl) (by decide) (fun y8 => rfl) (fun y8 => ?_)
          refine rp_iload_n 1 dJ6_numberOfTrailingZeros_0f7a4_58 rfl ?_
          refine rp_iconst (4 : Int32) dJ6_numberOfTrailingZeros_0f7a4_59 (by decide) ?_
          refine rp_iushr dJ6_numberOfTrailingZeros_0f7a4_60 ?_
          refine rp_lti (fun y9 => ?_)
          refine rp_istore_n [(0, .int y9), (1, .int y8)] dJ6_numberOfTrailingZeros_0f7a4_61 (by decide) rfl ?_
          exact rp_sub [0, 1] rfl (rp_pu (hJ62 (y9, y8)))
      refine rp_icmp_le 49 dJ6_numberOfTrailingZeros_0f7a4_38 (by decide) ?_ ?_
      · exact rp_sub [0, 1] rfl (rp_pu (hJ49 (v4.1, v4.2)))
      · refine rp_iinc (fun y5 => [(1, .int y5), (0, .int v4.1)]) 1 dJ6_numberOfTrailingZeros_0f7a4_41 rfl (by rfl) (by decide) (fun y5 => rfl) (fun y5 => ?_)
        refine rp_iload_n 1 dJ6_numberOfTrailingZeros_0f7a4_44 rfl ?_
        refine rp_bipush (8 : Int32) dJ6_numberOfTrailingZeros_0f7a4_45 (by decide) ?_
        refine rp_iushr dJ6_numberOfTrailingZeros_0f7a4_47 ?_
        refine rp_lti (fun y6 => ?_)
        refine rp_istore_n [(0, .int y6), (1, .int y5)] dJ6_numberOfTrailingZeros_0f7a4_48 (by decide) rfl ?_
        exact rp_sub [0, 1] rfl (rp_pu (hJ49 (y6, y5)))
    refine rp_icmp_le 34 dJ6_numberOfTrailingZeros_0f7a4_23 (by decide) ?_ ?_
    · exact rp_sub [1, 0] rfl (rp_pu (hJ34 (y1, (1 : Int32))))
    · refine rp_iinc (fun y2 => [(1, .int y2), (0, .int y1)]) 0 dJ6_numberOfTrailingZeros_0f7a4_26 rfl (by rfl) (by decide) (fun y2 => rfl) (fun y2 => ?_)
      refine rp_iload_n 1 dJ6_numberOfTrailingZeros_0f7a4_29 rfl ?_
      refine rp_bipush (16 : Int32) dJ6_numberOfTrailingZeros_0f7a4_30 (by decide) ?_
      refine rp_iushr dJ6_numberOfTrailingZeros_0f7a4_32 ?_
      refine rp_lti (fun y3 => ?_)
      refine rp_istore_n [(0, .int y3), (1, .int y2)] dJ6_numberOfTrailingZeros_0f7a4_33 (by decide) rfl ?_
      exact rp_sub [0, 1] rfl (rp_pu (hJ34 (y3, y2)))
  · refine rp_iload_n 0 dJ6_numberOfTrailingZeros_0f7a4_12 rfl ?_
    refine rp_bipush (32 : Int32) dJ6_numberOfTrailingZeros_0f7a4_13 (by decide) ?_
    refine rp_iand dJ6_numberOfTrailingZeros_0f7a4_15 ?_
    exact rp_pu (rp_iret rfl dJ6_numberOfTrailingZeros_0f7a4_16)

theorem dX11_last_0 : decode cX11_last 0 = .ok (.aload_n 0, 1) := by decide +kernel
theorem dX11_last_1 : decode cX11_last 1 = .ok (.getfield 51, 3) := by decide +kernel
theorem dX11_last_4 : decode cX11_last 4 = .ok (.aload_n 0, 1) := by decide +kernel
theorem dX11_last_5 : decode cX11_last 5 = .ok (.getfield 47, 3) := by decide +kernel
theorem dX11_last_8 : decode cX11_last 8 = .ok (.invokevirtual 260, 3) := by decide +kernel
theorem dX11_last_11 : decode cX11_last 11 = .ok (.aload_n 0, 1) := by decide +kernel
theorem dX11_last_12 : decode cX11_last 12 = .ok (.getfield 51, 3) := by decide +kernel
theorem dX11_last_15 : decode cX11_last 15 = .ok (.invokevirtual 195, 3) := by decide +kernel
theorem dX11_last_18 : decode cX11_last 18 = .ok (.aload_n 0, 1) := by decide +kernel
theorem dX11_last_19 : decode cX11_last 19 = .ok (.getfield 51, 3) := by decide +kernel
theorem dX11_last_22 : decode cX11_last 22 = .ok (.invokevirtual 198, 3) := by decide +kernel
theorem dX11_last_25 : decode cX11_last 25 = .ok (.iconst (-1), 1) := by decide +kernel
theorem dX11_last_26 : decode cX11_last 26 = .ok (.ixor, 1) := by decide +kernel
theorem dX11_last_27 : decode cX11_last 27 = .ok (.iand, 1) := by decide +kernel
theorem dX11_last_28 : decode cX11_last 28 = .ok (.istore_n 1, 1) := by decide +kernel
theorem dX11_last_29 : decode cX11_last 29 = .ok (.iconst 0, 1) := by decide +kernel
theorem dX11_last_30 : decode cX11_last 30 = .ok (.istore_n 2, 1) := by decide +kernel
theorem dX11_last_31 : decode cX11_last 31 = .ok (.iload_n 2, 1) := by decide +kernel
theorem dX11_last_32 : decode cX11_last 32 = .ok (.bipush 40, 2) := by decide +kernel
theorem dX11_last_34 : decode cX11_last 34 = .ok (.if_icmp .ge 24, 3) := by decide +kernel
theorem dX11_last_37 : decode cX11_last 37 = .ok (.aload_n 0, 1) := by decide +kernel
theorem dX11_last_38 : decode cX11_last 38 = .ok (.getfield 51, 3) := by decide +kernel
theorem dX11_last_41 : decode cX11_last 41 = .ok (.iconst 1, 1) := by decide +kernel
theorem dX11_last_42 : decode cX11_last 42 = .ok (.invokevirtual 231, 3) := by decide +kernel
theorem dX11_last_45 : decode cX11_last 45 = .ok (.istore_n 3, 1) := by decide +kernel
theorem dX11_last_46 : decode cX11_last 46 = .ok (.iload_n 3, 1) := by decide +kernel
theorem dX11_last_47 : decode cX11_last 47 = .ok (.ifCond .eq 5, 3) := by decide +kernel
theorem dX11_last_50 : decode cX11_last 50 = .ok (.iload_n 3, 1) := by decide +kernel
theorem dX11_last_51 : decode cX11_last 51 = .ok (.istore_n 1, 1) := by decide +kernel
theorem dX11_last_52 : decode cX11_last 52 = .ok (.iinc 2 1, 3) := by decide +kernel
theorem dX11_last_55 : decode cX11_last 55 = .ok (.goto (-24), 3) := by decide +kernel
theorem dX11_last_58 : decode cX11_last 58 = .ok (.iload_n 1, 1) := by decide +kernel
theorem dX11_last_59 : decode cX11_last 59 = .ok (.ifCond .ne 7, 3) := by decide +kernel
theorem dX11_last_62 : decode cX11_last 62 = .ok (.iconst (-1), 1) := by decide +kernel
theorem dX11_last_63 : decode cX11_last 63 = .ok (.goto 7, 3) := by decide +kernel
theorem dX11_last_66 : decode cX11_last 66 = .ok (.iload_n 1, 1) := by decide +kernel
theorem dX11_last_67 : decode cX11_last 67 = .ok (.invokestatic 262, 3) := by decide +kernel
theorem dX11_last_70 : decode cX11_last 70 = .ok (.ireturn, 1) := by decide +kernel
noncomputable def FX11_last (a0 : Nat) : PP Int32 := bd (FX4_copyFrom (rf a0 6) (rf a0 5)) (fun (_ : Unit) => bd (FX4_hanging (rf a0 6)) (fun x2 => bd (FX4_wetOnes (rf a0 6)) (fun x3 => lt (x2 &&& (x3 ^^^ (-1 : Int32))) (fun y4 => bd (it (fun (s5 : Int32 × Int32) => (if (40 : Int32) ≤ s5.2 then pu (Sum.inr s5.1) else bd (FX4_passHour (rf a0 6) (1 : Int32)) (fun x6 => bd (if x6 = 0 then pu s5.1 else pu x6 : PP (Int32)) (fun (v7 : Int32) => lt (s5.2 + (1 : Int32)) (fun y8 => pu (Sum.inl (v7, y8))))) : PP ((Int32 × Int32) ⊕ (Int32)))) FU (y4, (0 : Int32))) (fun (v9 : Int32) => bd (if v9 = 0 then pu (-1 : Int32) else bd (FJ6_numberOfTrailingZeros_0f7a4 v9) (fun x10 => pu x10) : PP (Int32)) (fun (v11 : Int32) => pu v11))))))
set_option maxHeartbeats 4000000 in
set_option maxRecDepth 100000 in
theorem SX11_last {l : Launch} {K : KK} {n : Nat} {hn : 270 ≤ n} (a0 : Nat) (h0 : ob a0 10) : CT l K n 3 mX11_last [.ref (K.2.1 + a0)] enI (FX11_last a0) := by
  refine CT.of2 (lv2 := [(0, .ref (K.2.1 + a0))]) (by decide) rfl hn (Nat.le_of_ble_eq_true rfl) rfl (rp_id ?_)
  unfold FX11_last
  refine rp_aload_n 0 dX11_last_0 rfl ?_
  refine rp_getR fi_X11_51 h0 rfl dX11_last_1 ?_
  refine rp_aload_n 0 dX11_last_4 rfl ?_
  refine rp_getR fi_X11_47 h0 rfl dX11_last_5 ?_
  refine rp_callVv [.ref (K.2.1 + (rf a0 5))] (SX4_copyFrom (hn := hn) (rf a0 6) (rf a0 5) (tX11_6 h0) (tX11_5 h0)) cvX4_copyFrom (mw (i := 988) (by decide +kernel)) (by omega) (tX11_6 h0) (by decide) rfl rfl rfl (Nat.le_of_ble_eq_true rfl) dX11_last_8 (fun x1 => ?_)
  refine rp_aload_n 0 dX11_last_11 rfl ?_
  refine rp_getR fi_X11_51 h0 rfl dX11_last_12 ?_
  refine rp_callVi [] (SX4_hanging (hn := hn) (rf a0 6) (tX11_6 h0)) cvX4_hanging (mw (i := 831) (by decide +kernel)) (by omega) (tX11_6 h0) (by decide) rfl rfl rfl (Nat.le_of_ble_eq_true rfl) dX11_last_15 (fun x2 => ?_)
  refine rp_aload_n 0 dX11_last_18 rfl ?_
  refine rp_getR fi_X11_51 h0 rfl dX11_last_19 ?_
  refine rp_callVi [] (SX4_wetOnes (hn := hn) (rf a0 6) (tX11_6 h0)) cvX4_wetOnes (mw (i := 835) (by decide +kernel)) (by omega) (tX11_6 h0) (by decide) rfl rfl rfl (Nat.le_of_ble_eq_true rfl) dX11_last_22 (fun x3 => ?_)
  refine rp_iconst (-1 : Int32) dX11_last_25 (by decide) ?_
  refine rp_ixor dX11_last_26 ?_
  refine rp_iand dX11_last_27 ?_
  refine rp_lti (fun y4 => ?_)
  refine rp_istore_n [(1, .int y4), (0, .ref (K.2.1 + a0))] dX11_last_28 (by decide) rfl ?_
  refine rp_iconst (0 : Int32) dX11_last_29 (by decide) ?_
  refine rp_istore_n [(2, .int (0 : Int32)), (1, .int y4), (0, .ref (K.2.1 + a0))] dX11_last_30 (by decide) rfl ?_
  refine rp_as ?_
  refine rp_join 58 (fun v9 => [(1, .int v9)]) (fun _ => []) (fun v9 => ?_) (fun hX31_0 => ?_)
  · refine rp_iload_n 0 dX11_last_58 rfl ?_
    refine rp_as ?_
    refine rp_join 70 (fun (v11 : Int32) => []) (fun v11 => [.int v11]) (fun v11 => ?_) (fun hJ70 => ?_)
    · exact rp_pu (rp_iret rfl dX11_last_70)
    refine rp_if_ne 66 dX11_last_59 (by decide) ?_ ?_
    · refine rp_iload_n 0 dX11_last_66 rfl ?_
      refine rp_callSi [.int v9] (SJ6_numberOfTrailingZeros_0f7a4 (hn := hn) v9) csJ6_numberOfTrailingZeros_0f7a4 (mw (i := 1001) (by decide +kernel)) (by omega) rfl rfl (Nat.le_of_ble_eq_true rfl) dX11_last_67 (fun x10 => ?_)
      exact rp_sub [] rfl (rp_pu (hJ70 x10))
    · refine rp_iconst (-1 : Int32) dX11_last_62 (by decide) ?_
      refine rp_goto 70 dX11_last_63 (by decide) ?_
      exact rp_sub [] rfl (rp_pu (hJ70 (-1 : Int32)))
  refine rp_sub [2, 1, 0] rfl (rp_it (fun (s5 : Int32 × Int32) => [(0, .ref (K.2.1 + a0)), (1, .int s5.1), (2, .int s5.2)]) (fun N31 ih31 s5 => ?_) FU (y4, (0 : Int32)))
  refine rp_iload_n 2 dX11_last_31 rfl ?_
  refine rp_bipush (40 : Int32) dX11_last_32 (by decide) ?_
  refine rp_icmp_ge 58 dX11_last_34 (by decide) ?_ ?_
  · exact rp_sub [1] rfl (rp_puR (hX31_0 s5.1))
  · refine rp_aload_n 0 dX11_last_37 rfl ?_
    refine rp_getR fi_X11_51 h0 rfl dX11_last_38 ?_
    refine rp_iconst (1 : Int32) dX11_last_41 (by decide) ?_
    refine rp_callVi [.int (1 : Int32)] (SX4_passHour (hn := hn) (rf a0 6) (1 : Int32) (tX11_6 h0)) cvX4_passHour (mw (i := 901) (by decide +kernel)) (by omega) (tX11_6 h0) (by decide) rfl rfl rfl (Nat.le_of_ble_eq_true rfl) dX11_last_42 (fun x6 => ?_)
    refine rp_istore_n [(3, .int x6), (0, .ref (K.2.1 + a0)), (1, .int s5.1), (2, .int s5.2)] dX11_last_45 (by decide) rfl ?_
    refine rp_iload_n 0 dX11_last_46 rfl ?_
    refine rp_as ?_
    refine rp_join 52 (fun (v7 : Int32) => [(0, .ref (K.2.1 + a0)), (1, .int v7), (2, .int s5.2)]) (fun v7 => []) (fun v7 => ?_) (fun hJ52 => ?_)
    · refine rp_iinc (fun y8 => [(2, .int y8), (0, .ref (K.2.1 + a0)), (1, .int v7)]) 2 dX11_last_52 rfl (by rfl) (by decide) (fun y8 => rfl) (fun y8 => ?_)
      refine rp_goto 31 dX11_last_55 (by decide) ?_
      exact rp_sub [1, 2, 0] rfl (ih31 (v7, y8))
    refine rp_if_eq 52 dX11_last_47 (by decide) ?_ ?_
    · exact rp_sub [1, 2, 3] rfl (rp_pu (hJ52 s5.1))
    · refine rp_iload_n 0 dX11_last_50 rfl ?_
      refine rp_istore_n [(1, .int x6), (3, .int x6), (0, .ref (K.2.1 + a0)), (2, .int s5.2)] dX11_last_51 (by decide) rfl ?_
      exact rp_sub [2, 0, 3] rfl (rp_pu (hJ52 x6))

theorem dJ6_bitCount_0f7a4_0 : decode cJ6_bitCount_0f7a4 0 = .ok (.iload_n 0, 1) := by decide +kernel
theorem dJ6_bitCount_0f7a4_1 : decode cJ6_bitCount_0f7a4 1 = .ok (.iload_n 0, 1) := by decide +kernel
theorem dJ6_bitCount_0f7a4_2 : decode cJ6_bitCount_0f7a4 2 = .ok (.iconst 1, 1) := by decide +kernel
theorem dJ6_bitCount_0f7a4_3 : decode cJ6_bitCount_0f7a4 3 = .ok (.iushr, 1) := by decide +kernel
theorem dJ6_bitCount_0f7a4_4 : decode cJ6_bitCount_0f7a4 4 = .ok (.ldc_w 265, 3) := by decide +kernel
theorem dJ6_bitCount_0f7a4_7 : decode cJ6_bitCount_0f7a4 7 = .ok (.iand, 1) := by decide +kernel
theorem dJ6_bitCount_0f7a4_8 : decode cJ6_bitCount_0f7a4 8 = .ok (.isub, 1) := by decide +kernel
theorem dJ6_bitCount_0f7a4_9 : decode cJ6_bitCount_0f7a4 9 = .ok (.istore_n 0, 1) := by decide +kernel
theorem dJ6_bitCount_0f7a4_10 : decode cJ6_bitCount_0f7a4 10 = .ok (.iload_n 0, 1) := by decide +kernel
theorem dJ6_bitCount_0f7a4_11 : decode cJ6_bitCount_0f7a4 11 = .ok (.ldc_w 266, 3) := by decide +kernel
theorem dJ6_bitCount_0f7a4_14 : decode cJ6_bitCount_0f7a4 14 = .ok (.iand, 1) := by decide +kernel
theorem dJ6_bitCount_0f7a4_15 : decode cJ6_bitCount_0f7a4 15 = .ok (.iload_n 0, 1) := by decide +kernel
theorem dJ6_bitCount_0f7a4_16 : decode cJ6_bitCount_0f7a4 16 = .ok (.iconst 2, 1) := by decide +kernel
theorem dJ6_bitCount_0f7a4_17 : decode cJ6_bitCount_0f7a4 17 = .ok (.iushr, 1) := by decide +kernel
theorem dJ6_bitCount_0f7a4_18 : decode cJ6_bitCount_0f7a4 18 = .ok (.ldc_w 266, 3) := by decide +kernel
theorem dJ6_bitCount_0f7a4_21 : decode cJ6_bitCount_0f7a4 21 = .ok (.iand, 1) := by decide +kernel
theorem dJ6_bitCount_0f7a4_22 : decode cJ6_bitCount_0f7a4 22 = .ok (.iadd, 1) := by decide +kernel
theorem dJ6_bitCount_0f7a4_23 : decode cJ6_bitCount_0f7a4 23 = .ok (.istore_n 0, 1) := by decide +kernel
theorem dJ6_bitCount_0f7a4_24 : decode cJ6_bitCount_0f7a4 24 = .ok (.iload_n 0, 1) := by decide +kernel
theorem dJ6_bitCount_0f7a4_25 : decode cJ6_bitCount_0f7a4 25 = .ok (.iload_n 0, 1) := by decide +kernel
theorem dJ6_bitCount_0f7a4_26 : decode cJ6_bitCount_0f7a4 26 = .ok (.iconst 4, 1) := by decide +kernel
theorem dJ6_bitCount_0f7a4_27 : decode cJ6_bitCount_0f7a4 27 = .ok (.iushr, 1) := by decide +kernel
theorem dJ6_bitCount_0f7a4_28 : decode cJ6_bitCount_0f7a4 28 = .ok (.iadd, 1) := by decide +kernel
theorem dJ6_bitCount_0f7a4_29 : decode cJ6_bitCount_0f7a4 29 = .ok (.ldc_w 267, 3) := by decide +kernel
theorem dJ6_bitCount_0f7a4_32 : decode cJ6_bitCount_0f7a4 32 = .ok (.iand, 1) := by decide +kernel
theorem dJ6_bitCount_0f7a4_33 : decode cJ6_bitCount_0f7a4 33 = .ok (.istore_n 0, 1) := by decide +kernel
theorem dJ6_bitCount_0f7a4_34 : decode cJ6_bitCount_0f7a4 34 = .ok (.iload_n 0, 1) := by decide +kernel
theorem dJ6_bitCount_0f7a4_35 : decode cJ6_bitCount_0f7a4 35 = .ok (.iload_n 0, 1) := by decide +kernel
theorem dJ6_bitCount_0f7a4_36 : decode cJ6_bitCount_0f7a4 36 = .ok (.bipush 8, 2) := by decide +kernel
theorem dJ6_bitCount_0f7a4_38 : decode cJ6_bitCount_0f7a4 38 = .ok (.iushr, 1) := by decide +kernel
theorem dJ6_bitCount_0f7a4_39 : decode cJ6_bitCount_0f7a4 39 = .ok (.iadd, 1) := by decide +kernel
theorem dJ6_bitCount_0f7a4_40 : decode cJ6_bitCount_0f7a4 40 = .ok (.istore_n 0, 1) := by decide +kernel
theorem dJ6_bitCount_0f7a4_41 : decode cJ6_bitCount_0f7a4 41 = .ok (.iload_n 0, 1) := by decide +kernel
theorem dJ6_bitCount_0f7a4_42 : decode cJ6_bitCount_0f7a4 42 = .ok (.iload_n 0, 1) := by decide +kernel
theorem dJ6_bitCount_0f7a4_43 : decode cJ6_bitCount_0f7a4 43 = .ok (.bipush 16, 2) := by decide +kernel
theorem dJ6_bitCount_0f7a4_45 : decode cJ6_bitCount_0f7a4 45 = .ok (.iushr, 1) := by decide +kernel
theorem dJ6_bitCount_0f7a4_46 : decode cJ6_bitCount_0f7a4 46 = .ok (.iadd, 1) := by decide +kernel
theorem dJ6_bitCount_0f7a4_47 : decode cJ6_bitCount_0f7a4 47 = .ok (.istore_n 0, 1) := by decide +kernel
theorem dJ6_bitCount_0f7a4_48 : decode cJ6_bitCount_0f7a4 48 = .ok (.iload_n 0, 1) := by decide +kernel
theorem dJ6_bitCount_0f7a4_49 : decode cJ6_bitCount_0f7a4 49 = .ok (.bipush 63, 2) := by decide +kernel
theorem dJ6_bitCount_0f7a4_51 : decode cJ6_bitCount_0f7a4 51 = .ok (.iand, 1) := by decide +kernel
theorem dJ6_bitCount_0f7a4_52 : decode cJ6_bitCount_0f7a4 52 = .ok (.ireturn, 1) := by decide +kernel
noncomputable def FJ6_bitCount_0f7a4 (p1 : Int32) : PP Int32 := lt (p1 - (((p1.toUInt32 >>> ((1 : Int32).toUInt32 &&& Int32.toUInt32 31)).toInt32) &&& (1431655765 : Int32))) (fun y1 => lt ((y1 &&& (858993459 : Int32)) + (((y1.toUInt32 >>> ((2 : Int32).toUInt32 &&& Int32.toUInt32 31)).toInt32) &&& (858993459 : Int32))) (fun y2 => lt ((y2 + ((y2.toUInt32 >>> ((4 : Int32).toUInt32 &&& Int32.toUInt32 31)).toInt32)) &&& (252645135 : Int32)) (fun y3 => lt (y3 + ((y3.toUInt32 >>> ((8 : Int32).toUInt32 &&& Int32.toUInt32 31)).toInt32)) (fun y4 => lt (y4 + ((y4.toUInt32 >>> ((16 : Int32).toUInt32 &&& Int32.toUInt32 31)).toInt32)) (fun y5 => pu (y5 &&& (63 : Int32)))))))
set_option maxHeartbeats 4000000 in
set_option maxRecDepth 100000 in
theorem SJ6_bitCount_0f7a4 {l : Launch} {K : KK} {n : Nat} {hn : 270 ≤ n} (p1 : Int32) : CT l K n 0 mJ6_bitCount_0f7a4 [.int p1] enI (FJ6_bitCount_0f7a4 p1) := by
  refine CT.of2 (lv2 := [(0, .int p1)]) (by decide) rfl hn (Nat.le_of_ble_eq_true rfl) rfl (rp_id ?_)
  unfold FJ6_bitCount_0f7a4
  refine rp_iload_n 0 dJ6_bitCount_0f7a4_0 rfl ?_
  refine rp_iload_n 0 dJ6_bitCount_0f7a4_1 rfl ?_
  refine rp_iconst (1 : Int32) dJ6_bitCount_0f7a4_2 (by decide) ?_
  refine rp_iushr dJ6_bitCount_0f7a4_3 ?_
  refine rp_ldcw (v := 1431655765) (mw (i := 981) (by decide +kernel)) dJ6_bitCount_0f7a4_4 ?_
  refine rp_iand dJ6_bitCount_0f7a4_7 ?_
  refine rp_isub dJ6_bitCount_0f7a4_8 ?_
  refine rp_lti (fun y1 => ?_)
  refine rp_istore_n [(0, .int y1)] dJ6_bitCount_0f7a4_9 (by decide) rfl ?_
  refine rp_iload_n 0 dJ6_bitCount_0f7a4_10 rfl ?_
  refine rp_ldcw (v := 858993459) (mw (i := 982) (by decide +kernel)) dJ6_bitCount_0f7a4_11 ?_
  refine rp_iand dJ6_bitCount_0f7a4_14 ?_
  refine rp_iload_n 0 dJ6_bitCount_0f7a4_15 rfl ?_
  refine rp_iconst (2 : Int32) dJ6_bitCount_0f7a4_16 (by decide) ?_
  refine rp_iushr dJ6_bitCount_0f7a4_17 ?_
  refine rp_ldcw (v := 858993459) (mw (i := 982) (by decide +kernel)) dJ6_bitCount_0f7a4_18 ?_
  refine rp_iand dJ6_bitCount_0f7a4_21 ?_
  refine rp_iadd dJ6_bitCount_0f7a4_22 ?_
  refine rp_lti (fun y2 => ?_)
  refine rp_istore_n [(0, .int y2)] dJ6_bitCount_0f7a4_23 (by decide) rfl ?_
  refine rp_iload_n 0 dJ6_bitCount_0f7a4_24 rfl ?_
  refine rp_iload_n 0 dJ6_bitCount_0f7a4_25 rfl ?_
  refine rp_iconst (4 : Int32) dJ6_bitCount_0f7a4_26 (by decide) ?_
  refine rp_iushr dJ6_bitCount_0f7a4_27 ?_
  refine rp_iadd dJ6_bitCount_0f7a4_28 ?_
  refine rp_ldcw (v := 252645135) (mw (i := 983) (by decide +kernel)) dJ6_bitCount_0f7a4_29 ?_
  refine rp_iand dJ6_bitCount_0f7a4_32 ?_
  refine rp_lti (fun y3 => ?_)
  refine rp_istore_n [(0, .int y3)] dJ6_bitCount_0f7a4_33 (by decide) rfl ?_
  refine rp_iload_n 0 dJ6_bitCount_0f7a4_34 rfl ?_
  refine rp_iload_n 0 dJ6_bitCount_0f7a4_35 rfl ?_
  refine rp_bipush (8 : Int32) dJ6_bitCount_0f7a4_36 (by decide) ?_
  refine rp_iushr dJ6_bitCount_0f7a4_38 ?_
  refine rp_iadd dJ6_bitCount_0f7a4_39 ?_
  refine rp_lti (fun y4 => ?_)
  refine rp_istore_n [(0, .int y4)] dJ6_bitCount_0f7a4_40 (by decide) rfl ?_
  refine rp_iload_n 0 dJ6_bitCount_0f7a4_41 rfl ?_
  refine rp_iload_n 0 dJ6_bitCount_0f7a4_42 rfl ?_
  refine rp_bipush (16 : Int32) dJ6_bitCount_0f7a4_43 (by decide) ?_
  refine rp_iushr dJ6_bitCount_0f7a4_45 ?_
  refine rp_iadd dJ6_bitCount_0f7a4_46 ?_
  refine rp_lti (fun y5 => ?_)
  refine rp_istore_n [(0, .int y5)] dJ6_bitCount_0f7a4_47 (by decide) rfl ?_
  refine rp_iload_n 0 dJ6_bitCount_0f7a4_48 rfl ?_
  refine rp_bipush (63 : Int32) dJ6_bitCount_0f7a4_49 (by decide) ?_
  refine rp_iand dJ6_bitCount_0f7a4_51 ?_
  exact rp_pu (rp_iret rfl dJ6_bitCount_0f7a4_52)

theorem dX11_judged_0 : decode cX11_judged 0 = .ok (.iload_n 1, 1) := by decide +kernel
theorem dX11_judged_1 : decode cX11_judged 1 = .ok (.ifCond .lt 8, 3) := by decide +kernel
theorem dX11_judged_4 : decode cX11_judged 4 = .ok (.iload_n 1, 1) := by decide +kernel
theorem dX11_judged_5 : decode cX11_judged 5 = .ok (.iconst 2, 1) := by decide +kernel
theorem dX11_judged_6 : decode cX11_judged 6 = .ok (.if_icmp .le 6, 3) := by decide +kernel
theorem dX11_judged_9 : decode cX11_judged 9 = .ok (.bipush (-2), 2) := by decide +kernel
theorem dX11_judged_11 : decode cX11_judged 11 = .ok (.ireturn, 1) := by decide +kernel
theorem dX11_judged_12 : decode cX11_judged 12 = .ok (.aload_n 0, 1) := by decide +kernel
theorem dX11_judged_13 : decode cX11_judged 13 = .ok (.getfield 35, 3) := by decide +kernel
theorem dX11_judged_16 : decode cX11_judged 16 = .ok (.aload_n 0, 1) := by decide +kernel
theorem dX11_judged_17 : decode cX11_judged 17 = .ok (.getfield 51, 3) := by decide +kernel
theorem dX11_judged_20 : decode cX11_judged 20 = .ok (.invokevirtual 246, 3) := by decide +kernel
theorem dX11_judged_23 : decode cX11_judged 23 = .ok (.iload_n 1, 1) := by decide +kernel
theorem dX11_judged_24 : decode cX11_judged 24 = .ok (.ifCond .ne 11, 3) := by decide +kernel
theorem dX11_judged_27 : decode cX11_judged 27 = .ok (.aload_n 0, 1) := by decide +kernel
theorem dX11_judged_28 : decode cX11_judged 28 = .ok (.getfield 35, 3) := by decide +kernel
theorem dX11_judged_31 : decode cX11_judged 31 = .ok (.getfield 249, 3) := by decide +kernel
theorem dX11_judged_34 : decode cX11_judged 34 = .ok (.ireturn, 1) := by decide +kernel
theorem dX11_judged_35 : decode cX11_judged 35 = .ok (.iload_n 1, 1) := by decide +kernel
theorem dX11_judged_36 : decode cX11_judged 36 = .ok (.iconst 1, 1) := by decide +kernel
theorem dX11_judged_37 : decode cX11_judged 37 = .ok (.if_icmp .ne 13, 3) := by decide +kernel
theorem dX11_judged_40 : decode cX11_judged 40 = .ok (.aload_n 0, 1) := by decide +kernel
theorem dX11_judged_41 : decode cX11_judged 41 = .ok (.getfield 35, 3) := by decide +kernel
theorem dX11_judged_44 : decode cX11_judged 44 = .ok (.getfield 252, 3) := by decide +kernel
theorem dX11_judged_47 : decode cX11_judged 47 = .ok (.goto 23, 3) := by decide +kernel
theorem dX11_judged_50 : decode cX11_judged 50 = .ok (.aload_n 0, 1) := by decide +kernel
theorem dX11_judged_51 : decode cX11_judged 51 = .ok (.getfield 51, 3) := by decide +kernel
theorem dX11_judged_54 : decode cX11_judged 54 = .ok (.invokevirtual 195, 3) := by decide +kernel
theorem dX11_judged_57 : decode cX11_judged 57 = .ok (.aload_n 0, 1) := by decide +kernel
theorem dX11_judged_58 : decode cX11_judged 58 = .ok (.getfield 51, 3) := by decide +kernel
theorem dX11_judged_61 : decode cX11_judged 61 = .ok (.invokevirtual 198, 3) := by decide +kernel
theorem dX11_judged_64 : decode cX11_judged 64 = .ok (.iconst (-1), 1) := by decide +kernel
theorem dX11_judged_65 : decode cX11_judged 65 = .ok (.ixor, 1) := by decide +kernel
theorem dX11_judged_66 : decode cX11_judged 66 = .ok (.iand, 1) := by decide +kernel
theorem dX11_judged_67 : decode cX11_judged 67 = .ok (.invokestatic 255, 3) := by decide +kernel
theorem dX11_judged_70 : decode cX11_judged 70 = .ok (.ireturn, 1) := by decide +kernel
noncomputable def FX11_judged (a0 : Nat) (p1 : Int32) : PP Int32 := if p1 < 0 then pu (-2 : Int32) else if p1 ≤ (2 : Int32) then bd (FX3_judge (rf a0 3) (rf a0 6)) (fun (_ : Unit) => if p1 = 0 then bd (gI (rf a0 3) 5) (fun x7 => pu x7) else bd (if p1 = (1 : Int32) then bd (gI (rf a0 3) 6) (fun x5 => pu x5) else bd (FX4_hanging (rf a0 6)) (fun x2 => bd (FX4_wetOnes (rf a0 6)) (fun x3 => bd (FJ6_bitCount_0f7a4 (x2 &&& (x3 ^^^ (-1 : Int32)))) (fun x4 => pu x4))) : PP (Int32)) (fun (v6 : Int32) => pu v6)) else pu (-2 : Int32)
set_option maxHeartbeats 4000000 in
set_option maxRecDepth 100000 in
theorem SX11_judged {l : Launch} {K : KK} {n : Nat} {hn : 270 ≤ n} (a0 : Nat) (p1 : Int32) (h0 : ob a0 10) : CT l K n 5 mX11_judged [.ref (K.2.1 + a0), .int p1] enI (FX11_judged a0 p1) := by
  refine CT.of2 (lv2 := [(0, .ref (K.2.1 + a0)), (1, .int p1)]) (by decide) rfl hn (Nat.le_of_ble_eq_true rfl) rfl (rp_id ?_)
  unfold FX11_judged
  refine rp_iload_n 1 dX11_judged_0 rfl ?_
  refine rp_if_lt 9 dX11_judged_1 (by decide) ?_ ?_
  · refine rp_bipush (-2 : Int32) dX11_judged_9 (by decide) ?_
    exact rp_pu (rp_iret rfl dX11_judged_11)
  · refine rp_iload_n 1 dX11_judged_4 rfl ?_
    refine rp_iconst (2 : Int32) dX11_judged_5 (by decide) ?_
    refine rp_icmp_le 12 dX11_judged_6 (by decide) ?_ ?_
    · refine rp_aload_n 0 dX11_judged_12 rfl ?_
      refine rp_getR fi_X11_35 h0 rfl dX11_judged_13 ?_
      refine rp_aload_n 0 dX11_judged_16 rfl ?_
      refine rp_getR fi_X11_51 h0 rfl dX11_judged_17 ?_
      refine rp_callVv [.ref (K.2.1 + (rf a0 6))] (SX3_judge (hn := hn) (rf a0 3) (rf a0 6) (tX11_3 h0) (tX11_6 h0)) cvX3_judge (mw (i := 958) (by decide +kernel)) (by omega) (tX11_3 h0) (by decide) rfl rfl rfl (Nat.le_of_ble_eq_true rfl) dX11_judged_20 (fun x1 => ?_)
      refine rp_iload_n 1 dX11_judged_23 rfl ?_
      refine rp_if_ne 35 dX11_judged_24 (by decide) ?_ ?_
      · refine rp_iload_n 1 dX11_judged_35 rfl ?_
        refine rp_iconst (1 : Int32) dX11_judged_36 (by decide) ?_
        refine rp_as ?_
        refine rp_join 70 (fun (v6 : Int32) => []) (fun v6 => [.int v6]) (fun v6 => ?_) (fun hJ70 => ?_)
        · exact rp_pu (rp_iret rfl dX11_judged_70)
        refine rp_icmp_ne 50 dX11_judged_37 (by decide) ?_ ?_
        · refine rp_aload_n 0 dX11_judged_50 rfl ?_
          refine rp_getR fi_X11_51 h0 rfl dX11_judged_51 ?_
          refine rp_callVi [] (SX4_hanging (hn := hn) (rf a0 6) (tX11_6 h0)) cvX4_hanging (mw (i := 831) (by decide +kernel)) (by omega) (tX11_6 h0) (by decide) rfl rfl rfl (Nat.le_of_ble_eq_true rfl) dX11_judged_54 (fun x2 => ?_)
          refine rp_aload_n 0 dX11_judged_57 rfl ?_
          refine rp_getR fi_X11_51 h0 rfl dX11_judged_58 ?_
          refine rp_callVi [] (SX4_wetOnes (hn := hn) (rf a0 6) (tX11_6 h0)) cvX4_wetOnes (mw (i := 835) (by decide +kernel)) (by omega) (tX11_6 h0) (by decide) rfl rfl rfl (Nat.le_of_ble_eq_true rfl) dX11_judged_61 (fun x3 => ?_)
          refine rp_iconst (-1 : Int32) dX11_judged_64 (by decide) ?_
          refine rp_ixor dX11_judged_65 ?_
          refine rp_iand dX11_judged_66 ?_
          refine rp_callSi [.int (x2 &&& (x3 ^^^ (-1 : Int32)))] (SJ6_bitCount_0f7a4 (hn := hn) (x2 &&& (x3 ^^^ (-1 : Int32)))) csJ6_bitCount_0f7a4 (mw (i := 978) (by decide +kernel)) (by omega) rfl rfl (Nat.le_of_ble_eq_true rfl) dX11_judged_67 (fun x4 => ?_)
          exact rp_sub [] rfl (rp_pu (hJ70 x4))
        · refine rp_aload_n 0 dX11_judged_40 rfl ?_
          refine rp_getR fi_X11_35 h0 rfl dX11_judged_41 ?_
          refine rp_getI fi_X11_252 (tX11_3 h0) rfl dX11_judged_44 (fun x5 => ?_)
          refine rp_goto 70 dX11_judged_47 (by decide) ?_
          exact rp_sub [] rfl (rp_pu (hJ70 x5))
      · refine rp_aload_n 0 dX11_judged_27 rfl ?_
        refine rp_getR fi_X11_35 h0 rfl dX11_judged_28 ?_
        refine rp_getI fi_X11_249 (tX11_3 h0) rfl dX11_judged_31 (fun x7 => ?_)
        exact rp_pu (rp_iret rfl dX11_judged_34)
    · refine rp_bipush (-2 : Int32) dX11_judged_9 (by decide) ?_
      exact rp_pu (rp_iret rfl dX11_judged_11)

theorem dX11_lift_0 : decode cX11_lift 0 = .ok (.aload_n 0, 1) := by decide +kernel
theorem dX11_lift_1 : decode cX11_lift 1 = .ok (.getfield 19, 3) := by decide +kernel
theorem dX11_lift_4 : decode cX11_lift 4 = .ok (.iload_n 1, 1) := by decide +kernel
theorem dX11_lift_5 : decode cX11_lift 5 = .ok (.invokevirtual 167, 3) := by decide +kernel
theorem dX11_lift_8 : decode cX11_lift 8 = .ok (.ifCond .eq 10, 3) := by decide +kernel
theorem dX11_lift_11 : decode cX11_lift 11 = .ok (.iload_n 2, 1) := by decide +kernel
theorem dX11_lift_12 : decode cX11_lift 12 = .ok (.invokestatic 269, 3) := by decide +kernel
theorem dX11_lift_15 : decode cX11_lift 15 = .ok (.ifCond .ne 5, 3) := by decide +kernel
theorem dX11_lift_18 : decode cX11_lift 18 = .ok (.iconst (-1), 1) := by decide +kernel
theorem dX11_lift_19 : decode cX11_lift 19 = .ok (.ireturn, 1) := by decide +kernel
theorem dX11_lift_20 : decode cX11_lift 20 = .ok (.aload_n 0, 1) := by decide +kernel
theorem dX11_lift_21 : decode cX11_lift 21 = .ok (.getfield 47, 3) := by decide +kernel
theorem dX11_lift_24 : decode cX11_lift 24 = .ok (.invokevirtual 195, 3) := by decide +kernel
theorem dX11_lift_27 : decode cX11_lift 27 = .ok (.istore_n 3, 1) := by decide +kernel
theorem dX11_lift_28 : decode cX11_lift 28 = .ok (.iconst (-1), 1) := by decide +kernel
theorem dX11_lift_29 : decode cX11_lift 29 = .ok (.istore 4, 2) := by decide +kernel
theorem dX11_lift_31 : decode cX11_lift 31 = .ok (.bipush 7, 2) := by decide +kernel
theorem dX11_lift_33 : decode cX11_lift 33 = .ok (.istore 5, 2) := by decide +kernel
theorem dX11_lift_35 : decode cX11_lift 35 = .ok (.iconst 0, 1) := by decide +kernel
theorem dX11_lift_36 : decode cX11_lift 36 = .ok (.istore 6, 2) := by decide +kernel
theorem dX11_lift_38 : decode cX11_lift 38 = .ok (.iload 6, 2) := by decide +kernel
theorem dX11_lift_40 : decode cX11_lift 40 = .ok (.iload_n 3, 1) := by decide +kernel
theorem dX11_lift_41 : decode cX11_lift 41 = .ok (.if_icmp .gt 54, 3) := by decide +kernel
theorem dX11_lift_44 : decode cX11_lift 44 = .ok (.iload 6, 2) := by decide +kernel
theorem dX11_lift_46 : decode cX11_lift 46 = .ok (.invokestatic 255, 3) := by decide +kernel
theorem dX11_lift_49 : decode cX11_lift 49 = .ok (.istore 7, 2) := by decide +kernel
theorem dX11_lift_51 : decode cX11_lift 51 = .ok (.iload 6, 2) := by decide +kernel
theorem dX11_lift_53 : decode cX11_lift 53 = .ok (.iload_n 3, 1) := by decide +kernel
theorem dX11_lift_54 : decode cX11_lift 54 = .ok (.iconst (-1), 1) := by decide +kernel
theorem dX11_lift_55 : decode cX11_lift 55 = .ok (.ixor, 1) := by decide +kernel
theorem dX11_lift_56 : decode cX11_lift 56 = .ok (.iand, 1) := by decide +kernel
theorem dX11_lift_57 : decode cX11_lift 57 = .ok (.ifCond .ne 32, 3) := by decide +kernel
theorem dX11_lift_60 : decode cX11_lift 60 = .ok (.iload 7, 2) := by decide +kernel
theorem dX11_lift_62 : decode cX11_lift 62 = .ok (.iload 5, 2) := by decide +kernel
theorem dX11_lift_64 : decode cX11_lift 64 = .ok (.if_icmp .ge 25, 3) := by decide +kernel
theorem dX11_lift_67 : decode cX11_lift 67 = .ok (.aload_n 0, 1) := by decide +kernel
theorem dX11_lift_68 : decode cX11_lift 68 = .ok (.getfield 47, 3) := by decide +kernel
theorem dX11_lift_71 : decode cX11_lift 71 = .ok (.iload_n 1, 1) := by decide +kernel
theorem dX11_lift_72 : decode cX11_lift 72 = .ok (.iload 6, 2) := by decide +kernel
theorem dX11_lift_74 : decode cX11_lift 74 = .ok (.invokevirtual 170, 3) := by decide +kernel
theorem dX11_lift_77 : decode cX11_lift 77 = .ok (.iload_n 2, 1) := by decide +kernel
theorem dX11_lift_78 : decode cX11_lift 78 = .ok (.if_icmp .ne 11, 3) := by decide +kernel
theorem dX11_lift_81 : decode cX11_lift 81 = .ok (.iload 6, 2) := by decide +kernel
theorem dX11_lift_83 : decode cX11_lift 83 = .ok (.istore 4, 2) := by decide +kernel
theorem dX11_lift_85 : decode cX11_lift 85 = .ok (.iload 7, 2) := by decide +kernel
theorem dX11_lift_87 : decode cX11_lift 87 = .ok (.istore 5, 2) := by decide +kernel
theorem dX11_lift_89 : decode cX11_lift 89 = .ok (.iinc 6 1, 3) := by decide +kernel
theorem dX11_lift_92 : decode cX11_lift 92 = .ok (.goto (-54), 3) := by decide +kernel
theorem dX11_lift_95 : decode cX11_lift 95 = .ok (.iload 4, 2) := by decide +kernel
theorem dX11_lift_97 : decode cX11_lift 97 = .ok (.ireturn, 1) := by decide +kernel
noncomputable def FX11_lift (a0 : Nat) (p1 : Int32) (p2 : Int32) : PP Int32 := bd (FX7_hasPlace (rf a0 1) p1) (fun x1 => if ((b2i x1)) = 0 then pu (-1 : Int32) else bd (FX11_isWeather p2) (fun x2 => if ((b2i x2)) = 0 then pu (-1 : Int32) else bd (FX4_hanging (rf a0 5)) (fun x3 => bd (it (fun (s4 : Int32 × Int32 × Int32) => (if x3 < s4.2.2 then pu (Sum.inr s4.1) else bd (FJ6_bitCount_0f7a4 s4.2.2) (fun x5 => bd (if (s4.2.2 &&& (x3 ^^^ (-1 : Int32))) = 0 then if s4.2.1 ≤ x5 then pu (s4.1, s4.2.1) else bd (FX4_weather (rf a0 5) p1 s4.2.2) (fun x6 => if x6 = p2 then pu (s4.2.2, x5) else pu (s4.1, s4.2.1)) else pu (s4.1, s4.2.1) : PP (Int32 × Int32)) (fun (v7 : Int32 × Int32) => lt (s4.2.2 + (1 : Int32)) (fun y8 => pu (Sum.inl (v7.1, v7.2, y8))))) : PP ((Int32 × Int32 × Int32) ⊕ (Int32)))) FU ((-1 : Int32), (7 : Int32), (0 : Int32))) (fun (v9 : Int32) => pu v9))))
set_option maxHeartbeats 4000000 in
set_option maxRecDepth 100000 in
theorem SX11_lift {l : Launch} {K : KK} {n : Nat} {hn : 270 ≤ n} (a0 : Nat) (p1 : Int32) (p2 : Int32) (h0 : ob a0 10) : CT l K n 2 mX11_lift [.ref (K.2.1 + a0), .int p1, .int p2] enI (FX11_lift a0 p1 p2) := by
  refine CT.of2 (lv2 := [(0, .ref (K.2.1 + a0)), (1, .int p1), (2, .int p2)]) (by decide) rfl hn (Nat.le_of_ble_eq_true rfl) rfl (rp_id ?_)
  unfold FX11_lift
  refine rp_aload_n 0 dX11_lift_0 rfl ?_
  refine rp_getR fi_X11_19 h0 rfl dX11_lift_1 ?_
  refine rp_iload_n 1 dX11_lift_4 rfl ?_
  refine rp_callVz [.int p1] (SX7_hasPlace (hn := hn) (rf a0 1) p1 (tX11_1 h0)) cvX7_hasPlace (mw (i := 804) (by decide +kernel)) (by omega) (tX11_1 h0) (by decide) rfl rfl rfl (Nat.le_of_ble_eq_true rfl) dX11_lift_5 (fun x1 => ?_)
  refine rp_if_eq 18 dX11_lift_8 (by decide) ?_ ?_
  · refine rp_iconst (-1 : Int32) dX11_lift_18 (by decide) ?_
    exact rp_pu (rp_iret rfl dX11_lift_19)
  · refine rp_iload_n 2 dX11_lift_11 rfl ?_
    refine rp_callSz [.int p2] (SX11_isWeather (hn := hn) p2) csX11_isWeather (mw (i := 1014) (by decide +kernel)) (by omega) rfl rfl (Nat.le_of_ble_eq_true rfl) dX11_lift_12 (fun x2 => ?_)
    refine rp_if_ne 20 dX11_lift_15 (by decide) ?_ ?_
    · refine rp_aload_n 0 dX11_lift_20 rfl ?_
      refine rp_getR fi_X11_47 h0 rfl dX11_lift_21 ?_
      refine rp_callVi [] (SX4_hanging (hn := hn) (rf a0 5) (tX11_5 h0)) cvX4_hanging (mw (i := 831) (by decide +kernel)) (by omega) (tX11_5 h0) (by decide) rfl rfl rfl (Nat.le_of_ble_eq_true rfl) dX11_lift_24 (fun x3 => ?_)
      refine rp_istore_n [(3, .int x3), (0, .ref (K.2.1 + a0)), (1, .int p1), (2, .int p2)] dX11_lift_27 (by decide) rfl ?_
      refine rp_iconst (-1 : Int32) dX11_lift_28 (by decide) ?_
      refine rp_istore [(4, .int (-1 : Int32)), (3, .int x3), (0, .ref (K.2.1 + a0)), (1, .int p1), (2, .int p2)] dX11_lift_29 (by decide) rfl ?_
      refine rp_bipush (7 : Int32) dX11_lift_31 (by decide) ?_
      refine rp_istore [(5, .int (7 : Int32)), (4, .int (-1 : Int32)), (3, .int x3), (0, .ref (K.2.1 + a0)), (1, .int p1), (2, .int p2)] dX11_lift_33 (by decide) rfl ?_
      refine rp_iconst (0 : Int32) dX11_lift_35 (by decide) ?_
      refine rp_istore [(6, .int (0 : Int32)), (5, .int (7 : Int32)), (4, .int (-1 : Int32)), (3, .int x3), (0, .ref (K.2.1 + a0)), (1, .int p1), (2, .int p2)] dX11_lift_36 (by decide) rfl ?_
      refine rp_as ?_
      refine rp_join 95 (fun v9 => [(4, .int v9)]) (fun _ => []) (fun v9 => ?_) (fun hX38_0 => ?_)
      · refine rp_iload 0 dX11_lift_95 rfl ?_
        exact rp_pu (rp_iret rfl dX11_lift_97)
      refine rp_sub [4, 5, 6, 3, 2, 1, 0] rfl (rp_it (fun (s4 : Int32 × Int32 × Int32) => [(0, .ref (K.2.1 + a0)), (1, .int p1), (2, .int p2), (3, .int x3), (4, .int s4.1), (5, .int s4.2.1), (6, .int s4.2.2)]) (fun N38 ih38 s4 => ?_) FU ((-1 : Int32), (7 : Int32), (0 : Int32)))
      refine rp_iload 6 dX11_lift_38 rfl ?_
      refine rp_iload_n 3 dX11_lift_40 rfl ?_
      refine rp_icmp_gt 95 dX11_lift_41 (by decide) ?_ ?_
      · exact rp_sub [4] rfl (rp_puR (hX38_0 s4.1))
      · refine rp_iload 6 dX11_lift_44 rfl ?_
        refine rp_callSi [.int s4.2.2] (SJ6_bitCount_0f7a4 (hn := hn) s4.2.2) csJ6_bitCount_0f7a4 (mw (i := 978) (by decide +kernel)) (by omega) rfl rfl (Nat.le_of_ble_eq_true rfl) dX11_lift_46 (fun x5 => ?_)
        refine rp_istore [(7, .int x5), (0, .ref (K.2.1 + a0)), (1, .int p1), (2, .int p2), (3, .int x3), (4, .int s4.1), (5, .int s4.2.1), (6, .int s4.2.2)] dX11_lift_49 (by decide) rfl ?_
        refine rp_iload 7 dX11_lift_51 rfl ?_
        refine rp_iload_n 4 dX11_lift_53 rfl ?_
        refine rp_iconst (-1 : Int32) dX11_lift_54 (by decide) ?_
        refine rp_ixor dX11_lift_55 ?_
        refine rp_iand dX11_lift_56 ?_
        refine rp_as ?_
        refine rp_join 89 (fun (v7 : Int32 × Int32) => [(0, .ref (K.2.1 + a0)), (1, .int p1), (2, .int p2), (3, .int x3), (4, .int v7.1), (5, .int v7.2), (6, .int s4.2.2)]) (fun v7 => []) (fun v7 => ?_) (fun hJ89 => ?_)
        · refine rp_iinc (fun y8 => [(6, .int y8), (0, .ref (K.2.1 + a0)), (1, .int p1), (2, .int p2), (3, .int x3), (4, .int v7.1), (5, .int v7.2)]) 6 dX11_lift_89 rfl (by rfl) (by decide) (fun y8 => rfl) (fun y8 => ?_)
          refine rp_goto 38 dX11_lift_92 (by decide) ?_
          exact rp_sub [1, 2, 3, 4, 5, 6, 0] rfl (ih38 (v7.1, v7.2, y8))
        refine rp_if_ne 89 dX11_lift_57 (by decide) ?_ ?_
        · exact rp_sub [1, 2, 3, 4, 5, 6, 7] rfl (rp_pu (hJ89 (s4.1, s4.2.1)))
        · refine rp_iload 0 dX11_lift_60 rfl ?_
          refine rp_iload 6 dX11_lift_62 rfl ?_
          refine rp_icmp_ge 89 dX11_lift_64 (by decide) ?_ ?_
          · exact rp_sub [1, 2, 3, 4, 5, 6, 7] rfl (rp_pu (hJ89 (s4.1, s4.2.1)))
          · refine rp_aload_n 1 dX11_lift_67 rfl ?_
            refine rp_getR fi_X11_47 h0 rfl dX11_lift_68 ?_
            refine rp_iload_n 2 dX11_lift_71 rfl ?_
            refine rp_iload 7 dX11_lift_72 rfl ?_
            refine rp_callVi [.int p1, .int s4.2.2] (SX4_weather (hn := hn) (rf a0 5) p1 s4.2.2 (tX11_5 h0)) cvX4_weather (mw (i := 808) (by decide +kernel)) (by omega) (tX11_5 h0) (by decide) rfl rfl rfl (Nat.le_of_ble_eq_true rfl) dX11_lift_74 (fun x6 => ?_)
            refine rp_iload_n 3 dX11_lift_77 rfl ?_
            refine rp_icmp_ne 89 dX11_lift_78 (by decide) ?_ ?_
            · exact rp_sub [1, 2, 3, 4, 5, 6, 7] rfl (rp_pu (hJ89 (s4.1, s4.2.1)))
            · refine rp_iload 7 dX11_lift_81 rfl ?_
              refine rp_istore [(4, .int s4.2.2), (7, .int x5), (0, .ref (K.2.1 + a0)), (1, .int p1), (2, .int p2), (3, .int x3), (5, .int s4.2.1), (6, .int s4.2.2)] dX11_lift_83 (by decide) rfl ?_
              refine rp_iload 1 dX11_lift_85 rfl ?_
              refine rp_istore [(5, .int x5), (4, .int s4.2.2), (7, .int x5), (0, .ref (K.2.1 + a0)), (1, .int p1), (2, .int p2), (3, .int x3), (6, .int s4.2.2)] dX11_lift_87 (by decide) rfl ?_
              exact rp_sub [3, 4, 5, 6, 1, 0, 7] rfl (rp_pu (hJ89 (s4.2.2, x5)))
    · refine rp_iconst (-1 : Int32) dX11_lift_18 (by decide) ?_
      exact rp_pu (rp_iret rfl dX11_lift_19)

theorem dJ0_coder_7d493_0 : decode cJ0_coder_7d493 0 = .ok (.getstatic 38, 3) := by decide +kernel
theorem dJ0_coder_7d493_3 : decode cJ0_coder_7d493 3 = .ok (.ifCond .eq 10, 3) := by decide +kernel
theorem dJ0_coder_7d493_6 : decode cJ0_coder_7d493 6 = .ok (.aload_n 0, 1) := by decide +kernel
theorem dJ0_coder_7d493_7 : decode cJ0_coder_7d493 7 = .ok (.getfield 15, 3) := by decide +kernel
theorem dJ0_coder_7d493_10 : decode cJ0_coder_7d493 10 = .ok (.goto 4, 3) := by decide +kernel
theorem dJ0_coder_7d493_13 : decode cJ0_coder_7d493 13 = .ok (.iconst 1, 1) := by decide +kernel
theorem dJ0_coder_7d493_14 : decode cJ0_coder_7d493 14 = .ok (.ireturn, 1) := by decide +kernel
noncomputable def FJ0_coder_7d493 (i0 : Nat) : PP Int32 := bd (if (1 : Int32) = 0 then pu (1 : Int32) else pu (0 : Int32) : PP (Int32)) (fun (v1 : Int32) => bd (gd (v1.toInt8.toInt32 = v1)) (fun (_ : Unit) => pu v1))
set_option maxHeartbeats 4000000 in
set_option maxRecDepth 100000 in
theorem SJ0_coder_7d493 {l : Launch} {K : KK} {n : Nat} {hn : 270 ≤ n} (i0 : Nat) (h0 : i0 < 24) : CT l K n 0 mJ0_coder_7d493 [.ref (K.2.2.2 (100 + i0))] enI (FJ0_coder_7d493 i0) := by
  refine CT.of2 (lv2 := [(0, .ref (K.2.2.2 (100 + i0)))]) (by decide) rfl hn (Nat.le_of_ble_eq_true rfl) rfl (rp_id ?_)
  unfold FJ0_coder_7d493
  refine rp_getCompact (mw (i := 471) (by decide +kernel)) dJ0_coder_7d493_0 ?_
  refine rp_as ?_
  refine rp_join 14 (fun (v1 : Int32) => []) (fun v1 => [.int v1]) (fun v1 => ?_) (fun hJ14 => ?_)
  · exact rp_bret rfl dJ0_coder_7d493_14
  refine rp_if_eq 13 dJ0_coder_7d493_3 (by decide) ?_ ?_
  · refine rp_iconst (1 : Int32) dJ0_coder_7d493_13 (by decide) ?_
    exact rp_sub [] rfl (rp_pu (hJ14 (1 : Int32)))
  · refine rp_aload_n 0 dJ0_coder_7d493_6 rfl ?_
    refine rp_getCoder h0 (mw (i := 1853) (by decide +kernel)) dJ0_coder_7d493_7 ?_
    refine rp_goto 14 dJ0_coder_7d493_10 (by decide) ?_
    exact rp_sub [] rfl (rp_pu (hJ14 (0 : Int32)))

theorem dJ0_length_8abf5_0 : decode cJ0_length_8abf5 0 = .ok (.aload_n 0, 1) := by decide +kernel
theorem dJ0_length_8abf5_1 : decode cJ0_length_8abf5 1 = .ok (.getfield 9, 3) := by decide +kernel
theorem dJ0_length_8abf5_4 : decode cJ0_length_8abf5 4 = .ok (.arraylength, 1) := by decide +kernel
theorem dJ0_length_8abf5_5 : decode cJ0_length_8abf5 5 = .ok (.aload_n 0, 1) := by decide +kernel
theorem dJ0_length_8abf5_6 : decode cJ0_length_8abf5 6 = .ok (.invokevirtual 335, 3) := by decide +kernel
theorem dJ0_length_8abf5_9 : decode cJ0_length_8abf5 9 = .ok (.ishr, 1) := by decide +kernel
theorem dJ0_length_8abf5_10 : decode cJ0_length_8abf5 10 = .ok (.ireturn, 1) := by decide +kernel
noncomputable def FJ0_length_8abf5 (i0 : Nat) : PP Int32 := bd (FJ0_coder_7d493 i0) (fun x1 => pu (((Int32.ofNat (sln.getD i0 0))) >>> (x1 &&& 31)))
set_option maxHeartbeats 4000000 in
set_option maxRecDepth 100000 in
theorem SJ0_length_8abf5 {l : Launch} {K : KK} {n : Nat} {hn : 270 ≤ n} (i0 : Nat) (h0 : i0 < 24) : CT l K n 1 mJ0_length_8abf5 [.ref (K.2.2.2 (100 + i0))] enI (FJ0_length_8abf5 i0) := by
  refine CT.of2 (lv2 := [(0, .ref (K.2.2.2 (100 + i0)))]) (by decide) rfl hn (Nat.le_of_ble_eq_true rfl) rfl (rp_id ?_)
  unfold FJ0_length_8abf5
  refine rp_aload_n 0 dJ0_length_8abf5_0 rfl ?_
  refine rp_getVal h0 (mw (i := 1852) (by decide +kernel)) dJ0_length_8abf5_1 ?_
  refine rp_lenB h0 dJ0_length_8abf5_4 ?_
  refine rp_aload_n 0 dJ0_length_8abf5_5 rfl ?_
  refine rp_callKi [] (SJ0_coder_7d493 (hn := hn) i0 h0) cvJ0_coder_7d493 (mw (i := 467) (by decide +kernel)) (by omega) (hO_S h0) rfl rfl (Nat.le_of_ble_eq_true rfl) dJ0_length_8abf5_6 (fun x1 => ?_)
  refine rp_ishr dJ0_length_8abf5_9 ?_
  exact rp_pu (rp_iret rfl dJ0_length_8abf5_10)

theorem dJ0_isLatin1_aae02_0 : decode cJ0_isLatin1_aae02 0 = .ok (.getstatic 38, 3) := by decide +kernel
theorem dJ0_isLatin1_aae02_3 : decode cJ0_isLatin1_aae02 3 = .ok (.ifCond .eq 14, 3) := by decide +kernel
theorem dJ0_isLatin1_aae02_6 : decode cJ0_isLatin1_aae02 6 = .ok (.aload_n 0, 1) := by decide +kernel
theorem dJ0_isLatin1_aae02_7 : decode cJ0_isLatin1_aae02 7 = .ok (.getfield 15, 3) := by decide +kernel
theorem dJ0_isLatin1_aae02_10 : decode cJ0_isLatin1_aae02 10 = .ok (.ifCond .ne 7, 3) := by decide +kernel
theorem dJ0_isLatin1_aae02_13 : decode cJ0_isLatin1_aae02 13 = .ok (.iconst 1, 1) := by decide +kernel
theorem dJ0_isLatin1_aae02_14 : decode cJ0_isLatin1_aae02 14 = .ok (.goto 4, 3) := by decide +kernel
theorem dJ0_isLatin1_aae02_17 : decode cJ0_isLatin1_aae02 17 = .ok (.iconst 0, 1) := by decide +kernel
theorem dJ0_isLatin1_aae02_18 : decode cJ0_isLatin1_aae02 18 = .ok (.ireturn, 1) := by decide +kernel
noncomputable def FJ0_isLatin1_aae02 (i0 : Nat) : PP Bool := bd (if (1 : Int32) = 0 then pu (0 : Int32) else if (0 : Int32) = 0 then pu (1 : Int32) else pu (0 : Int32) : PP (Int32)) (fun (v1 : Int32) => zb v1)
set_option maxHeartbeats 4000000 in
set_option maxRecDepth 100000 in
theorem SJ0_isLatin1_aae02 {l : Launch} {K : KK} {n : Nat} {hn : 270 ≤ n} (i0 : Nat) (h0 : i0 < 24) : CT l K n 0 mJ0_isLatin1_aae02 [.ref (K.2.2.2 (100 + i0))] enZ (FJ0_isLatin1_aae02 i0) := by
  refine CT.of2 (lv2 := [(0, .ref (K.2.2.2 (100 + i0)))]) (by decide) rfl hn (Nat.le_of_ble_eq_true rfl) rfl (rp_id ?_)
  unfold FJ0_isLatin1_aae02
  refine rp_getCompact (mw (i := 471) (by decide +kernel)) dJ0_isLatin1_aae02_0 ?_
  refine rp_as ?_
  refine rp_join 18 (fun (v1 : Int32) => []) (fun v1 => [.int v1]) (fun v1 => ?_) (fun hJ18 => ?_)
  · exact rp_zretb rfl dJ0_isLatin1_aae02_18
  refine rp_if_eq 17 dJ0_isLatin1_aae02_3 (by decide) ?_ ?_
  · refine rp_iconst (0 : Int32) dJ0_isLatin1_aae02_17 (by decide) ?_
    exact rp_sub [] rfl (rp_pu (hJ18 (0 : Int32)))
  · refine rp_aload_n 0 dJ0_isLatin1_aae02_6 rfl ?_
    refine rp_getCoder h0 (mw (i := 1853) (by decide +kernel)) dJ0_isLatin1_aae02_7 ?_
    refine rp_if_ne 17 dJ0_isLatin1_aae02_10 (by decide) ?_ ?_
    · refine rp_iconst (0 : Int32) dJ0_isLatin1_aae02_17 (by decide) ?_
      exact rp_sub [] rfl (rp_pu (hJ18 (0 : Int32)))
    · refine rp_iconst (1 : Int32) dJ0_isLatin1_aae02_13 (by decide) ?_
      refine rp_goto 18 dJ0_isLatin1_aae02_14 (by decide) ?_
      exact rp_sub [] rfl (rp_pu (hJ18 (1 : Int32)))

theorem dJ1_canEncode_9a6ad_0 : decode cJ1_canEncode_9a6ad 0 = .ok (.iload_n 0, 1) := by decide +kernel
theorem dJ1_canEncode_9a6ad_1 : decode cJ1_canEncode_9a6ad 1 = .ok (.ifCond .lt 14, 3) := by decide +kernel
theorem dJ1_canEncode_9a6ad_4 : decode cJ1_canEncode_9a6ad 4 = .ok (.iload_n 0, 1) := by decide +kernel
theorem dJ1_canEncode_9a6ad_5 : decode cJ1_canEncode_9a6ad 5 = .ok (.sipush 255, 3) := by decide +kernel
theorem dJ1_canEncode_9a6ad_8 : decode cJ1_canEncode_9a6ad 8 = .ok (.if_icmp .gt 7, 3) := by decide +kernel
theorem dJ1_canEncode_9a6ad_11 : decode cJ1_canEncode_9a6ad 11 = .ok (.iconst 1, 1) := by decide +kernel
theorem dJ1_canEncode_9a6ad_12 : decode cJ1_canEncode_9a6ad 12 = .ok (.goto 4, 3) := by decide +kernel
theorem dJ1_canEncode_9a6ad_15 : decode cJ1_canEncode_9a6ad 15 = .ok (.iconst 0, 1) := by decide +kernel
theorem dJ1_canEncode_9a6ad_16 : decode cJ1_canEncode_9a6ad 16 = .ok (.ireturn, 1) := by decide +kernel
noncomputable def FJ1_canEncode_9a6ad (p1 : Int32) : PP Bool := bd (if p1 < 0 then pu (0 : Int32) else if (255 : Int32) < p1 then pu (0 : Int32) else pu (1 : Int32) : PP (Int32)) (fun (v1 : Int32) => zb v1)
set_option maxHeartbeats 4000000 in
set_option maxRecDepth 100000 in
theorem SJ1_canEncode_9a6ad {l : Launch} {K : KK} {n : Nat} {hn : 270 ≤ n} (p1 : Int32) : CT l K n 0 mJ1_canEncode_9a6ad [.int p1] enZ (FJ1_canEncode_9a6ad p1) := by
  refine CT.of2 (lv2 := [(0, .int p1)]) (by decide) rfl hn (Nat.le_of_ble_eq_true rfl) rfl (rp_id ?_)
  unfold FJ1_canEncode_9a6ad
  refine rp_iload_n 0 dJ1_canEncode_9a6ad_0 rfl ?_
  refine rp_as ?_
  refine rp_join 16 (fun (v1 : Int32) => []) (fun v1 => [.int v1]) (fun v1 => ?_) (fun hJ16 => ?_)
  · exact rp_zretb rfl dJ1_canEncode_9a6ad_16
  refine rp_if_lt 15 dJ1_canEncode_9a6ad_1 (by decide) ?_ ?_
  · refine rp_iconst (0 : Int32) dJ1_canEncode_9a6ad_15 (by decide) ?_
    exact rp_sub [] rfl (rp_pu (hJ16 (0 : Int32)))
  · refine rp_iload_n 0 dJ1_canEncode_9a6ad_4 rfl ?_
    refine rp_sipush (255 : Int32) dJ1_canEncode_9a6ad_5 (by decide) ?_
    refine rp_icmp_gt 15 dJ1_canEncode_9a6ad_8 (by decide) ?_ ?_
    · refine rp_iconst (0 : Int32) dJ1_canEncode_9a6ad_15 (by decide) ?_
      exact rp_sub [] rfl (rp_pu (hJ16 (0 : Int32)))
    · refine rp_iconst (1 : Int32) dJ1_canEncode_9a6ad_11 (by decide) ?_
      refine rp_goto 16 dJ1_canEncode_9a6ad_12 (by decide) ?_
      exact rp_sub [] rfl (rp_pu (hJ16 (1 : Int32)))

theorem dJ1_indexOfChar_4cfef_0 : decode cJ1_indexOfChar_4cfef 0 = .ok (.iload_n 1, 1) := by decide +kernel
theorem dJ1_indexOfChar_4cfef_1 : decode cJ1_indexOfChar_4cfef 1 = .ok (.i2b, 1) := by decide +kernel
theorem dJ1_indexOfChar_4cfef_2 : decode cJ1_indexOfChar_4cfef 2 = .ok (.istore 4, 2) := by decide +kernel
theorem dJ1_indexOfChar_4cfef_4 : decode cJ1_indexOfChar_4cfef 4 = .ok (.iload_n 2, 1) := by decide +kernel
theorem dJ1_indexOfChar_4cfef_5 : decode cJ1_indexOfChar_4cfef 5 = .ok (.istore 5, 2) := by decide +kernel
theorem dJ1_indexOfChar_4cfef_7 : decode cJ1_indexOfChar_4cfef 7 = .ok (.iload 5, 2) := by decide +kernel
theorem dJ1_indexOfChar_4cfef_9 : decode cJ1_indexOfChar_4cfef 9 = .ok (.iload_n 3, 1) := by decide +kernel
theorem dJ1_indexOfChar_4cfef_10 : decode cJ1_indexOfChar_4cfef 10 = .ok (.if_icmp .ge 21, 3) := by decide +kernel
theorem dJ1_indexOfChar_4cfef_13 : decode cJ1_indexOfChar_4cfef 13 = .ok (.aload_n 0, 1) := by decide +kernel
theorem dJ1_indexOfChar_4cfef_14 : decode cJ1_indexOfChar_4cfef 14 = .ok (.iload 5, 2) := by decide +kernel
theorem dJ1_indexOfChar_4cfef_16 : decode cJ1_indexOfChar_4cfef 16 = .ok (.baload, 1) := by decide +kernel
theorem dJ1_indexOfChar_4cfef_17 : decode cJ1_indexOfChar_4cfef 17 = .ok (.iload 4, 2) := by decide +kernel
theorem dJ1_indexOfChar_4cfef_19 : decode cJ1_indexOfChar_4cfef 19 = .ok (.if_icmp .ne 6, 3) := by decide +kernel
theorem dJ1_indexOfChar_4cfef_22 : decode cJ1_indexOfChar_4cfef 22 = .ok (.iload 5, 2) := by decide +kernel
theorem dJ1_indexOfChar_4cfef_24 : decode cJ1_indexOfChar_4cfef 24 = .ok (.ireturn, 1) := by decide +kernel
theorem dJ1_indexOfChar_4cfef_25 : decode cJ1_indexOfChar_4cfef 25 = .ok (.iinc 5 1, 3) := by decide +kernel
theorem dJ1_indexOfChar_4cfef_28 : decode cJ1_indexOfChar_4cfef 28 = .ok (.goto (-21), 3) := by decide +kernel
theorem dJ1_indexOfChar_4cfef_31 : decode cJ1_indexOfChar_4cfef 31 = .ok (.iconst (-1), 1) := by decide +kernel
theorem dJ1_indexOfChar_4cfef_32 : decode cJ1_indexOfChar_4cfef 32 = .ok (.ireturn, 1) := by decide +kernel
noncomputable def FJ1_indexOfChar_4cfef (p1 : Nat) (p2 : Int32) (p3 : Int32) (p4 : Int32) : PP Int32 := bd (it (fun (s1 : Int32) => (if p4 ≤ s1 then pu (Sum.inr (Sum.inl ())) else bd (aB p1 s1) (fun x2 => if x2 = p2.toInt8.toInt32 then pu (Sum.inr (Sum.inr (s1))) else lt (s1 + (1 : Int32)) (fun y3 => pu (Sum.inl y3))) : PP ((Int32) ⊕ ((Unit) ⊕ (Int32))))) FU p3) (Sum.elim (fun (v4 : Unit) => pu (-1 : Int32)) (fun (v5 : Int32) => pu v5))
set_option maxHeartbeats 4000000 in
set_option maxRecDepth 100000 in
theorem SJ1_indexOfChar_4cfef {l : Launch} {K : KK} {n : Nat} {hn : 270 ≤ n} (p1 : Nat) (p2 : Int32) (p3 : Int32) (p4 : Int32) (h_p1 : p1 < 24) : CT l K n 0 mJ1_indexOfChar_4cfef [.ref (K.2.2.2 (200 + p1)), .int p2, .int p3, .int p4] enI (FJ1_indexOfChar_4cfef p1 p2 p3 p4) := by
  refine CT.of2 (lv2 := [(0, .ref (K.2.2.2 (200 + p1))), (1, .int p2), (2, .int p3), (3, .int p4)]) (by decide) rfl hn (Nat.le_of_ble_eq_true rfl) rfl (rp_id ?_)
  unfold FJ1_indexOfChar_4cfef
  refine rp_iload_n 1 dJ1_indexOfChar_4cfef_0 rfl ?_
  refine rp_i2b dJ1_indexOfChar_4cfef_1 ?_
  refine rp_istore [(4, .int p2.toInt8.toInt32), (0, .ref (K.2.2.2 (200 + p1))), (1, .int p2), (2, .int p3), (3, .int p4)] dJ1_indexOfChar_4cfef_2 (by decide) rfl ?_
  refine rp_iload_n 3 dJ1_indexOfChar_4cfef_4 rfl ?_
  refine rp_istore [(5, .int p3), (4, .int p2.toInt8.toInt32), (0, .ref (K.2.2.2 (200 + p1))), (1, .int p2), (2, .int p3), (3, .int p4)] dJ1_indexOfChar_4cfef_5 (by decide) rfl ?_
  refine rp_as ?_
  refine rp_join2 31 (fun v4 => []) (fun _ => []) 22 (fun v5 => [(5, .int v5)]) (fun _ => []) (fun v4 => ?_) (fun v5 => ?_) (fun hX7_0 hX7_1 => ?_)
  · refine rp_iconst (-1 : Int32) dJ1_indexOfChar_4cfef_31 (by decide) ?_
    exact rp_pu (rp_iret rfl dJ1_indexOfChar_4cfef_32)
  · refine rp_iload 0 dJ1_indexOfChar_4cfef_22 rfl ?_
    exact rp_pu (rp_iret rfl dJ1_indexOfChar_4cfef_24)
  refine rp_sub [2, 5, 1, 0] rfl (rp_it (fun (s1 : Int32) => [(0, .ref (K.2.2.2 (200 + p1))), (3, .int p4), (4, .int p2.toInt8.toInt32), (5, .int s1)]) (fun N7 ih7 s1 => ?_) FU p3)
  refine rp_iload 3 dJ1_indexOfChar_4cfef_7 rfl ?_
  refine rp_iload_n 1 dJ1_indexOfChar_4cfef_9 rfl ?_
  refine rp_icmp_ge 31 dJ1_indexOfChar_4cfef_10 (by decide) ?_ ?_
  · exact rp_sub [] rfl (rp_puRL (hX7_0 ()))
  · refine rp_aload_n 0 dJ1_indexOfChar_4cfef_13 rfl ?_
    refine rp_iload 3 dJ1_indexOfChar_4cfef_14 rfl ?_
    refine rp_aldB h_p1 dJ1_indexOfChar_4cfef_16 (fun x2 => ?_)
    refine rp_iload 2 dJ1_indexOfChar_4cfef_17 rfl ?_
    refine rp_icmp_ne 25 dJ1_indexOfChar_4cfef_19 (by decide) ?_ ?_
    · refine rp_iinc (fun y3 => [(5, .int y3), (0, .ref (K.2.2.2 (200 + p1))), (3, .int p4), (4, .int p2.toInt8.toInt32)]) 3 dJ1_indexOfChar_4cfef_25 rfl (by rfl) (by decide) (fun y3 => rfl) (fun y3 => ?_)
      refine rp_goto 7 dJ1_indexOfChar_4cfef_28 (by decide) ?_
      exact rp_sub [1, 2, 3, 0] rfl (ih7 y3)
    · exact rp_sub [3] rfl (rp_puRR (hX7_1 s1))

theorem dJ1_indexOf_4cfef_0 : decode cJ1_indexOf_4cfef 0 = .ok (.iload_n 1, 1) := by decide +kernel
theorem dJ1_indexOf_4cfef_1 : decode cJ1_indexOf_4cfef 1 = .ok (.invokestatic 88, 3) := by decide +kernel
theorem dJ1_indexOf_4cfef_4 : decode cJ1_indexOf_4cfef 4 = .ok (.ifCond .ne 5, 3) := by decide +kernel
theorem dJ1_indexOf_4cfef_7 : decode cJ1_indexOf_4cfef 7 = .ok (.iconst (-1), 1) := by decide +kernel
theorem dJ1_indexOf_4cfef_8 : decode cJ1_indexOf_4cfef 8 = .ok (.ireturn, 1) := by decide +kernel
theorem dJ1_indexOf_4cfef_9 : decode cJ1_indexOf_4cfef 9 = .ok (.iload_n 2, 1) := by decide +kernel
theorem dJ1_indexOf_4cfef_10 : decode cJ1_indexOf_4cfef 10 = .ok (.iconst 0, 1) := by decide +kernel
theorem dJ1_indexOf_4cfef_11 : decode cJ1_indexOf_4cfef 11 = .ok (.invokestatic 92, 3) := by decide +kernel
theorem dJ1_indexOf_4cfef_14 : decode cJ1_indexOf_4cfef 14 = .ok (.istore_n 2, 1) := by decide +kernel
theorem dJ1_indexOf_4cfef_15 : decode cJ1_indexOf_4cfef 15 = .ok (.iload_n 3, 1) := by decide +kernel
theorem dJ1_indexOf_4cfef_16 : decode cJ1_indexOf_4cfef 16 = .ok (.aload_n 0, 1) := by decide +kernel
theorem dJ1_indexOf_4cfef_17 : decode cJ1_indexOf_4cfef 17 = .ok (.arraylength, 1) := by decide +kernel
theorem dJ1_indexOf_4cfef_18 : decode cJ1_indexOf_4cfef 18 = .ok (.invokestatic 38, 3) := by decide +kernel
theorem dJ1_indexOf_4cfef_21 : decode cJ1_indexOf_4cfef 21 = .ok (.istore_n 3, 1) := by decide +kernel
theorem dJ1_indexOf_4cfef_22 : decode cJ1_indexOf_4cfef 22 = .ok (.iload_n 2, 1) := by decide +kernel
theorem dJ1_indexOf_4cfef_23 : decode cJ1_indexOf_4cfef 23 = .ok (.iload_n 3, 1) := by decide +kernel
theorem dJ1_indexOf_4cfef_24 : decode cJ1_indexOf_4cfef 24 = .ok (.if_icmp .lt 5, 3) := by decide +kernel
theorem dJ1_indexOf_4cfef_27 : decode cJ1_indexOf_4cfef 27 = .ok (.iconst (-1), 1) := by decide +kernel
theorem dJ1_indexOf_4cfef_28 : decode cJ1_indexOf_4cfef 28 = .ok (.ireturn, 1) := by decide +kernel
theorem dJ1_indexOf_4cfef_29 : decode cJ1_indexOf_4cfef 29 = .ok (.aload_n 0, 1) := by decide +kernel
theorem dJ1_indexOf_4cfef_30 : decode cJ1_indexOf_4cfef 30 = .ok (.iload_n 1, 1) := by decide +kernel
theorem dJ1_indexOf_4cfef_31 : decode cJ1_indexOf_4cfef 31 = .ok (.iload_n 2, 1) := by decide +kernel
theorem dJ1_indexOf_4cfef_32 : decode cJ1_indexOf_4cfef 32 = .ok (.iload_n 3, 1) := by decide +kernel
theorem dJ1_indexOf_4cfef_33 : decode cJ1_indexOf_4cfef 33 = .ok (.invokestatic 95, 3) := by decide +kernel
theorem dJ1_indexOf_4cfef_36 : decode cJ1_indexOf_4cfef 36 = .ok (.ireturn, 1) := by decide +kernel
noncomputable def FJ1_indexOf_4cfef (p1 : Nat) (p2 : Int32) (p3 : Int32) (p4 : Int32) : PP Int32 := bd (FJ1_canEncode_9a6ad p2) (fun x1 => if ((b2i x1)) = 0 then pu (-1 : Int32) else lt ((if p3 < (0 : Int32) then (0 : Int32) else p3)) (fun y2 => lt ((if ((Int32.ofNat (sln.getD p1 0))) < p4 then ((Int32.ofNat (sln.getD p1 0))) else p4)) (fun y3 => if y2 < y3 then bd (FJ1_indexOfChar_4cfef p1 p2 y2 y3) (fun x4 => pu x4) else pu (-1 : Int32))))
set_option maxHeartbeats 4000000 in
set_option maxRecDepth 100000 in
theorem SJ1_indexOf_4cfef {l : Launch} {K : KK} {n : Nat} {hn : 270 ≤ n} (p1 : Nat) (p2 : Int32) (p3 : Int32) (p4 : Int32) (h_p1 : p1 < 24) : CT l K n 1 mJ1_indexOf_4cfef [.ref (K.2.2.2 (200 + p1)), .int p2, .int p3, .int p4] enI (FJ1_indexOf_4cfef p1 p2 p3 p4) := by
  refine CT.of2 (lv2 := [(0, .ref (K.2.2.2 (200 + p1))), (1, .int p2), (2, .int p3), (3, .int p4)]) (by decide) rfl hn (Nat.le_of_ble_eq_true rfl) rfl (rp_id ?_)
  unfold FJ1_indexOf_4cfef
  refine rp_iload_n 1 dJ1_indexOf_4cfef_0 rfl ?_
  refine rp_callSz [.int p2] (SJ1_canEncode_9a6ad (hn := hn) p2) csJ1_canEncode_9a6ad (mw (i := 531) (by decide +kernel)) (by omega) rfl rfl (Nat.le_of_ble_eq_true rfl) dJ1_indexOf_4cfef_1 (fun x1 => ?_)
  refine rp_if_ne 9 dJ1_indexOf_4cfef_4 (by decide) ?_ ?_
  · refine rp_iload_n 2 dJ1_indexOf_4cfef_9 rfl ?_
    refine rp_iconst (0 : Int32) dJ1_indexOf_4cfef_10 (by decide) ?_
    refine rp_mmax (mw (i := 534) (by decide +kernel)) (by omega) (Nat.le_of_ble_eq_true rfl) dJ1_indexOf_4cfef_11 ?_
    refine rp_lti (fun y2 => ?_)
    refine rp_istore_n [(2, .int y2), (0, .ref (K.2.2.2 (200 + p1))), (1, .int p2), (3, .int p4)] dJ1_indexOf_4cfef_14 (by decide) rfl ?_
    refine rp_iload_n 3 dJ1_indexOf_4cfef_15 rfl ?_
    refine rp_aload_n 1 dJ1_indexOf_4cfef_16 rfl ?_
    refine rp_lenB h_p1 dJ1_indexOf_4cfef_17 ?_
    refine rp_mmin (mw (i := 537) (by decide +kernel)) (by omega) (Nat.le_of_ble_eq_true rfl) dJ1_indexOf_4cfef_18 ?_
    refine rp_lti (fun y3 => ?_)
    refine rp_istore_n [(3, .int y3), (2, .int y2), (0, .ref (K.2.2.2 (200 + p1))), (1, .int p2)] dJ1_indexOf_4cfef_21 (by decide) rfl ?_
    refine rp_iload_n 1 dJ1_indexOf_4cfef_22 rfl ?_
    refine rp_iload_n 0 dJ1_indexOf_4cfef_23 rfl ?_
    refine rp_icmp_lt 29 dJ1_indexOf_4cfef_24 (by decide) ?_ ?_
    · refine rp_aload_n 2 dJ1_indexOf_4cfef_29 rfl ?_
      refine rp_iload_n 3 dJ1_indexOf_4cfef_30 rfl ?_
      refine rp_iload_n 1 dJ1_indexOf_4cfef_31 rfl ?_
      refine rp_iload_n 0 dJ1_indexOf_4cfef_32 rfl ?_
      refine rp_callSi [.ref (K.2.2.2 (200 + p1)), .int p2, .int y2, .int y3] (SJ1_indexOfChar_4cfef (hn := hn) p1 p2 y2 y3 h_p1) csJ1_indexOfChar_4cfef (mw (i := 540) (by decide +kernel)) (by omega) rfl rfl (Nat.le_of_ble_eq_true rfl) dJ1_indexOf_4cfef_33 (fun x4 => ?_)
      exact rp_pu (rp_iret rfl dJ1_indexOf_4cfef_36)
    · refine rp_iconst (-1 : Int32) dJ1_indexOf_4cfef_27 (by decide) ?_
      exact rp_pu (rp_iret rfl dJ1_indexOf_4cfef_28)
  · refine rp_iconst (-1 : Int32) dJ1_indexOf_4cfef_7 (by decide) ?_
    exact rp_pu (rp_iret rfl dJ1_indexOf_4cfef_8)

theorem dJ0_indexOf_7cf53_0 : decode cJ0_indexOf_7cf53 0 = .ok (.aload_n 0, 1) := by decide +kernel
theorem dJ0_indexOf_7cf53_1 : decode cJ0_indexOf_7cf53 1 = .ok (.invokevirtual 492, 3) := by decide +kernel
theorem dJ0_indexOf_7cf53_4 : decode cJ0_indexOf_7cf53 4 = .ok (.ifCond .eq 19, 3) := by decide +kernel
theorem dJ0_indexOf_7cf53_7 : decode cJ0_indexOf_7cf53 7 = .ok (.aload_n 0, 1) := by decide +kernel
theorem dJ0_indexOf_7cf53_8 : decode cJ0_indexOf_7cf53 8 = .ok (.getfield 9, 3) := by decide +kernel
theorem dJ0_indexOf_7cf53_11 : decode cJ0_indexOf_7cf53 11 = .ok (.iload_n 1, 1) := by decide +kernel
theorem dJ0_indexOf_7cf53_12 : decode cJ0_indexOf_7cf53 12 = .ok (.iload_n 2, 1) := by decide +kernel
theorem dJ0_indexOf_7cf53_13 : decode cJ0_indexOf_7cf53 13 = .ok (.aload_n 0, 1) := by decide +kernel
theorem dJ0_indexOf_7cf53_14 : decode cJ0_indexOf_7cf53 14 = .ok (.invokevirtual 505, 3) := by decide +kernel
theorem dJ0_indexOf_7cf53_17 : decode cJ0_indexOf_7cf53 17 = .ok (.invokestatic 637, 3) := by decide +kernel
theorem dJ0_indexOf_7cf53_20 : decode cJ0_indexOf_7cf53 20 = .ok (.goto 16, 3) := by decide +kernel
theorem dJ0_indexOf_7cf53_23 : decode cJ0_indexOf_7cf53 23 = .ok (.aload_n 0, 1) := by decide +kernel
theorem dJ0_indexOf_7cf53_24 : decode cJ0_indexOf_7cf53 24 = .ok (.getfield 9, 3) := by decide +kernel
theorem dJ0_indexOf_7cf53_27 : decode cJ0_indexOf_7cf53 27 = .ok (.iload_n 1, 1) := by decide +kernel
theorem dJ0_indexOf_7cf53_28 : decode cJ0_indexOf_7cf53 28 = .ok (.iload_n 2, 1) := by decide +kernel
theorem dJ0_indexOf_7cf53_29 : decode cJ0_indexOf_7cf53 29 = .ok (.aload_n 0, 1) := by decide +kernel
theorem dJ0_indexOf_7cf53_30 : decode cJ0_indexOf_7cf53 30 = .ok (.invokevirtual 505, 3) := by decide +kernel
theorem dJ0_indexOf_7cf53_33 : decode cJ0_indexOf_7cf53 33 = .ok (.invokestatic 640, 3) := by decide +kernel
theorem dJ0_indexOf_7cf53_36 : decode cJ0_indexOf_7cf53 36 = .ok (.ireturn, 1) := by decide +kernel
noncomputable def FJ0_indexOf_7cf53 (i0 : Nat) (p1 : Int32) (p2 : Int32) : PP Int32 := bd (FJ0_isLatin1_aae02 i0) (fun x1 => bd (if ((b2i x1)) = 0 then fl else bd (FJ0_length_8abf5 i0) (fun x2 => bd (FJ1_indexOf_4cfef i0 p1 p2 x2) (fun x3 => pu x3)) : PP (Int32)) (fun (v4 : Int32) => pu v4))
set_option maxHeartbeats 4000000 in
set_option maxRecDepth 100000 in
theorem SJ0_indexOf_7cf53 {l : Launch} {K : KK} {n : Nat} {hn : 270 ≤ n} (i0 : Nat) (p1 : Int32) (p2 : Int32) (h0 : i0 < 24) : CT l K n 5 mJ0_indexOf_7cf53 [.ref (K.2.2.2 (100 + i0)), .int p1, .int p2] enI (FJ0_indexOf_7cf53 i0 p1 p2) := by
  refine CT.of2 (lv2 := [(0, .ref (K.2.2.2 (100 + i0))), (1, .int p1), (2, .int p2)]) (by decide) rfl hn (Nat.le_of_ble_eq_true rfl) rfl (rp_id ?_)
  unfold FJ0_indexOf_7cf53
  refine rp_aload_n 0 dJ0_indexOf_7cf53_0 rfl ?_
  refine rp_callKz [] (SJ0_isLatin1_aae02 (hn := hn) i0 h0) cvJ0_isLatin1_aae02 (mw (i := 477) (by decide +kernel)) (by omega) (hO_S h0) rfl rfl (Nat.le_of_ble_eq_true rfl) dJ0_indexOf_7cf53_1 (fun x1 => ?_)
  refine rp_as ?_
  refine rp_join 36 (fun (v4 : Int32) => []) (fun v4 => [.int v4]) (fun v4 => ?_) (fun hJ36 => ?_)
  · exact rp_pu (rp_iret rfl dJ0_indexOf_7cf53_36)
  refine rp_if_eq 23 dJ0_indexOf_7cf53_4 (by decide) ?_ ?_
  · exact rp_fl
  · refine rp_aload_n 0 dJ0_indexOf_7cf53_7 rfl ?_
    refine rp_getVal h0 (mw (i := 1852) (by decide +kernel)) dJ0_indexOf_7cf53_8 ?_
    refine rp_iload_n 1 dJ0_indexOf_7cf53_11 rfl ?_
    refine rp_iload_n 2 dJ0_indexOf_7cf53_12 rfl ?_
    refine rp_aload_n 0 dJ0_indexOf_7cf53_13 rfl ?_
    refine rp_callKi [] (SJ0_length_8abf5 (hn := hn) i0 h0) cvJ0_length_8abf5 (mw (i := 527) (by decide +kernel)) (by omega) (hO_S h0) rfl rfl (Nat.le_of_ble_eq_true rfl) dJ0_indexOf_7cf53_14 (fun x2 => ?_)
    refine rp_callSi [.ref (K.2.2.2 (200 + i0)), .int p1, .int p2, .int x2] (SJ1_indexOf_4cfef (hn := hn) i0 p1 p2 x2 h0) csJ1_indexOf_4cfef (mw (i := 528) (by decide +kernel)) (by omega) rfl rfl (Nat.le_of_ble_eq_true rfl) dJ0_indexOf_7cf53_17 (fun x3 => ?_)
    refine rp_goto 36 dJ0_indexOf_7cf53_20 (by decide) ?_
    exact rp_sub [] rfl (rp_pu (hJ36 x3))

theorem dJ0_indexOf_0f7a4_0 : decode cJ0_indexOf_0f7a4 0 = .ok (.aload_n 0, 1) := by decide +kernel
theorem dJ0_indexOf_0f7a4_1 : decode cJ0_indexOf_0f7a4 1 = .ok (.iload_n 1, 1) := by decide +kernel
theorem dJ0_indexOf_0f7a4_2 : decode cJ0_indexOf_0f7a4 2 = .ok (.iconst 0, 1) := by decide +kernel
theorem dJ0_indexOf_0f7a4_3 : decode cJ0_indexOf_0f7a4 3 = .ok (.invokevirtual 633, 3) := by decide +kernel
theorem dJ0_indexOf_0f7a4_6 : decode cJ0_indexOf_0f7a4 6 = .ok (.ireturn, 1) := by decide +kernel
noncomputable def FJ0_indexOf_0f7a4 (i0 : Nat) (p1 : Int32) : PP Int32 := bd (FJ0_indexOf_7cf53 i0 p1 (0 : Int32)) (fun x1 => pu x1)
set_option maxHeartbeats 4000000 in
set_option maxRecDepth 100000 in
theorem SJ0_indexOf_0f7a4 {l : Launch} {K : KK} {n : Nat} {hn : 270 ≤ n} (i0 : Nat) (p1 : Int32) (h0 : i0 < 24) : CT l K n 6 mJ0_indexOf_0f7a4 [.ref (K.2.2.2 (100 + i0)), .int p1] enI (FJ0_indexOf_0f7a4 i0 p1) := by
  refine CT.of2 (lv2 := [(0, .ref (K.2.2.2 (100 + i0))), (1, .int p1)]) (by decide) rfl hn (Nat.le_of_ble_eq_true rfl) rfl (rp_id ?_)
  unfold FJ0_indexOf_0f7a4
  refine rp_aload_n 0 dJ0_indexOf_0f7a4_0 rfl ?_
  refine rp_iload_n 1 dJ0_indexOf_0f7a4_1 rfl ?_
  refine rp_iconst (0 : Int32) dJ0_indexOf_0f7a4_2 (by decide) ?_
  refine rp_callKi [.int p1, .int (0 : Int32)] (SJ0_indexOf_7cf53 (hn := hn) i0 p1 (0 : Int32) h0) cvJ0_indexOf_7cf53 (mw (i := 523) (by decide +kernel)) (by omega) (hO_S h0) rfl rfl (Nat.le_of_ble_eq_true rfl) dJ0_indexOf_0f7a4_3 (fun x1 => ?_)
  exact rp_pu (rp_iret rfl dJ0_indexOf_0f7a4_6)

theorem dJ3_checkIndex_8e157_0 : decode cJ3_checkIndex_8e157 0 = .ok (.iload_n 0, 1) := by decide +kernel
theorem dJ3_checkIndex_8e157_1 : decode cJ3_checkIndex_8e157 1 = .ok (.ifCond .lt 8, 3) := by decide +kernel
theorem dJ3_checkIndex_8e157_4 : decode cJ3_checkIndex_8e157 4 = .ok (.iload_n 0, 1) := by decide +kernel
theorem dJ3_checkIndex_8e157_5 : decode cJ3_checkIndex_8e157 5 = .ok (.iload_n 1, 1) := by decide +kernel
theorem dJ3_checkIndex_8e157_6 : decode cJ3_checkIndex_8e157 6 = .ok (.if_icmp .lt 10, 3) := by decide +kernel
theorem dJ3_checkIndex_8e157_9 : decode cJ3_checkIndex_8e157 9 = .ok (.aload_n 2, 1) := by decide +kernel
theorem dJ3_checkIndex_8e157_10 : decode cJ3_checkIndex_8e157 10 = .ok (.iload_n 0, 1) := by decide +kernel
theorem dJ3_checkIndex_8e157_11 : decode cJ3_checkIndex_8e157 11 = .ok (.iload_n 1, 1) := by decide +kernel
theorem dJ3_checkIndex_8e157_12 : decode cJ3_checkIndex_8e157 12 = .ok (.invokestatic 95, 3) := by decide +kernel
theorem dJ3_checkIndex_8e157_15 : decode cJ3_checkIndex_8e157 15 = .ok (.athrow, 1) := by decide +kernel
theorem dJ3_checkIndex_8e157_16 : decode cJ3_checkIndex_8e157 16 = .ok (.iload_n 0, 1) := by decide +kernel
theorem dJ3_checkIndex_8e157_17 : decode cJ3_checkIndex_8e157 17 = .ok (.ireturn, 1) := by decide +kernel
noncomputable def FJ3_checkIndex_8e157 (p1 : Int32) (p2 : Int32) : PP Int32 := if p1 < 0 then fl else if p1 < p2 then pu p1 else fl
set_option maxHeartbeats 4000000 in
set_option maxRecDepth 100000 in
theorem SJ3_checkIndex_8e157 {l : Launch} {K : KK} {n : Nat} {hn : 270 ≤ n} (p1 : Int32) (p2 : Int32) (p3 : Value) (h_p3 : p3 = .null ∨ ∃ a, p3 = .ref a) : CT l K n 0 mJ3_checkIndex_8e157 [.int p1, .int p2, p3] enI (FJ3_checkIndex_8e157 p1 p2) := by
  refine CT.of2 (lv2 := [(0, .int p1), (1, .int p2), (2, p3)]) (by decide) rfl hn (by rcases h_p3 with rfl | ⟨_, rfl⟩ <;> exact Nat.le_of_ble_eq_true rfl) rfl (rp_id ?_)
  unfold FJ3_checkIndex_8e157
  refine rp_iload_n 0 dJ3_checkIndex_8e157_0 rfl ?_
  refine rp_if_lt 9 dJ3_checkIndex_8e157_1 (by decide) ?_ ?_
  · exact rp_fl
  · refine rp_iload_n 0 dJ3_checkIndex_8e157_4 rfl ?_
    refine rp_iload_n 1 dJ3_checkIndex_8e157_5 rfl ?_
    refine rp_icmp_lt 16 dJ3_checkIndex_8e157_6 (by decide) ?_ ?_
    · refine rp_iload_n 0 dJ3_checkIndex_8e157_16 rfl ?_
      exact rp_pu (rp_iret rfl dJ3_checkIndex_8e157_17)
    · exact rp_fl

theorem dJ0_checkIndex_df160_0 : decode cJ0_checkIndex_df160 0 = .ok (.iload_n 0, 1) := by decide +kernel
theorem dJ0_checkIndex_df160_1 : decode cJ0_checkIndex_df160 1 = .ok (.iload_n 1, 1) := by decide +kernel
theorem dJ0_checkIndex_df160_2 : decode cJ0_checkIndex_df160 2 = .ok (.getstatic 1053, 3) := by decide +kernel
theorem dJ0_checkIndex_df160_5 : decode cJ0_checkIndex_df160 5 = .ok (.invokestatic 1059, 3) := by decide +kernel
theorem dJ0_checkIndex_df160_8 : decode cJ0_checkIndex_df160 8 = .ok (.pop, 1) := by decide +kernel
theorem dJ0_checkIndex_df160_9 : decode cJ0_checkIndex_df160 9 = .ok (.return_, 1) := by decide +kernel
noncomputable def FJ0_checkIndex_df160 (p1 : Int32) (p2 : Int32) : PP Unit := bd (FJ3_checkIndex_8e157 p1 p2) (fun x3 => pu ())
set_option maxHeartbeats 4000000 in
set_option maxRecDepth 100000 in
theorem SJ0_checkIndex_df160 {l : Launch} {K : KK} {n : Nat} {hn : 270 ≤ n} (p1 : Int32) (p2 : Int32) : CT l K n 1 mJ0_checkIndex_df160 [.int p1, .int p2] enU (FJ0_checkIndex_df160 p1 p2) := by
  refine CT.of2 (lv2 := [(0, .int p1), (1, .int p2)]) (by decide) rfl hn (Nat.le_of_ble_eq_true rfl) rfl (rp_id ?_)
  unfold FJ0_checkIndex_df160
  refine rp_iload_n 0 dJ0_checkIndex_df160_0 rfl ?_
  refine rp_iload_n 1 dJ0_checkIndex_df160_1 rfl ?_
  refine rp_getFmt (mw (i := 487) (by decide +kernel)) dJ0_checkIndex_df160_2 (fun u1 hu2 => ?_)
  refine rp_callSi [.int p1, .int p2, u1] (SJ3_checkIndex_8e157 (hn := hn) p1 p2 u1 hu2) csJ3_checkIndex_8e157 (mw (i := 489) (by decide +kernel)) (by omega) rfl rfl (Nat.le_of_ble_eq_true rfl) dJ0_checkIndex_df160_5 (fun x3 => ?_)
  refine rp_pop dJ0_checkIndex_df160_8 rfl ?_
  exact rp_pu (rp_vret rfl dJ0_checkIndex_df160_9)

theorem dJ1_charAt_3b067_0 : decode cJ1_charAt_3b067 0 = .ok (.iload_n 1, 1) := by decide +kernel
theorem dJ1_charAt_3b067_1 : decode cJ1_charAt_3b067 1 = .ok (.aload_n 0, 1) := by decide +kernel
theorem dJ1_charAt_3b067_2 : decode cJ1_charAt_3b067 2 = .ok (.arraylength, 1) := by decide +kernel
theorem dJ1_charAt_3b067_3 : decode cJ1_charAt_3b067 3 = .ok (.invokestatic 9, 3) := by decide +kernel
theorem dJ1_charAt_3b067_6 : decode cJ1_charAt_3b067 6 = .ok (.aload_n 0, 1) := by decide +kernel
theorem dJ1_charAt_3b067_7 : decode cJ1_charAt_3b067 7 = .ok (.iload_n 1, 1) := by decide +kernel
theorem dJ1_charAt_3b067_8 : decode cJ1_charAt_3b067 8 = .ok (.baload, 1) := by decide +kernel
theorem dJ1_charAt_3b067_9 : decode cJ1_charAt_3b067 9 = .ok (.sipush 255, 3) := by decide +kernel
theorem dJ1_charAt_3b067_12 : decode cJ1_charAt_3b067 12 = .ok (.iand, 1) := by decide +kernel
theorem dJ1_charAt_3b067_13 : decode cJ1_charAt_3b067 13 = .ok (.i2c, 1) := by decide +kernel
theorem dJ1_charAt_3b067_14 : decode cJ1_charAt_3b067 14 = .ok (.ireturn, 1) := by decide +kernel
noncomputable def FJ1_charAt_3b067 (p1 : Nat) (p2 : Int32) : PP Int32 := bd (FJ0_checkIndex_df160 p2 ((Int32.ofNat (sln.getD p1 0)))) (fun (_ : Unit) => bd (aB p1 p2) (fun x2 => bd (gd (((((x2 &&& (255 : Int32)).toUInt32 % 65536).toInt32).toUInt32 % 65536).toInt32 = (((x2 &&& (255 : Int32)).toUInt32 % 65536).toInt32))) (fun (_ : Unit) => pu (((x2 &&& (255 : Int32)).toUInt32 % 65536).toInt32))))
set_option maxHeartbeats 4000000 in
set_option maxRecDepth 100000 in
theorem SJ1_charAt_3b067 {l : Launch} {K : KK} {n : Nat} {hn : 270 ≤ n} (p1 : Nat) (p2 : Int32) (h_p1 : p1 < 24) : CT l K n 2 mJ1_charAt_3b067 [.ref (K.2.2.2 (200 + p1)), .int p2] enI (FJ1_charAt_3b067 p1 p2) := by
  refine CT.of2 (lv2 := [(0, .ref (K.2.2.2 (200 + p1))), (1, .int p2)]) (by decide) rfl hn (Nat.le_of_ble_eq_true rfl) rfl (rp_id ?_)
  unfold FJ1_charAt_3b067
  refine rp_iload_n 1 dJ1_charAt_3b067_0 rfl ?_
  refine rp_aload_n 0 dJ1_charAt_3b067_1 rfl ?_
  refine rp_lenB h_p1 dJ1_charAt_3b067_2 ?_
  refine rp_callSv [.int p2, .int ((Int32.ofNat (sln.getD p1 0)))] (SJ0_checkIndex_df160 (hn := hn) p2 ((Int32.ofNat (sln.getD p1 0)))) csJ0_checkIndex_df160 (mw (i := 484) (by decide +kernel)) (by omega) rfl rfl (Nat.le_of_ble_eq_true rfl) dJ1_charAt_3b067_3 (fun x1 => ?_)
  refine rp_aload_n 0 dJ1_charAt_3b067_6 rfl ?_
  refine rp_iload_n 1 dJ1_charAt_3b067_7 rfl ?_
  refine rp_aldB h_p1 dJ1_charAt_3b067_8 (fun x2 => ?_)
  refine rp_sipush (255 : Int32) dJ1_charAt_3b067_9 (by decide) ?_
  refine rp_iand dJ1_charAt_3b067_12 ?_
  refine rp_i2c dJ1_charAt_3b067_13 ?_
  exact rp_cret rfl dJ1_charAt_3b067_14

theorem dJ0_charAt_5068e_0 : decode cJ0_charAt_5068e 0 = .ok (.aload_n 0, 1) := by decide +kernel
theorem dJ0_charAt_5068e_1 : decode cJ0_charAt_5068e 1 = .ok (.invokevirtual 492, 3) := by decide +kernel
theorem dJ0_charAt_5068e_4 : decode cJ0_charAt_5068e 4 = .ok (.ifCond .eq 12, 3) := by decide +kernel
theorem dJ0_charAt_5068e_7 : decode cJ0_charAt_5068e 7 = .ok (.aload_n 0, 1) := by decide +kernel
theorem dJ0_charAt_5068e_8 : decode cJ0_charAt_5068e 8 = .ok (.getfield 9, 3) := by decide +kernel
theorem dJ0_charAt_5068e_11 : decode cJ0_charAt_5068e 11 = .ok (.iload_n 1, 1) := by decide +kernel
theorem dJ0_charAt_5068e_12 : decode cJ0_charAt_5068e 12 = .ok (.invokestatic 495, 3) := by decide +kernel
theorem dJ0_charAt_5068e_15 : decode cJ0_charAt_5068e 15 = .ok (.ireturn, 1) := by decide +kernel
theorem dJ0_charAt_5068e_16 : decode cJ0_charAt_5068e 16 = .ok (.aload_n 0, 1) := by decide +kernel
theorem dJ0_charAt_5068e_17 : decode cJ0_charAt_5068e 17 = .ok (.getfield 9, 3) := by decide +kernel
theorem dJ0_charAt_5068e_20 : decode cJ0_charAt_5068e 20 = .ok (.iload_n 1, 1) := by decide +kernel
theorem dJ0_charAt_5068e_21 : decode cJ0_charAt_5068e 21 = .ok (.invokestatic 498, 3) := by decide +kernel
theorem dJ0_charAt_5068e_24 : decode cJ0_charAt_5068e 24 = .ok (.ireturn, 1) := by decide +kernel
noncomputable def FJ0_charAt_5068e (i0 : Nat) (p1 : Int32) : PP Int32 := bd (FJ0_isLatin1_aae02 i0) (fun x1 => if ((b2i x1)) = 0 then fl else bd (FJ1_charAt_3b067 i0 p1) (fun x2 => bd (gd ((x2.toUInt32 % 65536).toInt32 = x2)) (fun (_ : Unit) => pu x2)))
set_option maxHeartbeats 4000000 in
set_option maxRecDepth 100000 in
theorem SJ0_charAt_5068e {l : Launch} {K : KK} {n : Nat} {hn : 270 ≤ n} (i0 : Nat) (p1 : Int32) (h0 : i0 < 24) : CT l K n 4 mJ0_charAt_5068e [.ref (K.2.2.2 (100 + i0)), .int p1] enI (FJ0_charAt_5068e i0 p1) := by
  refine CT.of2 (lv2 := [(0, .ref (K.2.2.2 (100 + i0))), (1, .int p1)]) (by decide) rfl hn (Nat.le_of_ble_eq_true rfl) rfl (rp_id ?_)
  unfold FJ0_charAt_5068e
  refine rp_aload_n 0 dJ0_charAt_5068e_0 rfl ?_
  refine rp_callKz [] (SJ0_isLatin1_aae02 (hn := hn) i0 h0) cvJ0_isLatin1_aae02 (mw (i := 477) (by decide +kernel)) (by omega) (hO_S h0) rfl rfl (Nat.le_of_ble_eq_true rfl) dJ0_charAt_5068e_1 (fun x1 => ?_)
  refine rp_if_eq 16 dJ0_charAt_5068e_4 (by decide) ?_ ?_
  · exact rp_fl
  · refine rp_aload_n 0 dJ0_charAt_5068e_7 rfl ?_
    refine rp_getVal h0 (mw (i := 1852) (by decide +kernel)) dJ0_charAt_5068e_8 ?_
    refine rp_iload_n 1 dJ0_charAt_5068e_11 rfl ?_
    refine rp_callSi [.ref (K.2.2.2 (200 + i0)), .int p1] (SJ1_charAt_3b067 (hn := hn) i0 p1 h0) csJ1_charAt_3b067 (mw (i := 481) (by decide +kernel)) (by omega) rfl rfl (Nat.le_of_ble_eq_true rfl) dJ0_charAt_5068e_12 (fun x2 => ?_)
    exact rp_cret rfl dJ0_charAt_5068e_15

theorem dX10_standsAt_0 : decode cX10_standsAt 0 = .ok (.iload_n 2, 1) := by decide +kernel
theorem dX10_standsAt_1 : decode cX10_standsAt 1 = .ok (.ifCond .lt 22, 3) := by decide +kernel
theorem dX10_standsAt_4 : decode cX10_standsAt 4 = .ok (.iload_n 3, 1) := by decide +kernel
theorem dX10_standsAt_5 : decode cX10_standsAt 5 = .ok (.aload_n 1, 1) := by decide +kernel
theorem dX10_standsAt_6 : decode cX10_standsAt 6 = .ok (.arraylength, 1) := by decide +kernel
theorem dX10_standsAt_7 : decode cX10_standsAt 7 = .ok (.if_icmp .gt 16, 3) := by decide +kernel
theorem dX10_standsAt_10 : decode cX10_standsAt 10 = .ok (.iload_n 3, 1) := by decide +kernel
theorem dX10_standsAt_11 : decode cX10_standsAt 11 = .ok (.iload_n 2, 1) := by decide +kernel
theorem dX10_standsAt_12 : decode cX10_standsAt 12 = .ok (.isub, 1) := by decide +kernel
theorem dX10_standsAt_13 : decode cX10_standsAt 13 = .ok (.aload_n 0, 1) := by decide +kernel
theorem dX10_standsAt_14 : decode cX10_standsAt 14 = .ok (.getfield 94, 3) := by decide +kernel
theorem dX10_standsAt_17 : decode cX10_standsAt 17 = .ok (.invokevirtual 105, 3) := by decide +kernel
theorem dX10_standsAt_20 : decode cX10_standsAt 20 = .ok (.if_icmp .eq 5, 3) := by decide +kernel
theorem dX10_standsAt_23 : decode cX10_standsAt 23 = .ok (.iconst 0, 1) := by decide +kernel
theorem dX10_standsAt_24 : decode cX10_standsAt 24 = .ok (.ireturn, 1) := by decide +kernel
theorem dX10_standsAt_25 : decode cX10_standsAt 25 = .ok (.iconst 0, 1) := by decide +kernel
theorem dX10_standsAt_26 : decode cX10_standsAt 26 = .ok (.istore 4, 2) := by decide +kernel
theorem dX10_standsAt_28 : decode cX10_standsAt 28 = .ok (.iload 4, 2) := by decide +kernel
theorem dX10_standsAt_30 : decode cX10_standsAt 30 = .ok (.aload_n 0, 1) := by decide +kernel
theorem dX10_standsAt_31 : decode cX10_standsAt 31 = .ok (.getfield 94, 3) := by decide +kernel
theorem dX10_standsAt_34 : decode cX10_standsAt 34 = .ok (.invokevirtual 105, 3) := by decide +kernel
theorem dX10_standsAt_37 : decode cX10_standsAt 37 = .ok (.if_icmp .ge 29, 3) := by decide +kernel
theorem dX10_standsAt_40 : decode cX10_standsAt 40 = .ok (.aload_n 1, 1) := by decide +kernel
theorem dX10_standsAt_41 : decode cX10_standsAt 41 = .ok (.iload_n 2, 1) := by decide +kernel
theorem dX10_standsAt_42 : decode cX10_standsAt 42 = .ok (.iload 4, 2) := by decide +kernel
theorem dX10_standsAt_44 : decode cX10_standsAt 44 = .ok (.iadd, 1) := by decide +kernel
theorem dX10_standsAt_45 : decode cX10_standsAt 45 = .ok (.caload, 1) := by decide +kernel
theorem dX10_standsAt_46 : decode cX10_standsAt 46 = .ok (.aload_n 0, 1) := by decide +kernel
theorem dX10_standsAt_47 : decode cX10_standsAt 47 = .ok (.getfield 94, 3) := by decide +kernel
theorem dX10_standsAt_50 : decode cX10_standsAt 50 = .ok (.iload 4, 2) := by decide +kernel
theorem dX10_standsAt_52 : decode cX10_standsAt 52 = .ok (.invokevirtual 111, 3) := by decide +kernel
theorem dX10_standsAt_55 : decode cX10_standsAt 55 = .ok (.if_icmp .eq 5, 3) := by decide +kernel
theorem dX10_standsAt_58 : decode cX10_standsAt 58 = .ok (.iconst 0, 1) := by decide +kernel
theorem dX10_standsAt_59 : decode cX10_standsAt 59 = .ok (.ireturn, 1) := by decide +kernel
theorem dX10_standsAt_60 : decode cX10_standsAt 60 = .ok (.iinc 4 1, 3) := by decide +kernel
theorem dX10_standsAt_63 : decode cX10_standsAt 63 = .ok (.goto (-35), 3) := by decide +kernel
theorem dX10_standsAt_66 : decode cX10_standsAt 66 = .ok (.iconst 1, 1) := by decide +kernel
theorem dX10_standsAt_67 : decode cX10_standsAt 67 = .ok (.ireturn, 1) := by decide +kernel
noncomputable def FX10_standsAt (w0 : Fin 23) (p1 : Nat) (p2 : Int32) (p3 : Int32) : PP Bool := if p2 < 0 then zb (0 : Int32) else if (1000 : Int32) < p3 then zb (0 : Int32) else bd (FJ0_length_8abf5 w0.val) (fun x1 => if (p3 - p2) = x1 then bd (it (fun (s2 : Int32) => (bd (FJ0_length_8abf5 w0.val) (fun x3 => if x3 ≤ s2 then pu (Sum.inr (Sum.inl ())) else bd (aI p1 1000 (p2 + s2)) (fun x4 => bd (FJ0_charAt_5068e w0.val s2) (fun x5 => if x4 = x5 then lt (s2 + (1 : Int32)) (fun y6 => pu (Sum.inl y6)) else pu (Sum.inr (Sum.inr (())))))) : PP ((Int32) ⊕ ((Unit) ⊕ (Unit))))) FU (0 : Int32)) (Sum.elim (fun (v7 : Unit) => zb (1 : Int32)) (fun (v8 : Unit) => zb (0 : Int32))) else zb (0 : Int32))
set_option maxHeartbeats 4000000 in
set_option maxRecDepth 100000 in
theorem SX10_standsAt {l : Launch} {K : KK} {n : Nat} {hn : 270 ≤ n} (w0 : Fin 23) (p1 : Nat) (p2 : Int32) (p3 : Int32) (h_p1 : ar p1 2 1000) : CT l K n 5 mX10_standsAt [wr K ((some w0)), .ref (K.2.1 + p1), .int p2, .int p3] enZ (FX10_standsAt w0 p1 p2 p3) := by
  refine CT.of2 (lv2 := [(0, wr K ((some w0))), (1, .ref (K.2.1 + p1)), (2, .int p2), (3, .int p3)]) (by decide) rfl hn (Nat.le_of_ble_eq_true rfl) rfl (rp_id ?_)
  unfold FX10_standsAt
  refine rp_iload_n 2 dX10_standsAt_0 rfl ?_
  refine rp_if_lt 23 dX10_standsAt_1 (by decide) ?_ ?_
  · refine rp_iconst (0 : Int32) dX10_standsAt_23 (by decide) ?_
    exact rp_zretb rfl dX10_standsAt_24
  · refine rp_iload_n 3 dX10_standsAt_4 rfl ?_
    refine rp_aload_n 1 dX10_standsAt_5 rfl ?_
    refine rp_alen (v := (1000 : Int32)) h_p1 rfl rfl dX10_standsAt_6 ?_
    refine rp_icmp_gt 23 dX10_standsAt_7 (by decide) ?_ ?_
    · refine rp_iconst (0 : Int32) dX10_standsAt_23 (by decide) ?_
      exact rp_zretb rfl dX10_standsAt_24
    · refine rp_iload_n 3 dX10_standsAt_10 rfl ?_
      refine rp_iload_n 2 dX10_standsAt_11 rfl ?_
      refine rp_isub dX10_standsAt_12 ?_
      refine rp_wload_n 0 dX10_standsAt_13 rfl ?_
      refine rp_getText (mw (i := 1851) (by decide +kernel)) dX10_standsAt_14 ?_
      refine rp_callKi [] (SJ0_length_8abf5 (hn := hn) w0.val (Nat.lt_succ_of_lt w0.isLt)) cvJ0_length_8abf5 (mw (i := 463) (by decide +kernel)) (by omega) (hO_S (Nat.lt_succ_of_lt w0.isLt)) rfl rfl (Nat.le_of_ble_eq_true rfl) dX10_standsAt_17 (fun x1 => ?_)
      refine rp_icmp_eq 25 dX10_standsAt_20 (by decide) ?_ ?_
      · refine rp_iconst (0 : Int32) dX10_standsAt_25 (by decide) ?_
        refine rp_istore [(4, .int (0 : Int32)), (0, wr K ((some w0))), (1, .ref (K.2.1 + p1)), (2, .int p2), (3, .int p3)] dX10_standsAt_26 (by decide) rfl ?_
        refine rp_as ?_
        refine rp_join2 66 (fun v7 => []) (fun _ => []) 58 (fun v8 => []) (fun _ => []) (fun v7 => ?_) (fun v8 => ?_) (fun hX28_0 hX28_1 => ?_)
        · refine rp_iconst (1 : Int32) dX10_standsAt_66 (by decide) ?_
          exact rp_zretb rfl dX10_standsAt_67
        · refine rp_iconst (0 : Int32) dX10_standsAt_58 (by decide) ?_
          exact rp_zretb rfl dX10_standsAt_59
        refine rp_sub [1, 2, 3, 0] rfl (rp_it (fun (s2 : Int32) => [(0, wr K ((some w0))), (1, .ref (K.2.1 + p1)), (2, .int p2), (4, .int s2)]) (fun N28 ih28 s2 => ?_) FU (0 : Int32))
        refine rp_iload 3 dX10_standsAt_28 rfl ?_
        refine rp_wload_n 0 dX10_standsAt_30 rfl ?_
        refine rp_getText (mw (i := 1851) (by decide +kernel)) dX10_standsAt_31 ?_
        refine rp_callKi [] (SJ0_length_8abf5 (hn := hn) w0.val (Nat.lt_succ_of_lt w0.isLt)) cvJ0_length_8abf5 (mw (i := 463) (by decide +kernel)) (by omega) (hO_S (Nat.lt_succ_of_lt w0.isLt)) rfl rfl (Nat.le_of_ble_eq_true rfl) dX10_standsAt_34 (fun x3 => ?_)
        refine rp_icmp_ge 66 dX10_standsAt_37 (by decide) ?_ ?_
        · exact rp_sub [] rfl (rp_puRL (hX28_0 ()))
        · refine rp_aload_n 1 dX10_standsAt_40 rfl ?_
          refine rp_iload_n 2 dX10_standsAt_41 rfl ?_
          refine rp_iload 3 dX10_standsAt_42 rfl ?_
          refine rp_iadd dX10_standsAt_44 ?_
          refine rp_cald h_p1 dX10_standsAt_45 (fun x4 => ?_)
          refine rp_wload_n 0 dX10_standsAt_46 rfl ?_
          refine rp_getText (mw (i := 1851) (by decide +kernel)) dX10_standsAt_47 ?_
          refine rp_iload 3 dX10_standsAt_50 rfl ?_
          refine rp_callKi [.int s2] (SJ0_charAt_5068e (hn := hn) w0.val s2 (Nat.lt_succ_of_lt w0.isLt)) cvJ0_charAt_5068e (mw (i := 473) (by decide +kernel)) (by omega) (hO_S (Nat.lt_succ_of_lt w0.isLt)) rfl rfl (Nat.le_of_ble_eq_true rfl) dX10_standsAt_52 (fun x5 => ?_)
          refine rp_icmp_eq 60 dX10_standsAt_55 (by decide) ?_ ?_
          · refine rp_iinc (fun y6 => [(4, .int y6), (0, wr K ((some w0))), (1, .ref (K.2.1 + p1)), (2, .int p2)]) 3 dX10_standsAt_60 rfl (by rfl) (by decide) (fun y6 => rfl) (fun y6 => ?_)
            refine rp_goto 28 dX10_standsAt_63 (by decide) ?_
            exact rp_sub [1, 2, 3, 0] rfl (ih28 y6)
          · exact rp_sub [] rfl (rp_puRR (hX28_1 ()))
      · refine rp_iconst (0 : Int32) dX10_standsAt_23 (by decide) ?_
        exact rp_zretb rfl dX10_standsAt_24

theorem dX5_readWord_0 : decode cX5_readWord 0 = .ok (.aload_n 0, 1) := by decide +kernel
theorem dX5_readWord_1 : decode cX5_readWord 1 = .ok (.getfield 22, 3) := by decide +kernel
theorem dX5_readWord_4 : decode cX5_readWord 4 = .ok (.aload_n 0, 1) := by decide +kernel
theorem dX5_readWord_5 : decode cX5_readWord 5 = .ok (.getfield 15, 3) := by decide +kernel
theorem dX5_readWord_8 : decode cX5_readWord 8 = .ok (.if_icmp .ge 59, 3) := by decide +kernel
theorem dX5_readWord_11 : decode cX5_readWord 11 = .ok (.aload_n 0, 1) := by decide +kernel
theorem dX5_readWord_12 : decode cX5_readWord 12 = .ok (.getfield 9, 3) := by decide +kernel
theorem dX5_readWord_15 : decode cX5_readWord 15 = .ok (.aload_n 0, 1) := by decide +kernel
theorem dX5_readWord_16 : decode cX5_readWord 16 = .ok (.getfield 22, 3) := by decide +kernel
theorem dX5_readWord_19 : decode cX5_readWord 19 = .ok (.caload, 1) := by decide +kernel
theorem dX5_readWord_20 : decode cX5_readWord 20 = .ok (.invokestatic 49, 3) := by decide +kernel
theorem dX5_readWord_23 : decode cX5_readWord 23 = .ok (.ifCond .eq 44, 3) := by decide +kernel
theorem dX5_readWord_26 : decode cX5_readWord 26 = .ok (.aload_n 0, 1) := by decide +kernel
theorem dX5_readWord_27 : decode cX5_readWord 27 = .ok (.aload_n 0, 1) := by decide +kernel
theorem dX5_readWord_28 : decode cX5_readWord 28 = .ok (.getfield 32, 3) := by decide +kernel
theorem dX5_readWord_31 : decode cX5_readWord 31 = .ok (.ldc2_w 69, 3) := by decide +kernel
theorem dX5_readWord_34 : decode cX5_readWord 34 = .ok (.lmul, 1) := by decide +kernel
theorem dX5_readWord_35 : decode cX5_readWord 35 = .ok (.aload_n 0, 1) := by decide +kernel
theorem dX5_readWord_36 : decode cX5_readWord 36 = .ok (.getfield 9, 3) := by decide +kernel
theorem dX5_readWord_39 : decode cX5_readWord 39 = .ok (.aload_n 0, 1) := by decide +kernel
theorem dX5_readWord_40 : decode cX5_readWord 40 = .ok (.getfield 22, 3) := by decide +kernel
theorem dX5_readWord_43 : decode cX5_readWord 43 = .ok (.caload, 1) := by decide +kernel
theorem dX5_readWord_44 : decode cX5_readWord 44 = .ok (.bipush 97, 2) := by decide +kernel
theorem dX5_readWord_46 : decode cX5_readWord 46 = .ok (.isub, 1) := by decide +kernel
theorem dX5_readWord_47 : decode cX5_readWord 47 = .ok (.iconst 1, 1) := by decide +kernel
theorem dX5_readWord_48 : decode cX5_readWord 48 = .ok (.iadd, 1) := by decide +kernel
theorem dX5_readWord_49 : decode cX5_readWord 49 = .ok (.i2l, 1) := by decide +kernel
theorem dX5_readWord_50 : decode cX5_readWord 50 = .ok (.ladd, 1) := by decide +kernel
theorem dX5_readWord_51 : decode cX5_readWord 51 = .ok (.putfield 32, 3) := by decide +kernel
theorem dX5_readWord_54 : decode cX5_readWord 54 = .ok (.aload_n 0, 1) := by decide +kernel
theorem dX5_readWord_55 : decode cX5_readWord 55 = .ok (.dup, 1) := by decide +kernel
theorem dX5_readWord_56 : decode cX5_readWord 56 = .ok (.getfield 22, 3) := by decide +kernel
theorem dX5_readWord_59 : decode cX5_readWord 59 = .ok (.iconst 1, 1) := by decide +kernel
theorem dX5_readWord_60 : decode cX5_readWord 60 = .ok (.iadd, 1) := by decide +kernel
theorem dX5_readWord_61 : decode cX5_readWord 61 = .ok (.putfield 22, 3) := by decide +kernel
theorem dX5_readWord_64 : decode cX5_readWord 64 = .ok (.goto (-64), 3) := by decide +kernel
theorem dX5_readWord_67 : decode cX5_readWord 67 = .ok (.aload_n 0, 1) := by decide +kernel
theorem dX5_readWord_68 : decode cX5_readWord 68 = .ok (.getfield 22, 3) := by decide +kernel
theorem dX5_readWord_71 : decode cX5_readWord 71 = .ok (.aload_n 0, 1) := by decide +kernel
theorem dX5_readWord_72 : decode cX5_readWord 72 = .ok (.getfield 43, 3) := by decide +kernel
theorem dX5_readWord_75 : decode cX5_readWord 75 = .ok (.isub, 1) := by decide +kernel
theorem dX5_readWord_76 : decode cX5_readWord 76 = .ok (.bipush 8, 2) := by decide +kernel
theorem dX5_readWord_78 : decode cX5_readWord 78 = .ok (.if_icmp .le 9, 3) := by decide +kernel
theorem dX5_readWord_81 : decode cX5_readWord 81 = .ok (.aload_n 0, 1) := by decide +kernel
theorem dX5_readWord_82 : decode cX5_readWord 82 = .ok (.iconst 1, 1) := by decide +kernel
theorem dX5_readWord_83 : decode cX5_readWord 83 = .ok (.putfield 46, 3) := by decide +kernel
theorem dX5_readWord_86 : decode cX5_readWord 86 = .ok (.return_, 1) := by decide +kernel
theorem dX5_readWord_87 : decode cX5_readWord 87 = .ok (.aload_n 0, 1) := by decide +kernel
theorem dX5_readWord_88 : decode cX5_readWord 88 = .ok (.iconst 2, 1) := by decide +kernel
theorem dX5_readWord_89 : decode cX5_readWord 89 = .ok (.putfield 46, 3) := by decide +kernel
theorem dX5_readWord_92 : decode cX5_readWord 92 = .ok (.iconst 0, 1) := by decide +kernel
theorem dX5_readWord_93 : decode cX5_readWord 93 = .ok (.istore_n 1, 1) := by decide +kernel
theorem dX5_readWord_94 : decode cX5_readWord 94 = .ok (.aload_n 0, 1) := by decide +kernel
theorem dX5_readWord_95 : decode cX5_readWord 95 = .ok (.getfield 28, 3) := by decide +kernel
theorem dX5_readWord_98 : decode cX5_readWord 98 = .ok (.ifnonnull 53, 3) := by decide +kernel
theorem dX5_readWord_101 : decode cX5_readWord 101 = .ok (.iload_n 1, 1) := by decide +kernel
theorem dX5_readWord_102 : decode cX5_readWord 102 = .ok (.getstatic 71, 3) := by decide +kernel
theorem dX5_readWord_105 : decode cX5_readWord 105 = .ok (.arraylength, 1) := by decide +kernel
theorem dX5_readWord_106 : decode cX5_readWord 106 = .ok (.if_icmp .ge 45, 3) := by decide +kernel
theorem dX5_readWord_109 : decode cX5_readWord 109 = .ok (.aload_n 0, 1) := by decide +kernel
theorem dX5_readWord_110 : decode cX5_readWord 110 = .ok (.getstatic 71, 3) := by decide +kernel
theorem dX5_readWord_113 : decode cX5_readWord 113 = .ok (.iload_n 1, 1) := by decide +kernel
theorem dX5_readWord_114 : decode cX5_readWord 114 = .ok (.aaload, 1) := by decide +kernel
theorem dX5_readWord_115 : decode cX5_readWord 115 = .ok (.aload_n 0, 1) := by decide +kernel
theorem dX5_readWord_116 : decode cX5_readWord 116 = .ok (.getfield 9, 3) := by decide +kernel
theorem dX5_readWord_119 : decode cX5_readWord 119 = .ok (.aload_n 0, 1) := by decide +kernel
theorem dX5_readWord_120 : decode cX5_readWord 120 = .ok (.getfield 43, 3) := by decide +kernel
theorem dX5_readWord_123 : decode cX5_readWord 123 = .ok (.aload_n 0, 1) := by decide +kernel
theorem dX5_readWord_124 : decode cX5_readWord 124 = .ok (.getfield 22, 3) := by decide +kernel
theorem dX5_readWord_127 : decode cX5_readWord 127 = .ok (.invokevirtual 77, 3) := by decide +kernel
theorem dX5_readWord_130 : decode cX5_readWord 130 = .ok (.ifCond .eq 11, 3) := by decide +kernel
theorem dX5_readWord_133 : decode cX5_readWord 133 = .ok (.getstatic 71, 3) := by decide +kernel
theorem dX5_readWord_136 : decode cX5_readWord 136 = .ok (.iload_n 1, 1) := by decide +kernel
theorem dX5_readWord_137 : decode cX5_readWord 137 = .ok (.aaload, 1) := by decide +kernel
theorem dX5_readWord_138 : decode cX5_readWord 138 = .ok (.goto 4, 3) := by decide +kernel
theorem dX5_readWord_141 : decode cX5_readWord 141 = .ok (.aconst_null, 1) := by decide +kernel
theorem dX5_readWord_142 : decode cX5_readWord 142 = .ok (.putfield 28, 3) := by decide +kernel
theorem dX5_readWord_145 : decode cX5_readWord 145 = .ok (.iinc 1 1, 3) := by decide +kernel
theorem dX5_readWord_148 : decode cX5_readWord 148 = .ok (.goto (-54), 3) := by decide +kernel
theorem dX5_readWord_151 : decode cX5_readWord 151 = .ok (.return_, 1) := by decide +kernel
noncomputable def FX5_readWord (a0 : Nat) : PP Unit := bd (it (fun (s1 : Unit) => (bd (gI a0 8) (fun x2 => bd (gI a0 1) (fun x3 => if x3 ≤ x2 then pu (Sum.inr ()) else bd (gI a0 8) (fun x4 => bd (aI (rf a0 0) 1000 x4) (fun x5 => bd (FX5_isLetter x5) (fun x6 => if ((b2i x6)) = 0 then pu (Sum.inr ()) else bd (gL a0 4) (fun x7 => bd (gI a0 8) (fun x8 => bd (aI (rf a0 0) 1000 x8) (fun x9 => bd (sL a0 4 ((x7 * (32 : Int64)) + (((x9 - (97 : Int32)) + (1 : Int32)).toInt64))) (fun (_ : Unit) => bd (gI a0 8) (fun x10 => bd (sI a0 8 (x10 + (1 : Int32))) (fun (_ : Unit) => pu (Sum.inl ())))))))))))) : PP ((Unit) ⊕ (Unit)))) FU ()) (fun (v11 : Unit) => bd (gI a0 8) (fun x12 => bd (gI a0 7) (fun x13 => if (x12 - x13) ≤ (8 : Int32) then bd (sI a0 2 (2 : Int32)) (fun (_ : Unit) => bd (it (fun (s14 : Int32) => (bd (gW) (fun x15 => if x15 = none then if (23 : Int32) ≤ s14 then pu (Sum.inr ()) else bd (aW s14) (fun x16 => bd (gI a0 7) (fun x17 => bd (gI a0 8) (fun x18 => bd (FX10_standsAt x16 (rf a0 0) x17 x18) (fun x19 => bd (if ((b2i x19)) = 0 then pu none else bd (aW s14) (fun x20 => pu ((some x20))) : PP (Option (Fin 23))) (fun (v21 : Option (Fin 23)) => bd (sW v21) (fun (_ : Unit) => lt (s14 + (1 : Int32)) (fun y22 => pu (Sum.inl y22)))))))) else pu (Sum.inr ())) : PP ((Int32) ⊕ (Unit)))) FU (0 : Int32)) (fun (v23 : Unit) => pu ())) else bd (sI a0 2 (1 : Int32)) (fun (_ : Unit) => pu ()))))
set_option maxHeartbeats 4000000 in
set_option maxRecDepth 100000 in
theorem SX5_readWord {l : Launch} {K : KK} {n : Nat} {hn : 270 ≤ n} (a0 : Nat) (h0 : ob a0 5) : CT l K n 6 mX5_readWord [.ref (K.2.1 + a0)] enU (FX5_readWord a0) := by
  refine CT.of2 (lv2 := [(0, .ref (K.2.1 + a0))]) (by decide) rfl hn (Nat.le_of_ble_eq_true rfl) rfl (rp_id ?_)
  unfold FX5_readWord
  refine rp_as ?_
  refine rp_join 67 (fun v11 => [(0, .ref (K.2.1 + a0))]) (fun _ => []) (fun v11 => ?_) (fun hX0_0 => ?_)
  · refine rp_aload_n 0 dX5_readWord_67 rfl ?_
    refine rp_getI fi_X5_22 h0 rfl dX5_readWord_68 (fun x12 => ?_)
    refine rp_aload_n 0 dX5_readWord_71 rfl ?_
    refine rp_getI fi_X5_43 h0 rfl dX5_readWord_72 (fun x13 => ?_)
    refine rp_isub dX5_readWord_75 ?_
    refine rp_bipush (8 : Int32) dX5_readWord_76 (by decide) ?_
    refine rp_icmp_le 87 dX5_readWord_78 (by decide) ?_ ?_
    · refine rp_aload_n 0 dX5_readWord_87 rfl ?_
      refine rp_iconst (2 : Int32) dX5_readWord_88 (by decide) ?_
      refine rp_putI fi_X5_46 fp_X5_2 h0 rfl dX5_readWord_89 ?_
      refine rp_iconst (0 : Int32) dX5_readWord_92 (by decide) ?_
      refine rp_istore_n [(1, .int (0 : Int32)), (0, .ref (K.2.1 + a0))] dX5_readWord_93 (by decide) rfl ?_
      refine rp_as ?_
      refine rp_join 151 (fun v23 => []) (fun _ => []) (fun v23 => ?_) (fun hX94_0 => ?_)
      · exact rp_pu (rp_vret rfl dX5_readWord_151)
      refine rp_sub [1, 0] rfl (rp_it (fun (s14 : Int32) => [(0, .ref (K.2.1 + a0)), (1, .int s14)]) (fun N94 ih94 s14 => ?_) FU (0 : Int32))
      refine rp_aload_n 0 dX5_readWord_94 rfl ?_
      refine rp_getW fi_X5_28 h0 rfl dX5_readWord_95 (fun x15 => ?_)
      refine rp_ifnonnull 151 dX5_readWord_98 (by decide) ?_ ?_
      · exact rp_sub [] rfl (rp_puR (hX94_0 ()))
      · refine rp_iload_n 1 dX5_readWord_101 rfl ?_
        refine rp_getAll (by decide) dX5_readWord_102 ?_
        refine rp_lenAll dX5_readWord_105 ?_
        refine rp_icmp_ge 151 dX5_readWord_106 (by decide) ?_ ?_
        · exact rp_sub [] rfl (rp_puR (hX94_0 ()))
        · refine rp_aload_n 0 dX5_readWord_109 rfl ?_
          refine rp_getAll (by decide) dX5_readWord_110 ?_
          refine rp_iload_n 1 dX5_readWord_113 rfl ?_
          refine rp_aldAll dX5_readWord_114 (fun x16 => ?_)
          refine rp_aload_n 0 dX5_readWord_115 rfl ?_
          refine rp_getR fi_X5_9 h0 rfl dX5_readWord_116 ?_
          refine rp_aload_n 0 dX5_readWord_119 rfl ?_
          refine rp_getI fi_X5_43 h0 rfl dX5_readWord_120 (fun x17 => ?_)
          refine rp_aload_n 0 dX5_readWord_123 rfl ?_
          refine rp_getI fi_X5_22 h0 rfl dX5_readWord_124 (fun x18 => ?_)
          refine rp_callKz [.ref (K.2.1 + (rf a0 0)), .int x17, .int x18] (SX10_standsAt (hn := hn) x16 (rf a0 0) x17 x18 (tX5_0 h0)) cvX10_standsAt (mw (i := 459) (by decide +kernel)) (by omega) (hO_W x16) rfl rfl (Nat.le_of_ble_eq_true rfl) dX5_readWord_127 (fun x19 => ?_)
          refine rp_as ?_
          refine rp_join 142 (fun (v21 : Option (Fin 23)) => [(0, .ref (K.2.1 + a0)), (1, .int s14)]) (fun v21 => [wr K v21, .ref (K.2.1 + a0)]) (fun v21 => ?_) (fun hJ142 => ?_)
          · refine rp_putW fi_X5_28 fp_X5_3 h0 rfl dX5_readWord_142 ?_
            refine rp_iinc (fun y22 => [(1, .int y22), (0, .ref (K.2.1 + a0))]) 1 dX5_readWord_145 rfl (by rfl) (by decide) (fun y22 => rfl) (fun y22 => ?_)
            refine rp_goto 94 dX5_readWord_148 (by decide) ?_
            exact rp_sub [1, 0] rfl (ih94 y22)
          refine rp_if_eq 141 dX5_readWord_130 (by decide) ?_ ?_
          · refine rp_null dX5_readWord_141 ?_
            exact rp_sub [0, 1] rfl (rp_pu (hJ142 none))
          · refine rp_getAll (by decide) dX5_readWord_133 ?_
            refine rp_iload_n 1 dX5_readWord_136 rfl ?_
            refine rp_aldAll dX5_readWord_137 (fun x20 => ?_)
            refine rp_goto 142 dX5_readWord_138 (by decide) ?_
            exact rp_sub [0, 1] rfl (rp_pu (hJ142 ((some x20))))
    · refine rp_aload_n 0 dX5_readWord_81 rfl ?_
      refine rp_iconst (1 : Int32) dX5_readWord_82 (by decide) ?_
      refine rp_putI fi_X5_46 fp_X5_2 h0 rfl dX5_readWord_83 ?_
      exact rp_pu (rp_vret rfl dX5_readWord_86)
  refine rp_sub [0] rfl (rp_it (fun (s1 : Unit) => [(0, .ref (K.2.1 + a0))]) (fun N0 ih0 s1 => ?_) FU ())
  refine rp_aload_n 0 dX5_readWord_0 rfl ?_
  refine rp_getI fi_X5_22 h0 rfl dX5_readWord_1 (fun x2 => ?_)
  refine rp_aload_n 0 dX5_readWord_4 rfl ?_
  refine rp_getI fi_X5_15 h0 rfl dX5_readWord_5 (fun x3 => ?_)
  refine rp_icmp_ge 67 dX5_readWord_8 (by decide) ?_ ?_
  · exact rp_sub [0] rfl (rp_puR (hX0_0 ()))
  · refine rp_aload_n 0 dX5_readWord_11 rfl ?_
    refine rp_getR fi_X5_9 h0 rfl dX5_readWord_12 ?_
    refine rp_aload_n 0 dX5_readWord_15 rfl ?_
    refine rp_getI fi_X5_22 h0 rfl dX5_readWord_16 (fun x4 => ?_)
    refine rp_cald (tX5_0 h0) dX5_readWord_19 (fun x5 => ?_)
    refine rp_callSz [.int x5] (SX5_isLetter (hn := hn) x5) csX5_isLetter (mw (i := 449) (by decide +kernel)) (by omega) rfl rfl (Nat.le_of_ble_eq_true rfl) dX5_readWord_20 (fun x6 => ?_)
    refine rp_if_eq 67 dX5_readWord_23 (by decide) ?_ ?_
    · exact rp_sub [0] rfl (rp_puR (hX0_0 ()))
    · refine rp_aload_n 0 dX5_readWord_26 rfl ?_
      refine rp_aload_n 0 dX5_readWord_27 rfl ?_
      refine rp_getL fi_X5_32 h0 rfl dX5_readWord_28 (fun x7 => ?_)
      refine rp_ldc2 (v := 32) (mw (i := 456) (by decide +kernel)) dX5_readWord_31 ?_
      refine rp_lmul dX5_readWord_34 ?_
      refine rp_aload_n 0 dX5_readWord_35 rfl ?_
      refine rp_getR fi_X5_9 h0 rfl dX5_readWord_36 ?_
      refine rp_aload_n 0 dX5_readWord_39 rfl ?_
      refine rp_getI fi_X5_22 h0 rfl dX5_readWord_40 (fun x8 => ?_)
      refine rp_cald (tX5_0 h0) dX5_readWord_43 (fun x9 => ?_)
      refine rp_bipush (97 : Int32) dX5_readWord_44 (by decide) ?_
      refine rp_isub dX5_readWord_46 ?_
      refine rp_iconst (1 : Int32) dX5_readWord_47 (by decide) ?_
      refine rp_iadd dX5_readWord_48 ?_
      refine rp_i2l dX5_readWord_49 ?_
      refine rp_ladd dX5_readWord_50 ?_
      refine rp_putL fi_X5_32 fp_X5_4 h0 rfl dX5_readWord_51 ?_
      refine rp_aload_n 0 dX5_readWord_54 rfl ?_
      refine rp_dup dX5_readWord_55 rfl ?_
      refine rp_getI fi_X5_22 h0 rfl dX5_readWord_56 (fun x10 => ?_)
      refine rp_iconst (1 : Int32) dX5_readWord_59 (by decide) ?_
      refine rp_iadd dX5_readWord_60 ?_
      refine rp_putI fi_X5_22 fp_X5_8 h0 rfl dX5_readWord_61 ?_
      refine rp_goto 0 dX5_readWord_64 (by decide) ?_
      exact rp_sub [0] rfl (ih0 ())
